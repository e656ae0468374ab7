/-! java/util/Arrays.fill([II)V -/
theorem md_A_fill_0 : decode prog_16_method_103_code 0 = .ok (.iconst 0, 1) := by decide +kernel
theorem md_A_fill_1 : decode prog_16_method_103_code 1 = .ok (.istore_n 2, 1) := by decide +kernel
theorem md_A_fill_2 : decode prog_16_method_103_code 2 = .ok (.aload_n 0, 1) := by decide +kernel
theorem md_A_fill_3 : decode prog_16_method_103_code 3 = .ok (.arraylength, 1) := by decide +kernel
theorem md_A_fill_4 : decode prog_16_method_103_code 4 = .ok (.istore_n 3, 1) := by decide +kernel
theorem md_A_fill_5 : decode prog_16_method_103_code 5 = .ok (.iload_n 2, 1) := by decide +kernel
theorem md_A_fill_6 : decode prog_16_method_103_code 6 = .ok (.iload_n 3, 1) := by decide +kernel
theorem md_A_fill_7 : decode prog_16_method_103_code 7 = .ok (.if_icmp .ge 13, 3) := by decide +kernel
theorem md_A_fill_20 : decode prog_16_method_103_code 20 = .ok (.return_, 1) := by decide +kernel
theorem md_A_fill_10 : decode prog_16_method_103_code 10 = .ok (.aload_n 0, 1) := by decide +kernel
theorem md_A_fill_11 : decode prog_16_method_103_code 11 = .ok (.iload_n 2, 1) := by decide +kernel
theorem md_A_fill_12 : decode prog_16_method_103_code 12 = .ok (.iload_n 1, 1) := by decide +kernel
theorem md_A_fill_13 : decode prog_16_method_103_code 13 = .ok (.iastore, 1) := by decide +kernel
theorem md_A_fill_14 : decode prog_16_method_103_code 14 = .ok (.iinc 2 1, 3) := by decide +kernel
theorem md_A_fill_17 : decode prog_16_method_103_code 17 = .ok (.goto (-12), 3) := by decide +kernel
def mb_A_fill_5 (rc : Nat → Int → Int → Int → pw_Sto → Option (Unit × pw_Sto)) : Nat → Int → Int → Int → pw_Sto → Option (Unit × pw_Sto) := fun x0 x1 x2 x3 σ => pw_ck x2 x3 (if x3 ≤ x2 then some ((), σ) else (pw_si x0 x2 x1 σ).bind (fun s2 => rc x0 x1 (x2 + 1) x3 s2))
def ml_A_fill_5 : Nat → Nat → Int → Int → Int → pw_Sto → Option (Unit × pw_Sto) := pw_lp (fun _ _ _ _ _ => none) (mb_A_fill_5)
def mf_A_fill (x0 : Nat) (x1 : Int) (σ : pw_Sto) : Option (Unit × pw_Sto) := (pw_al x0 σ).bind (fun v1 => ml_A_fill_5 1000 x0 x1 (0 : Int) v1 σ)
set_option maxHeartbeats 4000000 in
set_option maxRecDepth 20000 in
theorem sl_A_fill_5 {X : pw_X Unit} (hX : pw_Ok X prog_16_method_103_code "java/util/Arrays" mr_A_fill 4) (hR : pw_RV X prog_16_method_103_code) : ∀ (n : Nat) (x0 : Nat) (x1 : Int) (x2 : Int) (x3 : Int) (σ : pw_Sto), pw_Sp X 0 0 5 [(0, Value.ref x0), (1, Value.int (iI x1)), (2, Value.int (iI x2)), (3, Value.int (iI x3))] [] σ (ml_A_fill_5 n x0 x1 x2 x3 σ) := by
  intro n
  induction n with
  | zero => intros; exact pw_none
  | succ n ih =>
    intro x0 x1 x2 x3 σ
    show pw_Sp X 0 0 5 _ _ σ (mb_A_fill_5 (ml_A_fill_5 n) x0 x1 x2 x3 σ)
    unfold mb_A_fill_5
    refine sp_iload_n (pc := 5) (k := 2) (i := 2) hX rfl 2 rfl md_A_fill_5 ?_
    refine sp_iload_n (pc := 6) (k := 3) (i := 3) hX rfl 3 rfl md_A_fill_6 ?_
    refine sp_icmp_ge (pc := 7) hX 20 (by decide) md_A_fill_7 (fun _ => ?_) (fun _ => ?_)
    · exact sp_vret (pc := 20) hX hR rfl (Nat.le_of_ble_eq_true rfl) md_A_fill_20
    · refine sp_aload_n (pc := 10) (k := 0) (i := 0) hX rfl 0 rfl md_A_fill_10 ?_
      refine sp_iload_n (pc := 11) (k := 2) (i := 2) hX rfl 2 rfl md_A_fill_11 ?_
      refine sp_iload_n (pc := 12) (k := 1) (i := 1) hX rfl 1 rfl md_A_fill_12 ?_
      refine sp_iastore (pc := 13) hX md_A_fill_13 (fun s2 => ?_)
      refine sp_iinc (pc := 14) (i := 2) (L' := [(2, Value.int (iI (x2 + 1))), (0, Value.ref x0), (1, Value.int (iI x1)), (3, Value.int (iI x3))]) hX 2 rfl (by decide) rfl md_A_fill_14 ?_
      refine sp_goto (pc := 17) hX 5 (by decide) md_A_fill_17 ?_
      refine sp_sub [1, 2, 0, 3] (L' := [(0, Value.ref x0), (1, Value.int (iI x1)), (2, Value.int (iI (x2 + 1))), (3, Value.int (iI x3))]) rfl ?_
      exact ih x0 x1 (x2 + 1) x3 s2
set_option maxHeartbeats 4000000 in
set_option maxRecDepth 20000 in
theorem mc_A_fill {l : Launch} {E : pw_E} {σ : pw_Sto} {x0 : Nat} {x1 : Int} {out : Unit × pw_Sto} (h : mf_A_fill x0 x1 σ = some out) : pw_CV l E my_A_fill prog_16_method_103_code 4 none mr_A_fill [.ref x0, .int (iI x1)] σ out := by
  unfold mf_A_fill at h
  refine pw_entryV (by decide) (Nat.le_of_ble_eq_true rfl) h (fun X hX hR hI => ?_)
  change pw_Ok X prog_16_method_103_code "java/util/Arrays" mr_A_fill 4 at hX
  show pw_Sp X 0 0 0 [(0, Value.ref x0), (1, Value.int (iI x1))] [] σ _
  refine sp_iconst (pc := 0) hX md_A_fill_0 ?_
  refine sp_istore_n (pc := 1) (k := 2) (i := 2) (L' := [(2, Value.int (iI (0 : Int))), (0, Value.ref x0), (1, Value.int (iI x1))]) hX rfl (by decide) rfl md_A_fill_1 ?_
  refine sp_aload_n (pc := 2) (k := 0) (i := 0) hX rfl 1 rfl md_A_fill_2 ?_
  refine sp_alen (pc := 3) hX md_A_fill_3 (fun v1 => ?_)
  refine sp_istore_n (pc := 4) (k := 3) (i := 3) (L' := [(3, Value.int (iI v1)), (2, Value.int (iI (0 : Int))), (0, Value.ref x0), (1, Value.int (iI x1))]) hX rfl (by decide) rfl md_A_fill_4 ?_
  refine sp_sub [2, 3, 1, 0] (L' := [(0, Value.ref x0), (1, Value.int (iI x1)), (2, Value.int (iI (0 : Int))), (3, Value.int (iI v1))]) rfl ?_
  exact sl_A_fill_5 hX hR 1000 x0 x1 (0 : Int) v1 σ
/-! PadeWorkbench$Field.reduce(II)I -/
theorem md_K_reduce_0 : decode prog_3_method_2_code 0 = .ok (.iload_n 1, 1) := by decide +kernel
theorem md_K_reduce_1 : decode prog_3_method_2_code 1 = .ok (.ifCond .le 9, 3) := by decide +kernel
theorem md_K_reduce_10 : decode prog_3_method_2_code 10 = .ok (.iconst 0, 1) := by decide +kernel
theorem md_K_reduce_11 : decode prog_3_method_2_code 11 = .ok (.ireturn, 1) := by decide +kernel
theorem md_K_reduce_4 : decode prog_3_method_2_code 4 = .ok (.iload_n 0, 1) := by decide +kernel
theorem md_K_reduce_5 : decode prog_3_method_2_code 5 = .ok (.iload_n 1, 1) := by decide +kernel
theorem md_K_reduce_6 : decode prog_3_method_2_code 6 = .ok (.irem, 1) := by decide +kernel
theorem md_K_reduce_7 : decode prog_3_method_2_code 7 = .ok (.goto 4, 3) := by decide +kernel
def mf_K_reduce (x0 : Int) (x1 : Int) (σ : pw_Sto) : Option (Int × pw_Sto) := pw_ck x1 0 (if x1 ≤ 0 then some ((0 : Int), σ) else (pw_rem x0 x1).bind (fun v1 => some (v1, σ)))
set_option maxHeartbeats 4000000 in
set_option maxRecDepth 20000 in
theorem mc_K_reduce {l : Launch} {E : pw_E} {σ : pw_Sto} {x0 : Int} {x1 : Int} {out : Int × pw_Sto} (h : mf_K_reduce x0 x1 σ = some out) : pw_CI l E my_K_reduce prog_3_method_2_code 2 (some .int) mr_K_reduce [.int (iI x0), .int (iI x1)] σ out := by
  unfold mf_K_reduce at h
  refine pw_entryI (by decide) (Nat.le_of_ble_eq_true rfl) h (fun X hX hR hI => ?_)
  change pw_Ok X prog_3_method_2_code "PadeWorkbench$Field" mr_K_reduce 2 at hX
  show pw_Sp X 0 0 0 [(0, Value.int (iI x0)), (1, Value.int (iI x1))] [] σ _
  refine sp_iload_n (pc := 0) (k := 1) (i := 1) hX rfl 1 rfl md_K_reduce_0 ?_
  refine sp_if_le (pc := 1) hX 10 (by decide) md_K_reduce_1 (fun _ => ?_) (fun _ => ?_)
  · refine sp_iconst (pc := 10) hX md_K_reduce_10 ?_
    exact sp_iret (pc := 11) hX hR rfl (Nat.le_of_ble_eq_true rfl) md_K_reduce_11
  · refine sp_iload_n (pc := 4) (k := 0) (i := 0) hX rfl 0 rfl md_K_reduce_4 ?_
    refine sp_iload_n (pc := 5) (k := 1) (i := 1) hX rfl 1 rfl md_K_reduce_5 ?_
    refine sp_irem (pc := 6) hX md_K_reduce_6 (fun v1 => ?_)
    refine sp_goto (pc := 7) hX 11 (by decide) md_K_reduce_7 ?_
    exact sp_iret (pc := 11) hX hR rfl (Nat.le_of_ble_eq_true rfl) md_K_reduce_11
/-! PadeWorkbench$Series.sum([I[I[II)V -/
theorem md_S_sum_0 : decode prog_10_method_2_code 0 = .ok (.iconst 0, 1) := by decide +kernel
theorem md_S_sum_1 : decode prog_10_method_2_code 1 = .ok (.istore 4, 2) := by decide +kernel
theorem md_S_sum_3 : decode prog_10_method_2_code 3 = .ok (.iload 4, 2) := by decide +kernel
theorem md_S_sum_5 : decode prog_10_method_2_code 5 = .ok (.bipush 16, 2) := by decide +kernel
theorem md_S_sum_7 : decode prog_10_method_2_code 7 = .ok (.if_icmp .ge 26, 3) := by decide +kernel
theorem md_S_sum_33 : decode prog_10_method_2_code 33 = .ok (.return_, 1) := by decide +kernel
theorem md_S_sum_10 : decode prog_10_method_2_code 10 = .ok (.aload_n 2, 1) := by decide +kernel
theorem md_S_sum_11 : decode prog_10_method_2_code 11 = .ok (.iload 4, 2) := by decide +kernel
theorem md_S_sum_13 : decode prog_10_method_2_code 13 = .ok (.aload_n 0, 1) := by decide +kernel
theorem md_S_sum_14 : decode prog_10_method_2_code 14 = .ok (.iload 4, 2) := by decide +kernel
theorem md_S_sum_16 : decode prog_10_method_2_code 16 = .ok (.iaload, 1) := by decide +kernel
theorem md_S_sum_17 : decode prog_10_method_2_code 17 = .ok (.aload_n 1, 1) := by decide +kernel
theorem md_S_sum_18 : decode prog_10_method_2_code 18 = .ok (.iload 4, 2) := by decide +kernel
theorem md_S_sum_20 : decode prog_10_method_2_code 20 = .ok (.iaload, 1) := by decide +kernel
theorem md_S_sum_21 : decode prog_10_method_2_code 21 = .ok (.iadd, 1) := by decide +kernel
theorem md_S_sum_22 : decode prog_10_method_2_code 22 = .ok (.iload_n 3, 1) := by decide +kernel
theorem md_S_sum_23 : decode prog_10_method_2_code 23 = .ok (.invokestatic 9, 3) := by decide +kernel
theorem md_S_sum_26 : decode prog_10_method_2_code 26 = .ok (.iastore, 1) := by decide +kernel
theorem md_S_sum_27 : decode prog_10_method_2_code 27 = .ok (.iinc 4 1, 3) := by decide +kernel
theorem md_S_sum_30 : decode prog_10_method_2_code 30 = .ok (.goto (-27), 3) := by decide +kernel
def mb_S_sum_3 (rc : Nat → Nat → Nat → Int → Int → pw_Sto → Option (Unit × pw_Sto)) : Nat → Nat → Nat → Int → Int → pw_Sto → Option (Unit × pw_Sto) := fun x0 x1 x2 x3 x4 σ => pw_ck x4 (16 : Int) (if (16 : Int) ≤ x4 then some ((), σ) else (pw_ai x0 x4 σ).bind (fun v1 => (pw_ai x1 x4 σ).bind (fun v2 => pw_bd (mf_K_reduce (v1 + v2) x3 σ) (fun v4 s3 => (pw_si x2 x4 v4 s3).bind (fun s5 => rc x0 x1 x2 x3 (x4 + 1) s5)))))
def ml_S_sum_3 : Nat → Nat → Nat → Nat → Int → Int → pw_Sto → Option (Unit × pw_Sto) := pw_lp (fun _ _ _ _ _ _ => none) (mb_S_sum_3)
def mf_S_sum (x0 : Nat) (x1 : Nat) (x2 : Nat) (x3 : Int) (σ : pw_Sto) : Option (Unit × pw_Sto) := ml_S_sum_3 1000 x0 x1 x2 x3 (0 : Int) σ
set_option maxHeartbeats 4000000 in
set_option maxRecDepth 20000 in
theorem sl_S_sum_3 {X : pw_X Unit} (hX : pw_Ok X prog_10_method_2_code "PadeWorkbench$Series" mr_S_sum 5) (hR : pw_RV X prog_10_method_2_code) : ∀ (n : Nat) (x0 : Nat) (x1 : Nat) (x2 : Nat) (x3 : Int) (x4 : Int) (σ : pw_Sto), pw_Sp X 0 0 3 [(0, Value.ref x0), (1, Value.ref x1), (2, Value.ref x2), (3, Value.int (iI x3)), (4, Value.int (iI x4))] [] σ (ml_S_sum_3 n x0 x1 x2 x3 x4 σ) := by
  intro n
  induction n with
  | zero => intros; exact pw_none
  | succ n ih =>
    intro x0 x1 x2 x3 x4 σ
    show pw_Sp X 0 0 3 _ _ σ (mb_S_sum_3 (ml_S_sum_3 n) x0 x1 x2 x3 x4 σ)
    unfold mb_S_sum_3
    refine sp_iload (pc := 3) (i := 4) hX 4 rfl md_S_sum_3 ?_
    refine sp_bipush (pc := 5) hX (by decide) md_S_sum_5 ?_
    refine sp_icmp_ge (pc := 7) hX 33 (by decide) md_S_sum_7 (fun _ => ?_) (fun _ => ?_)
    · exact sp_vret (pc := 33) hX hR rfl (Nat.le_of_ble_eq_true rfl) md_S_sum_33
    · refine sp_aload_n (pc := 10) (k := 2) (i := 2) hX rfl 2 rfl md_S_sum_10 ?_
      refine sp_iload (pc := 11) (i := 4) hX 4 rfl md_S_sum_11 ?_
      refine sp_aload_n (pc := 13) (k := 0) (i := 0) hX rfl 0 rfl md_S_sum_13 ?_
      refine sp_iload (pc := 14) (i := 4) hX 4 rfl md_S_sum_14 ?_
      refine sp_iaload (pc := 16) hX md_S_sum_16 (fun v1 => ?_)
      refine sp_aload_n (pc := 17) (k := 1) (i := 1) hX rfl 1 rfl md_S_sum_17 ?_
      refine sp_iload (pc := 18) (i := 4) hX 4 rfl md_S_sum_18 ?_
      refine sp_iaload (pc := 20) hX md_S_sum_20 (fun v2 => ?_)
      refine sp_iadd (pc := 21) hX md_S_sum_21 ?_
      refine sp_iload_n (pc := 22) (k := 3) (i := 3) hX rfl 3 rfl md_S_sum_22 ?_
      refine sp_callSI (pc := 23) (y := my_K_reduce) (ccy := prog_3_method_2_code) (nLy := 2) (ret := (some .int)) (rmy := mr_K_reduce) (n := 2) (idx := 9) (As := [.int (iI (v1 + v2)), .int (iI x3)]) (st := [.int (iI x4), .ref x2]) (cells' := 0) (slots' := 0) hX (fun _ h => mc_K_reduce h) mk_K_reduce mq_373 mq_372 ⟨(Nat.le_of_ble_eq_true rfl), (Nat.le_of_ble_eq_true rfl)⟩ rfl rfl (Nat.le_of_ble_eq_true rfl) ⟨(Nat.le_of_ble_eq_true rfl), (Nat.le_of_ble_eq_true rfl)⟩ rfl rfl md_S_sum_23 (fun v4 s3 => ?_)
      refine sp_iastore (pc := 26) hX md_S_sum_26 (fun s5 => ?_)
      refine sp_iinc (pc := 27) (i := 4) (L' := [(4, Value.int (iI (x4 + 1))), (0, Value.ref x0), (1, Value.ref x1), (2, Value.ref x2), (3, Value.int (iI x3))]) hX 4 rfl (by decide) rfl md_S_sum_27 ?_
      refine sp_goto (pc := 30) hX 3 (by decide) md_S_sum_30 ?_
      refine sp_sub [1, 2, 3, 4, 0] (L' := [(0, Value.ref x0), (1, Value.ref x1), (2, Value.ref x2), (3, Value.int (iI x3)), (4, Value.int (iI (x4 + 1)))]) rfl ?_
      exact ih x0 x1 x2 x3 (x4 + 1) s5
set_option maxHeartbeats 4000000 in
set_option maxRecDepth 20000 in
theorem mc_S_sum {l : Launch} {E : pw_E} {σ : pw_Sto} {x0 : Nat} {x1 : Nat} {x2 : Nat} {x3 : Int} {out : Unit × pw_Sto} (h : mf_S_sum x0 x1 x2 x3 σ = some out) : pw_CV l E my_S_sum prog_10_method_2_code 5 none mr_S_sum [.ref x0, .ref x1, .ref x2, .int (iI x3)] σ out := by
  unfold mf_S_sum at h
  refine pw_entryV (by decide) (Nat.le_of_ble_eq_true rfl) h (fun X hX hR hI => ?_)
  change pw_Ok X prog_10_method_2_code "PadeWorkbench$Series" mr_S_sum 5 at hX
  show pw_Sp X 0 0 0 [(0, Value.ref x0), (1, Value.ref x1), (2, Value.ref x2), (3, Value.int (iI x3))] [] σ _
  refine sp_iconst (pc := 0) hX md_S_sum_0 ?_
  refine sp_istore (pc := 1) (i := 4) (L' := [(4, Value.int (iI (0 : Int))), (0, Value.ref x0), (1, Value.ref x1), (2, Value.ref x2), (3, Value.int (iI x3))]) hX (by decide) rfl md_S_sum_1 ?_
  refine sp_sub [1, 2, 3, 4, 0] (L' := [(0, Value.ref x0), (1, Value.ref x1), (2, Value.ref x2), (3, Value.int (iI x3)), (4, Value.int (iI (0 : Int)))]) rfl ?_
  exact sl_S_sum_3 hX hR 1000 x0 x1 x2 x3 (0 : Int) σ
/-! PadeWorkbench$Series.countOfNonZero([I)I -/
theorem md_S_countOfNonZero_0 : decode prog_10_method_6_code 0 = .ok (.iconst 0, 1) := by decide +kernel
theorem md_S_countOfNonZero_1 : decode prog_10_method_6_code 1 = .ok (.istore_n 1, 1) := by decide +kernel
theorem md_S_countOfNonZero_2 : decode prog_10_method_6_code 2 = .ok (.iconst 0, 1) := by decide +kernel
theorem md_S_countOfNonZero_3 : decode prog_10_method_6_code 3 = .ok (.istore_n 2, 1) := by decide +kernel
theorem md_S_countOfNonZero_4 : decode prog_10_method_6_code 4 = .ok (.iload_n 2, 1) := by decide +kernel
theorem md_S_countOfNonZero_5 : decode prog_10_method_6_code 5 = .ok (.bipush 16, 2) := by decide +kernel
theorem md_S_countOfNonZero_7 : decode prog_10_method_6_code 7 = .ok (.if_icmp .ge 18, 3) := by decide +kernel
theorem md_S_countOfNonZero_25 : decode prog_10_method_6_code 25 = .ok (.iload_n 1, 1) := by decide +kernel
theorem md_S_countOfNonZero_26 : decode prog_10_method_6_code 26 = .ok (.ireturn, 1) := by decide +kernel
theorem md_S_countOfNonZero_10 : decode prog_10_method_6_code 10 = .ok (.aload_n 0, 1) := by decide +kernel
theorem md_S_countOfNonZero_11 : decode prog_10_method_6_code 11 = .ok (.iload_n 2, 1) := by decide +kernel
theorem md_S_countOfNonZero_12 : decode prog_10_method_6_code 12 = .ok (.iaload, 1) := by decide +kernel
theorem md_S_countOfNonZero_13 : decode prog_10_method_6_code 13 = .ok (.ifCond .eq 6, 3) := by decide +kernel
theorem md_S_countOfNonZero_19 : decode prog_10_method_6_code 19 = .ok (.iinc 2 1, 3) := by decide +kernel
theorem md_S_countOfNonZero_22 : decode prog_10_method_6_code 22 = .ok (.goto (-18), 3) := by decide +kernel
theorem md_S_countOfNonZero_16 : decode prog_10_method_6_code 16 = .ok (.iinc 1 1, 3) := by decide +kernel
def mb_S_countOfNonZero_4 (rc : Nat → Int → Int → pw_Sto → Option (Int × pw_Sto)) : Nat → Int → Int → pw_Sto → Option (Int × pw_Sto) := fun x0 x1 x2 σ => pw_ck x2 (16 : Int) (if (16 : Int) ≤ x2 then some (x1, σ) else (pw_ai x0 x2 σ).bind (fun v1 => pw_ck v1 0 (if v1 = 0 then rc x0 x1 (x2 + 1) σ else rc x0 (x1 + 1) (x2 + 1) σ)))
def ml_S_countOfNonZero_4 : Nat → Nat → Int → Int → pw_Sto → Option (Int × pw_Sto) := pw_lp (fun _ _ _ _ => none) (mb_S_countOfNonZero_4)
def mf_S_countOfNonZero (x0 : Nat) (σ : pw_Sto) : Option (Int × pw_Sto) := ml_S_countOfNonZero_4 1000 x0 (0 : Int) (0 : Int) σ
set_option maxHeartbeats 4000000 in
set_option maxRecDepth 20000 in
theorem sl_S_countOfNonZero_4 {X : pw_X Int} (hX : pw_Ok X prog_10_method_6_code "PadeWorkbench$Series" mr_S_countOfNonZero 3) (hR : pw_RI X prog_10_method_6_code) : ∀ (n : Nat) (x0 : Nat) (x1 : Int) (x2 : Int) (σ : pw_Sto), pw_Sp X 0 0 4 [(0, Value.ref x0), (1, Value.int (iI x1)), (2, Value.int (iI x2))] [] σ (ml_S_countOfNonZero_4 n x0 x1 x2 σ) := by
  intro n
  induction n with
  | zero => intros; exact pw_none
  | succ n ih =>
    intro x0 x1 x2 σ
    show pw_Sp X 0 0 4 _ _ σ (mb_S_countOfNonZero_4 (ml_S_countOfNonZero_4 n) x0 x1 x2 σ)
    unfold mb_S_countOfNonZero_4
    refine sp_iload_n (pc := 4) (k := 2) (i := 2) hX rfl 2 rfl md_S_countOfNonZero_4 ?_
    refine sp_bipush (pc := 5) hX (by decide) md_S_countOfNonZero_5 ?_
    refine sp_icmp_ge (pc := 7) hX 25 (by decide) md_S_countOfNonZero_7 (fun _ => ?_) (fun _ => ?_)
    · refine sp_iload_n (pc := 25) (k := 1) (i := 1) hX rfl 1 rfl md_S_countOfNonZero_25 ?_
      exact sp_iret (pc := 26) hX hR rfl (Nat.le_of_ble_eq_true rfl) md_S_countOfNonZero_26
    · refine sp_aload_n (pc := 10) (k := 0) (i := 0) hX rfl 0 rfl md_S_countOfNonZero_10 ?_
      refine sp_iload_n (pc := 11) (k := 2) (i := 2) hX rfl 2 rfl md_S_countOfNonZero_11 ?_
      refine sp_iaload (pc := 12) hX md_S_countOfNonZero_12 (fun v1 => ?_)
      refine sp_if_eq (pc := 13) hX 19 (by decide) md_S_countOfNonZero_13 (fun _ => ?_) (fun _ => ?_)
      · refine sp_iinc (pc := 19) (i := 2) (L' := [(2, Value.int (iI (x2 + 1))), (0, Value.ref x0), (1, Value.int (iI x1))]) hX 2 rfl (by decide) rfl md_S_countOfNonZero_19 ?_
        refine sp_goto (pc := 22) hX 4 (by decide) md_S_countOfNonZero_22 ?_
        refine sp_sub [1, 2, 0] (L' := [(0, Value.ref x0), (1, Value.int (iI x1)), (2, Value.int (iI (x2 + 1)))]) rfl ?_
        exact ih x0 x1 (x2 + 1) σ
      · refine sp_iinc (pc := 16) (i := 1) (L' := [(1, Value.int (iI (x1 + 1))), (0, Value.ref x0), (2, Value.int (iI x2))]) hX 1 rfl (by decide) rfl md_S_countOfNonZero_16 ?_
        refine sp_iinc (pc := 19) (i := 2) (L' := [(2, Value.int (iI (x2 + 1))), (1, Value.int (iI (x1 + 1))), (0, Value.ref x0)]) hX 2 rfl (by decide) rfl md_S_countOfNonZero_19 ?_
        refine sp_goto (pc := 22) hX 4 (by decide) md_S_countOfNonZero_22 ?_
        refine sp_sub [2, 1, 0] (L' := [(0, Value.ref x0), (1, Value.int (iI (x1 + 1))), (2, Value.int (iI (x2 + 1)))]) rfl ?_
        exact ih x0 (x1 + 1) (x2 + 1) σ
set_option maxHeartbeats 4000000 in
set_option maxRecDepth 20000 in
theorem mc_S_countOfNonZero {l : Launch} {E : pw_E} {σ : pw_Sto} {x0 : Nat} {out : Int × pw_Sto} (h : mf_S_countOfNonZero x0 σ = some out) : pw_CI l E my_S_countOfNonZero prog_10_method_6_code 3 (some .int) mr_S_countOfNonZero [.ref x0] σ out := by
  unfold mf_S_countOfNonZero at h
  refine pw_entryI (by decide) (Nat.le_of_ble_eq_true rfl) h (fun X hX hR hI => ?_)
  change pw_Ok X prog_10_method_6_code "PadeWorkbench$Series" mr_S_countOfNonZero 3 at hX
  show pw_Sp X 0 0 0 [(0, Value.ref x0)] [] σ _
  refine sp_iconst (pc := 0) hX md_S_countOfNonZero_0 ?_
  refine sp_istore_n (pc := 1) (k := 1) (i := 1) (L' := [(1, Value.int (iI (0 : Int))), (0, Value.ref x0)]) hX rfl (by decide) rfl md_S_countOfNonZero_1 ?_
  refine sp_iconst (pc := 2) hX md_S_countOfNonZero_2 ?_
  refine sp_istore_n (pc := 3) (k := 2) (i := 2) (L' := [(2, Value.int (iI (0 : Int))), (1, Value.int (iI (0 : Int))), (0, Value.ref x0)]) hX rfl (by decide) rfl md_S_countOfNonZero_3 ?_
  refine sp_sub [2, 1, 0] (L' := [(0, Value.ref x0), (1, Value.int (iI (0 : Int))), (2, Value.int (iI (0 : Int)))]) rfl ?_
  exact sl_S_countOfNonZero_4 hX hR 1000 x0 (0 : Int) (0 : Int) σ
/-! PadeWorkbench$Series.product([I[I[II)V -/
theorem md_S_product_0 : decode prog_10_method_3_code 0 = .ok (.iconst 0, 1) := by decide +kernel
theorem md_S_product_1 : decode prog_10_method_3_code 1 = .ok (.istore 4, 2) := by decide +kernel
theorem md_S_product_3 : decode prog_10_method_3_code 3 = .ok (.iload 4, 2) := by decide +kernel
theorem md_S_product_5 : decode prog_10_method_3_code 5 = .ok (.bipush 16, 2) := by decide +kernel
theorem md_S_product_7 : decode prog_10_method_3_code 7 = .ok (.if_icmp .ge 55, 3) := by decide +kernel
theorem md_S_product_62 : decode prog_10_method_3_code 62 = .ok (.return_, 1) := by decide +kernel
theorem md_S_product_10 : decode prog_10_method_3_code 10 = .ok (.iconst 0, 1) := by decide +kernel
theorem md_S_product_11 : decode prog_10_method_3_code 11 = .ok (.istore 5, 2) := by decide +kernel
theorem md_S_product_13 : decode prog_10_method_3_code 13 = .ok (.iconst 0, 1) := by decide +kernel
theorem md_S_product_14 : decode prog_10_method_3_code 14 = .ok (.istore 6, 2) := by decide +kernel
theorem md_S_product_16 : decode prog_10_method_3_code 16 = .ok (.iload 6, 2) := by decide +kernel
theorem md_S_product_18 : decode prog_10_method_3_code 18 = .ok (.iload 4, 2) := by decide +kernel
theorem md_S_product_20 : decode prog_10_method_3_code 20 = .ok (.if_icmp .gt 26, 3) := by decide +kernel
theorem md_S_product_46 : decode prog_10_method_3_code 46 = .ok (.aload_n 2, 1) := by decide +kernel
theorem md_S_product_47 : decode prog_10_method_3_code 47 = .ok (.iload 4, 2) := by decide +kernel
theorem md_S_product_49 : decode prog_10_method_3_code 49 = .ok (.iload 5, 2) := by decide +kernel
theorem md_S_product_51 : decode prog_10_method_3_code 51 = .ok (.iload_n 3, 1) := by decide +kernel
theorem md_S_product_52 : decode prog_10_method_3_code 52 = .ok (.invokestatic 9, 3) := by decide +kernel
theorem md_S_product_55 : decode prog_10_method_3_code 55 = .ok (.iastore, 1) := by decide +kernel
theorem md_S_product_56 : decode prog_10_method_3_code 56 = .ok (.iinc 4 1, 3) := by decide +kernel
theorem md_S_product_59 : decode prog_10_method_3_code 59 = .ok (.goto (-56), 3) := by decide +kernel
theorem md_S_product_23 : decode prog_10_method_3_code 23 = .ok (.iload 5, 2) := by decide +kernel
theorem md_S_product_25 : decode prog_10_method_3_code 25 = .ok (.aload_n 0, 1) := by decide +kernel
theorem md_S_product_26 : decode prog_10_method_3_code 26 = .ok (.iload 6, 2) := by decide +kernel
theorem md_S_product_28 : decode prog_10_method_3_code 28 = .ok (.iaload, 1) := by decide +kernel
theorem md_S_product_29 : decode prog_10_method_3_code 29 = .ok (.aload_n 1, 1) := by decide +kernel
theorem md_S_product_30 : decode prog_10_method_3_code 30 = .ok (.iload 4, 2) := by decide +kernel
theorem md_S_product_32 : decode prog_10_method_3_code 32 = .ok (.iload 6, 2) := by decide +kernel
theorem md_S_product_34 : decode prog_10_method_3_code 34 = .ok (.isub, 1) := by decide +kernel
theorem md_S_product_35 : decode prog_10_method_3_code 35 = .ok (.iaload, 1) := by decide +kernel
theorem md_S_product_36 : decode prog_10_method_3_code 36 = .ok (.imul, 1) := by decide +kernel
theorem md_S_product_37 : decode prog_10_method_3_code 37 = .ok (.iadd, 1) := by decide +kernel
theorem md_S_product_38 : decode prog_10_method_3_code 38 = .ok (.istore 5, 2) := by decide +kernel
theorem md_S_product_40 : decode prog_10_method_3_code 40 = .ok (.iinc 6 1, 3) := by decide +kernel
theorem md_S_product_43 : decode prog_10_method_3_code 43 = .ok (.goto (-27), 3) := by decide +kernel
def mb_S_product_16 (r3 : Nat → Nat → Nat → Int → Int → pw_Sto → Option (Unit × pw_Sto)) (rc : Nat → Nat → Nat → Int → Int → Int → Int → pw_Sto → Option (Unit × pw_Sto)) : Nat → Nat → Nat → Int → Int → Int → Int → pw_Sto → Option (Unit × pw_Sto) := fun x0 x1 x2 x3 x4 x5 x6 σ => pw_ck x6 x4 (if x4 < x6 then pw_bd (mf_K_reduce x5 x3 σ) (fun v2 s1 => (pw_si x2 x4 v2 s1).bind (fun s3 => r3 x0 x1 x2 x3 (x4 + 1) s3)) else (pw_ai x0 x6 σ).bind (fun v4 => (pw_ai x1 (x4 - x6) σ).bind (fun v5 => rc x0 x1 x2 x3 x4 (x5 + (v4 * v5)) (x6 + 1) σ)))
def ml_S_product_16 (r3 : Nat → Nat → Nat → Int → Int → pw_Sto → Option (Unit × pw_Sto)) : Nat → Nat → Nat → Nat → Int → Int → Int → Int → pw_Sto → Option (Unit × pw_Sto) := pw_lp (fun _ _ _ _ _ _ _ _ => none) (mb_S_product_16 r3)
def mb_S_product_3 (rc : Nat → Nat → Nat → Int → Int → pw_Sto → Option (Unit × pw_Sto)) : Nat → Nat → Nat → Int → Int → pw_Sto → Option (Unit × pw_Sto) := fun x0 x1 x2 x3 x4 σ => pw_ck x4 (16 : Int) (if (16 : Int) ≤ x4 then some ((), σ) else ml_S_product_16 rc 1000 x0 x1 x2 x3 x4 (0 : Int) (0 : Int) σ)
def ml_S_product_3 : Nat → Nat → Nat → Nat → Int → Int → pw_Sto → Option (Unit × pw_Sto) := pw_lp (fun _ _ _ _ _ _ => none) (mb_S_product_3)
def mf_S_product (x0 : Nat) (x1 : Nat) (x2 : Nat) (x3 : Int) (σ : pw_Sto) : Option (Unit × pw_Sto) := ml_S_product_3 1000 x0 x1 x2 x3 (0 : Int) σ
set_option maxHeartbeats 4000000 in
set_option maxRecDepth 20000 in
theorem sl_S_product_16 {X : pw_X Unit} (hX : pw_Ok X prog_10_method_3_code "PadeWorkbench$Series" mr_S_product 7) (hR : pw_RV X prog_10_method_3_code) {r3 : Nat → Nat → Nat → Int → Int → pw_Sto → Option (Unit × pw_Sto)} (h3 : ∀ (z0 : Nat) (z1 : Nat) (z2 : Nat) (z3 : Int) (z4 : Int) (σ : pw_Sto), pw_Sp X 0 0 3 [(0, Value.ref z0), (1, Value.ref z1), (2, Value.ref z2), (3, Value.int (iI z3)), (4, Value.int (iI z4))] [] σ (r3 z0 z1 z2 z3 z4 σ)) : ∀ (n : Nat) (x0 : Nat) (x1 : Nat) (x2 : Nat) (x3 : Int) (x4 : Int) (x5 : Int) (x6 : Int) (σ : pw_Sto), pw_Sp X 0 0 16 [(0, Value.ref x0), (1, Value.ref x1), (2, Value.ref x2), (3, Value.int (iI x3)), (4, Value.int (iI x4)), (5, Value.int (iI x5)), (6, Value.int (iI x6))] [] σ (ml_S_product_16 r3 n x0 x1 x2 x3 x4 x5 x6 σ) := by
  intro n
  induction n with
  | zero => intros; exact pw_none
  | succ n ih =>
    intro x0 x1 x2 x3 x4 x5 x6 σ
    show pw_Sp X 0 0 16 _ _ σ (mb_S_product_16 r3 (ml_S_product_16 r3 n) x0 x1 x2 x3 x4 x5 x6 σ)
    unfold mb_S_product_16
    refine sp_iload (pc := 16) (i := 6) hX 6 rfl md_S_product_16 ?_
    refine sp_iload (pc := 18) (i := 4) hX 4 rfl md_S_product_18 ?_
    refine sp_icmp_gt (pc := 20) hX 46 (by decide) md_S_product_20 (fun _ => ?_) (fun _ => ?_)
    · refine sp_aload_n (pc := 46) (k := 2) (i := 2) hX rfl 2 rfl md_S_product_46 ?_
      refine sp_iload (pc := 47) (i := 4) hX 4 rfl md_S_product_47 ?_
      refine sp_iload (pc := 49) (i := 5) hX 5 rfl md_S_product_49 ?_
      refine sp_iload_n (pc := 51) (k := 3) (i := 3) hX rfl 3 rfl md_S_product_51 ?_
      refine sp_callSI (pc := 52) (y := my_K_reduce) (ccy := prog_3_method_2_code) (nLy := 2) (ret := (some .int)) (rmy := mr_K_reduce) (n := 2) (idx := 9) (As := [.int (iI x5), .int (iI x3)]) (st := [.int (iI x4), .ref x2]) (cells' := 0) (slots' := 0) hX (fun _ h => mc_K_reduce h) mk_K_reduce mq_373 mq_372 ⟨(Nat.le_of_ble_eq_true rfl), (Nat.le_of_ble_eq_true rfl)⟩ rfl rfl (Nat.le_of_ble_eq_true rfl) ⟨(Nat.le_of_ble_eq_true rfl), (Nat.le_of_ble_eq_true rfl)⟩ rfl rfl md_S_product_52 (fun v2 s1 => ?_)
      refine sp_iastore (pc := 55) hX md_S_product_55 (fun s3 => ?_)
      refine sp_iinc (pc := 56) (i := 4) (L' := [(4, Value.int (iI (x4 + 1))), (0, Value.ref x0), (1, Value.ref x1), (2, Value.ref x2), (3, Value.int (iI x3)), (5, Value.int (iI x5)), (6, Value.int (iI x6))]) hX 4 rfl (by decide) rfl md_S_product_56 ?_
      refine sp_goto (pc := 59) hX 3 (by decide) md_S_product_59 ?_
      refine sp_sub [1, 2, 3, 4, 0] (L' := [(0, Value.ref x0), (1, Value.ref x1), (2, Value.ref x2), (3, Value.int (iI x3)), (4, Value.int (iI (x4 + 1)))]) rfl ?_
      exact h3 x0 x1 x2 x3 (x4 + 1) s3
    · refine sp_iload (pc := 23) (i := 5) hX 5 rfl md_S_product_23 ?_
      refine sp_aload_n (pc := 25) (k := 0) (i := 0) hX rfl 0 rfl md_S_product_25 ?_
      refine sp_iload (pc := 26) (i := 6) hX 6 rfl md_S_product_26 ?_
      refine sp_iaload (pc := 28) hX md_S_product_28 (fun v4 => ?_)
      refine sp_aload_n (pc := 29) (k := 1) (i := 1) hX rfl 1 rfl md_S_product_29 ?_
      refine sp_iload (pc := 30) (i := 4) hX 4 rfl md_S_product_30 ?_
      refine sp_iload (pc := 32) (i := 6) hX 6 rfl md_S_product_32 ?_
      refine sp_isub (pc := 34) hX md_S_product_34 ?_
      refine sp_iaload (pc := 35) hX md_S_product_35 (fun v5 => ?_)
      refine sp_imul (pc := 36) hX md_S_product_36 ?_
      refine sp_iadd (pc := 37) hX md_S_product_37 ?_
      refine sp_istore (pc := 38) (i := 5) (L' := [(5, Value.int (iI (x5 + (v4 * v5)))), (0, Value.ref x0), (1, Value.ref x1), (2, Value.ref x2), (3, Value.int (iI x3)), (4, Value.int (iI x4)), (6, Value.int (iI x6))]) hX (by decide) rfl md_S_product_38 ?_
      refine sp_iinc (pc := 40) (i := 6) (L' := [(6, Value.int (iI (x6 + 1))), (5, Value.int (iI (x5 + (v4 * v5)))), (0, Value.ref x0), (1, Value.ref x1), (2, Value.ref x2), (3, Value.int (iI x3)), (4, Value.int (iI x4))]) hX 6 rfl (by decide) rfl md_S_product_40 ?_
      refine sp_goto (pc := 43) hX 16 (by decide) md_S_product_43 ?_
      refine sp_sub [2, 3, 4, 5, 6, 1, 0] (L' := [(0, Value.ref x0), (1, Value.ref x1), (2, Value.ref x2), (3, Value.int (iI x3)), (4, Value.int (iI x4)), (5, Value.int (iI (x5 + (v4 * v5)))), (6, Value.int (iI (x6 + 1)))]) rfl ?_
      exact ih x0 x1 x2 x3 x4 (x5 + (v4 * v5)) (x6 + 1) σ
set_option maxHeartbeats 4000000 in
set_option maxRecDepth 20000 in
theorem sl_S_product_3 {X : pw_X Unit} (hX : pw_Ok X prog_10_method_3_code "PadeWorkbench$Series" mr_S_product 7) (hR : pw_RV X prog_10_method_3_code) : ∀ (n : Nat) (x0 : Nat) (x1 : Nat) (x2 : Nat) (x3 : Int) (x4 : Int) (σ : pw_Sto), pw_Sp X 0 0 3 [(0, Value.ref x0), (1, Value.ref x1), (2, Value.ref x2), (3, Value.int (iI x3)), (4, Value.int (iI x4))] [] σ (ml_S_product_3 n x0 x1 x2 x3 x4 σ) := by
  intro n
  induction n with
  | zero => intros; exact pw_none
  | succ n ih =>
    intro x0 x1 x2 x3 x4 σ
    show pw_Sp X 0 0 3 _ _ σ (mb_S_product_3 (ml_S_product_3 n) x0 x1 x2 x3 x4 σ)
    unfold mb_S_product_3
    refine sp_iload (pc := 3) (i := 4) hX 4 rfl md_S_product_3 ?_
    refine sp_bipush (pc := 5) hX (by decide) md_S_product_5 ?_
    refine sp_icmp_ge (pc := 7) hX 62 (by decide) md_S_product_7 (fun _ => ?_) (fun _ => ?_)
    · exact sp_vret (pc := 62) hX hR rfl (Nat.le_of_ble_eq_true rfl) md_S_product_62
    · refine sp_iconst (pc := 10) hX md_S_product_10 ?_
      refine sp_istore (pc := 11) (i := 5) (L' := [(5, Value.int (iI (0 : Int))), (0, Value.ref x0), (1, Value.ref x1), (2, Value.ref x2), (3, Value.int (iI x3)), (4, Value.int (iI x4))]) hX (by decide) rfl md_S_product_11 ?_
      refine sp_iconst (pc := 13) hX md_S_product_13 ?_
      refine sp_istore (pc := 14) (i := 6) (L' := [(6, Value.int (iI (0 : Int))), (5, Value.int (iI (0 : Int))), (0, Value.ref x0), (1, Value.ref x1), (2, Value.ref x2), (3, Value.int (iI x3)), (4, Value.int (iI x4))]) hX (by decide) rfl md_S_product_14 ?_
      refine sp_sub [2, 3, 4, 5, 6, 1, 0] (L' := [(0, Value.ref x0), (1, Value.ref x1), (2, Value.ref x2), (3, Value.int (iI x3)), (4, Value.int (iI x4)), (5, Value.int (iI (0 : Int))), (6, Value.int (iI (0 : Int)))]) rfl ?_
      exact sl_S_product_16 hX hR ih 1000 x0 x1 x2 x3 x4 (0 : Int) (0 : Int) σ
set_option maxHeartbeats 4000000 in
set_option maxRecDepth 20000 in
theorem mc_S_product {l : Launch} {E : pw_E} {σ : pw_Sto} {x0 : Nat} {x1 : Nat} {x2 : Nat} {x3 : Int} {out : Unit × pw_Sto} (h : mf_S_product x0 x1 x2 x3 σ = some out) : pw_CV l E my_S_product prog_10_method_3_code 7 none mr_S_product [.ref x0, .ref x1, .ref x2, .int (iI x3)] σ out := by
  unfold mf_S_product at h
  refine pw_entryV (by decide) (Nat.le_of_ble_eq_true rfl) h (fun X hX hR hI => ?_)
  change pw_Ok X prog_10_method_3_code "PadeWorkbench$Series" mr_S_product 7 at hX
  show pw_Sp X 0 0 0 [(0, Value.ref x0), (1, Value.ref x1), (2, Value.ref x2), (3, Value.int (iI x3))] [] σ _
  refine sp_iconst (pc := 0) hX md_S_product_0 ?_
  refine sp_istore (pc := 1) (i := 4) (L' := [(4, Value.int (iI (0 : Int))), (0, Value.ref x0), (1, Value.ref x1), (2, Value.ref x2), (3, Value.int (iI x3))]) hX (by decide) rfl md_S_product_1 ?_
  refine sp_sub [1, 2, 3, 4, 0] (L' := [(0, Value.ref x0), (1, Value.ref x1), (2, Value.ref x2), (3, Value.int (iI x3)), (4, Value.int (iI (0 : Int)))]) rfl ?_
  exact sl_S_product_3 hX hR 1000 x0 x1 x2 x3 (0 : Int) σ
/-! PadeWorkbench$Field.inverse(II)I -/
theorem md_K_inverse_0 : decode prog_3_method_5_code 0 = .ok (.iconst 1, 1) := by decide +kernel
theorem md_K_inverse_1 : decode prog_3_method_5_code 1 = .ok (.istore_n 2, 1) := by decide +kernel
theorem md_K_inverse_2 : decode prog_3_method_5_code 2 = .ok (.iload_n 0, 1) := by decide +kernel
theorem md_K_inverse_3 : decode prog_3_method_5_code 3 = .ok (.istore_n 3, 1) := by decide +kernel
theorem md_K_inverse_4 : decode prog_3_method_5_code 4 = .ok (.iload_n 1, 1) := by decide +kernel
theorem md_K_inverse_5 : decode prog_3_method_5_code 5 = .ok (.iconst 2, 1) := by decide +kernel
theorem md_K_inverse_6 : decode prog_3_method_5_code 6 = .ok (.isub, 1) := by decide +kernel
theorem md_K_inverse_7 : decode prog_3_method_5_code 7 = .ok (.istore 4, 2) := by decide +kernel
theorem md_K_inverse_9 : decode prog_3_method_5_code 9 = .ok (.iload 4, 2) := by decide +kernel
theorem md_K_inverse_11 : decode prog_3_method_5_code 11 = .ok (.ifCond .le 36, 3) := by decide +kernel
theorem md_K_inverse_47 : decode prog_3_method_5_code 47 = .ok (.iload_n 2, 1) := by decide +kernel
theorem md_K_inverse_48 : decode prog_3_method_5_code 48 = .ok (.ireturn, 1) := by decide +kernel
theorem md_K_inverse_14 : decode prog_3_method_5_code 14 = .ok (.iload 4, 2) := by decide +kernel
theorem md_K_inverse_16 : decode prog_3_method_5_code 16 = .ok (.iconst 1, 1) := by decide +kernel
theorem md_K_inverse_17 : decode prog_3_method_5_code 17 = .ok (.iand, 1) := by decide +kernel
theorem md_K_inverse_18 : decode prog_3_method_5_code 18 = .ok (.iconst 1, 1) := by decide +kernel
theorem md_K_inverse_19 : decode prog_3_method_5_code 19 = .ok (.if_icmp .ne 11, 3) := by decide +kernel
theorem md_K_inverse_30 : decode prog_3_method_5_code 30 = .ok (.iload_n 3, 1) := by decide +kernel
theorem md_K_inverse_31 : decode prog_3_method_5_code 31 = .ok (.iload_n 3, 1) := by decide +kernel
theorem md_K_inverse_32 : decode prog_3_method_5_code 32 = .ok (.imul, 1) := by decide +kernel
theorem md_K_inverse_33 : decode prog_3_method_5_code 33 = .ok (.iload_n 1, 1) := by decide +kernel
theorem md_K_inverse_34 : decode prog_3_method_5_code 34 = .ok (.invokestatic 7, 3) := by decide +kernel
theorem md_K_inverse_37 : decode prog_3_method_5_code 37 = .ok (.istore_n 3, 1) := by decide +kernel
theorem md_K_inverse_38 : decode prog_3_method_5_code 38 = .ok (.iload 4, 2) := by decide +kernel
theorem md_K_inverse_40 : decode prog_3_method_5_code 40 = .ok (.iconst 1, 1) := by decide +kernel
theorem md_K_inverse_41 : decode prog_3_method_5_code 41 = .ok (.ishr, 1) := by decide +kernel
theorem md_K_inverse_42 : decode prog_3_method_5_code 42 = .ok (.istore 4, 2) := by decide +kernel
theorem md_K_inverse_44 : decode prog_3_method_5_code 44 = .ok (.goto (-35), 3) := by decide +kernel
theorem md_K_inverse_22 : decode prog_3_method_5_code 22 = .ok (.iload_n 2, 1) := by decide +kernel
theorem md_K_inverse_23 : decode prog_3_method_5_code 23 = .ok (.iload_n 3, 1) := by decide +kernel
theorem md_K_inverse_24 : decode prog_3_method_5_code 24 = .ok (.imul, 1) := by decide +kernel
theorem md_K_inverse_25 : decode prog_3_method_5_code 25 = .ok (.iload_n 1, 1) := by decide +kernel
theorem md_K_inverse_26 : decode prog_3_method_5_code 26 = .ok (.invokestatic 7, 3) := by decide +kernel
theorem md_K_inverse_29 : decode prog_3_method_5_code 29 = .ok (.istore_n 2, 1) := by decide +kernel
def mj_K_inverse_30 (r9 : Int → Int → Int → Int → pw_Sto → Option (Int × pw_Sto)) (x1 : Int) (x2 : Int) (x3 : Int) (x4 : Int) (σ : pw_Sto) : Option (Int × pw_Sto) := pw_bd (mf_K_reduce (x3 * x3) x1 σ) (fun v2 s1 => (pw_shr x4).bind (fun v3 => r9 x1 x2 v2 v3 s1))
def mb_K_inverse_9 (rc : Int → Int → Int → Int → pw_Sto → Option (Int × pw_Sto)) : Int → Int → Int → Int → pw_Sto → Option (Int × pw_Sto) := fun x1 x2 x3 x4 σ => pw_ck x4 0 (if x4 ≤ 0 then some (x2, σ) else pw_ck (x4 % 2) (1 : Int) (if (x4 % 2) = (1 : Int) then pw_bd (mf_K_reduce (x2 * x3) x1 σ) (fun v5 s4 => mj_K_inverse_30 rc x1 v5 x3 x4 s4) else mj_K_inverse_30 rc x1 x2 x3 x4 σ))
def ml_K_inverse_9 : Nat → Int → Int → Int → Int → pw_Sto → Option (Int × pw_Sto) := pw_lp (fun _ _ _ _ _ => none) (mb_K_inverse_9)
def mf_K_inverse (x0 : Int) (x1 : Int) (σ : pw_Sto) : Option (Int × pw_Sto) := ml_K_inverse_9 1000 x1 (1 : Int) x0 (x1 - (2 : Int)) σ
set_option maxHeartbeats 4000000 in
set_option maxRecDepth 20000 in
theorem sj_K_inverse_30 {X : pw_X Int} (hX : pw_Ok X prog_3_method_5_code "PadeWorkbench$Field" mr_K_inverse 5) (hR : pw_RI X prog_3_method_5_code) {r9 : Int → Int → Int → Int → pw_Sto → Option (Int × pw_Sto)} (h9 : ∀ (z0 : Int) (z1 : Int) (z2 : Int) (z3 : Int) (σ : pw_Sto), pw_Sp X 0 0 9 [(1, Value.int (iI z0)), (2, Value.int (iI z1)), (3, Value.int (iI z2)), (4, Value.int (iI z3))] [] σ (r9 z0 z1 z2 z3 σ)) (x1 : Int) (x2 : Int) (x3 : Int) (x4 : Int) (σ : pw_Sto) : pw_Sp X 0 0 30 [(1, Value.int (iI x1)), (2, Value.int (iI x2)), (3, Value.int (iI x3)), (4, Value.int (iI x4))] [] σ (mj_K_inverse_30 r9 x1 x2 x3 x4 σ) := by
  unfold mj_K_inverse_30
  refine sp_iload_n (pc := 30) (k := 3) (i := 3) hX rfl 2 rfl md_K_inverse_30 ?_
  refine sp_iload_n (pc := 31) (k := 3) (i := 3) hX rfl 2 rfl md_K_inverse_31 ?_
  refine sp_imul (pc := 32) hX md_K_inverse_32 ?_
  refine sp_iload_n (pc := 33) (k := 1) (i := 1) hX rfl 0 rfl md_K_inverse_33 ?_
  refine sp_callSI (pc := 34) (y := my_K_reduce) (ccy := prog_3_method_2_code) (nLy := 2) (ret := (some .int)) (rmy := mr_K_reduce) (n := 2) (idx := 7) (As := [.int (iI (x3 * x3)), .int (iI x1)]) (st := []) (cells' := 0) (slots' := 0) hX (fun _ h => mc_K_reduce h) mk_K_reduce mq_373 mq_400 ⟨(Nat.le_of_ble_eq_true rfl), (Nat.le_of_ble_eq_true rfl)⟩ rfl rfl (Nat.le_of_ble_eq_true rfl) ⟨(Nat.le_of_ble_eq_true rfl), (Nat.le_of_ble_eq_true rfl)⟩ rfl rfl md_K_inverse_34 (fun v2 s1 => ?_)
  refine sp_istore_n (pc := 37) (k := 3) (i := 3) (L' := [(3, Value.int (iI v2)), (1, Value.int (iI x1)), (2, Value.int (iI x2)), (4, Value.int (iI x4))]) hX rfl (by decide) rfl md_K_inverse_37 ?_
  refine sp_iload (pc := 38) (i := 4) hX 3 rfl md_K_inverse_38 ?_
  refine sp_iconst (pc := 40) hX md_K_inverse_40 ?_
  refine sp_ishr (pc := 41) hX md_K_inverse_41 (fun v3 => ?_)
  refine sp_istore (pc := 42) (i := 4) (L' := [(4, Value.int (iI v3)), (3, Value.int (iI v2)), (1, Value.int (iI x1)), (2, Value.int (iI x2))]) hX (by decide) rfl md_K_inverse_42 ?_
  refine sp_goto (pc := 44) hX 9 (by decide) md_K_inverse_44 ?_
  refine sp_sub [2, 3, 1, 0] (L' := [(1, Value.int (iI x1)), (2, Value.int (iI x2)), (3, Value.int (iI v2)), (4, Value.int (iI v3))]) rfl ?_
  exact h9 x1 x2 v2 v3 s1
set_option maxHeartbeats 4000000 in
set_option maxRecDepth 20000 in
theorem sl_K_inverse_9 {X : pw_X Int} (hX : pw_Ok X prog_3_method_5_code "PadeWorkbench$Field" mr_K_inverse 5) (hR : pw_RI X prog_3_method_5_code) : ∀ (n : Nat) (x1 : Int) (x2 : Int) (x3 : Int) (x4 : Int) (σ : pw_Sto), pw_Sp X 0 0 9 [(1, Value.int (iI x1)), (2, Value.int (iI x2)), (3, Value.int (iI x3)), (4, Value.int (iI x4))] [] σ (ml_K_inverse_9 n x1 x2 x3 x4 σ) := by
  intro n
  induction n with
  | zero => intros; exact pw_none
  | succ n ih =>
    intro x1 x2 x3 x4 σ
    show pw_Sp X 0 0 9 _ _ σ (mb_K_inverse_9 (ml_K_inverse_9 n) x1 x2 x3 x4 σ)
    unfold mb_K_inverse_9
    refine sp_iload (pc := 9) (i := 4) hX 3 rfl md_K_inverse_9 ?_
    refine sp_if_le (pc := 11) hX 47 (by decide) md_K_inverse_11 (fun _ => ?_) (fun _ => ?_)
    · refine sp_iload_n (pc := 47) (k := 2) (i := 2) hX rfl 1 rfl md_K_inverse_47 ?_
      exact sp_iret (pc := 48) hX hR rfl (Nat.le_of_ble_eq_true rfl) md_K_inverse_48
    · refine sp_iload (pc := 14) (i := 4) hX 3 rfl md_K_inverse_14 ?_
      refine sp_iconst (pc := 16) hX md_K_inverse_16 ?_
      refine sp_iand1 (pc := 17) hX md_K_inverse_17 ?_
      refine sp_iconst (pc := 18) hX md_K_inverse_18 ?_
      refine sp_icmp_ne (pc := 19) hX 30 (by decide) md_K_inverse_19 (fun _ => ?_) (fun _ => ?_)
      · refine sp_iload_n (pc := 22) (k := 2) (i := 2) hX rfl 1 rfl md_K_inverse_22 ?_
        refine sp_iload_n (pc := 23) (k := 3) (i := 3) hX rfl 2 rfl md_K_inverse_23 ?_
        refine sp_imul (pc := 24) hX md_K_inverse_24 ?_
        refine sp_iload_n (pc := 25) (k := 1) (i := 1) hX rfl 0 rfl md_K_inverse_25 ?_
        refine sp_callSI (pc := 26) (y := my_K_reduce) (ccy := prog_3_method_2_code) (nLy := 2) (ret := (some .int)) (rmy := mr_K_reduce) (n := 2) (idx := 7) (As := [.int (iI (x2 * x3)), .int (iI x1)]) (st := []) (cells' := 0) (slots' := 0) hX (fun _ h => mc_K_reduce h) mk_K_reduce mq_373 mq_400 ⟨(Nat.le_of_ble_eq_true rfl), (Nat.le_of_ble_eq_true rfl)⟩ rfl rfl (Nat.le_of_ble_eq_true rfl) ⟨(Nat.le_of_ble_eq_true rfl), (Nat.le_of_ble_eq_true rfl)⟩ rfl rfl md_K_inverse_26 (fun v5 s4 => ?_)
        refine sp_istore_n (pc := 29) (k := 2) (i := 2) (L' := [(2, Value.int (iI v5)), (1, Value.int (iI x1)), (3, Value.int (iI x3)), (4, Value.int (iI x4))]) hX rfl (by decide) rfl md_K_inverse_29 ?_
        refine sp_sub [1, 0, 2, 3] (L' := [(1, Value.int (iI x1)), (2, Value.int (iI v5)), (3, Value.int (iI x3)), (4, Value.int (iI x4))]) rfl ?_
        exact sj_K_inverse_30 hX hR ih x1 v5 x3 x4 s4
      · exact sj_K_inverse_30 hX hR ih x1 x2 x3 x4 σ
set_option maxHeartbeats 4000000 in
set_option maxRecDepth 20000 in
theorem mc_K_inverse {l : Launch} {E : pw_E} {σ : pw_Sto} {x0 : Int} {x1 : Int} {out : Int × pw_Sto} (h : mf_K_inverse x0 x1 σ = some out) : pw_CI l E my_K_inverse prog_3_method_5_code 5 (some .int) mr_K_inverse [.int (iI x0), .int (iI x1)] σ out := by
  unfold mf_K_inverse at h
  refine pw_entryI (by decide) (Nat.le_of_ble_eq_true rfl) h (fun X hX hR hI => ?_)
  change pw_Ok X prog_3_method_5_code "PadeWorkbench$Field" mr_K_inverse 5 at hX
  show pw_Sp X 0 0 0 [(0, Value.int (iI x0)), (1, Value.int (iI x1))] [] σ _
  refine sp_iconst (pc := 0) hX md_K_inverse_0 ?_
  refine sp_istore_n (pc := 1) (k := 2) (i := 2) (L' := [(2, Value.int (iI (1 : Int))), (0, Value.int (iI x0)), (1, Value.int (iI x1))]) hX rfl (by decide) rfl md_K_inverse_1 ?_
  refine sp_iload_n (pc := 2) (k := 0) (i := 0) hX rfl 1 rfl md_K_inverse_2 ?_
  refine sp_istore_n (pc := 3) (k := 3) (i := 3) (L' := [(3, Value.int (iI x0)), (2, Value.int (iI (1 : Int))), (0, Value.int (iI x0)), (1, Value.int (iI x1))]) hX rfl (by decide) rfl md_K_inverse_3 ?_
  refine sp_iload_n (pc := 4) (k := 1) (i := 1) hX rfl 3 rfl md_K_inverse_4 ?_
  refine sp_iconst (pc := 5) hX md_K_inverse_5 ?_
  refine sp_isub (pc := 6) hX md_K_inverse_6 ?_
  refine sp_istore (pc := 7) (i := 4) (L' := [(4, Value.int (iI (x1 - (2 : Int)))), (3, Value.int (iI x0)), (2, Value.int (iI (1 : Int))), (0, Value.int (iI x0)), (1, Value.int (iI x1))]) hX (by decide) rfl md_K_inverse_7 ?_
  refine sp_sub [4, 2, 1, 0] (L' := [(1, Value.int (iI x1)), (2, Value.int (iI (1 : Int))), (3, Value.int (iI x0)), (4, Value.int (iI (x1 - (2 : Int))))]) rfl ?_
  exact sl_K_inverse_9 hX hR 1000 x1 (1 : Int) x0 (x1 - (2 : Int)) σ
/-! PadeWorkbench$Field.times(III)I -/
theorem md_K_times_0 : decode prog_3_method_4_code 0 = .ok (.iload_n 0, 1) := by decide +kernel
theorem md_K_times_1 : decode prog_3_method_4_code 1 = .ok (.iload_n 1, 1) := by decide +kernel
theorem md_K_times_2 : decode prog_3_method_4_code 2 = .ok (.imul, 1) := by decide +kernel
theorem md_K_times_3 : decode prog_3_method_4_code 3 = .ok (.iload_n 2, 1) := by decide +kernel
theorem md_K_times_4 : decode prog_3_method_4_code 4 = .ok (.invokestatic 7, 3) := by decide +kernel
theorem md_K_times_7 : decode prog_3_method_4_code 7 = .ok (.ireturn, 1) := by decide +kernel
def mf_K_times (x0 : Int) (x1 : Int) (x2 : Int) (σ : pw_Sto) : Option (Int × pw_Sto) := pw_bd (mf_K_reduce (x0 * x1) x2 σ) (fun v2 s1 => some (v2, s1))
set_option maxHeartbeats 4000000 in
set_option maxRecDepth 20000 in
theorem mc_K_times {l : Launch} {E : pw_E} {σ : pw_Sto} {x0 : Int} {x1 : Int} {x2 : Int} {out : Int × pw_Sto} (h : mf_K_times x0 x1 x2 σ = some out) : pw_CI l E my_K_times prog_3_method_4_code 3 (some .int) mr_K_times [.int (iI x0), .int (iI x1), .int (iI x2)] σ out := by
  unfold mf_K_times at h
  refine pw_entryI (by decide) (Nat.le_of_ble_eq_true rfl) h (fun X hX hR hI => ?_)
  change pw_Ok X prog_3_method_4_code "PadeWorkbench$Field" mr_K_times 3 at hX
  show pw_Sp X 0 0 0 [(0, Value.int (iI x0)), (1, Value.int (iI x1)), (2, Value.int (iI x2))] [] σ _
  refine sp_iload_n (pc := 0) (k := 0) (i := 0) hX rfl 0 rfl md_K_times_0 ?_
  refine sp_iload_n (pc := 1) (k := 1) (i := 1) hX rfl 1 rfl md_K_times_1 ?_
  refine sp_imul (pc := 2) hX md_K_times_2 ?_
  refine sp_iload_n (pc := 3) (k := 2) (i := 2) hX rfl 2 rfl md_K_times_3 ?_
  refine sp_callSI (pc := 4) (y := my_K_reduce) (ccy := prog_3_method_2_code) (nLy := 2) (ret := (some .int)) (rmy := mr_K_reduce) (n := 2) (idx := 7) (As := [.int (iI (x0 * x1)), .int (iI x2)]) (st := []) (cells' := 0) (slots' := 0) hX (fun _ h => mc_K_reduce h) mk_K_reduce mq_373 mq_400 ⟨(Nat.le_of_ble_eq_true rfl), (Nat.le_of_ble_eq_true rfl)⟩ rfl rfl (Nat.le_of_ble_eq_true rfl) ⟨(Nat.le_of_ble_eq_true rfl), (Nat.le_of_ble_eq_true rfl)⟩ rfl rfl md_K_times_4 (fun v2 s1 => ?_)
  exact sp_iret (pc := 7) hX hR rfl (Nat.le_of_ble_eq_true rfl) md_K_times_7
/-! PadeWorkbench$Field.negative(II)I -/
theorem md_K_negative_0 : decode prog_3_method_3_code 0 = .ok (.iload_n 0, 1) := by decide +kernel
theorem md_K_negative_1 : decode prog_3_method_3_code 1 = .ok (.ifCond .ne 7, 3) := by decide +kernel
theorem md_K_negative_8 : decode prog_3_method_3_code 8 = .ok (.iload_n 1, 1) := by decide +kernel
theorem md_K_negative_9 : decode prog_3_method_3_code 9 = .ok (.iload_n 0, 1) := by decide +kernel
theorem md_K_negative_10 : decode prog_3_method_3_code 10 = .ok (.isub, 1) := by decide +kernel
theorem md_K_negative_11 : decode prog_3_method_3_code 11 = .ok (.ireturn, 1) := by decide +kernel
theorem md_K_negative_4 : decode prog_3_method_3_code 4 = .ok (.iconst 0, 1) := by decide +kernel
theorem md_K_negative_5 : decode prog_3_method_3_code 5 = .ok (.goto 6, 3) := by decide +kernel
def mf_K_negative (x0 : Int) (x1 : Int) (σ : pw_Sto) : Option (Int × pw_Sto) := pw_ck x0 0 (if x0 = 0 then some ((0 : Int), σ) else some ((x1 - x0), σ))
set_option maxHeartbeats 4000000 in
set_option maxRecDepth 20000 in
theorem mc_K_negative {l : Launch} {E : pw_E} {σ : pw_Sto} {x0 : Int} {x1 : Int} {out : Int × pw_Sto} (h : mf_K_negative x0 x1 σ = some out) : pw_CI l E my_K_negative prog_3_method_3_code 2 (some .int) mr_K_negative [.int (iI x0), .int (iI x1)] σ out := by
  unfold mf_K_negative at h
  refine pw_entryI (by decide) (Nat.le_of_ble_eq_true rfl) h (fun X hX hR hI => ?_)
  change pw_Ok X prog_3_method_3_code "PadeWorkbench$Field" mr_K_negative 2 at hX
  show pw_Sp X 0 0 0 [(0, Value.int (iI x0)), (1, Value.int (iI x1))] [] σ _
  refine sp_iload_n (pc := 0) (k := 0) (i := 0) hX rfl 0 rfl md_K_negative_0 ?_
  refine sp_if_ne (pc := 1) hX 8 (by decide) md_K_negative_1 (fun _ => ?_) (fun _ => ?_)
  · refine sp_iconst (pc := 4) hX md_K_negative_4 ?_
    refine sp_goto (pc := 5) hX 11 (by decide) md_K_negative_5 ?_
    exact sp_iret (pc := 11) hX hR rfl (Nat.le_of_ble_eq_true rfl) md_K_negative_11
  · refine sp_iload_n (pc := 8) (k := 1) (i := 1) hX rfl 1 rfl md_K_negative_8 ?_
    refine sp_iload_n (pc := 9) (k := 0) (i := 0) hX rfl 0 rfl md_K_negative_9 ?_
    refine sp_isub (pc := 10) hX md_K_negative_10 ?_
    exact sp_iret (pc := 11) hX hR rfl (Nat.le_of_ble_eq_true rfl) md_K_negative_11
/-! PadeWorkbench$Series.reciprocal([I[II)V -/
theorem md_S_reciprocal_0 : decode prog_10_method_4_code 0 = .ok (.aload_n 0, 1) := by decide +kernel
theorem md_S_reciprocal_1 : decode prog_10_method_4_code 1 = .ok (.iconst 0, 1) := by decide +kernel
theorem md_S_reciprocal_2 : decode prog_10_method_4_code 2 = .ok (.iaload, 1) := by decide +kernel
theorem md_S_reciprocal_3 : decode prog_10_method_4_code 3 = .ok (.iload_n 2, 1) := by decide +kernel
theorem md_S_reciprocal_4 : decode prog_10_method_4_code 4 = .ok (.invokestatic 15, 3) := by decide +kernel
theorem md_S_reciprocal_7 : decode prog_10_method_4_code 7 = .ok (.istore_n 3, 1) := by decide +kernel
theorem md_S_reciprocal_8 : decode prog_10_method_4_code 8 = .ok (.aload_n 1, 1) := by decide +kernel
theorem md_S_reciprocal_9 : decode prog_10_method_4_code 9 = .ok (.iconst 0, 1) := by decide +kernel
theorem md_S_reciprocal_10 : decode prog_10_method_4_code 10 = .ok (.iload_n 3, 1) := by decide +kernel
theorem md_S_reciprocal_11 : decode prog_10_method_4_code 11 = .ok (.iastore, 1) := by decide +kernel
theorem md_S_reciprocal_12 : decode prog_10_method_4_code 12 = .ok (.iconst 1, 1) := by decide +kernel
theorem md_S_reciprocal_13 : decode prog_10_method_4_code 13 = .ok (.istore 4, 2) := by decide +kernel
theorem md_S_reciprocal_15 : decode prog_10_method_4_code 15 = .ok (.iload 4, 2) := by decide +kernel
theorem md_S_reciprocal_17 : decode prog_10_method_4_code 17 = .ok (.bipush 16, 2) := by decide +kernel
theorem md_S_reciprocal_19 : decode prog_10_method_4_code 19 = .ok (.if_icmp .ge 64, 3) := by decide +kernel
theorem md_S_reciprocal_83 : decode prog_10_method_4_code 83 = .ok (.return_, 1) := by decide +kernel
theorem md_S_reciprocal_22 : decode prog_10_method_4_code 22 = .ok (.iconst 0, 1) := by decide +kernel
theorem md_S_reciprocal_23 : decode prog_10_method_4_code 23 = .ok (.istore 5, 2) := by decide +kernel
theorem md_S_reciprocal_25 : decode prog_10_method_4_code 25 = .ok (.iconst 1, 1) := by decide +kernel
theorem md_S_reciprocal_26 : decode prog_10_method_4_code 26 = .ok (.istore 6, 2) := by decide +kernel
theorem md_S_reciprocal_28 : decode prog_10_method_4_code 28 = .ok (.iload 6, 2) := by decide +kernel
theorem md_S_reciprocal_30 : decode prog_10_method_4_code 30 = .ok (.iload 4, 2) := by decide +kernel
theorem md_S_reciprocal_32 : decode prog_10_method_4_code 32 = .ok (.if_icmp .gt 26, 3) := by decide +kernel
theorem md_S_reciprocal_58 : decode prog_10_method_4_code 58 = .ok (.aload_n 1, 1) := by decide +kernel
theorem md_S_reciprocal_59 : decode prog_10_method_4_code 59 = .ok (.iload 4, 2) := by decide +kernel
theorem md_S_reciprocal_61 : decode prog_10_method_4_code 61 = .ok (.iload 5, 2) := by decide +kernel
theorem md_S_reciprocal_63 : decode prog_10_method_4_code 63 = .ok (.iload_n 2, 1) := by decide +kernel
theorem md_S_reciprocal_64 : decode prog_10_method_4_code 64 = .ok (.invokestatic 9, 3) := by decide +kernel
theorem md_S_reciprocal_67 : decode prog_10_method_4_code 67 = .ok (.iload_n 3, 1) := by decide +kernel
theorem md_S_reciprocal_68 : decode prog_10_method_4_code 68 = .ok (.iload_n 2, 1) := by decide +kernel
theorem md_S_reciprocal_69 : decode prog_10_method_4_code 69 = .ok (.invokestatic 18, 3) := by decide +kernel
theorem md_S_reciprocal_72 : decode prog_10_method_4_code 72 = .ok (.iload_n 2, 1) := by decide +kernel
theorem md_S_reciprocal_73 : decode prog_10_method_4_code 73 = .ok (.invokestatic 22, 3) := by decide +kernel
theorem md_S_reciprocal_76 : decode prog_10_method_4_code 76 = .ok (.iastore, 1) := by decide +kernel
theorem md_S_reciprocal_77 : decode prog_10_method_4_code 77 = .ok (.iinc 4 1, 3) := by decide +kernel
theorem md_S_reciprocal_80 : decode prog_10_method_4_code 80 = .ok (.goto (-65), 3) := by decide +kernel
theorem md_S_reciprocal_35 : decode prog_10_method_4_code 35 = .ok (.iload 5, 2) := by decide +kernel
theorem md_S_reciprocal_37 : decode prog_10_method_4_code 37 = .ok (.aload_n 0, 1) := by decide +kernel
theorem md_S_reciprocal_38 : decode prog_10_method_4_code 38 = .ok (.iload 6, 2) := by decide +kernel
theorem md_S_reciprocal_40 : decode prog_10_method_4_code 40 = .ok (.iaload, 1) := by decide +kernel
theorem md_S_reciprocal_41 : decode prog_10_method_4_code 41 = .ok (.aload_n 1, 1) := by decide +kernel
theorem md_S_reciprocal_42 : decode prog_10_method_4_code 42 = .ok (.iload 4, 2) := by decide +kernel
theorem md_S_reciprocal_44 : decode prog_10_method_4_code 44 = .ok (.iload 6, 2) := by decide +kernel
theorem md_S_reciprocal_46 : decode prog_10_method_4_code 46 = .ok (.isub, 1) := by decide +kernel
theorem md_S_reciprocal_47 : decode prog_10_method_4_code 47 = .ok (.iaload, 1) := by decide +kernel
theorem md_S_reciprocal_48 : decode prog_10_method_4_code 48 = .ok (.imul, 1) := by decide +kernel
theorem md_S_reciprocal_49 : decode prog_10_method_4_code 49 = .ok (.iadd, 1) := by decide +kernel
theorem md_S_reciprocal_50 : decode prog_10_method_4_code 50 = .ok (.istore 5, 2) := by decide +kernel
theorem md_S_reciprocal_52 : decode prog_10_method_4_code 52 = .ok (.iinc 6 1, 3) := by decide +kernel
theorem md_S_reciprocal_55 : decode prog_10_method_4_code 55 = .ok (.goto (-27), 3) := by decide +kernel
def mb_S_reciprocal_28 (r15 : Nat → Nat → Int → Int → Int → pw_Sto → Option (Unit × pw_Sto)) (rc : Nat → Nat → Int → Int → Int → Int → Int → pw_Sto → Option (Unit × pw_Sto)) : Nat → Nat → Int → Int → Int → Int → Int → pw_Sto → Option (Unit × pw_Sto) := fun x0 x1 x2 x3 x4 x5 x6 σ => pw_ck x6 x4 (if x4 < x6 then pw_bd (mf_K_reduce x5 x2 σ) (fun v6 s5 => pw_bd (mf_K_times v6 x3 x2 s5) (fun v8 s7 => pw_bd (mf_K_negative v8 x2 s7) (fun v10 s9 => (pw_si x1 x4 v10 s9).bind (fun s11 => r15 x0 x1 x2 x3 (x4 + 1) s11)))) else (pw_ai x0 x6 σ).bind (fun v12 => (pw_ai x1 (x4 - x6) σ).bind (fun v13 => rc x0 x1 x2 x3 x4 (x5 + (v12 * v13)) (x6 + 1) σ)))
def ml_S_reciprocal_28 (r15 : Nat → Nat → Int → Int → Int → pw_Sto → Option (Unit × pw_Sto)) : Nat → Nat → Nat → Int → Int → Int → Int → Int → pw_Sto → Option (Unit × pw_Sto) := pw_lp (fun _ _ _ _ _ _ _ _ => none) (mb_S_reciprocal_28 r15)
def mb_S_reciprocal_15 (rc : Nat → Nat → Int → Int → Int → pw_Sto → Option (Unit × pw_Sto)) : Nat → Nat → Int → Int → Int → pw_Sto → Option (Unit × pw_Sto) := fun x0 x1 x2 x3 x4 σ => pw_ck x4 (16 : Int) (if (16 : Int) ≤ x4 then some ((), σ) else ml_S_reciprocal_28 rc 1000 x0 x1 x2 x3 x4 (0 : Int) (1 : Int) σ)
def ml_S_reciprocal_15 : Nat → Nat → Nat → Int → Int → Int → pw_Sto → Option (Unit × pw_Sto) := pw_lp (fun _ _ _ _ _ _ => none) (mb_S_reciprocal_15)
def mf_S_reciprocal (x0 : Nat) (x1 : Nat) (x2 : Int) (σ : pw_Sto) : Option (Unit × pw_Sto) := (pw_ai x0 (0 : Int) σ).bind (fun v1 => pw_bd (mf_K_inverse v1 x2 σ) (fun v3 s2 => (pw_si x1 (0 : Int) v3 s2).bind (fun s4 => ml_S_reciprocal_15 1000 x0 x1 x2 v3 (1 : Int) s4)))
set_option maxHeartbeats 4000000 in
set_option maxRecDepth 20000 in
theorem sl_S_reciprocal_28 {X : pw_X Unit} (hX : pw_Ok X prog_10_method_4_code "PadeWorkbench$Series" mr_S_reciprocal 7) (hR : pw_RV X prog_10_method_4_code) {r15 : Nat → Nat → Int → Int → Int → pw_Sto → Option (Unit × pw_Sto)} (h15 : ∀ (z0 : Nat) (z1 : Nat) (z2 : Int) (z3 : Int) (z4 : Int) (σ : pw_Sto), pw_Sp X 0 0 15 [(0, Value.ref z0), (1, Value.ref z1), (2, Value.int (iI z2)), (3, Value.int (iI z3)), (4, Value.int (iI z4))] [] σ (r15 z0 z1 z2 z3 z4 σ)) : ∀ (n : Nat) (x0 : Nat) (x1 : Nat) (x2 : Int) (x3 : Int) (x4 : Int) (x5 : Int) (x6 : Int) (σ : pw_Sto), pw_Sp X 0 0 28 [(0, Value.ref x0), (1, Value.ref x1), (2, Value.int (iI x2)), (3, Value.int (iI x3)), (4, Value.int (iI x4)), (5, Value.int (iI x5)), (6, Value.int (iI x6))] [] σ (ml_S_reciprocal_28 r15 n x0 x1 x2 x3 x4 x5 x6 σ) := by
  intro n
  induction n with
  | zero => intros; exact pw_none
  | succ n ih =>
    intro x0 x1 x2 x3 x4 x5 x6 σ
    show pw_Sp X 0 0 28 _ _ σ (mb_S_reciprocal_28 r15 (ml_S_reciprocal_28 r15 n) x0 x1 x2 x3 x4 x5 x6 σ)
    unfold mb_S_reciprocal_28
    refine sp_iload (pc := 28) (i := 6) hX 6 rfl md_S_reciprocal_28 ?_
    refine sp_iload (pc := 30) (i := 4) hX 4 rfl md_S_reciprocal_30 ?_
    refine sp_icmp_gt (pc := 32) hX 58 (by decide) md_S_reciprocal_32 (fun _ => ?_) (fun _ => ?_)
    · refine sp_aload_n (pc := 58) (k := 1) (i := 1) hX rfl 1 rfl md_S_reciprocal_58 ?_
      refine sp_iload (pc := 59) (i := 4) hX 4 rfl md_S_reciprocal_59 ?_
      refine sp_iload (pc := 61) (i := 5) hX 5 rfl md_S_reciprocal_61 ?_
      refine sp_iload_n (pc := 63) (k := 2) (i := 2) hX rfl 2 rfl md_S_reciprocal_63 ?_
      refine sp_callSI (pc := 64) (y := my_K_reduce) (ccy := prog_3_method_2_code) (nLy := 2) (ret := (some .int)) (rmy := mr_K_reduce) (n := 2) (idx := 9) (As := [.int (iI x5), .int (iI x2)]) (st := [.int (iI x4), .ref x1]) (cells' := 0) (slots' := 0) hX (fun _ h => mc_K_reduce h) mk_K_reduce mq_373 mq_372 ⟨(Nat.le_of_ble_eq_true rfl), (Nat.le_of_ble_eq_true rfl)⟩ rfl rfl (Nat.le_of_ble_eq_true rfl) ⟨(Nat.le_of_ble_eq_true rfl), (Nat.le_of_ble_eq_true rfl)⟩ rfl rfl md_S_reciprocal_64 (fun v6 s5 => ?_)
      refine sp_iload_n (pc := 67) (k := 3) (i := 3) hX rfl 3 rfl md_S_reciprocal_67 ?_
      refine sp_iload_n (pc := 68) (k := 2) (i := 2) hX rfl 2 rfl md_S_reciprocal_68 ?_
      refine sp_callSI (pc := 69) (y := my_K_times) (ccy := prog_3_method_4_code) (nLy := 3) (ret := (some .int)) (rmy := mr_K_times) (n := 3) (idx := 18) (As := [.int (iI v6), .int (iI x3), .int (iI x2)]) (st := [.int (iI x4), .ref x1]) (cells' := 0) (slots' := 0) hX (fun _ h => mc_K_times h) mk_K_times mq_402 mq_401 ⟨(Nat.le_of_ble_eq_true rfl), (Nat.le_of_ble_eq_true rfl)⟩ rfl rfl (Nat.le_of_ble_eq_true rfl) ⟨(Nat.le_of_ble_eq_true rfl), (Nat.le_of_ble_eq_true rfl)⟩ rfl rfl md_S_reciprocal_69 (fun v8 s7 => ?_)
      refine sp_iload_n (pc := 72) (k := 2) (i := 2) hX rfl 2 rfl md_S_reciprocal_72 ?_
      refine sp_callSI (pc := 73) (y := my_K_negative) (ccy := prog_3_method_3_code) (nLy := 2) (ret := (some .int)) (rmy := mr_K_negative) (n := 2) (idx := 22) (As := [.int (iI v8), .int (iI x2)]) (st := [.int (iI x4), .ref x1]) (cells' := 0) (slots' := 0) hX (fun _ h => mc_K_negative h) mk_K_negative mq_405 mq_404 ⟨(Nat.le_of_ble_eq_true rfl), (Nat.le_of_ble_eq_true rfl)⟩ rfl rfl (Nat.le_of_ble_eq_true rfl) ⟨(Nat.le_of_ble_eq_true rfl), (Nat.le_of_ble_eq_true rfl)⟩ rfl rfl md_S_reciprocal_73 (fun v10 s9 => ?_)
      refine sp_iastore (pc := 76) hX md_S_reciprocal_76 (fun s11 => ?_)
      refine sp_iinc (pc := 77) (i := 4) (L' := [(4, Value.int (iI (x4 + 1))), (0, Value.ref x0), (1, Value.ref x1), (2, Value.int (iI x2)), (3, Value.int (iI x3)), (5, Value.int (iI x5)), (6, Value.int (iI x6))]) hX 4 rfl (by decide) rfl md_S_reciprocal_77 ?_
      refine sp_goto (pc := 80) hX 15 (by decide) md_S_reciprocal_80 ?_
      refine sp_sub [1, 2, 3, 4, 0] (L' := [(0, Value.ref x0), (1, Value.ref x1), (2, Value.int (iI x2)), (3, Value.int (iI x3)), (4, Value.int (iI (x4 + 1)))]) rfl ?_
      exact h15 x0 x1 x2 x3 (x4 + 1) s11
    · refine sp_iload (pc := 35) (i := 5) hX 5 rfl md_S_reciprocal_35 ?_
      refine sp_aload_n (pc := 37) (k := 0) (i := 0) hX rfl 0 rfl md_S_reciprocal_37 ?_
      refine sp_iload (pc := 38) (i := 6) hX 6 rfl md_S_reciprocal_38 ?_
      refine sp_iaload (pc := 40) hX md_S_reciprocal_40 (fun v12 => ?_)
      refine sp_aload_n (pc := 41) (k := 1) (i := 1) hX rfl 1 rfl md_S_reciprocal_41 ?_
      refine sp_iload (pc := 42) (i := 4) hX 4 rfl md_S_reciprocal_42 ?_
      refine sp_iload (pc := 44) (i := 6) hX 6 rfl md_S_reciprocal_44 ?_
      refine sp_isub (pc := 46) hX md_S_reciprocal_46 ?_
      refine sp_iaload (pc := 47) hX md_S_reciprocal_47 (fun v13 => ?_)
      refine sp_imul (pc := 48) hX md_S_reciprocal_48 ?_
      refine sp_iadd (pc := 49) hX md_S_reciprocal_49 ?_
      refine sp_istore (pc := 50) (i := 5) (L' := [(5, Value.int (iI (x5 + (v12 * v13)))), (0, Value.ref x0), (1, Value.ref x1), (2, Value.int (iI x2)), (3, Value.int (iI x3)), (4, Value.int (iI x4)), (6, Value.int (iI x6))]) hX (by decide) rfl md_S_reciprocal_50 ?_
      refine sp_iinc (pc := 52) (i := 6) (L' := [(6, Value.int (iI (x6 + 1))), (5, Value.int (iI (x5 + (v12 * v13)))), (0, Value.ref x0), (1, Value.ref x1), (2, Value.int (iI x2)), (3, Value.int (iI x3)), (4, Value.int (iI x4))]) hX 6 rfl (by decide) rfl md_S_reciprocal_52 ?_
      refine sp_goto (pc := 55) hX 28 (by decide) md_S_reciprocal_55 ?_
      refine sp_sub [2, 3, 4, 5, 6, 1, 0] (L' := [(0, Value.ref x0), (1, Value.ref x1), (2, Value.int (iI x2)), (3, Value.int (iI x3)), (4, Value.int (iI x4)), (5, Value.int (iI (x5 + (v12 * v13)))), (6, Value.int (iI (x6 + 1)))]) rfl ?_
      exact ih x0 x1 x2 x3 x4 (x5 + (v12 * v13)) (x6 + 1) σ
set_option maxHeartbeats 4000000 in
set_option maxRecDepth 20000 in
theorem sl_S_reciprocal_15 {X : pw_X Unit} (hX : pw_Ok X prog_10_method_4_code "PadeWorkbench$Series" mr_S_reciprocal 7) (hR : pw_RV X prog_10_method_4_code) : ∀ (n : Nat) (x0 : Nat) (x1 : Nat) (x2 : Int) (x3 : Int) (x4 : Int) (σ : pw_Sto), pw_Sp X 0 0 15 [(0, Value.ref x0), (1, Value.ref x1), (2, Value.int (iI x2)), (3, Value.int (iI x3)), (4, Value.int (iI x4))] [] σ (ml_S_reciprocal_15 n x0 x1 x2 x3 x4 σ) := by
  intro n
  induction n with
  | zero => intros; exact pw_none
  | succ n ih =>
    intro x0 x1 x2 x3 x4 σ
    show pw_Sp X 0 0 15 _ _ σ (mb_S_reciprocal_15 (ml_S_reciprocal_15 n) x0 x1 x2 x3 x4 σ)
    unfold mb_S_reciprocal_15
    refine sp_iload (pc := 15) (i := 4) hX 4 rfl md_S_reciprocal_15 ?_
    refine sp_bipush (pc := 17) hX (by decide) md_S_reciprocal_17 ?_
    refine sp_icmp_ge (pc := 19) hX 83 (by decide) md_S_reciprocal_19 (fun _ => ?_) (fun _ => ?_)
    · exact sp_vret (pc := 83) hX hR rfl (Nat.le_of_ble_eq_true rfl) md_S_reciprocal_83
    · refine sp_iconst (pc := 22) hX md_S_reciprocal_22 ?_
      refine sp_istore (pc := 23) (i := 5) (L' := [(5, Value.int (iI (0 : Int))), (0, Value.ref x0), (1, Value.ref x1), (2, Value.int (iI x2)), (3, Value.int (iI x3)), (4, Value.int (iI x4))]) hX (by decide) rfl md_S_reciprocal_23 ?_
      refine sp_iconst (pc := 25) hX md_S_reciprocal_25 ?_
      refine sp_istore (pc := 26) (i := 6) (L' := [(6, Value.int (iI (1 : Int))), (5, Value.int (iI (0 : Int))), (0, Value.ref x0), (1, Value.ref x1), (2, Value.int (iI x2)), (3, Value.int (iI x3)), (4, Value.int (iI x4))]) hX (by decide) rfl md_S_reciprocal_26 ?_
      refine sp_sub [2, 3, 4, 5, 6, 1, 0] (L' := [(0, Value.ref x0), (1, Value.ref x1), (2, Value.int (iI x2)), (3, Value.int (iI x3)), (4, Value.int (iI x4)), (5, Value.int (iI (0 : Int))), (6, Value.int (iI (1 : Int)))]) rfl ?_
      exact sl_S_reciprocal_28 hX hR ih 1000 x0 x1 x2 x3 x4 (0 : Int) (1 : Int) σ
set_option maxHeartbeats 4000000 in
set_option maxRecDepth 20000 in
theorem mc_S_reciprocal {l : Launch} {E : pw_E} {σ : pw_Sto} {x0 : Nat} {x1 : Nat} {x2 : Int} {out : Unit × pw_Sto} (h : mf_S_reciprocal x0 x1 x2 σ = some out) : pw_CV l E my_S_reciprocal prog_10_method_4_code 7 none mr_S_reciprocal [.ref x0, .ref x1, .int (iI x2)] σ out := by
  unfold mf_S_reciprocal at h
  refine pw_entryV (by decide) (Nat.le_of_ble_eq_true rfl) h (fun X hX hR hI => ?_)
  change pw_Ok X prog_10_method_4_code "PadeWorkbench$Series" mr_S_reciprocal 7 at hX
  show pw_Sp X 0 0 0 [(0, Value.ref x0), (1, Value.ref x1), (2, Value.int (iI x2))] [] σ _
  refine sp_aload_n (pc := 0) (k := 0) (i := 0) hX rfl 0 rfl md_S_reciprocal_0 ?_
  refine sp_iconst (pc := 1) hX md_S_reciprocal_1 ?_
  refine sp_iaload (pc := 2) hX md_S_reciprocal_2 (fun v1 => ?_)
  refine sp_iload_n (pc := 3) (k := 2) (i := 2) hX rfl 2 rfl md_S_reciprocal_3 ?_
  refine sp_callSI (pc := 4) (y := my_K_inverse) (ccy := prog_3_method_5_code) (nLy := 5) (ret := (some .int)) (rmy := mr_K_inverse) (n := 2) (idx := 15) (As := [.int (iI v1), .int (iI x2)]) (st := []) (cells' := 0) (slots' := 0) hX (fun _ h => mc_K_inverse h) mk_K_inverse mq_398 mq_397 ⟨(Nat.le_of_ble_eq_true rfl), (Nat.le_of_ble_eq_true rfl)⟩ rfl rfl (Nat.le_of_ble_eq_true rfl) ⟨(Nat.le_of_ble_eq_true rfl), (Nat.le_of_ble_eq_true rfl)⟩ rfl rfl md_S_reciprocal_4 (fun v3 s2 => ?_)
  refine sp_istore_n (pc := 7) (k := 3) (i := 3) (L' := [(3, Value.int (iI v3)), (0, Value.ref x0), (1, Value.ref x1), (2, Value.int (iI x2))]) hX rfl (by decide) rfl md_S_reciprocal_7 ?_
  refine sp_aload_n (pc := 8) (k := 1) (i := 1) hX rfl 2 rfl md_S_reciprocal_8 ?_
  refine sp_iconst (pc := 9) hX md_S_reciprocal_9 ?_
  refine sp_iload_n (pc := 10) (k := 3) (i := 3) hX rfl 0 rfl md_S_reciprocal_10 ?_
  refine sp_iastore (pc := 11) hX md_S_reciprocal_11 (fun s4 => ?_)
  refine sp_iconst (pc := 12) hX md_S_reciprocal_12 ?_
  refine sp_istore (pc := 13) (i := 4) (L' := [(4, Value.int (iI (1 : Int))), (3, Value.int (iI v3)), (0, Value.ref x0), (1, Value.ref x1), (2, Value.int (iI x2))]) hX (by decide) rfl md_S_reciprocal_13 ?_
  refine sp_sub [2, 3, 4, 1, 0] (L' := [(0, Value.ref x0), (1, Value.ref x1), (2, Value.int (iI x2)), (3, Value.int (iI v3)), (4, Value.int (iI (1 : Int)))]) rfl ?_
  exact sl_S_reciprocal_15 hX hR 1000 x0 x1 x2 v3 (1 : Int) s4
/-! PadeWorkbench$Series.slope([I[II)V -/
theorem md_S_slope_0 : decode prog_10_method_5_code 0 = .ok (.iconst 1, 1) := by decide +kernel
theorem md_S_slope_1 : decode prog_10_method_5_code 1 = .ok (.istore_n 3, 1) := by decide +kernel
theorem md_S_slope_2 : decode prog_10_method_5_code 2 = .ok (.iload_n 3, 1) := by decide +kernel
theorem md_S_slope_3 : decode prog_10_method_5_code 3 = .ok (.bipush 16, 2) := by decide +kernel
theorem md_S_slope_5 : decode prog_10_method_5_code 5 = .ok (.if_icmp .ge 22, 3) := by decide +kernel
theorem md_S_slope_27 : decode prog_10_method_5_code 27 = .ok (.aload_n 1, 1) := by decide +kernel
theorem md_S_slope_28 : decode prog_10_method_5_code 28 = .ok (.bipush 15, 2) := by decide +kernel
theorem md_S_slope_30 : decode prog_10_method_5_code 30 = .ok (.iconst 0, 1) := by decide +kernel
theorem md_S_slope_31 : decode prog_10_method_5_code 31 = .ok (.iastore, 1) := by decide +kernel
theorem md_S_slope_32 : decode prog_10_method_5_code 32 = .ok (.return_, 1) := by decide +kernel
theorem md_S_slope_8 : decode prog_10_method_5_code 8 = .ok (.aload_n 1, 1) := by decide +kernel
theorem md_S_slope_9 : decode prog_10_method_5_code 9 = .ok (.iload_n 3, 1) := by decide +kernel
theorem md_S_slope_10 : decode prog_10_method_5_code 10 = .ok (.iconst 1, 1) := by decide +kernel
theorem md_S_slope_11 : decode prog_10_method_5_code 11 = .ok (.isub, 1) := by decide +kernel
theorem md_S_slope_12 : decode prog_10_method_5_code 12 = .ok (.iload_n 3, 1) := by decide +kernel
theorem md_S_slope_13 : decode prog_10_method_5_code 13 = .ok (.aload_n 0, 1) := by decide +kernel
theorem md_S_slope_14 : decode prog_10_method_5_code 14 = .ok (.iload_n 3, 1) := by decide +kernel
theorem md_S_slope_15 : decode prog_10_method_5_code 15 = .ok (.iaload, 1) := by decide +kernel
theorem md_S_slope_16 : decode prog_10_method_5_code 16 = .ok (.iload_n 2, 1) := by decide +kernel
theorem md_S_slope_17 : decode prog_10_method_5_code 17 = .ok (.invokestatic 18, 3) := by decide +kernel
theorem md_S_slope_20 : decode prog_10_method_5_code 20 = .ok (.iastore, 1) := by decide +kernel
theorem md_S_slope_21 : decode prog_10_method_5_code 21 = .ok (.iinc 3 1, 3) := by decide +kernel
theorem md_S_slope_24 : decode prog_10_method_5_code 24 = .ok (.goto (-22), 3) := by decide +kernel
def mb_S_slope_2 (rc : Nat → Nat → Int → Int → pw_Sto → Option (Unit × pw_Sto)) : Nat → Nat → Int → Int → pw_Sto → Option (Unit × pw_Sto) := fun x0 x1 x2 x3 σ => pw_ck x3 (16 : Int) (if (16 : Int) ≤ x3 then (pw_si x1 (15 : Int) (0 : Int) σ).bind (fun s1 => some ((), s1)) else (pw_ai x0 x3 σ).bind (fun v2 => pw_bd (mf_K_times x3 v2 x2 σ) (fun v4 s3 => (pw_si x1 (x3 - (1 : Int)) v4 s3).bind (fun s5 => rc x0 x1 x2 (x3 + 1) s5))))
def ml_S_slope_2 : Nat → Nat → Nat → Int → Int → pw_Sto → Option (Unit × pw_Sto) := pw_lp (fun _ _ _ _ _ => none) (mb_S_slope_2)
def mf_S_slope (x0 : Nat) (x1 : Nat) (x2 : Int) (σ : pw_Sto) : Option (Unit × pw_Sto) := ml_S_slope_2 1000 x0 x1 x2 (1 : Int) σ
set_option maxHeartbeats 4000000 in
set_option maxRecDepth 20000 in
theorem sl_S_slope_2 {X : pw_X Unit} (hX : pw_Ok X prog_10_method_5_code "PadeWorkbench$Series" mr_S_slope 4) (hR : pw_RV X prog_10_method_5_code) : ∀ (n : Nat) (x0 : Nat) (x1 : Nat) (x2 : Int) (x3 : Int) (σ : pw_Sto), pw_Sp X 0 0 2 [(0, Value.ref x0), (1, Value.ref x1), (2, Value.int (iI x2)), (3, Value.int (iI x3))] [] σ (ml_S_slope_2 n x0 x1 x2 x3 σ) := by
  intro n
  induction n with
  | zero => intros; exact pw_none
  | succ n ih =>
    intro x0 x1 x2 x3 σ
    show pw_Sp X 0 0 2 _ _ σ (mb_S_slope_2 (ml_S_slope_2 n) x0 x1 x2 x3 σ)
    unfold mb_S_slope_2
    refine sp_iload_n (pc := 2) (k := 3) (i := 3) hX rfl 3 rfl md_S_slope_2 ?_
    refine sp_bipush (pc := 3) hX (by decide) md_S_slope_3 ?_
    refine sp_icmp_ge (pc := 5) hX 27 (by decide) md_S_slope_5 (fun _ => ?_) (fun _ => ?_)
    · refine sp_aload_n (pc := 27) (k := 1) (i := 1) hX rfl 1 rfl md_S_slope_27 ?_
      refine sp_bipush (pc := 28) hX (by decide) md_S_slope_28 ?_
      refine sp_iconst (pc := 30) hX md_S_slope_30 ?_
      refine sp_iastore (pc := 31) hX md_S_slope_31 (fun s1 => ?_)
      exact sp_vret (pc := 32) hX hR rfl (Nat.le_of_ble_eq_true rfl) md_S_slope_32
    · refine sp_aload_n (pc := 8) (k := 1) (i := 1) hX rfl 1 rfl md_S_slope_8 ?_
      refine sp_iload_n (pc := 9) (k := 3) (i := 3) hX rfl 3 rfl md_S_slope_9 ?_
      refine sp_iconst (pc := 10) hX md_S_slope_10 ?_
      refine sp_isub (pc := 11) hX md_S_slope_11 ?_
      refine sp_iload_n (pc := 12) (k := 3) (i := 3) hX rfl 3 rfl md_S_slope_12 ?_
      refine sp_aload_n (pc := 13) (k := 0) (i := 0) hX rfl 0 rfl md_S_slope_13 ?_
      refine sp_iload_n (pc := 14) (k := 3) (i := 3) hX rfl 3 rfl md_S_slope_14 ?_
      refine sp_iaload (pc := 15) hX md_S_slope_15 (fun v2 => ?_)
      refine sp_iload_n (pc := 16) (k := 2) (i := 2) hX rfl 2 rfl md_S_slope_16 ?_
      refine sp_callSI (pc := 17) (y := my_K_times) (ccy := prog_3_method_4_code) (nLy := 3) (ret := (some .int)) (rmy := mr_K_times) (n := 3) (idx := 18) (As := [.int (iI x3), .int (iI v2), .int (iI x2)]) (st := [.int (iI (x3 - (1 : Int))), .ref x1]) (cells' := 0) (slots' := 0) hX (fun _ h => mc_K_times h) mk_K_times mq_402 mq_401 ⟨(Nat.le_of_ble_eq_true rfl), (Nat.le_of_ble_eq_true rfl)⟩ rfl rfl (Nat.le_of_ble_eq_true rfl) ⟨(Nat.le_of_ble_eq_true rfl), (Nat.le_of_ble_eq_true rfl)⟩ rfl rfl md_S_slope_17 (fun v4 s3 => ?_)
      refine sp_iastore (pc := 20) hX md_S_slope_20 (fun s5 => ?_)
      refine sp_iinc (pc := 21) (i := 3) (L' := [(3, Value.int (iI (x3 + 1))), (0, Value.ref x0), (1, Value.ref x1), (2, Value.int (iI x2))]) hX 3 rfl (by decide) rfl md_S_slope_21 ?_
      refine sp_goto (pc := 24) hX 2 (by decide) md_S_slope_24 ?_
      refine sp_sub [1, 2, 3, 0] (L' := [(0, Value.ref x0), (1, Value.ref x1), (2, Value.int (iI x2)), (3, Value.int (iI (x3 + 1)))]) rfl ?_
      exact ih x0 x1 x2 (x3 + 1) s5
set_option maxHeartbeats 4000000 in
set_option maxRecDepth 20000 in
theorem mc_S_slope {l : Launch} {E : pw_E} {σ : pw_Sto} {x0 : Nat} {x1 : Nat} {x2 : Int} {out : Unit × pw_Sto} (h : mf_S_slope x0 x1 x2 σ = some out) : pw_CV l E my_S_slope prog_10_method_5_code 4 none mr_S_slope [.ref x0, .ref x1, .int (iI x2)] σ out := by
  unfold mf_S_slope at h
  refine pw_entryV (by decide) (Nat.le_of_ble_eq_true rfl) h (fun X hX hR hI => ?_)
  change pw_Ok X prog_10_method_5_code "PadeWorkbench$Series" mr_S_slope 4 at hX
  show pw_Sp X 0 0 0 [(0, Value.ref x0), (1, Value.ref x1), (2, Value.int (iI x2))] [] σ _
  refine sp_iconst (pc := 0) hX md_S_slope_0 ?_
  refine sp_istore_n (pc := 1) (k := 3) (i := 3) (L' := [(3, Value.int (iI (1 : Int))), (0, Value.ref x0), (1, Value.ref x1), (2, Value.int (iI x2))]) hX rfl (by decide) rfl md_S_slope_1 ?_
  refine sp_sub [1, 2, 3, 0] (L' := [(0, Value.ref x0), (1, Value.ref x1), (2, Value.int (iI x2)), (3, Value.int (iI (1 : Int)))]) rfl ?_
  exact sl_S_slope_2 hX hR 1000 x0 x1 x2 (1 : Int) σ
/-! PadeWorkbench$Field.over(III)I -/
theorem md_K_over_0 : decode prog_3_method_6_code 0 = .ok (.iload_n 0, 1) := by decide +kernel
theorem md_K_over_1 : decode prog_3_method_6_code 1 = .ok (.iload_n 1, 1) := by decide +kernel
theorem md_K_over_2 : decode prog_3_method_6_code 2 = .ok (.iload_n 2, 1) := by decide +kernel
theorem md_K_over_3 : decode prog_3_method_6_code 3 = .ok (.invokestatic 13, 3) := by decide +kernel
theorem md_K_over_6 : decode prog_3_method_6_code 6 = .ok (.iload_n 2, 1) := by decide +kernel
theorem md_K_over_7 : decode prog_3_method_6_code 7 = .ok (.invokestatic 16, 3) := by decide +kernel
theorem md_K_over_10 : decode prog_3_method_6_code 10 = .ok (.ireturn, 1) := by decide +kernel
def mf_K_over (x0 : Int) (x1 : Int) (x2 : Int) (σ : pw_Sto) : Option (Int × pw_Sto) := pw_bd (mf_K_inverse x1 x2 σ) (fun v2 s1 => pw_bd (mf_K_times x0 v2 x2 s1) (fun v4 s3 => some (v4, s3)))
set_option maxHeartbeats 4000000 in
set_option maxRecDepth 20000 in
theorem mc_K_over {l : Launch} {E : pw_E} {σ : pw_Sto} {x0 : Int} {x1 : Int} {x2 : Int} {out : Int × pw_Sto} (h : mf_K_over x0 x1 x2 σ = some out) : pw_CI l E my_K_over prog_3_method_6_code 3 (some .int) mr_K_over [.int (iI x0), .int (iI x1), .int (iI x2)] σ out := by
  unfold mf_K_over at h
  refine pw_entryI (by decide) (Nat.le_of_ble_eq_true rfl) h (fun X hX hR hI => ?_)
  change pw_Ok X prog_3_method_6_code "PadeWorkbench$Field" mr_K_over 3 at hX
  show pw_Sp X 0 0 0 [(0, Value.int (iI x0)), (1, Value.int (iI x1)), (2, Value.int (iI x2))] [] σ _
  refine sp_iload_n (pc := 0) (k := 0) (i := 0) hX rfl 0 rfl md_K_over_0 ?_
  refine sp_iload_n (pc := 1) (k := 1) (i := 1) hX rfl 1 rfl md_K_over_1 ?_
  refine sp_iload_n (pc := 2) (k := 2) (i := 2) hX rfl 2 rfl md_K_over_2 ?_
  refine sp_callSI (pc := 3) (y := my_K_inverse) (ccy := prog_3_method_5_code) (nLy := 5) (ret := (some .int)) (rmy := mr_K_inverse) (n := 2) (idx := 13) (As := [.int (iI x1), .int (iI x2)]) (st := [.int (iI x0)]) (cells' := 0) (slots' := 0) hX (fun _ h => mc_K_inverse h) mk_K_inverse mq_398 mq_608 ⟨(Nat.le_of_ble_eq_true rfl), (Nat.le_of_ble_eq_true rfl)⟩ rfl rfl (Nat.le_of_ble_eq_true rfl) ⟨(Nat.le_of_ble_eq_true rfl), (Nat.le_of_ble_eq_true rfl)⟩ rfl rfl md_K_over_3 (fun v2 s1 => ?_)
  refine sp_iload_n (pc := 6) (k := 2) (i := 2) hX rfl 2 rfl md_K_over_6 ?_
  refine sp_callSI (pc := 7) (y := my_K_times) (ccy := prog_3_method_4_code) (nLy := 3) (ret := (some .int)) (rmy := mr_K_times) (n := 3) (idx := 16) (As := [.int (iI x0), .int (iI v2), .int (iI x2)]) (st := []) (cells' := 0) (slots' := 0) hX (fun _ h => mc_K_times h) mk_K_times mq_402 mq_609 ⟨(Nat.le_of_ble_eq_true rfl), (Nat.le_of_ble_eq_true rfl)⟩ rfl rfl (Nat.le_of_ble_eq_true rfl) ⟨(Nat.le_of_ble_eq_true rfl), (Nat.le_of_ble_eq_true rfl)⟩ rfl rfl md_K_over_7 (fun v4 s3 => ?_)
  exact sp_iret (pc := 10) hX hR rfl (Nat.le_of_ble_eq_true rfl) md_K_over_10
/-! PadeWorkbench.isTerm(I)Z -/
theorem md_W_isTerm_0 : decode prog_1_method_39_code 0 = .ok (.iload_n 0, 1) := by decide +kernel
theorem md_W_isTerm_1 : decode prog_1_method_39_code 1 = .ok (.ifCond .lt 13, 3) := by decide +kernel
theorem md_W_isTerm_14 : decode prog_1_method_39_code 14 = .ok (.iconst 0, 1) := by decide +kernel
theorem md_W_isTerm_15 : decode prog_1_method_39_code 15 = .ok (.ireturn, 1) := by decide +kernel
theorem md_W_isTerm_4 : decode prog_1_method_39_code 4 = .ok (.iload_n 0, 1) := by decide +kernel
theorem md_W_isTerm_5 : decode prog_1_method_39_code 5 = .ok (.bipush 16, 2) := by decide +kernel
theorem md_W_isTerm_7 : decode prog_1_method_39_code 7 = .ok (.if_icmp .ge 7, 3) := by decide +kernel
theorem md_W_isTerm_10 : decode prog_1_method_39_code 10 = .ok (.iconst 1, 1) := by decide +kernel
theorem md_W_isTerm_11 : decode prog_1_method_39_code 11 = .ok (.goto 4, 3) := by decide +kernel
def mf_W_isTerm (x0 : Int) (σ : pw_Sto) : Option (Int × pw_Sto) := pw_ck x0 0 (if x0 < 0 then some ((0 : Int), σ) else pw_ck x0 (16 : Int) (if (16 : Int) ≤ x0 then some ((0 : Int), σ) else some ((1 : Int), σ)))
set_option maxHeartbeats 4000000 in
set_option maxRecDepth 20000 in
theorem mc_W_isTerm {l : Launch} {E : pw_E} {σ : pw_Sto} {x0 : Int} {out : Int × pw_Sto} (h : mf_W_isTerm x0 σ = some out) : pw_CI l E my_W_isTerm prog_1_method_39_code 1 (some .boolean) mr_W_isTerm [.int (iI x0)] σ out := by
  unfold mf_W_isTerm at h
  refine pw_entryZ (by decide) (Nat.le_of_ble_eq_true rfl) h (fun X hX hR hI => ?_)
  change pw_Ok X prog_1_method_39_code "PadeWorkbench" mr_W_isTerm 1 at hX
  show pw_Sp X 0 0 0 [(0, Value.int (iI x0))] [] σ _
  refine sp_iload_n (pc := 0) (k := 0) (i := 0) hX rfl 0 rfl md_W_isTerm_0 ?_
  refine sp_if_lt (pc := 1) hX 14 (by decide) md_W_isTerm_1 (fun _ => ?_) (fun _ => ?_)
  · refine sp_iconst (pc := 14) hX md_W_isTerm_14 ?_
    exact sp_zret (pc := 15) hX hR (by decide) rfl (Nat.le_of_ble_eq_true rfl) md_W_isTerm_15
  · refine sp_iload_n (pc := 4) (k := 0) (i := 0) hX rfl 0 rfl md_W_isTerm_4 ?_
    refine sp_bipush (pc := 5) hX (by decide) md_W_isTerm_5 ?_
    refine sp_icmp_ge (pc := 7) hX 14 (by decide) md_W_isTerm_7 (fun _ => ?_) (fun _ => ?_)
    · refine sp_iconst (pc := 14) hX md_W_isTerm_14 ?_
      exact sp_zret (pc := 15) hX hR (by decide) rfl (Nat.le_of_ble_eq_true rfl) md_W_isTerm_15
    · refine sp_iconst (pc := 10) hX md_W_isTerm_10 ?_
      refine sp_goto (pc := 11) hX 15 (by decide) md_W_isTerm_11 ?_
      exact sp_zret (pc := 15) hX hR (by decide) rfl (Nat.le_of_ble_eq_true rfl) md_W_isTerm_15
