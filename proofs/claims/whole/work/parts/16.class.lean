/-! PadeWorkbench.order(III)I -/
theorem md_W_order_0 : decode prog_1_method_17_code 0 = .ok (.iload_n 1, 1) := by decide +kernel
theorem md_W_order_1 : decode prog_1_method_17_code 1 = .ok (.iload_n 2, 1) := by decide +kernel
theorem md_W_order_2 : decode prog_1_method_17_code 2 = .ok (.iload_n 3, 1) := by decide +kernel
theorem md_W_order_3 : decode prog_1_method_17_code 3 = .ok (.invokestatic 149, 3) := by decide +kernel
theorem md_W_order_6 : decode prog_1_method_17_code 6 = .ok (.ifCond .ne 10, 3) := by decide +kernel
theorem md_W_order_16 : decode prog_1_method_17_code 16 = .ok (.aload_n 0, 1) := by decide +kernel
theorem md_W_order_17 : decode prog_1_method_17_code 17 = .ok (.iload_n 1, 1) := by decide +kernel
theorem md_W_order_18 : decode prog_1_method_17_code 18 = .ok (.iload_n 2, 1) := by decide +kernel
theorem md_W_order_19 : decode prog_1_method_17_code 19 = .ok (.iload_n 3, 1) := by decide +kernel
theorem md_W_order_20 : decode prog_1_method_17_code 20 = .ok (.invokevirtual 153, 3) := by decide +kernel
theorem md_W_order_23 : decode prog_1_method_17_code 23 = .ok (.aload_n 0, 1) := by decide +kernel
theorem md_W_order_24 : decode prog_1_method_17_code 24 = .ok (.getfield 40, 3) := by decide +kernel
theorem md_W_order_27 : decode prog_1_method_17_code 27 = .ok (.aload_n 0, 1) := by decide +kernel
theorem md_W_order_28 : decode prog_1_method_17_code 28 = .ok (.getfield 10, 3) := by decide +kernel
theorem md_W_order_31 : decode prog_1_method_17_code 31 = .ok (.getfield 104, 3) := by decide +kernel
theorem md_W_order_34 : decode prog_1_method_17_code 34 = .ok (.iload_n 1, 1) := by decide +kernel
theorem md_W_order_35 : decode prog_1_method_17_code 35 = .ok (.aaload, 1) := by decide +kernel
theorem md_W_order_36 : decode prog_1_method_17_code 36 = .ok (.aload_n 0, 1) := by decide +kernel
theorem md_W_order_37 : decode prog_1_method_17_code 37 = .ok (.getfield 10, 3) := by decide +kernel
theorem md_W_order_40 : decode prog_1_method_17_code 40 = .ok (.getfield 83, 3) := by decide +kernel
theorem md_W_order_43 : decode prog_1_method_17_code 43 = .ok (.invokevirtual 170, 3) := by decide +kernel
theorem md_W_order_46 : decode prog_1_method_17_code 46 = .ok (.ireturn, 1) := by decide +kernel
theorem md_W_order_9 : decode prog_1_method_17_code 9 = .ok (.aload_n 0, 1) := by decide +kernel
theorem md_W_order_10 : decode prog_1_method_17_code 10 = .ok (.bipush (-2), 2) := by decide +kernel
theorem md_W_order_12 : decode prog_1_method_17_code 12 = .ok (.invokevirtual 79, 3) := by decide +kernel
theorem md_W_order_15 : decode prog_1_method_17_code 15 = .ok (.ireturn, 1) := by decide +kernel
def mf_W_order (x0 : Nat) (x1 : Int) (x2 : Int) (x3 : Int) (σ : pw_Sto) : Option (Int × pw_Sto) := pw_gd 9 x0 σ (pw_bd (mf_W_isApproximant x1 x2 x3 σ) (fun v2 s1 => pw_ck v2 0 (if v2 = 0 then pw_bd (mf_W_fail x0 (-2 : Int) s1) (fun v13 s12 => some (v13, s12)) else pw_bd (mf_W_approximate x0 x1 x2 x3 s1) (fun _ s3 => (pw_gr 9 x0 4 s3).bind (fun v4 => (pw_gr 9 x0 0 s3).bind (fun v5 => (pw_gr 7 v5 1 s3).bind (fun v6 => (pw_ar 13 v6 x1 s3).bind (fun v7 => (pw_gr 9 x0 0 s3).bind (fun v8 => (pw_gi 7 v8 0 s3).bind (fun v9 => pw_bd (mf_R_agreement v4 v7 v9 s3) (fun v11 s10 => some (v11, s10))))))))))))
set_option maxHeartbeats 4000000 in
set_option maxRecDepth 20000 in
theorem mc_W_order {l : Launch} {E : pw_E} {σ : pw_Sto} {x0 : Nat} {x1 : Int} {x2 : Int} {x3 : Int} {out : Int × pw_Sto} (h : mf_W_order x0 x1 x2 x3 σ = some out) : pw_CI l E my_W_order prog_1_method_17_code 4 (some .int) mr_W_order [.ref x0, .int (iI x1), .int (iI x2), .int (iI x3)] σ out := by
  unfold mf_W_order at h
  refine pw_entryI (by decide) (Nat.le_of_ble_eq_true rfl) (pw_gd_val h) (fun X hX hR hI => ?_)
  change pw_Ok X prog_1_method_17_code "PadeWorkbench" mr_W_order 4 at hX
  show pw_Sp X 0 0 0 [(0, Value.ref x0), (1, Value.int (iI x1)), (2, Value.int (iI x2)), (3, Value.int (iI x3))] [] σ _
  refine sp_iload_n (pc := 0) (k := 1) (i := 1) hX rfl 1 rfl md_W_order_0 ?_
  refine sp_iload_n (pc := 1) (k := 2) (i := 2) hX rfl 2 rfl md_W_order_1 ?_
  refine sp_iload_n (pc := 2) (k := 3) (i := 3) hX rfl 3 rfl md_W_order_2 ?_
  refine sp_callSI (pc := 3) (y := my_W_isApproximant) (ccy := prog_1_method_41_code) (nLy := 3) (ret := (some .boolean)) (rmy := mr_W_isApproximant) (n := 3) (idx := 149) (As := [.int (iI x1), .int (iI x2), .int (iI x3)]) (st := []) (cells' := 0) (slots' := 0) hX (fun _ h => mc_W_isApproximant h) mk_W_isApproximant mq_482 mq_481 ⟨(Nat.le_of_ble_eq_true rfl), (Nat.le_of_ble_eq_true rfl)⟩ rfl rfl (Nat.le_of_ble_eq_true rfl) ⟨(Nat.le_of_ble_eq_true rfl), (Nat.le_of_ble_eq_true rfl)⟩ rfl rfl md_W_order_3 (fun v2 s1 => ?_)
  refine sp_if_ne (pc := 6) hX 16 (by decide) md_W_order_6 (fun _ => ?_) (fun _ => ?_)
  · refine sp_aload_n (pc := 9) (k := 0) (i := 0) hX rfl 0 rfl md_W_order_9 ?_
    refine sp_bipush (pc := 10) hX (by decide) md_W_order_10 ?_
    refine sp_callVI (pc := 12) (y := my_W_fail) (ccy := prog_1_method_37_code) (nLy := 3) (ret := (some .int)) (rmy := mr_W_fail) (n := 1) (idx := 79) (As := [.int (iI (-2 : Int))]) (st := []) (o := x0) (cells' := 0) (slots' := 0) hX (fun _ h => mc_W_fail h) mk_W_fail mv_W_fail mcl_9 (fun _ h => pw_gd_of h) mq_325 ⟨(Nat.le_of_ble_eq_true rfl), (Nat.le_of_ble_eq_true rfl)⟩ rfl rfl (Nat.le_of_ble_eq_true rfl) ⟨(Nat.le_of_ble_eq_true rfl), (Nat.le_of_ble_eq_true rfl)⟩ rfl rfl md_W_order_12 (fun v13 s12 => ?_)
    exact sp_iret (pc := 15) hX hR rfl (Nat.le_of_ble_eq_true rfl) md_W_order_15
  · refine sp_aload_n (pc := 16) (k := 0) (i := 0) hX rfl 0 rfl md_W_order_16 ?_
    refine sp_iload_n (pc := 17) (k := 1) (i := 1) hX rfl 1 rfl md_W_order_17 ?_
    refine sp_iload_n (pc := 18) (k := 2) (i := 2) hX rfl 2 rfl md_W_order_18 ?_
    refine sp_iload_n (pc := 19) (k := 3) (i := 3) hX rfl 3 rfl md_W_order_19 ?_
    refine sp_callVV (pc := 20) (y := my_W_approximate) (ccy := prog_1_method_47_code) (nLy := 4) (ret := none) (rmy := mr_W_approximate) (n := 3) (idx := 153) (As := [.int (iI x1), .int (iI x2), .int (iI x3)]) (st := []) (o := x0) (cells' := 0) (slots' := 0) hX (fun _ h => mc_W_approximate h) mk_W_approximate mv_W_approximate mcl_9 (fun _ h => pw_gd_of h) mq_484 ⟨(Nat.le_of_ble_eq_true rfl), (Nat.le_of_ble_eq_true rfl)⟩ rfl rfl (Nat.le_of_ble_eq_true rfl) ⟨(Nat.le_of_ble_eq_true rfl), (Nat.le_of_ble_eq_true rfl)⟩ rfl rfl md_W_order_20 (fun s3 => ?_)
    refine sp_aload_n (pc := 23) (k := 0) (i := 0) hX rfl 0 rfl md_W_order_23 ?_
    refine sp_getR (pc := 24) (ci := 9) (k := 4) (idx := 40) hX mcl_9 (by decide) mq_288 rfl md_W_order_24 (fun v4 => ?_)
    refine sp_aload_n (pc := 27) (k := 0) (i := 0) hX rfl 0 rfl md_W_order_27 ?_
    refine sp_getR (pc := 28) (ci := 9) (k := 0) (idx := 10) hX mcl_9 (by decide) mq_284 rfl md_W_order_28 (fun v5 => ?_)
    refine sp_getRN (pc := 31) (ci := 7) (k := 1) (idx := 104) hX mcl_7 (by decide) mn_104 rfl md_W_order_31 (fun v6 => ?_)
    refine sp_iload_n (pc := 34) (k := 1) (i := 1) hX rfl 1 rfl md_W_order_34 ?_
    refine sp_aaG (pc := 35) hX md_W_order_35 (fun v7 => ?_)
    refine sp_aload_n (pc := 36) (k := 0) (i := 0) hX rfl 0 rfl md_W_order_36 ?_
    refine sp_getR (pc := 37) (ci := 9) (k := 0) (idx := 10) hX mcl_9 (by decide) mq_284 rfl md_W_order_37 (fun v8 => ?_)
    refine sp_getIN (pc := 40) (ci := 7) (k := 0) (idx := 83) hX mcl_7 (by decide) mn_101 rfl md_W_order_40 (fun v9 => ?_)
    refine sp_callVI (pc := 43) (y := my_R_agreement) (ccy := prog_4_method_5_code) (nLy := 6) (ret := (some .int)) (rmy := mr_R_agreement) (n := 2) (idx := 170) (As := [.ref v7, .int (iI v9)]) (st := []) (o := v4) (cells' := 0) (slots' := 0) hX (fun _ h => mc_R_agreement h) mk_R_agreement mv_R_agreement mcl_1 (fun _ h => pw_gd_of h) mq_587 ⟨(Nat.le_of_ble_eq_true rfl), (Nat.le_of_ble_eq_true rfl)⟩ rfl rfl (Nat.le_of_ble_eq_true rfl) ⟨(Nat.le_of_ble_eq_true rfl), (Nat.le_of_ble_eq_true rfl)⟩ rfl rfl md_W_order_43 (fun v11 s10 => ?_)
    exact sp_iret (pc := 46) hX hR rfl (Nat.le_of_ble_eq_true rfl) md_W_order_46
/-! PadeWorkbench.blockSize(III)I -/
theorem md_W_blockSize_0 : decode prog_1_method_18_code 0 = .ok (.iload_n 1, 1) := by decide +kernel
theorem md_W_blockSize_1 : decode prog_1_method_18_code 1 = .ok (.iload_n 2, 1) := by decide +kernel
theorem md_W_blockSize_2 : decode prog_1_method_18_code 2 = .ok (.iload_n 3, 1) := by decide +kernel
theorem md_W_blockSize_3 : decode prog_1_method_18_code 3 = .ok (.invokestatic 149, 3) := by decide +kernel
theorem md_W_blockSize_6 : decode prog_1_method_18_code 6 = .ok (.ifCond .ne 10, 3) := by decide +kernel
theorem md_W_blockSize_16 : decode prog_1_method_18_code 16 = .ok (.aload_n 0, 1) := by decide +kernel
theorem md_W_blockSize_17 : decode prog_1_method_18_code 17 = .ok (.iload_n 1, 1) := by decide +kernel
theorem md_W_blockSize_18 : decode prog_1_method_18_code 18 = .ok (.iload_n 2, 1) := by decide +kernel
theorem md_W_blockSize_19 : decode prog_1_method_18_code 19 = .ok (.iload_n 3, 1) := by decide +kernel
theorem md_W_blockSize_20 : decode prog_1_method_18_code 20 = .ok (.invokevirtual 153, 3) := by decide +kernel
theorem md_W_blockSize_23 : decode prog_1_method_18_code 23 = .ok (.aload_n 0, 1) := by decide +kernel
theorem md_W_blockSize_24 : decode prog_1_method_18_code 24 = .ok (.getfield 40, 3) := by decide +kernel
theorem md_W_blockSize_27 : decode prog_1_method_18_code 27 = .ok (.aload_n 0, 1) := by decide +kernel
theorem md_W_blockSize_28 : decode prog_1_method_18_code 28 = .ok (.getfield 40, 3) := by decide +kernel
theorem md_W_blockSize_31 : decode prog_1_method_18_code 31 = .ok (.aload_n 0, 1) := by decide +kernel
theorem md_W_blockSize_32 : decode prog_1_method_18_code 32 = .ok (.getfield 10, 3) := by decide +kernel
theorem md_W_blockSize_35 : decode prog_1_method_18_code 35 = .ok (.getfield 104, 3) := by decide +kernel
theorem md_W_blockSize_38 : decode prog_1_method_18_code 38 = .ok (.iload_n 1, 1) := by decide +kernel
theorem md_W_blockSize_39 : decode prog_1_method_18_code 39 = .ok (.aaload, 1) := by decide +kernel
theorem md_W_blockSize_40 : decode prog_1_method_18_code 40 = .ok (.aload_n 0, 1) := by decide +kernel
theorem md_W_blockSize_41 : decode prog_1_method_18_code 41 = .ok (.getfield 10, 3) := by decide +kernel
theorem md_W_blockSize_44 : decode prog_1_method_18_code 44 = .ok (.getfield 83, 3) := by decide +kernel
theorem md_W_blockSize_47 : decode prog_1_method_18_code 47 = .ok (.invokevirtual 170, 3) := by decide +kernel
theorem md_W_blockSize_50 : decode prog_1_method_18_code 50 = .ok (.invokevirtual 174, 3) := by decide +kernel
theorem md_W_blockSize_53 : decode prog_1_method_18_code 53 = .ok (.ireturn, 1) := by decide +kernel
theorem md_W_blockSize_9 : decode prog_1_method_18_code 9 = .ok (.aload_n 0, 1) := by decide +kernel
theorem md_W_blockSize_10 : decode prog_1_method_18_code 10 = .ok (.bipush (-2), 2) := by decide +kernel
theorem md_W_blockSize_12 : decode prog_1_method_18_code 12 = .ok (.invokevirtual 79, 3) := by decide +kernel
theorem md_W_blockSize_15 : decode prog_1_method_18_code 15 = .ok (.ireturn, 1) := by decide +kernel
def mf_W_blockSize (x0 : Nat) (x1 : Int) (x2 : Int) (x3 : Int) (σ : pw_Sto) : Option (Int × pw_Sto) := pw_gd 9 x0 σ (pw_bd (mf_W_isApproximant x1 x2 x3 σ) (fun v2 s1 => pw_ck v2 0 (if v2 = 0 then pw_bd (mf_W_fail x0 (-2 : Int) s1) (fun v16 s15 => some (v16, s15)) else pw_bd (mf_W_approximate x0 x1 x2 x3 s1) (fun _ s3 => (pw_gr 9 x0 4 s3).bind (fun v4 => (pw_gr 9 x0 4 s3).bind (fun v5 => (pw_gr 9 x0 0 s3).bind (fun v6 => (pw_gr 7 v6 1 s3).bind (fun v7 => (pw_ar 13 v7 x1 s3).bind (fun v8 => (pw_gr 9 x0 0 s3).bind (fun v9 => (pw_gi 7 v9 0 s3).bind (fun v10 => pw_bd (mf_R_agreement v5 v8 v10 s3) (fun v12 s11 => pw_bd (mf_R_block v4 v12 s11) (fun v14 s13 => some (v14, s13))))))))))))))
set_option maxHeartbeats 4000000 in
set_option maxRecDepth 20000 in
theorem mc_W_blockSize {l : Launch} {E : pw_E} {σ : pw_Sto} {x0 : Nat} {x1 : Int} {x2 : Int} {x3 : Int} {out : Int × pw_Sto} (h : mf_W_blockSize x0 x1 x2 x3 σ = some out) : pw_CI l E my_W_blockSize prog_1_method_18_code 4 (some .int) mr_W_blockSize [.ref x0, .int (iI x1), .int (iI x2), .int (iI x3)] σ out := by
  unfold mf_W_blockSize at h
  refine pw_entryI (by decide) (Nat.le_of_ble_eq_true rfl) (pw_gd_val h) (fun X hX hR hI => ?_)
  change pw_Ok X prog_1_method_18_code "PadeWorkbench" mr_W_blockSize 4 at hX
  show pw_Sp X 0 0 0 [(0, Value.ref x0), (1, Value.int (iI x1)), (2, Value.int (iI x2)), (3, Value.int (iI x3))] [] σ _
  refine sp_iload_n (pc := 0) (k := 1) (i := 1) hX rfl 1 rfl md_W_blockSize_0 ?_
  refine sp_iload_n (pc := 1) (k := 2) (i := 2) hX rfl 2 rfl md_W_blockSize_1 ?_
  refine sp_iload_n (pc := 2) (k := 3) (i := 3) hX rfl 3 rfl md_W_blockSize_2 ?_
  refine sp_callSI (pc := 3) (y := my_W_isApproximant) (ccy := prog_1_method_41_code) (nLy := 3) (ret := (some .boolean)) (rmy := mr_W_isApproximant) (n := 3) (idx := 149) (As := [.int (iI x1), .int (iI x2), .int (iI x3)]) (st := []) (cells' := 0) (slots' := 0) hX (fun _ h => mc_W_isApproximant h) mk_W_isApproximant mq_482 mq_481 ⟨(Nat.le_of_ble_eq_true rfl), (Nat.le_of_ble_eq_true rfl)⟩ rfl rfl (Nat.le_of_ble_eq_true rfl) ⟨(Nat.le_of_ble_eq_true rfl), (Nat.le_of_ble_eq_true rfl)⟩ rfl rfl md_W_blockSize_3 (fun v2 s1 => ?_)
  refine sp_if_ne (pc := 6) hX 16 (by decide) md_W_blockSize_6 (fun _ => ?_) (fun _ => ?_)
  · refine sp_aload_n (pc := 9) (k := 0) (i := 0) hX rfl 0 rfl md_W_blockSize_9 ?_
    refine sp_bipush (pc := 10) hX (by decide) md_W_blockSize_10 ?_
    refine sp_callVI (pc := 12) (y := my_W_fail) (ccy := prog_1_method_37_code) (nLy := 3) (ret := (some .int)) (rmy := mr_W_fail) (n := 1) (idx := 79) (As := [.int (iI (-2 : Int))]) (st := []) (o := x0) (cells' := 0) (slots' := 0) hX (fun _ h => mc_W_fail h) mk_W_fail mv_W_fail mcl_9 (fun _ h => pw_gd_of h) mq_325 ⟨(Nat.le_of_ble_eq_true rfl), (Nat.le_of_ble_eq_true rfl)⟩ rfl rfl (Nat.le_of_ble_eq_true rfl) ⟨(Nat.le_of_ble_eq_true rfl), (Nat.le_of_ble_eq_true rfl)⟩ rfl rfl md_W_blockSize_12 (fun v16 s15 => ?_)
    exact sp_iret (pc := 15) hX hR rfl (Nat.le_of_ble_eq_true rfl) md_W_blockSize_15
  · refine sp_aload_n (pc := 16) (k := 0) (i := 0) hX rfl 0 rfl md_W_blockSize_16 ?_
    refine sp_iload_n (pc := 17) (k := 1) (i := 1) hX rfl 1 rfl md_W_blockSize_17 ?_
    refine sp_iload_n (pc := 18) (k := 2) (i := 2) hX rfl 2 rfl md_W_blockSize_18 ?_
    refine sp_iload_n (pc := 19) (k := 3) (i := 3) hX rfl 3 rfl md_W_blockSize_19 ?_
    refine sp_callVV (pc := 20) (y := my_W_approximate) (ccy := prog_1_method_47_code) (nLy := 4) (ret := none) (rmy := mr_W_approximate) (n := 3) (idx := 153) (As := [.int (iI x1), .int (iI x2), .int (iI x3)]) (st := []) (o := x0) (cells' := 0) (slots' := 0) hX (fun _ h => mc_W_approximate h) mk_W_approximate mv_W_approximate mcl_9 (fun _ h => pw_gd_of h) mq_484 ⟨(Nat.le_of_ble_eq_true rfl), (Nat.le_of_ble_eq_true rfl)⟩ rfl rfl (Nat.le_of_ble_eq_true rfl) ⟨(Nat.le_of_ble_eq_true rfl), (Nat.le_of_ble_eq_true rfl)⟩ rfl rfl md_W_blockSize_20 (fun s3 => ?_)
    refine sp_aload_n (pc := 23) (k := 0) (i := 0) hX rfl 0 rfl md_W_blockSize_23 ?_
    refine sp_getR (pc := 24) (ci := 9) (k := 4) (idx := 40) hX mcl_9 (by decide) mq_288 rfl md_W_blockSize_24 (fun v4 => ?_)
    refine sp_aload_n (pc := 27) (k := 0) (i := 0) hX rfl 0 rfl md_W_blockSize_27 ?_
    refine sp_getR (pc := 28) (ci := 9) (k := 4) (idx := 40) hX mcl_9 (by decide) mq_288 rfl md_W_blockSize_28 (fun v5 => ?_)
    refine sp_aload_n (pc := 31) (k := 0) (i := 0) hX rfl 0 rfl md_W_blockSize_31 ?_
    refine sp_getR (pc := 32) (ci := 9) (k := 0) (idx := 10) hX mcl_9 (by decide) mq_284 rfl md_W_blockSize_32 (fun v6 => ?_)
    refine sp_getRN (pc := 35) (ci := 7) (k := 1) (idx := 104) hX mcl_7 (by decide) mn_104 rfl md_W_blockSize_35 (fun v7 => ?_)
    refine sp_iload_n (pc := 38) (k := 1) (i := 1) hX rfl 1 rfl md_W_blockSize_38 ?_
    refine sp_aaG (pc := 39) hX md_W_blockSize_39 (fun v8 => ?_)
    refine sp_aload_n (pc := 40) (k := 0) (i := 0) hX rfl 0 rfl md_W_blockSize_40 ?_
    refine sp_getR (pc := 41) (ci := 9) (k := 0) (idx := 10) hX mcl_9 (by decide) mq_284 rfl md_W_blockSize_41 (fun v9 => ?_)
    refine sp_getIN (pc := 44) (ci := 7) (k := 0) (idx := 83) hX mcl_7 (by decide) mn_101 rfl md_W_blockSize_44 (fun v10 => ?_)
    refine sp_callVI (pc := 47) (y := my_R_agreement) (ccy := prog_4_method_5_code) (nLy := 6) (ret := (some .int)) (rmy := mr_R_agreement) (n := 2) (idx := 170) (As := [.ref v8, .int (iI v10)]) (st := [.ref v4]) (o := v5) (cells' := 0) (slots' := 0) hX (fun _ h => mc_R_agreement h) mk_R_agreement mv_R_agreement mcl_1 (fun _ h => pw_gd_of h) mq_587 ⟨(Nat.le_of_ble_eq_true rfl), (Nat.le_of_ble_eq_true rfl)⟩ rfl rfl (Nat.le_of_ble_eq_true rfl) ⟨(Nat.le_of_ble_eq_true rfl), (Nat.le_of_ble_eq_true rfl)⟩ rfl rfl md_W_blockSize_47 (fun v12 s11 => ?_)
    refine sp_callVI (pc := 50) (y := my_R_block) (ccy := prog_4_method_6_code) (nLy := 2) (ret := (some .int)) (rmy := mr_R_block) (n := 1) (idx := 174) (As := [.int (iI v12)]) (st := []) (o := v4) (cells' := 0) (slots' := 0) hX (fun _ h => mc_R_block h) mk_R_block mv_R_block mcl_1 (fun _ h => pw_gd_of h) mq_596 ⟨(Nat.le_of_ble_eq_true rfl), (Nat.le_of_ble_eq_true rfl)⟩ rfl rfl (Nat.le_of_ble_eq_true rfl) ⟨(Nat.le_of_ble_eq_true rfl), (Nat.le_of_ble_eq_true rfl)⟩ rfl rfl md_W_blockSize_50 (fun v14 s13 => ?_)
    exact sp_iret (pc := 53) hX hR rfl (Nat.le_of_ble_eq_true rfl) md_W_blockSize_53
/-! PadeWorkbench.evaluate(IIII)I -/
theorem md_W_evaluate_0 : decode prog_1_method_19_code 0 = .ok (.iload_n 1, 1) := by decide +kernel
theorem md_W_evaluate_1 : decode prog_1_method_19_code 1 = .ok (.iload_n 2, 1) := by decide +kernel
theorem md_W_evaluate_2 : decode prog_1_method_19_code 2 = .ok (.iload_n 3, 1) := by decide +kernel
theorem md_W_evaluate_3 : decode prog_1_method_19_code 3 = .ok (.invokestatic 149, 3) := by decide +kernel
theorem md_W_evaluate_6 : decode prog_1_method_19_code 6 = .ok (.ifCond .eq 12, 3) := by decide +kernel
theorem md_W_evaluate_18 : decode prog_1_method_19_code 18 = .ok (.aload_n 0, 1) := by decide +kernel
theorem md_W_evaluate_19 : decode prog_1_method_19_code 19 = .ok (.bipush (-2), 2) := by decide +kernel
theorem md_W_evaluate_21 : decode prog_1_method_19_code 21 = .ok (.invokevirtual 79, 3) := by decide +kernel
theorem md_W_evaluate_24 : decode prog_1_method_19_code 24 = .ok (.ireturn, 1) := by decide +kernel
theorem md_W_evaluate_9 : decode prog_1_method_19_code 9 = .ok (.aload_n 0, 1) := by decide +kernel
theorem md_W_evaluate_10 : decode prog_1_method_19_code 10 = .ok (.iload 4, 2) := by decide +kernel
theorem md_W_evaluate_12 : decode prog_1_method_19_code 12 = .ok (.invokevirtual 101, 3) := by decide +kernel
theorem md_W_evaluate_15 : decode prog_1_method_19_code 15 = .ok (.ifCond .ne 10, 3) := by decide +kernel
theorem md_W_evaluate_25 : decode prog_1_method_19_code 25 = .ok (.aload_n 0, 1) := by decide +kernel
theorem md_W_evaluate_26 : decode prog_1_method_19_code 26 = .ok (.iload_n 1, 1) := by decide +kernel
theorem md_W_evaluate_27 : decode prog_1_method_19_code 27 = .ok (.iload_n 2, 1) := by decide +kernel
theorem md_W_evaluate_28 : decode prog_1_method_19_code 28 = .ok (.iload_n 3, 1) := by decide +kernel
theorem md_W_evaluate_29 : decode prog_1_method_19_code 29 = .ok (.invokevirtual 153, 3) := by decide +kernel
theorem md_W_evaluate_32 : decode prog_1_method_19_code 32 = .ok (.aload_n 0, 1) := by decide +kernel
theorem md_W_evaluate_33 : decode prog_1_method_19_code 33 = .ok (.getfield 40, 3) := by decide +kernel
theorem md_W_evaluate_36 : decode prog_1_method_19_code 36 = .ok (.getfield 165, 3) := by decide +kernel
theorem md_W_evaluate_39 : decode prog_1_method_19_code 39 = .ok (.iload 4, 2) := by decide +kernel
theorem md_W_evaluate_41 : decode prog_1_method_19_code 41 = .ok (.aload_n 0, 1) := by decide +kernel
theorem md_W_evaluate_42 : decode prog_1_method_19_code 42 = .ok (.getfield 10, 3) := by decide +kernel
theorem md_W_evaluate_45 : decode prog_1_method_19_code 45 = .ok (.getfield 83, 3) := by decide +kernel
theorem md_W_evaluate_48 : decode prog_1_method_19_code 48 = .ok (.invokevirtual 177, 3) := by decide +kernel
theorem md_W_evaluate_51 : decode prog_1_method_19_code 51 = .ok (.istore 5, 2) := by decide +kernel
theorem md_W_evaluate_53 : decode prog_1_method_19_code 53 = .ok (.iload 5, 2) := by decide +kernel
theorem md_W_evaluate_55 : decode prog_1_method_19_code 55 = .ok (.ifCond .ne 5, 3) := by decide +kernel
theorem md_W_evaluate_60 : decode prog_1_method_19_code 60 = .ok (.aload_n 0, 1) := by decide +kernel
theorem md_W_evaluate_61 : decode prog_1_method_19_code 61 = .ok (.getfield 40, 3) := by decide +kernel
theorem md_W_evaluate_64 : decode prog_1_method_19_code 64 = .ok (.getfield 157, 3) := by decide +kernel
theorem md_W_evaluate_67 : decode prog_1_method_19_code 67 = .ok (.iload 4, 2) := by decide +kernel
theorem md_W_evaluate_69 : decode prog_1_method_19_code 69 = .ok (.aload_n 0, 1) := by decide +kernel
theorem md_W_evaluate_70 : decode prog_1_method_19_code 70 = .ok (.getfield 10, 3) := by decide +kernel
theorem md_W_evaluate_73 : decode prog_1_method_19_code 73 = .ok (.getfield 83, 3) := by decide +kernel
theorem md_W_evaluate_76 : decode prog_1_method_19_code 76 = .ok (.invokevirtual 177, 3) := by decide +kernel
theorem md_W_evaluate_79 : decode prog_1_method_19_code 79 = .ok (.iload 5, 2) := by decide +kernel
theorem md_W_evaluate_81 : decode prog_1_method_19_code 81 = .ok (.aload_n 0, 1) := by decide +kernel
theorem md_W_evaluate_82 : decode prog_1_method_19_code 82 = .ok (.getfield 10, 3) := by decide +kernel
theorem md_W_evaluate_85 : decode prog_1_method_19_code 85 = .ok (.getfield 83, 3) := by decide +kernel
theorem md_W_evaluate_88 : decode prog_1_method_19_code 88 = .ok (.invokestatic 181, 3) := by decide +kernel
theorem md_W_evaluate_91 : decode prog_1_method_19_code 91 = .ok (.ireturn, 1) := by decide +kernel
theorem md_W_evaluate_58 : decode prog_1_method_19_code 58 = .ok (.iconst (-1), 1) := by decide +kernel
theorem md_W_evaluate_59 : decode prog_1_method_19_code 59 = .ok (.ireturn, 1) := by decide +kernel
def mj_W_evaluate_18 (x0 : Nat) (σ : pw_Sto) : Option (Int × pw_Sto) := pw_bd (mf_W_fail x0 (-2 : Int) σ) (fun v4 s3 => some (v4, s3))
def mf_W_evaluate (x0 : Nat) (x1 : Int) (x2 : Int) (x3 : Int) (x4 : Int) (σ : pw_Sto) : Option (Int × pw_Sto) := pw_gd 9 x0 σ (pw_bd (mf_W_isApproximant x1 x2 x3 σ) (fun v2 s1 => pw_ck v2 0 (if v2 = 0 then mj_W_evaluate_18 x0 s1 else pw_bd (mf_W_isElement x0 x4 s1) (fun v6 s5 => pw_ck v6 0 (if v6 = 0 then mj_W_evaluate_18 x0 s5 else pw_bd (mf_W_approximate x0 x1 x2 x3 s5) (fun _ s7 => (pw_gr 9 x0 4 s7).bind (fun v8 => (pw_gr 1 v8 1 s7).bind (fun v9 => (pw_gr 9 x0 0 s7).bind (fun v10 => (pw_gi 7 v10 0 s7).bind (fun v11 => pw_bd (mf_P_valueAt v9 x4 v11 s7) (fun v13 s12 => pw_ck v13 0 (if v13 = 0 then some ((-1 : Int), s12) else (pw_gr 9 x0 4 s12).bind (fun v14 => (pw_gr 1 v14 0 s12).bind (fun v15 => (pw_gr 9 x0 0 s12).bind (fun v16 => (pw_gi 7 v16 0 s12).bind (fun v17 => pw_bd (mf_P_valueAt v15 x4 v17 s12) (fun v19 s18 => (pw_gr 9 x0 0 s18).bind (fun v20 => (pw_gi 7 v20 0 s18).bind (fun v21 => pw_bd (mf_K_over v19 v13 v21 s18) (fun v23 s22 => some (v23, s22)))))))))))))))))))))
set_option maxHeartbeats 4000000 in
set_option maxRecDepth 20000 in
theorem sj_W_evaluate_18 {X : pw_X Int} (hX : pw_Ok X prog_1_method_19_code "PadeWorkbench" mr_W_evaluate 6) (hR : pw_RI X prog_1_method_19_code) (x0 : Nat) (σ : pw_Sto) : pw_Sp X 0 0 18 [(0, Value.ref x0)] [] σ (mj_W_evaluate_18 x0 σ) := by
  unfold mj_W_evaluate_18
  refine sp_aload_n (pc := 18) (k := 0) (i := 0) hX rfl 0 rfl md_W_evaluate_18 ?_
  refine sp_bipush (pc := 19) hX (by decide) md_W_evaluate_19 ?_
  refine sp_callVI (pc := 21) (y := my_W_fail) (ccy := prog_1_method_37_code) (nLy := 3) (ret := (some .int)) (rmy := mr_W_fail) (n := 1) (idx := 79) (As := [.int (iI (-2 : Int))]) (st := []) (o := x0) (cells' := 0) (slots' := 0) hX (fun _ h => mc_W_fail h) mk_W_fail mv_W_fail mcl_9 (fun _ h => pw_gd_of h) mq_325 ⟨(Nat.le_of_ble_eq_true rfl), (Nat.le_of_ble_eq_true rfl)⟩ rfl rfl (Nat.le_of_ble_eq_true rfl) ⟨(Nat.le_of_ble_eq_true rfl), (Nat.le_of_ble_eq_true rfl)⟩ rfl rfl md_W_evaluate_21 (fun v4 s3 => ?_)
  exact sp_iret (pc := 24) hX hR rfl (Nat.le_of_ble_eq_true rfl) md_W_evaluate_24
set_option maxHeartbeats 4000000 in
set_option maxRecDepth 20000 in
theorem mc_W_evaluate {l : Launch} {E : pw_E} {σ : pw_Sto} {x0 : Nat} {x1 : Int} {x2 : Int} {x3 : Int} {x4 : Int} {out : Int × pw_Sto} (h : mf_W_evaluate x0 x1 x2 x3 x4 σ = some out) : pw_CI l E my_W_evaluate prog_1_method_19_code 6 (some .int) mr_W_evaluate [.ref x0, .int (iI x1), .int (iI x2), .int (iI x3), .int (iI x4)] σ out := by
  unfold mf_W_evaluate at h
  refine pw_entryI (by decide) (Nat.le_of_ble_eq_true rfl) (pw_gd_val h) (fun X hX hR hI => ?_)
  change pw_Ok X prog_1_method_19_code "PadeWorkbench" mr_W_evaluate 6 at hX
  show pw_Sp X 0 0 0 [(0, Value.ref x0), (1, Value.int (iI x1)), (2, Value.int (iI x2)), (3, Value.int (iI x3)), (4, Value.int (iI x4))] [] σ _
  refine sp_iload_n (pc := 0) (k := 1) (i := 1) hX rfl 1 rfl md_W_evaluate_0 ?_
  refine sp_iload_n (pc := 1) (k := 2) (i := 2) hX rfl 2 rfl md_W_evaluate_1 ?_
  refine sp_iload_n (pc := 2) (k := 3) (i := 3) hX rfl 3 rfl md_W_evaluate_2 ?_
  refine sp_callSI (pc := 3) (y := my_W_isApproximant) (ccy := prog_1_method_41_code) (nLy := 3) (ret := (some .boolean)) (rmy := mr_W_isApproximant) (n := 3) (idx := 149) (As := [.int (iI x1), .int (iI x2), .int (iI x3)]) (st := []) (cells' := 0) (slots' := 0) hX (fun _ h => mc_W_isApproximant h) mk_W_isApproximant mq_482 mq_481 ⟨(Nat.le_of_ble_eq_true rfl), (Nat.le_of_ble_eq_true rfl)⟩ rfl rfl (Nat.le_of_ble_eq_true rfl) ⟨(Nat.le_of_ble_eq_true rfl), (Nat.le_of_ble_eq_true rfl)⟩ rfl rfl md_W_evaluate_3 (fun v2 s1 => ?_)
  refine sp_if_eq (pc := 6) hX 18 (by decide) md_W_evaluate_6 (fun _ => ?_) (fun _ => ?_)
  · refine sp_sub [0] (L' := [(0, Value.ref x0)]) rfl ?_
    exact sj_W_evaluate_18 hX hR x0 s1
  · refine sp_aload_n (pc := 9) (k := 0) (i := 0) hX rfl 0 rfl md_W_evaluate_9 ?_
    refine sp_iload (pc := 10) (i := 4) hX 4 rfl md_W_evaluate_10 ?_
    refine sp_callVI (pc := 12) (y := my_W_isElement) (ccy := prog_1_method_40_code) (nLy := 2) (ret := (some .boolean)) (rmy := mr_W_isElement) (n := 1) (idx := 101) (As := [.int (iI x4)]) (st := []) (o := x0) (cells' := 0) (slots' := 0) hX (fun _ h => mc_W_isElement h) mk_W_isElement mv_W_isElement mcl_9 (fun _ h => pw_gd_of h) mq_357 ⟨(Nat.le_of_ble_eq_true rfl), (Nat.le_of_ble_eq_true rfl)⟩ rfl rfl (Nat.le_of_ble_eq_true rfl) ⟨(Nat.le_of_ble_eq_true rfl), (Nat.le_of_ble_eq_true rfl)⟩ rfl rfl md_W_evaluate_12 (fun v6 s5 => ?_)
    refine sp_if_ne (pc := 15) hX 25 (by decide) md_W_evaluate_15 (fun _ => ?_) (fun _ => ?_)
    · refine sp_sub [0] (L' := [(0, Value.ref x0)]) rfl ?_
      exact sj_W_evaluate_18 hX hR x0 s5
    · refine sp_aload_n (pc := 25) (k := 0) (i := 0) hX rfl 0 rfl md_W_evaluate_25 ?_
      refine sp_iload_n (pc := 26) (k := 1) (i := 1) hX rfl 1 rfl md_W_evaluate_26 ?_
      refine sp_iload_n (pc := 27) (k := 2) (i := 2) hX rfl 2 rfl md_W_evaluate_27 ?_
      refine sp_iload_n (pc := 28) (k := 3) (i := 3) hX rfl 3 rfl md_W_evaluate_28 ?_
      refine sp_callVV (pc := 29) (y := my_W_approximate) (ccy := prog_1_method_47_code) (nLy := 4) (ret := none) (rmy := mr_W_approximate) (n := 3) (idx := 153) (As := [.int (iI x1), .int (iI x2), .int (iI x3)]) (st := []) (o := x0) (cells' := 0) (slots' := 0) hX (fun _ h => mc_W_approximate h) mk_W_approximate mv_W_approximate mcl_9 (fun _ h => pw_gd_of h) mq_484 ⟨(Nat.le_of_ble_eq_true rfl), (Nat.le_of_ble_eq_true rfl)⟩ rfl rfl (Nat.le_of_ble_eq_true rfl) ⟨(Nat.le_of_ble_eq_true rfl), (Nat.le_of_ble_eq_true rfl)⟩ rfl rfl md_W_evaluate_29 (fun s7 => ?_)
      refine sp_aload_n (pc := 32) (k := 0) (i := 0) hX rfl 0 rfl md_W_evaluate_32 ?_
      refine sp_getR (pc := 33) (ci := 9) (k := 4) (idx := 40) hX mcl_9 (by decide) mq_288 rfl md_W_evaluate_33 (fun v8 => ?_)
      refine sp_getRN (pc := 36) (ci := 1) (k := 1) (idx := 165) hX mcl_1 (by decide) mn_233 rfl md_W_evaluate_36 (fun v9 => ?_)
      refine sp_iload (pc := 39) (i := 4) hX 4 rfl md_W_evaluate_39 ?_
      refine sp_aload_n (pc := 41) (k := 0) (i := 0) hX rfl 0 rfl md_W_evaluate_41 ?_
      refine sp_getR (pc := 42) (ci := 9) (k := 0) (idx := 10) hX mcl_9 (by decide) mq_284 rfl md_W_evaluate_42 (fun v10 => ?_)
      refine sp_getIN (pc := 45) (ci := 7) (k := 0) (idx := 83) hX mcl_7 (by decide) mn_101 rfl md_W_evaluate_45 (fun v11 => ?_)
      refine sp_callVI (pc := 48) (y := my_P_valueAt) (ccy := prog_7_method_7_code) (nLy := 5) (ret := (some .int)) (rmy := mr_P_valueAt) (n := 2) (idx := 177) (As := [.int (iI x4), .int (iI v11)]) (st := []) (o := v9) (cells' := 0) (slots' := 0) hX (fun _ h => mc_P_valueAt h) mk_P_valueAt mv_P_valueAt mcl_4 (fun _ h => pw_gd_of h) mq_604 ⟨(Nat.le_of_ble_eq_true rfl), (Nat.le_of_ble_eq_true rfl)⟩ rfl rfl (Nat.le_of_ble_eq_true rfl) ⟨(Nat.le_of_ble_eq_true rfl), (Nat.le_of_ble_eq_true rfl)⟩ rfl rfl md_W_evaluate_48 (fun v13 s12 => ?_)
      refine sp_istore (pc := 51) (i := 5) (L' := [(5, Value.int (iI v13)), (0, Value.ref x0), (1, Value.int (iI x1)), (2, Value.int (iI x2)), (3, Value.int (iI x3)), (4, Value.int (iI x4))]) hX (by decide) rfl md_W_evaluate_51 ?_
      refine sp_iload (pc := 53) (i := 5) hX 0 rfl md_W_evaluate_53 ?_
      refine sp_if_ne (pc := 55) hX 60 (by decide) md_W_evaluate_55 (fun _ => ?_) (fun _ => ?_)
      · refine sp_iconst (pc := 58) hX md_W_evaluate_58 ?_
        exact sp_iret (pc := 59) hX hR rfl (Nat.le_of_ble_eq_true rfl) md_W_evaluate_59
      · refine sp_aload_n (pc := 60) (k := 0) (i := 0) hX rfl 1 rfl md_W_evaluate_60 ?_
        refine sp_getR (pc := 61) (ci := 9) (k := 4) (idx := 40) hX mcl_9 (by decide) mq_288 rfl md_W_evaluate_61 (fun v14 => ?_)
        refine sp_getRN (pc := 64) (ci := 1) (k := 0) (idx := 157) hX mcl_1 (by decide) mn_231 rfl md_W_evaluate_64 (fun v15 => ?_)
        refine sp_iload (pc := 67) (i := 4) hX 5 rfl md_W_evaluate_67 ?_
        refine sp_aload_n (pc := 69) (k := 0) (i := 0) hX rfl 1 rfl md_W_evaluate_69 ?_
        refine sp_getR (pc := 70) (ci := 9) (k := 0) (idx := 10) hX mcl_9 (by decide) mq_284 rfl md_W_evaluate_70 (fun v16 => ?_)
        refine sp_getIN (pc := 73) (ci := 7) (k := 0) (idx := 83) hX mcl_7 (by decide) mn_101 rfl md_W_evaluate_73 (fun v17 => ?_)
        refine sp_callVI (pc := 76) (y := my_P_valueAt) (ccy := prog_7_method_7_code) (nLy := 5) (ret := (some .int)) (rmy := mr_P_valueAt) (n := 2) (idx := 177) (As := [.int (iI x4), .int (iI v17)]) (st := []) (o := v15) (cells' := 0) (slots' := 0) hX (fun _ h => mc_P_valueAt h) mk_P_valueAt mv_P_valueAt mcl_4 (fun _ h => pw_gd_of h) mq_604 ⟨(Nat.le_of_ble_eq_true rfl), (Nat.le_of_ble_eq_true rfl)⟩ rfl rfl (Nat.le_of_ble_eq_true rfl) ⟨(Nat.le_of_ble_eq_true rfl), (Nat.le_of_ble_eq_true rfl)⟩ rfl rfl md_W_evaluate_76 (fun v19 s18 => ?_)
        refine sp_iload (pc := 79) (i := 5) hX 0 rfl md_W_evaluate_79 ?_
        refine sp_aload_n (pc := 81) (k := 0) (i := 0) hX rfl 1 rfl md_W_evaluate_81 ?_
        refine sp_getR (pc := 82) (ci := 9) (k := 0) (idx := 10) hX mcl_9 (by decide) mq_284 rfl md_W_evaluate_82 (fun v20 => ?_)
        refine sp_getIN (pc := 85) (ci := 7) (k := 0) (idx := 83) hX mcl_7 (by decide) mn_101 rfl md_W_evaluate_85 (fun v21 => ?_)
        refine sp_callSI (pc := 88) (y := my_K_over) (ccy := prog_3_method_6_code) (nLy := 3) (ret := (some .int)) (rmy := mr_K_over) (n := 3) (idx := 181) (As := [.int (iI v19), .int (iI v13), .int (iI v21)]) (st := []) (cells' := 0) (slots' := 0) hX (fun _ h => mc_K_over h) mk_K_over mq_606 mq_605 ⟨(Nat.le_of_ble_eq_true rfl), (Nat.le_of_ble_eq_true rfl)⟩ rfl rfl (Nat.le_of_ble_eq_true rfl) ⟨(Nat.le_of_ble_eq_true rfl), (Nat.le_of_ble_eq_true rfl)⟩ rfl rfl md_W_evaluate_88 (fun v23 s22 => ?_)
        exact sp_iret (pc := 91) hX hR rfl (Nat.le_of_ble_eq_true rfl) md_W_evaluate_91
/-! PadeWorkbench.normalCount(II)I -/
theorem md_W_normalCount_0 : decode prog_1_method_20_code 0 = .ok (.iload_n 1, 1) := by decide +kernel
theorem md_W_normalCount_1 : decode prog_1_method_20_code 1 = .ok (.invokestatic 95, 3) := by decide +kernel
theorem md_W_normalCount_4 : decode prog_1_method_20_code 4 = .ok (.ifCond .eq 10, 3) := by decide +kernel
theorem md_W_normalCount_14 : decode prog_1_method_20_code 14 = .ok (.aload_n 0, 1) := by decide +kernel
theorem md_W_normalCount_15 : decode prog_1_method_20_code 15 = .ok (.bipush (-2), 2) := by decide +kernel
theorem md_W_normalCount_17 : decode prog_1_method_20_code 17 = .ok (.invokevirtual 79, 3) := by decide +kernel
theorem md_W_normalCount_20 : decode prog_1_method_20_code 20 = .ok (.ireturn, 1) := by decide +kernel
theorem md_W_normalCount_7 : decode prog_1_method_20_code 7 = .ok (.iload_n 2, 1) := by decide +kernel
theorem md_W_normalCount_8 : decode prog_1_method_20_code 8 = .ok (.invokestatic 98, 3) := by decide +kernel
theorem md_W_normalCount_11 : decode prog_1_method_20_code 11 = .ok (.ifCond .ne 10, 3) := by decide +kernel
theorem md_W_normalCount_21 : decode prog_1_method_20_code 21 = .ok (.iconst 0, 1) := by decide +kernel
theorem md_W_normalCount_22 : decode prog_1_method_20_code 22 = .ok (.istore_n 3, 1) := by decide +kernel
theorem md_W_normalCount_23 : decode prog_1_method_20_code 23 = .ok (.iconst 0, 1) := by decide +kernel
theorem md_W_normalCount_24 : decode prog_1_method_20_code 24 = .ok (.istore 4, 2) := by decide +kernel
theorem md_W_normalCount_26 : decode prog_1_method_20_code 26 = .ok (.iload 4, 2) := by decide +kernel
theorem md_W_normalCount_28 : decode prog_1_method_20_code 28 = .ok (.iload_n 2, 1) := by decide +kernel
theorem md_W_normalCount_29 : decode prog_1_method_20_code 29 = .ok (.if_icmp .gt 56, 3) := by decide +kernel
theorem md_W_normalCount_85 : decode prog_1_method_20_code 85 = .ok (.iload_n 3, 1) := by decide +kernel
theorem md_W_normalCount_86 : decode prog_1_method_20_code 86 = .ok (.ireturn, 1) := by decide +kernel
theorem md_W_normalCount_32 : decode prog_1_method_20_code 32 = .ok (.aload_n 0, 1) := by decide +kernel
theorem md_W_normalCount_33 : decode prog_1_method_20_code 33 = .ok (.iload_n 1, 1) := by decide +kernel
theorem md_W_normalCount_34 : decode prog_1_method_20_code 34 = .ok (.iload 4, 2) := by decide +kernel
theorem md_W_normalCount_36 : decode prog_1_method_20_code 36 = .ok (.iload_n 2, 1) := by decide +kernel
theorem md_W_normalCount_37 : decode prog_1_method_20_code 37 = .ok (.iload 4, 2) := by decide +kernel
theorem md_W_normalCount_39 : decode prog_1_method_20_code 39 = .ok (.isub, 1) := by decide +kernel
theorem md_W_normalCount_40 : decode prog_1_method_20_code 40 = .ok (.invokevirtual 153, 3) := by decide +kernel
theorem md_W_normalCount_43 : decode prog_1_method_20_code 43 = .ok (.aload_n 0, 1) := by decide +kernel
theorem md_W_normalCount_44 : decode prog_1_method_20_code 44 = .ok (.getfield 40, 3) := by decide +kernel
theorem md_W_normalCount_47 : decode prog_1_method_20_code 47 = .ok (.aload_n 0, 1) := by decide +kernel
theorem md_W_normalCount_48 : decode prog_1_method_20_code 48 = .ok (.getfield 40, 3) := by decide +kernel
theorem md_W_normalCount_51 : decode prog_1_method_20_code 51 = .ok (.aload_n 0, 1) := by decide +kernel
theorem md_W_normalCount_52 : decode prog_1_method_20_code 52 = .ok (.getfield 10, 3) := by decide +kernel
theorem md_W_normalCount_55 : decode prog_1_method_20_code 55 = .ok (.getfield 104, 3) := by decide +kernel
theorem md_W_normalCount_58 : decode prog_1_method_20_code 58 = .ok (.iload_n 1, 1) := by decide +kernel
theorem md_W_normalCount_59 : decode prog_1_method_20_code 59 = .ok (.aaload, 1) := by decide +kernel
theorem md_W_normalCount_60 : decode prog_1_method_20_code 60 = .ok (.aload_n 0, 1) := by decide +kernel
theorem md_W_normalCount_61 : decode prog_1_method_20_code 61 = .ok (.getfield 10, 3) := by decide +kernel
theorem md_W_normalCount_64 : decode prog_1_method_20_code 64 = .ok (.getfield 83, 3) := by decide +kernel
theorem md_W_normalCount_67 : decode prog_1_method_20_code 67 = .ok (.invokevirtual 170, 3) := by decide +kernel
theorem md_W_normalCount_70 : decode prog_1_method_20_code 70 = .ok (.invokevirtual 174, 3) := by decide +kernel
theorem md_W_normalCount_73 : decode prog_1_method_20_code 73 = .ok (.ifCond .ne 6, 3) := by decide +kernel
theorem md_W_normalCount_79 : decode prog_1_method_20_code 79 = .ok (.iinc 4 1, 3) := by decide +kernel
theorem md_W_normalCount_82 : decode prog_1_method_20_code 82 = .ok (.goto (-56), 3) := by decide +kernel
theorem md_W_normalCount_76 : decode prog_1_method_20_code 76 = .ok (.iinc 3 1, 3) := by decide +kernel
def mj_W_normalCount_14 (x0 : Nat) (σ : pw_Sto) : Option (Int × pw_Sto) := pw_bd (mf_W_fail x0 (-2 : Int) σ) (fun v4 s3 => some (v4, s3))
def mb_W_normalCount_26 (rc : Nat → Int → Int → Int → Int → pw_Sto → Option (Int × pw_Sto)) : Nat → Int → Int → Int → Int → pw_Sto → Option (Int × pw_Sto) := fun x0 x1 x2 x3 x4 σ => pw_ck x4 x2 (if x2 < x4 then some (x3, σ) else pw_bd (mf_W_approximate x0 x1 x4 (x2 - x4) σ) (fun _ s7 => (pw_gr 9 x0 4 s7).bind (fun v8 => (pw_gr 9 x0 4 s7).bind (fun v9 => (pw_gr 9 x0 0 s7).bind (fun v10 => (pw_gr 7 v10 1 s7).bind (fun v11 => (pw_ar 13 v11 x1 s7).bind (fun v12 => (pw_gr 9 x0 0 s7).bind (fun v13 => (pw_gi 7 v13 0 s7).bind (fun v14 => pw_bd (mf_R_agreement v9 v12 v14 s7) (fun v16 s15 => pw_bd (mf_R_block v8 v16 s15) (fun v18 s17 => pw_ck v18 0 (if v18 = 0 then rc x0 x1 x2 (x3 + 1) (x4 + 1) s17 else rc x0 x1 x2 x3 (x4 + 1) s17))))))))))))
def ml_W_normalCount_26 : Nat → Nat → Int → Int → Int → Int → pw_Sto → Option (Int × pw_Sto) := pw_lp (fun _ _ _ _ _ _ => none) (mb_W_normalCount_26)
def mf_W_normalCount (x0 : Nat) (x1 : Int) (x2 : Int) (σ : pw_Sto) : Option (Int × pw_Sto) := pw_gd 9 x0 σ (pw_bd (mf_W_isSlot x1 σ) (fun v2 s1 => pw_ck v2 0 (if v2 = 0 then mj_W_normalCount_14 x0 s1 else pw_bd (mf_W_isTerm x2 s1) (fun v6 s5 => pw_ck v6 0 (if v6 = 0 then mj_W_normalCount_14 x0 s5 else ml_W_normalCount_26 1000 x0 x1 x2 (0 : Int) (0 : Int) s5)))))
set_option maxHeartbeats 4000000 in
set_option maxRecDepth 20000 in
theorem sj_W_normalCount_14 {X : pw_X Int} (hX : pw_Ok X prog_1_method_20_code "PadeWorkbench" mr_W_normalCount 5) (hR : pw_RI X prog_1_method_20_code) (x0 : Nat) (σ : pw_Sto) : pw_Sp X 0 0 14 [(0, Value.ref x0)] [] σ (mj_W_normalCount_14 x0 σ) := by
  unfold mj_W_normalCount_14
  refine sp_aload_n (pc := 14) (k := 0) (i := 0) hX rfl 0 rfl md_W_normalCount_14 ?_
  refine sp_bipush (pc := 15) hX (by decide) md_W_normalCount_15 ?_
  refine sp_callVI (pc := 17) (y := my_W_fail) (ccy := prog_1_method_37_code) (nLy := 3) (ret := (some .int)) (rmy := mr_W_fail) (n := 1) (idx := 79) (As := [.int (iI (-2 : Int))]) (st := []) (o := x0) (cells' := 0) (slots' := 0) hX (fun _ h => mc_W_fail h) mk_W_fail mv_W_fail mcl_9 (fun _ h => pw_gd_of h) mq_325 ⟨(Nat.le_of_ble_eq_true rfl), (Nat.le_of_ble_eq_true rfl)⟩ rfl rfl (Nat.le_of_ble_eq_true rfl) ⟨(Nat.le_of_ble_eq_true rfl), (Nat.le_of_ble_eq_true rfl)⟩ rfl rfl md_W_normalCount_17 (fun v4 s3 => ?_)
  exact sp_iret (pc := 20) hX hR rfl (Nat.le_of_ble_eq_true rfl) md_W_normalCount_20
set_option maxHeartbeats 4000000 in
set_option maxRecDepth 20000 in
theorem sl_W_normalCount_26 {X : pw_X Int} (hX : pw_Ok X prog_1_method_20_code "PadeWorkbench" mr_W_normalCount 5) (hR : pw_RI X prog_1_method_20_code) : ∀ (n : Nat) (x0 : Nat) (x1 : Int) (x2 : Int) (x3 : Int) (x4 : Int) (σ : pw_Sto), pw_Sp X 0 0 26 [(0, Value.ref x0), (1, Value.int (iI x1)), (2, Value.int (iI x2)), (3, Value.int (iI x3)), (4, Value.int (iI x4))] [] σ (ml_W_normalCount_26 n x0 x1 x2 x3 x4 σ) := by
  intro n
  induction n with
  | zero => intros; exact pw_none
  | succ n ih =>
    intro x0 x1 x2 x3 x4 σ
    show pw_Sp X 0 0 26 _ _ σ (mb_W_normalCount_26 (ml_W_normalCount_26 n) x0 x1 x2 x3 x4 σ)
    unfold mb_W_normalCount_26
    refine sp_iload (pc := 26) (i := 4) hX 4 rfl md_W_normalCount_26 ?_
    refine sp_iload_n (pc := 28) (k := 2) (i := 2) hX rfl 2 rfl md_W_normalCount_28 ?_
    refine sp_icmp_gt (pc := 29) hX 85 (by decide) md_W_normalCount_29 (fun _ => ?_) (fun _ => ?_)
    · refine sp_iload_n (pc := 85) (k := 3) (i := 3) hX rfl 3 rfl md_W_normalCount_85 ?_
      exact sp_iret (pc := 86) hX hR rfl (Nat.le_of_ble_eq_true rfl) md_W_normalCount_86
    · refine sp_aload_n (pc := 32) (k := 0) (i := 0) hX rfl 0 rfl md_W_normalCount_32 ?_
      refine sp_iload_n (pc := 33) (k := 1) (i := 1) hX rfl 1 rfl md_W_normalCount_33 ?_
      refine sp_iload (pc := 34) (i := 4) hX 4 rfl md_W_normalCount_34 ?_
      refine sp_iload_n (pc := 36) (k := 2) (i := 2) hX rfl 2 rfl md_W_normalCount_36 ?_
      refine sp_iload (pc := 37) (i := 4) hX 4 rfl md_W_normalCount_37 ?_
      refine sp_isub (pc := 39) hX md_W_normalCount_39 ?_
      refine sp_callVV (pc := 40) (y := my_W_approximate) (ccy := prog_1_method_47_code) (nLy := 4) (ret := none) (rmy := mr_W_approximate) (n := 3) (idx := 153) (As := [.int (iI x1), .int (iI x4), .int (iI (x2 - x4))]) (st := []) (o := x0) (cells' := 0) (slots' := 0) hX (fun _ h => mc_W_approximate h) mk_W_approximate mv_W_approximate mcl_9 (fun _ h => pw_gd_of h) mq_484 ⟨(Nat.le_of_ble_eq_true rfl), (Nat.le_of_ble_eq_true rfl)⟩ rfl rfl (Nat.le_of_ble_eq_true rfl) ⟨(Nat.le_of_ble_eq_true rfl), (Nat.le_of_ble_eq_true rfl)⟩ rfl rfl md_W_normalCount_40 (fun s7 => ?_)
      refine sp_aload_n (pc := 43) (k := 0) (i := 0) hX rfl 0 rfl md_W_normalCount_43 ?_
      refine sp_getR (pc := 44) (ci := 9) (k := 4) (idx := 40) hX mcl_9 (by decide) mq_288 rfl md_W_normalCount_44 (fun v8 => ?_)
      refine sp_aload_n (pc := 47) (k := 0) (i := 0) hX rfl 0 rfl md_W_normalCount_47 ?_
      refine sp_getR (pc := 48) (ci := 9) (k := 4) (idx := 40) hX mcl_9 (by decide) mq_288 rfl md_W_normalCount_48 (fun v9 => ?_)
      refine sp_aload_n (pc := 51) (k := 0) (i := 0) hX rfl 0 rfl md_W_normalCount_51 ?_
      refine sp_getR (pc := 52) (ci := 9) (k := 0) (idx := 10) hX mcl_9 (by decide) mq_284 rfl md_W_normalCount_52 (fun v10 => ?_)
      refine sp_getRN (pc := 55) (ci := 7) (k := 1) (idx := 104) hX mcl_7 (by decide) mn_104 rfl md_W_normalCount_55 (fun v11 => ?_)
      refine sp_iload_n (pc := 58) (k := 1) (i := 1) hX rfl 1 rfl md_W_normalCount_58 ?_
      refine sp_aaG (pc := 59) hX md_W_normalCount_59 (fun v12 => ?_)
      refine sp_aload_n (pc := 60) (k := 0) (i := 0) hX rfl 0 rfl md_W_normalCount_60 ?_
      refine sp_getR (pc := 61) (ci := 9) (k := 0) (idx := 10) hX mcl_9 (by decide) mq_284 rfl md_W_normalCount_61 (fun v13 => ?_)
      refine sp_getIN (pc := 64) (ci := 7) (k := 0) (idx := 83) hX mcl_7 (by decide) mn_101 rfl md_W_normalCount_64 (fun v14 => ?_)
      refine sp_callVI (pc := 67) (y := my_R_agreement) (ccy := prog_4_method_5_code) (nLy := 6) (ret := (some .int)) (rmy := mr_R_agreement) (n := 2) (idx := 170) (As := [.ref v12, .int (iI v14)]) (st := [.ref v8]) (o := v9) (cells' := 0) (slots' := 0) hX (fun _ h => mc_R_agreement h) mk_R_agreement mv_R_agreement mcl_1 (fun _ h => pw_gd_of h) mq_587 ⟨(Nat.le_of_ble_eq_true rfl), (Nat.le_of_ble_eq_true rfl)⟩ rfl rfl (Nat.le_of_ble_eq_true rfl) ⟨(Nat.le_of_ble_eq_true rfl), (Nat.le_of_ble_eq_true rfl)⟩ rfl rfl md_W_normalCount_67 (fun v16 s15 => ?_)
      refine sp_callVI (pc := 70) (y := my_R_block) (ccy := prog_4_method_6_code) (nLy := 2) (ret := (some .int)) (rmy := mr_R_block) (n := 1) (idx := 174) (As := [.int (iI v16)]) (st := []) (o := v8) (cells' := 0) (slots' := 0) hX (fun _ h => mc_R_block h) mk_R_block mv_R_block mcl_1 (fun _ h => pw_gd_of h) mq_596 ⟨(Nat.le_of_ble_eq_true rfl), (Nat.le_of_ble_eq_true rfl)⟩ rfl rfl (Nat.le_of_ble_eq_true rfl) ⟨(Nat.le_of_ble_eq_true rfl), (Nat.le_of_ble_eq_true rfl)⟩ rfl rfl md_W_normalCount_70 (fun v18 s17 => ?_)
      refine sp_if_ne (pc := 73) hX 79 (by decide) md_W_normalCount_73 (fun _ => ?_) (fun _ => ?_)
      · refine sp_iinc (pc := 76) (i := 3) (L' := [(3, Value.int (iI (x3 + 1))), (0, Value.ref x0), (1, Value.int (iI x1)), (2, Value.int (iI x2)), (4, Value.int (iI x4))]) hX 3 rfl (by decide) rfl md_W_normalCount_76 ?_
        refine sp_iinc (pc := 79) (i := 4) (L' := [(4, Value.int (iI (x4 + 1))), (3, Value.int (iI (x3 + 1))), (0, Value.ref x0), (1, Value.int (iI x1)), (2, Value.int (iI x2))]) hX 4 rfl (by decide) rfl md_W_normalCount_79 ?_
        refine sp_goto (pc := 82) hX 26 (by decide) md_W_normalCount_82 ?_
        refine sp_sub [2, 3, 4, 1, 0] (L' := [(0, Value.ref x0), (1, Value.int (iI x1)), (2, Value.int (iI x2)), (3, Value.int (iI (x3 + 1))), (4, Value.int (iI (x4 + 1)))]) rfl ?_
        exact ih x0 x1 x2 (x3 + 1) (x4 + 1) s17
      · refine sp_iinc (pc := 79) (i := 4) (L' := [(4, Value.int (iI (x4 + 1))), (0, Value.ref x0), (1, Value.int (iI x1)), (2, Value.int (iI x2)), (3, Value.int (iI x3))]) hX 4 rfl (by decide) rfl md_W_normalCount_79 ?_
        refine sp_goto (pc := 82) hX 26 (by decide) md_W_normalCount_82 ?_
        refine sp_sub [1, 2, 3, 4, 0] (L' := [(0, Value.ref x0), (1, Value.int (iI x1)), (2, Value.int (iI x2)), (3, Value.int (iI x3)), (4, Value.int (iI (x4 + 1)))]) rfl ?_
        exact ih x0 x1 x2 x3 (x4 + 1) s17
set_option maxHeartbeats 4000000 in
set_option maxRecDepth 20000 in
theorem mc_W_normalCount {l : Launch} {E : pw_E} {σ : pw_Sto} {x0 : Nat} {x1 : Int} {x2 : Int} {out : Int × pw_Sto} (h : mf_W_normalCount x0 x1 x2 σ = some out) : pw_CI l E my_W_normalCount prog_1_method_20_code 5 (some .int) mr_W_normalCount [.ref x0, .int (iI x1), .int (iI x2)] σ out := by
  unfold mf_W_normalCount at h
  refine pw_entryI (by decide) (Nat.le_of_ble_eq_true rfl) (pw_gd_val h) (fun X hX hR hI => ?_)
  change pw_Ok X prog_1_method_20_code "PadeWorkbench" mr_W_normalCount 5 at hX
  show pw_Sp X 0 0 0 [(0, Value.ref x0), (1, Value.int (iI x1)), (2, Value.int (iI x2))] [] σ _
  refine sp_iload_n (pc := 0) (k := 1) (i := 1) hX rfl 1 rfl md_W_normalCount_0 ?_
  refine sp_callSI (pc := 1) (y := my_W_isSlot) (ccy := prog_1_method_38_code) (nLy := 1) (ret := (some .boolean)) (rmy := mr_W_isSlot) (n := 1) (idx := 95) (As := [.int (iI x1)]) (st := []) (cells' := 0) (slots' := 0) hX (fun _ h => mc_W_isSlot h) mk_W_isSlot mq_352 mq_351 ⟨(Nat.le_of_ble_eq_true rfl), (Nat.le_of_ble_eq_true rfl)⟩ rfl rfl (Nat.le_of_ble_eq_true rfl) ⟨(Nat.le_of_ble_eq_true rfl), (Nat.le_of_ble_eq_true rfl)⟩ rfl rfl md_W_normalCount_1 (fun v2 s1 => ?_)
  refine sp_if_eq (pc := 4) hX 14 (by decide) md_W_normalCount_4 (fun _ => ?_) (fun _ => ?_)
  · refine sp_sub [0] (L' := [(0, Value.ref x0)]) rfl ?_
    exact sj_W_normalCount_14 hX hR x0 s1
  · refine sp_iload_n (pc := 7) (k := 2) (i := 2) hX rfl 2 rfl md_W_normalCount_7 ?_
    refine sp_callSI (pc := 8) (y := my_W_isTerm) (ccy := prog_1_method_39_code) (nLy := 1) (ret := (some .boolean)) (rmy := mr_W_isTerm) (n := 1) (idx := 98) (As := [.int (iI x2)]) (st := []) (cells' := 0) (slots' := 0) hX (fun _ h => mc_W_isTerm h) mk_W_isTerm mq_355 mq_354 ⟨(Nat.le_of_ble_eq_true rfl), (Nat.le_of_ble_eq_true rfl)⟩ rfl rfl (Nat.le_of_ble_eq_true rfl) ⟨(Nat.le_of_ble_eq_true rfl), (Nat.le_of_ble_eq_true rfl)⟩ rfl rfl md_W_normalCount_8 (fun v6 s5 => ?_)
    refine sp_if_ne (pc := 11) hX 21 (by decide) md_W_normalCount_11 (fun _ => ?_) (fun _ => ?_)
    · refine sp_sub [0] (L' := [(0, Value.ref x0)]) rfl ?_
      exact sj_W_normalCount_14 hX hR x0 s5
    · refine sp_iconst (pc := 21) hX md_W_normalCount_21 ?_
      refine sp_istore_n (pc := 22) (k := 3) (i := 3) (L' := [(3, Value.int (iI (0 : Int))), (0, Value.ref x0), (1, Value.int (iI x1)), (2, Value.int (iI x2))]) hX rfl (by decide) rfl md_W_normalCount_22 ?_
      refine sp_iconst (pc := 23) hX md_W_normalCount_23 ?_
      refine sp_istore (pc := 24) (i := 4) (L' := [(4, Value.int (iI (0 : Int))), (3, Value.int (iI (0 : Int))), (0, Value.ref x0), (1, Value.int (iI x1)), (2, Value.int (iI x2))]) hX (by decide) rfl md_W_normalCount_24 ?_
      refine sp_sub [2, 3, 4, 1, 0] (L' := [(0, Value.ref x0), (1, Value.int (iI x1)), (2, Value.int (iI x2)), (3, Value.int (iI (0 : Int))), (4, Value.int (iI (0 : Int)))]) rfl ?_
      exact sl_W_normalCount_26 hX hR 1000 x0 x1 x2 (0 : Int) (0 : Int) s5
/-! PadeWorkbench.determinant(III)I -/
theorem md_W_determinant_0 : decode prog_1_method_21_code 0 = .ok (.iload_n 1, 1) := by decide +kernel
theorem md_W_determinant_1 : decode prog_1_method_21_code 1 = .ok (.invokestatic 95, 3) := by decide +kernel
theorem md_W_determinant_4 : decode prog_1_method_21_code 4 = .ok (.ifCond .eq 25, 3) := by decide +kernel
theorem md_W_determinant_29 : decode prog_1_method_21_code 29 = .ok (.aload_n 0, 1) := by decide +kernel
theorem md_W_determinant_30 : decode prog_1_method_21_code 30 = .ok (.bipush (-2), 2) := by decide +kernel
theorem md_W_determinant_32 : decode prog_1_method_21_code 32 = .ok (.invokevirtual 79, 3) := by decide +kernel
theorem md_W_determinant_35 : decode prog_1_method_21_code 35 = .ok (.ireturn, 1) := by decide +kernel
theorem md_W_determinant_7 : decode prog_1_method_21_code 7 = .ok (.iload_n 2, 1) := by decide +kernel
theorem md_W_determinant_8 : decode prog_1_method_21_code 8 = .ok (.ifCond .lt 21, 3) := by decide +kernel
theorem md_W_determinant_11 : decode prog_1_method_21_code 11 = .ok (.iload_n 2, 1) := by decide +kernel
theorem md_W_determinant_12 : decode prog_1_method_21_code 12 = .ok (.bipush 16, 2) := by decide +kernel
theorem md_W_determinant_14 : decode prog_1_method_21_code 14 = .ok (.if_icmp .gt 15, 3) := by decide +kernel
theorem md_W_determinant_17 : decode prog_1_method_21_code 17 = .ok (.iload_n 3, 1) := by decide +kernel
theorem md_W_determinant_18 : decode prog_1_method_21_code 18 = .ok (.ifCond .lt 11, 3) := by decide +kernel
theorem md_W_determinant_21 : decode prog_1_method_21_code 21 = .ok (.iload_n 3, 1) := by decide +kernel
theorem md_W_determinant_22 : decode prog_1_method_21_code 22 = .ok (.bipush 16, 2) := by decide +kernel
theorem md_W_determinant_24 : decode prog_1_method_21_code 24 = .ok (.iload_n 2, 1) := by decide +kernel
theorem md_W_determinant_25 : decode prog_1_method_21_code 25 = .ok (.isub, 1) := by decide +kernel
theorem md_W_determinant_26 : decode prog_1_method_21_code 26 = .ok (.if_icmp .le 10, 3) := by decide +kernel
theorem md_W_determinant_36 : decode prog_1_method_21_code 36 = .ok (.aload_n 0, 1) := by decide +kernel
theorem md_W_determinant_37 : decode prog_1_method_21_code 37 = .ok (.getfield 47, 3) := by decide +kernel
theorem md_W_determinant_40 : decode prog_1_method_21_code 40 = .ok (.aload_n 0, 1) := by decide +kernel
theorem md_W_determinant_41 : decode prog_1_method_21_code 41 = .ok (.getfield 10, 3) := by decide +kernel
theorem md_W_determinant_44 : decode prog_1_method_21_code 44 = .ok (.getfield 104, 3) := by decide +kernel
theorem md_W_determinant_47 : decode prog_1_method_21_code 47 = .ok (.iload_n 1, 1) := by decide +kernel
theorem md_W_determinant_48 : decode prog_1_method_21_code 48 = .ok (.aaload, 1) := by decide +kernel
theorem md_W_determinant_49 : decode prog_1_method_21_code 49 = .ok (.iload_n 2, 1) := by decide +kernel
theorem md_W_determinant_50 : decode prog_1_method_21_code 50 = .ok (.iload_n 3, 1) := by decide +kernel
theorem md_W_determinant_51 : decode prog_1_method_21_code 51 = .ok (.aload_n 0, 1) := by decide +kernel
theorem md_W_determinant_52 : decode prog_1_method_21_code 52 = .ok (.getfield 10, 3) := by decide +kernel
theorem md_W_determinant_55 : decode prog_1_method_21_code 55 = .ok (.getfield 83, 3) := by decide +kernel
theorem md_W_determinant_58 : decode prog_1_method_21_code 58 = .ok (.invokevirtual 187, 3) := by decide +kernel
theorem md_W_determinant_61 : decode prog_1_method_21_code 61 = .ok (.ireturn, 1) := by decide +kernel
def mj_W_determinant_29 (x0 : Nat) (σ : pw_Sto) : Option (Int × pw_Sto) := pw_bd (mf_W_fail x0 (-2 : Int) σ) (fun v4 s3 => some (v4, s3))
def mf_W_determinant (x0 : Nat) (x1 : Int) (x2 : Int) (x3 : Int) (σ : pw_Sto) : Option (Int × pw_Sto) := pw_gd 9 x0 σ (pw_bd (mf_W_isSlot x1 σ) (fun v2 s1 => pw_ck v2 0 (if v2 = 0 then mj_W_determinant_29 x0 s1 else pw_ck x2 0 (if x2 < 0 then mj_W_determinant_29 x0 s1 else pw_ck x2 (16 : Int) (if (16 : Int) < x2 then mj_W_determinant_29 x0 s1 else pw_ck x3 0 (if x3 < 0 then mj_W_determinant_29 x0 s1 else pw_ck x3 ((16 : Int) - x2) (if x3 ≤ ((16 : Int) - x2) then (pw_gr 9 x0 5 s1).bind (fun v5 => (pw_gr 9 x0 0 s1).bind (fun v6 => (pw_gr 7 v6 1 s1).bind (fun v7 => (pw_ar 13 v7 x1 s1).bind (fun v8 => (pw_gr 9 x0 0 s1).bind (fun v9 => (pw_gi 7 v9 0 s1).bind (fun v10 => pw_bd (mf_D_valueOf v5 v8 x2 x3 v10 s1) (fun v12 s11 => some (v12, s11)))))))) else mj_W_determinant_29 x0 s1)))))))
set_option maxHeartbeats 4000000 in
set_option maxRecDepth 20000 in
theorem sj_W_determinant_29 {X : pw_X Int} (hX : pw_Ok X prog_1_method_21_code "PadeWorkbench" mr_W_determinant 4) (hR : pw_RI X prog_1_method_21_code) (x0 : Nat) (σ : pw_Sto) : pw_Sp X 0 0 29 [(0, Value.ref x0)] [] σ (mj_W_determinant_29 x0 σ) := by
  unfold mj_W_determinant_29
  refine sp_aload_n (pc := 29) (k := 0) (i := 0) hX rfl 0 rfl md_W_determinant_29 ?_
  refine sp_bipush (pc := 30) hX (by decide) md_W_determinant_30 ?_
  refine sp_callVI (pc := 32) (y := my_W_fail) (ccy := prog_1_method_37_code) (nLy := 3) (ret := (some .int)) (rmy := mr_W_fail) (n := 1) (idx := 79) (As := [.int (iI (-2 : Int))]) (st := []) (o := x0) (cells' := 0) (slots' := 0) hX (fun _ h => mc_W_fail h) mk_W_fail mv_W_fail mcl_9 (fun _ h => pw_gd_of h) mq_325 ⟨(Nat.le_of_ble_eq_true rfl), (Nat.le_of_ble_eq_true rfl)⟩ rfl rfl (Nat.le_of_ble_eq_true rfl) ⟨(Nat.le_of_ble_eq_true rfl), (Nat.le_of_ble_eq_true rfl)⟩ rfl rfl md_W_determinant_32 (fun v4 s3 => ?_)
  exact sp_iret (pc := 35) hX hR rfl (Nat.le_of_ble_eq_true rfl) md_W_determinant_35
set_option maxHeartbeats 4000000 in
set_option maxRecDepth 20000 in
theorem mc_W_determinant {l : Launch} {E : pw_E} {σ : pw_Sto} {x0 : Nat} {x1 : Int} {x2 : Int} {x3 : Int} {out : Int × pw_Sto} (h : mf_W_determinant x0 x1 x2 x3 σ = some out) : pw_CI l E my_W_determinant prog_1_method_21_code 4 (some .int) mr_W_determinant [.ref x0, .int (iI x1), .int (iI x2), .int (iI x3)] σ out := by
  unfold mf_W_determinant at h
  refine pw_entryI (by decide) (Nat.le_of_ble_eq_true rfl) (pw_gd_val h) (fun X hX hR hI => ?_)
  change pw_Ok X prog_1_method_21_code "PadeWorkbench" mr_W_determinant 4 at hX
  show pw_Sp X 0 0 0 [(0, Value.ref x0), (1, Value.int (iI x1)), (2, Value.int (iI x2)), (3, Value.int (iI x3))] [] σ _
  refine sp_iload_n (pc := 0) (k := 1) (i := 1) hX rfl 1 rfl md_W_determinant_0 ?_
  refine sp_callSI (pc := 1) (y := my_W_isSlot) (ccy := prog_1_method_38_code) (nLy := 1) (ret := (some .boolean)) (rmy := mr_W_isSlot) (n := 1) (idx := 95) (As := [.int (iI x1)]) (st := []) (cells' := 0) (slots' := 0) hX (fun _ h => mc_W_isSlot h) mk_W_isSlot mq_352 mq_351 ⟨(Nat.le_of_ble_eq_true rfl), (Nat.le_of_ble_eq_true rfl)⟩ rfl rfl (Nat.le_of_ble_eq_true rfl) ⟨(Nat.le_of_ble_eq_true rfl), (Nat.le_of_ble_eq_true rfl)⟩ rfl rfl md_W_determinant_1 (fun v2 s1 => ?_)
  refine sp_if_eq (pc := 4) hX 29 (by decide) md_W_determinant_4 (fun _ => ?_) (fun _ => ?_)
  · refine sp_sub [0] (L' := [(0, Value.ref x0)]) rfl ?_
    exact sj_W_determinant_29 hX hR x0 s1
  · refine sp_iload_n (pc := 7) (k := 2) (i := 2) hX rfl 2 rfl md_W_determinant_7 ?_
    refine sp_if_lt (pc := 8) hX 29 (by decide) md_W_determinant_8 (fun _ => ?_) (fun _ => ?_)
    · refine sp_sub [0] (L' := [(0, Value.ref x0)]) rfl ?_
      exact sj_W_determinant_29 hX hR x0 s1
    · refine sp_iload_n (pc := 11) (k := 2) (i := 2) hX rfl 2 rfl md_W_determinant_11 ?_
      refine sp_bipush (pc := 12) hX (by decide) md_W_determinant_12 ?_
      refine sp_icmp_gt (pc := 14) hX 29 (by decide) md_W_determinant_14 (fun _ => ?_) (fun _ => ?_)
      · refine sp_sub [0] (L' := [(0, Value.ref x0)]) rfl ?_
        exact sj_W_determinant_29 hX hR x0 s1
      · refine sp_iload_n (pc := 17) (k := 3) (i := 3) hX rfl 3 rfl md_W_determinant_17 ?_
        refine sp_if_lt (pc := 18) hX 29 (by decide) md_W_determinant_18 (fun _ => ?_) (fun _ => ?_)
        · refine sp_sub [0] (L' := [(0, Value.ref x0)]) rfl ?_
          exact sj_W_determinant_29 hX hR x0 s1
        · refine sp_iload_n (pc := 21) (k := 3) (i := 3) hX rfl 3 rfl md_W_determinant_21 ?_
          refine sp_bipush (pc := 22) hX (by decide) md_W_determinant_22 ?_
          refine sp_iload_n (pc := 24) (k := 2) (i := 2) hX rfl 2 rfl md_W_determinant_24 ?_
          refine sp_isub (pc := 25) hX md_W_determinant_25 ?_
          refine sp_icmp_le (pc := 26) hX 36 (by decide) md_W_determinant_26 (fun _ => ?_) (fun _ => ?_)
          · refine sp_aload_n (pc := 36) (k := 0) (i := 0) hX rfl 0 rfl md_W_determinant_36 ?_
            refine sp_getR (pc := 37) (ci := 9) (k := 5) (idx := 47) hX mcl_9 (by decide) mq_289 rfl md_W_determinant_37 (fun v5 => ?_)
            refine sp_aload_n (pc := 40) (k := 0) (i := 0) hX rfl 0 rfl md_W_determinant_40 ?_
            refine sp_getR (pc := 41) (ci := 9) (k := 0) (idx := 10) hX mcl_9 (by decide) mq_284 rfl md_W_determinant_41 (fun v6 => ?_)
            refine sp_getRN (pc := 44) (ci := 7) (k := 1) (idx := 104) hX mcl_7 (by decide) mn_104 rfl md_W_determinant_44 (fun v7 => ?_)
            refine sp_iload_n (pc := 47) (k := 1) (i := 1) hX rfl 1 rfl md_W_determinant_47 ?_
            refine sp_aaG (pc := 48) hX md_W_determinant_48 (fun v8 => ?_)
            refine sp_iload_n (pc := 49) (k := 2) (i := 2) hX rfl 2 rfl md_W_determinant_49 ?_
            refine sp_iload_n (pc := 50) (k := 3) (i := 3) hX rfl 3 rfl md_W_determinant_50 ?_
            refine sp_aload_n (pc := 51) (k := 0) (i := 0) hX rfl 0 rfl md_W_determinant_51 ?_
            refine sp_getR (pc := 52) (ci := 9) (k := 0) (idx := 10) hX mcl_9 (by decide) mq_284 rfl md_W_determinant_52 (fun v9 => ?_)
            refine sp_getIN (pc := 55) (ci := 7) (k := 0) (idx := 83) hX mcl_7 (by decide) mn_101 rfl md_W_determinant_55 (fun v10 => ?_)
            refine sp_callVI (pc := 58) (y := my_D_valueOf) (ccy := prog_12_method_2_code) (nLy := 8) (ret := (some .int)) (rmy := mr_D_valueOf) (n := 4) (idx := 187) (As := [.ref v8, .int (iI x2), .int (iI x3), .int (iI v10)]) (st := []) (o := v5) (cells' := 0) (slots' := 0) hX (fun _ h => mc_D_valueOf h) mk_D_valueOf mv_D_valueOf mcl_8 (fun _ h => pw_gd_of h) mq_618 ⟨(Nat.le_of_ble_eq_true rfl), (Nat.le_of_ble_eq_true rfl)⟩ rfl rfl (Nat.le_of_ble_eq_true rfl) ⟨(Nat.le_of_ble_eq_true rfl), (Nat.le_of_ble_eq_true rfl)⟩ rfl rfl md_W_determinant_58 (fun v12 s11 => ?_)
            exact sp_iret (pc := 61) hX hR rfl (Nat.le_of_ble_eq_true rfl) md_W_determinant_61
          · refine sp_sub [0] (L' := [(0, Value.ref x0)]) rfl ?_
            exact sj_W_determinant_29 hX hR x0 s1
/-! PadeWorkbench.isSchemePlace(III)Z -/
theorem md_W_isSchemePlace_0 : decode prog_1_method_42_code 0 = .ok (.iload_n 0, 1) := by decide +kernel
theorem md_W_isSchemePlace_1 : decode prog_1_method_42_code 1 = .ok (.ifCond .lt 23, 3) := by decide +kernel
theorem md_W_isSchemePlace_24 : decode prog_1_method_42_code 24 = .ok (.iconst 0, 1) := by decide +kernel
theorem md_W_isSchemePlace_25 : decode prog_1_method_42_code 25 = .ok (.ireturn, 1) := by decide +kernel
theorem md_W_isSchemePlace_4 : decode prog_1_method_42_code 4 = .ok (.iload_n 0, 1) := by decide +kernel
theorem md_W_isSchemePlace_5 : decode prog_1_method_42_code 5 = .ok (.iconst 1, 1) := by decide +kernel
theorem md_W_isSchemePlace_6 : decode prog_1_method_42_code 6 = .ok (.if_icmp .gt 18, 3) := by decide +kernel
theorem md_W_isSchemePlace_9 : decode prog_1_method_42_code 9 = .ok (.iload_n 1, 1) := by decide +kernel
theorem md_W_isSchemePlace_10 : decode prog_1_method_42_code 10 = .ok (.iconst 1, 1) := by decide +kernel
theorem md_W_isSchemePlace_11 : decode prog_1_method_42_code 11 = .ok (.if_icmp .lt 13, 3) := by decide +kernel
theorem md_W_isSchemePlace_14 : decode prog_1_method_42_code 14 = .ok (.iload_n 1, 1) := by decide +kernel
theorem md_W_isSchemePlace_15 : decode prog_1_method_42_code 15 = .ok (.bipush 8, 2) := by decide +kernel
theorem md_W_isSchemePlace_17 : decode prog_1_method_42_code 17 = .ok (.if_icmp .gt 7, 3) := by decide +kernel
theorem md_W_isSchemePlace_20 : decode prog_1_method_42_code 20 = .ok (.iload_n 2, 1) := by decide +kernel
theorem md_W_isSchemePlace_21 : decode prog_1_method_42_code 21 = .ok (.ifCond .ge 5, 3) := by decide +kernel
theorem md_W_isSchemePlace_26 : decode prog_1_method_42_code 26 = .ok (.iload_n 2, 1) := by decide +kernel
theorem md_W_isSchemePlace_27 : decode prog_1_method_42_code 27 = .ok (.bipush 16, 2) := by decide +kernel
theorem md_W_isSchemePlace_29 : decode prog_1_method_42_code 29 = .ok (.iconst 2, 1) := by decide +kernel
theorem md_W_isSchemePlace_30 : decode prog_1_method_42_code 30 = .ok (.iload_n 1, 1) := by decide +kernel
theorem md_W_isSchemePlace_31 : decode prog_1_method_42_code 31 = .ok (.imul, 1) := by decide +kernel
theorem md_W_isSchemePlace_32 : decode prog_1_method_42_code 32 = .ok (.isub, 1) := by decide +kernel
theorem md_W_isSchemePlace_33 : decode prog_1_method_42_code 33 = .ok (.iload_n 0, 1) := by decide +kernel
theorem md_W_isSchemePlace_34 : decode prog_1_method_42_code 34 = .ok (.isub, 1) := by decide +kernel
theorem md_W_isSchemePlace_35 : decode prog_1_method_42_code 35 = .ok (.if_icmp .gt 7, 3) := by decide +kernel
theorem md_W_isSchemePlace_42 : decode prog_1_method_42_code 42 = .ok (.iconst 0, 1) := by decide +kernel
theorem md_W_isSchemePlace_43 : decode prog_1_method_42_code 43 = .ok (.ireturn, 1) := by decide +kernel
theorem md_W_isSchemePlace_38 : decode prog_1_method_42_code 38 = .ok (.iconst 1, 1) := by decide +kernel
theorem md_W_isSchemePlace_39 : decode prog_1_method_42_code 39 = .ok (.goto 4, 3) := by decide +kernel
def mf_W_isSchemePlace (x0 : Int) (x1 : Int) (x2 : Int) (σ : pw_Sto) : Option (Int × pw_Sto) := pw_ck x0 0 (if x0 < 0 then some ((0 : Int), σ) else pw_ck x0 (1 : Int) (if (1 : Int) < x0 then some ((0 : Int), σ) else pw_ck x1 (1 : Int) (if x1 < (1 : Int) then some ((0 : Int), σ) else pw_ck x1 (8 : Int) (if (8 : Int) < x1 then some ((0 : Int), σ) else pw_ck x2 0 (if 0 ≤ x2 then pw_ck x2 (((16 : Int) - ((2 : Int) * x1)) - x0) (if (((16 : Int) - ((2 : Int) * x1)) - x0) < x2 then some ((0 : Int), σ) else some ((1 : Int), σ)) else some ((0 : Int), σ))))))
set_option maxHeartbeats 4000000 in
set_option maxRecDepth 20000 in
theorem mc_W_isSchemePlace {l : Launch} {E : pw_E} {σ : pw_Sto} {x0 : Int} {x1 : Int} {x2 : Int} {out : Int × pw_Sto} (h : mf_W_isSchemePlace x0 x1 x2 σ = some out) : pw_CI l E my_W_isSchemePlace prog_1_method_42_code 3 (some .boolean) mr_W_isSchemePlace [.int (iI x0), .int (iI x1), .int (iI x2)] σ out := by
  unfold mf_W_isSchemePlace at h
  refine pw_entryZ (by decide) (Nat.le_of_ble_eq_true rfl) h (fun X hX hR hI => ?_)
  change pw_Ok X prog_1_method_42_code "PadeWorkbench" mr_W_isSchemePlace 3 at hX
  show pw_Sp X 0 0 0 [(0, Value.int (iI x0)), (1, Value.int (iI x1)), (2, Value.int (iI x2))] [] σ _
  refine sp_iload_n (pc := 0) (k := 0) (i := 0) hX rfl 0 rfl md_W_isSchemePlace_0 ?_
  refine sp_if_lt (pc := 1) hX 24 (by decide) md_W_isSchemePlace_1 (fun _ => ?_) (fun _ => ?_)
  · refine sp_iconst (pc := 24) hX md_W_isSchemePlace_24 ?_
    exact sp_zret (pc := 25) hX hR (by decide) rfl (Nat.le_of_ble_eq_true rfl) md_W_isSchemePlace_25
  · refine sp_iload_n (pc := 4) (k := 0) (i := 0) hX rfl 0 rfl md_W_isSchemePlace_4 ?_
    refine sp_iconst (pc := 5) hX md_W_isSchemePlace_5 ?_
    refine sp_icmp_gt (pc := 6) hX 24 (by decide) md_W_isSchemePlace_6 (fun _ => ?_) (fun _ => ?_)
    · refine sp_iconst (pc := 24) hX md_W_isSchemePlace_24 ?_
      exact sp_zret (pc := 25) hX hR (by decide) rfl (Nat.le_of_ble_eq_true rfl) md_W_isSchemePlace_25
    · refine sp_iload_n (pc := 9) (k := 1) (i := 1) hX rfl 1 rfl md_W_isSchemePlace_9 ?_
      refine sp_iconst (pc := 10) hX md_W_isSchemePlace_10 ?_
      refine sp_icmp_lt (pc := 11) hX 24 (by decide) md_W_isSchemePlace_11 (fun _ => ?_) (fun _ => ?_)
      · refine sp_iconst (pc := 24) hX md_W_isSchemePlace_24 ?_
        exact sp_zret (pc := 25) hX hR (by decide) rfl (Nat.le_of_ble_eq_true rfl) md_W_isSchemePlace_25
      · refine sp_iload_n (pc := 14) (k := 1) (i := 1) hX rfl 1 rfl md_W_isSchemePlace_14 ?_
        refine sp_bipush (pc := 15) hX (by decide) md_W_isSchemePlace_15 ?_
        refine sp_icmp_gt (pc := 17) hX 24 (by decide) md_W_isSchemePlace_17 (fun _ => ?_) (fun _ => ?_)
        · refine sp_iconst (pc := 24) hX md_W_isSchemePlace_24 ?_
          exact sp_zret (pc := 25) hX hR (by decide) rfl (Nat.le_of_ble_eq_true rfl) md_W_isSchemePlace_25
        · refine sp_iload_n (pc := 20) (k := 2) (i := 2) hX rfl 2 rfl md_W_isSchemePlace_20 ?_
          refine sp_if_ge (pc := 21) hX 26 (by decide) md_W_isSchemePlace_21 (fun _ => ?_) (fun _ => ?_)
          · refine sp_iload_n (pc := 26) (k := 2) (i := 2) hX rfl 2 rfl md_W_isSchemePlace_26 ?_
            refine sp_bipush (pc := 27) hX (by decide) md_W_isSchemePlace_27 ?_
            refine sp_iconst (pc := 29) hX md_W_isSchemePlace_29 ?_
            refine sp_iload_n (pc := 30) (k := 1) (i := 1) hX rfl 1 rfl md_W_isSchemePlace_30 ?_
            refine sp_imul (pc := 31) hX md_W_isSchemePlace_31 ?_
            refine sp_isub (pc := 32) hX md_W_isSchemePlace_32 ?_
            refine sp_iload_n (pc := 33) (k := 0) (i := 0) hX rfl 0 rfl md_W_isSchemePlace_33 ?_
            refine sp_isub (pc := 34) hX md_W_isSchemePlace_34 ?_
            refine sp_icmp_gt (pc := 35) hX 42 (by decide) md_W_isSchemePlace_35 (fun _ => ?_) (fun _ => ?_)
            · refine sp_iconst (pc := 42) hX md_W_isSchemePlace_42 ?_
              exact sp_zret (pc := 43) hX hR (by decide) rfl (Nat.le_of_ble_eq_true rfl) md_W_isSchemePlace_43
            · refine sp_iconst (pc := 38) hX md_W_isSchemePlace_38 ?_
              refine sp_goto (pc := 39) hX 43 (by decide) md_W_isSchemePlace_39 ?_
              exact sp_zret (pc := 43) hX hR (by decide) rfl (Nat.le_of_ble_eq_true rfl) md_W_isSchemePlace_43
          · refine sp_iconst (pc := 24) hX md_W_isSchemePlace_24 ?_
            exact sp_zret (pc := 25) hX hR (by decide) rfl (Nat.le_of_ble_eq_true rfl) md_W_isSchemePlace_25
/-! PadeWorkbench.quotientDifference(IIII)I -/
theorem md_W_quotientDifference_0 : decode prog_1_method_22_code 0 = .ok (.iload_n 1, 1) := by decide +kernel
theorem md_W_quotientDifference_1 : decode prog_1_method_22_code 1 = .ok (.invokestatic 95, 3) := by decide +kernel
theorem md_W_quotientDifference_4 : decode prog_1_method_22_code 4 = .ok (.ifCond .eq 13, 3) := by decide +kernel
theorem md_W_quotientDifference_17 : decode prog_1_method_22_code 17 = .ok (.aload_n 0, 1) := by decide +kernel
theorem md_W_quotientDifference_18 : decode prog_1_method_22_code 18 = .ok (.bipush (-2), 2) := by decide +kernel
theorem md_W_quotientDifference_20 : decode prog_1_method_22_code 20 = .ok (.invokevirtual 79, 3) := by decide +kernel
theorem md_W_quotientDifference_23 : decode prog_1_method_22_code 23 = .ok (.ireturn, 1) := by decide +kernel
theorem md_W_quotientDifference_7 : decode prog_1_method_22_code 7 = .ok (.iload_n 2, 1) := by decide +kernel
theorem md_W_quotientDifference_8 : decode prog_1_method_22_code 8 = .ok (.iload_n 3, 1) := by decide +kernel
theorem md_W_quotientDifference_9 : decode prog_1_method_22_code 9 = .ok (.iload 4, 2) := by decide +kernel
theorem md_W_quotientDifference_11 : decode prog_1_method_22_code 11 = .ok (.invokestatic 191, 3) := by decide +kernel
theorem md_W_quotientDifference_14 : decode prog_1_method_22_code 14 = .ok (.ifCond .ne 10, 3) := by decide +kernel
theorem md_W_quotientDifference_24 : decode prog_1_method_22_code 24 = .ok (.aload_n 0, 1) := by decide +kernel
theorem md_W_quotientDifference_25 : decode prog_1_method_22_code 25 = .ok (.getfield 54, 3) := by decide +kernel
theorem md_W_quotientDifference_28 : decode prog_1_method_22_code 28 = .ok (.aload_n 0, 1) := by decide +kernel
theorem md_W_quotientDifference_29 : decode prog_1_method_22_code 29 = .ok (.getfield 10, 3) := by decide +kernel
theorem md_W_quotientDifference_32 : decode prog_1_method_22_code 32 = .ok (.getfield 104, 3) := by decide +kernel
theorem md_W_quotientDifference_35 : decode prog_1_method_22_code 35 = .ok (.iload_n 1, 1) := by decide +kernel
theorem md_W_quotientDifference_36 : decode prog_1_method_22_code 36 = .ok (.aaload, 1) := by decide +kernel
theorem md_W_quotientDifference_37 : decode prog_1_method_22_code 37 = .ok (.iload_n 2, 1) := by decide +kernel
theorem md_W_quotientDifference_38 : decode prog_1_method_22_code 38 = .ok (.iload_n 3, 1) := by decide +kernel
theorem md_W_quotientDifference_39 : decode prog_1_method_22_code 39 = .ok (.iload 4, 2) := by decide +kernel
theorem md_W_quotientDifference_41 : decode prog_1_method_22_code 41 = .ok (.aload_n 0, 1) := by decide +kernel
theorem md_W_quotientDifference_42 : decode prog_1_method_22_code 42 = .ok (.getfield 10, 3) := by decide +kernel
theorem md_W_quotientDifference_45 : decode prog_1_method_22_code 45 = .ok (.getfield 83, 3) := by decide +kernel
theorem md_W_quotientDifference_48 : decode prog_1_method_22_code 48 = .ok (.invokevirtual 194, 3) := by decide +kernel
theorem md_W_quotientDifference_51 : decode prog_1_method_22_code 51 = .ok (.ireturn, 1) := by decide +kernel
def mj_W_quotientDifference_17 (x0 : Nat) (σ : pw_Sto) : Option (Int × pw_Sto) := pw_bd (mf_W_fail x0 (-2 : Int) σ) (fun v4 s3 => some (v4, s3))
def mf_W_quotientDifference (x0 : Nat) (x1 : Int) (x2 : Int) (x3 : Int) (x4 : Int) (σ : pw_Sto) : Option (Int × pw_Sto) := pw_gd 9 x0 σ (pw_bd (mf_W_isSlot x1 σ) (fun v2 s1 => pw_ck v2 0 (if v2 = 0 then mj_W_quotientDifference_17 x0 s1 else pw_bd (mf_W_isSchemePlace x2 x3 x4 s1) (fun v6 s5 => pw_ck v6 0 (if v6 = 0 then mj_W_quotientDifference_17 x0 s5 else (pw_gr 9 x0 6 s5).bind (fun v7 => (pw_gr 9 x0 0 s5).bind (fun v8 => (pw_gr 7 v8 1 s5).bind (fun v9 => (pw_ar 13 v9 x1 s5).bind (fun v10 => (pw_gr 9 x0 0 s5).bind (fun v11 => (pw_gi 7 v11 0 s5).bind (fun v12 => pw_bd (mf_Q_number v7 v10 x2 x3 x4 v12 s5) (fun v14 s13 => some (v14, s13)))))))))))))
set_option maxHeartbeats 4000000 in
set_option maxRecDepth 20000 in
theorem sj_W_quotientDifference_17 {X : pw_X Int} (hX : pw_Ok X prog_1_method_22_code "PadeWorkbench" mr_W_quotientDifference 5) (hR : pw_RI X prog_1_method_22_code) (x0 : Nat) (σ : pw_Sto) : pw_Sp X 0 0 17 [(0, Value.ref x0)] [] σ (mj_W_quotientDifference_17 x0 σ) := by
  unfold mj_W_quotientDifference_17
  refine sp_aload_n (pc := 17) (k := 0) (i := 0) hX rfl 0 rfl md_W_quotientDifference_17 ?_
  refine sp_bipush (pc := 18) hX (by decide) md_W_quotientDifference_18 ?_
  refine sp_callVI (pc := 20) (y := my_W_fail) (ccy := prog_1_method_37_code) (nLy := 3) (ret := (some .int)) (rmy := mr_W_fail) (n := 1) (idx := 79) (As := [.int (iI (-2 : Int))]) (st := []) (o := x0) (cells' := 0) (slots' := 0) hX (fun _ h => mc_W_fail h) mk_W_fail mv_W_fail mcl_9 (fun _ h => pw_gd_of h) mq_325 ⟨(Nat.le_of_ble_eq_true rfl), (Nat.le_of_ble_eq_true rfl)⟩ rfl rfl (Nat.le_of_ble_eq_true rfl) ⟨(Nat.le_of_ble_eq_true rfl), (Nat.le_of_ble_eq_true rfl)⟩ rfl rfl md_W_quotientDifference_20 (fun v4 s3 => ?_)
  exact sp_iret (pc := 23) hX hR rfl (Nat.le_of_ble_eq_true rfl) md_W_quotientDifference_23
set_option maxHeartbeats 4000000 in
set_option maxRecDepth 20000 in
theorem mc_W_quotientDifference {l : Launch} {E : pw_E} {σ : pw_Sto} {x0 : Nat} {x1 : Int} {x2 : Int} {x3 : Int} {x4 : Int} {out : Int × pw_Sto} (h : mf_W_quotientDifference x0 x1 x2 x3 x4 σ = some out) : pw_CI l E my_W_quotientDifference prog_1_method_22_code 5 (some .int) mr_W_quotientDifference [.ref x0, .int (iI x1), .int (iI x2), .int (iI x3), .int (iI x4)] σ out := by
  unfold mf_W_quotientDifference at h
  refine pw_entryI (by decide) (Nat.le_of_ble_eq_true rfl) (pw_gd_val h) (fun X hX hR hI => ?_)
  change pw_Ok X prog_1_method_22_code "PadeWorkbench" mr_W_quotientDifference 5 at hX
  show pw_Sp X 0 0 0 [(0, Value.ref x0), (1, Value.int (iI x1)), (2, Value.int (iI x2)), (3, Value.int (iI x3)), (4, Value.int (iI x4))] [] σ _
  refine sp_iload_n (pc := 0) (k := 1) (i := 1) hX rfl 1 rfl md_W_quotientDifference_0 ?_
  refine sp_callSI (pc := 1) (y := my_W_isSlot) (ccy := prog_1_method_38_code) (nLy := 1) (ret := (some .boolean)) (rmy := mr_W_isSlot) (n := 1) (idx := 95) (As := [.int (iI x1)]) (st := []) (cells' := 0) (slots' := 0) hX (fun _ h => mc_W_isSlot h) mk_W_isSlot mq_352 mq_351 ⟨(Nat.le_of_ble_eq_true rfl), (Nat.le_of_ble_eq_true rfl)⟩ rfl rfl (Nat.le_of_ble_eq_true rfl) ⟨(Nat.le_of_ble_eq_true rfl), (Nat.le_of_ble_eq_true rfl)⟩ rfl rfl md_W_quotientDifference_1 (fun v2 s1 => ?_)
  refine sp_if_eq (pc := 4) hX 17 (by decide) md_W_quotientDifference_4 (fun _ => ?_) (fun _ => ?_)
  · refine sp_sub [0] (L' := [(0, Value.ref x0)]) rfl ?_
    exact sj_W_quotientDifference_17 hX hR x0 s1
  · refine sp_iload_n (pc := 7) (k := 2) (i := 2) hX rfl 2 rfl md_W_quotientDifference_7 ?_
    refine sp_iload_n (pc := 8) (k := 3) (i := 3) hX rfl 3 rfl md_W_quotientDifference_8 ?_
    refine sp_iload (pc := 9) (i := 4) hX 4 rfl md_W_quotientDifference_9 ?_
    refine sp_callSI (pc := 11) (y := my_W_isSchemePlace) (ccy := prog_1_method_42_code) (nLy := 3) (ret := (some .boolean)) (rmy := mr_W_isSchemePlace) (n := 3) (idx := 191) (As := [.int (iI x2), .int (iI x3), .int (iI x4)]) (st := []) (cells' := 0) (slots' := 0) hX (fun _ h => mc_W_isSchemePlace h) mk_W_isSchemePlace mq_648 mq_647 ⟨(Nat.le_of_ble_eq_true rfl), (Nat.le_of_ble_eq_true rfl)⟩ rfl rfl (Nat.le_of_ble_eq_true rfl) ⟨(Nat.le_of_ble_eq_true rfl), (Nat.le_of_ble_eq_true rfl)⟩ rfl rfl md_W_quotientDifference_11 (fun v6 s5 => ?_)
    refine sp_if_ne (pc := 14) hX 24 (by decide) md_W_quotientDifference_14 (fun _ => ?_) (fun _ => ?_)
    · refine sp_sub [0] (L' := [(0, Value.ref x0)]) rfl ?_
      exact sj_W_quotientDifference_17 hX hR x0 s5
    · refine sp_aload_n (pc := 24) (k := 0) (i := 0) hX rfl 0 rfl md_W_quotientDifference_24 ?_
      refine sp_getR (pc := 25) (ci := 9) (k := 6) (idx := 54) hX mcl_9 (by decide) mq_290 rfl md_W_quotientDifference_25 (fun v7 => ?_)
      refine sp_aload_n (pc := 28) (k := 0) (i := 0) hX rfl 0 rfl md_W_quotientDifference_28 ?_
      refine sp_getR (pc := 29) (ci := 9) (k := 0) (idx := 10) hX mcl_9 (by decide) mq_284 rfl md_W_quotientDifference_29 (fun v8 => ?_)
      refine sp_getRN (pc := 32) (ci := 7) (k := 1) (idx := 104) hX mcl_7 (by decide) mn_104 rfl md_W_quotientDifference_32 (fun v9 => ?_)
      refine sp_iload_n (pc := 35) (k := 1) (i := 1) hX rfl 1 rfl md_W_quotientDifference_35 ?_
      refine sp_aaG (pc := 36) hX md_W_quotientDifference_36 (fun v10 => ?_)
      refine sp_iload_n (pc := 37) (k := 2) (i := 2) hX rfl 2 rfl md_W_quotientDifference_37 ?_
      refine sp_iload_n (pc := 38) (k := 3) (i := 3) hX rfl 3 rfl md_W_quotientDifference_38 ?_
      refine sp_iload (pc := 39) (i := 4) hX 4 rfl md_W_quotientDifference_39 ?_
      refine sp_aload_n (pc := 41) (k := 0) (i := 0) hX rfl 0 rfl md_W_quotientDifference_41 ?_
      refine sp_getR (pc := 42) (ci := 9) (k := 0) (idx := 10) hX mcl_9 (by decide) mq_284 rfl md_W_quotientDifference_42 (fun v11 => ?_)
      refine sp_getIN (pc := 45) (ci := 7) (k := 0) (idx := 83) hX mcl_7 (by decide) mn_101 rfl md_W_quotientDifference_45 (fun v12 => ?_)
      refine sp_callVI (pc := 48) (y := my_Q_number) (ccy := prog_9_method_2_code) (nLy := 7) (ret := (some .int)) (rmy := mr_Q_number) (n := 5) (idx := 194) (As := [.ref v10, .int (iI x2), .int (iI x3), .int (iI x4), .int (iI v12)]) (st := []) (o := v7) (cells' := 0) (slots' := 0) hX (fun _ h => mc_Q_number h) mk_Q_number mv_Q_number mcl_6 (fun _ h => pw_gd_of h) mq_650 ⟨(Nat.le_of_ble_eq_true rfl), (Nat.le_of_ble_eq_true rfl)⟩ rfl rfl (Nat.le_of_ble_eq_true rfl) ⟨(Nat.le_of_ble_eq_true rfl), (Nat.le_of_ble_eq_true rfl)⟩ rfl rfl md_W_quotientDifference_48 (fun v14 s13 => ?_)
      exact sp_iret (pc := 51) hX hR rfl (Nat.le_of_ble_eq_true rfl) md_W_quotientDifference_51
/-! PadeWorkbench.quotientCount(II)I -/
theorem md_W_quotientCount_0 : decode prog_1_method_23_code 0 = .ok (.iload_n 1, 1) := by decide +kernel
theorem md_W_quotientCount_1 : decode prog_1_method_23_code 1 = .ok (.invokestatic 95, 3) := by decide +kernel
theorem md_W_quotientCount_4 : decode prog_1_method_23_code 4 = .ok (.ifCond .eq 10, 3) := by decide +kernel
theorem md_W_quotientCount_14 : decode prog_1_method_23_code 14 = .ok (.aload_n 0, 1) := by decide +kernel
theorem md_W_quotientCount_15 : decode prog_1_method_23_code 15 = .ok (.bipush (-2), 2) := by decide +kernel
theorem md_W_quotientCount_17 : decode prog_1_method_23_code 17 = .ok (.invokevirtual 79, 3) := by decide +kernel
theorem md_W_quotientCount_20 : decode prog_1_method_23_code 20 = .ok (.ireturn, 1) := by decide +kernel
theorem md_W_quotientCount_7 : decode prog_1_method_23_code 7 = .ok (.iload_n 2, 1) := by decide +kernel
theorem md_W_quotientCount_8 : decode prog_1_method_23_code 8 = .ok (.invokestatic 98, 3) := by decide +kernel
theorem md_W_quotientCount_11 : decode prog_1_method_23_code 11 = .ok (.ifCond .ne 10, 3) := by decide +kernel
theorem md_W_quotientCount_21 : decode prog_1_method_23_code 21 = .ok (.aload_n 0, 1) := by decide +kernel
theorem md_W_quotientCount_22 : decode prog_1_method_23_code 22 = .ok (.getfield 33, 3) := by decide +kernel
theorem md_W_quotientCount_25 : decode prog_1_method_23_code 25 = .ok (.aload_n 0, 1) := by decide +kernel
theorem md_W_quotientCount_26 : decode prog_1_method_23_code 26 = .ok (.getfield 10, 3) := by decide +kernel
theorem md_W_quotientCount_29 : decode prog_1_method_23_code 29 = .ok (.getfield 104, 3) := by decide +kernel
theorem md_W_quotientCount_32 : decode prog_1_method_23_code 32 = .ok (.iload_n 1, 1) := by decide +kernel
theorem md_W_quotientCount_33 : decode prog_1_method_23_code 33 = .ok (.aaload, 1) := by decide +kernel
theorem md_W_quotientCount_34 : decode prog_1_method_23_code 34 = .ok (.iload_n 2, 1) := by decide +kernel
theorem md_W_quotientCount_35 : decode prog_1_method_23_code 35 = .ok (.aload_n 0, 1) := by decide +kernel
theorem md_W_quotientCount_36 : decode prog_1_method_23_code 36 = .ok (.getfield 10, 3) := by decide +kernel
theorem md_W_quotientCount_39 : decode prog_1_method_23_code 39 = .ok (.getfield 83, 3) := by decide +kernel
theorem md_W_quotientCount_42 : decode prog_1_method_23_code 42 = .ok (.invokevirtual 198, 3) := by decide +kernel
theorem md_W_quotientCount_45 : decode prog_1_method_23_code 45 = .ok (.iconst 0, 1) := by decide +kernel
theorem md_W_quotientCount_46 : decode prog_1_method_23_code 46 = .ok (.istore_n 3, 1) := by decide +kernel
theorem md_W_quotientCount_47 : decode prog_1_method_23_code 47 = .ok (.iload_n 3, 1) := by decide +kernel
theorem md_W_quotientCount_48 : decode prog_1_method_23_code 48 = .ok (.bipush 17, 2) := by decide +kernel
theorem md_W_quotientCount_50 : decode prog_1_method_23_code 50 = .ok (.if_icmp .ge 29, 3) := by decide +kernel
theorem md_W_quotientCount_79 : decode prog_1_method_23_code 79 = .ok (.iload_n 3, 1) := by decide +kernel
theorem md_W_quotientCount_80 : decode prog_1_method_23_code 80 = .ok (.ireturn, 1) := by decide +kernel
theorem md_W_quotientCount_53 : decode prog_1_method_23_code 53 = .ok (.aload_n 0, 1) := by decide +kernel
theorem md_W_quotientCount_54 : decode prog_1_method_23_code 54 = .ok (.getfield 33, 3) := by decide +kernel
theorem md_W_quotientCount_57 : decode prog_1_method_23_code 57 = .ok (.getfield 202, 3) := by decide +kernel
theorem md_W_quotientCount_60 : decode prog_1_method_23_code 60 = .ok (.getfield 160, 3) := by decide +kernel
theorem md_W_quotientCount_63 : decode prog_1_method_23_code 63 = .ok (.ifCond .lt 16, 3) := by decide +kernel
theorem md_W_quotientCount_66 : decode prog_1_method_23_code 66 = .ok (.aload_n 0, 1) := by decide +kernel
theorem md_W_quotientCount_67 : decode prog_1_method_23_code 67 = .ok (.getfield 33, 3) := by decide +kernel
theorem md_W_quotientCount_70 : decode prog_1_method_23_code 70 = .ok (.invokevirtual 205, 3) := by decide +kernel
theorem md_W_quotientCount_73 : decode prog_1_method_23_code 73 = .ok (.iinc 3 1, 3) := by decide +kernel
theorem md_W_quotientCount_76 : decode prog_1_method_23_code 76 = .ok (.goto (-29), 3) := by decide +kernel
def mj_W_quotientCount_14 (x0 : Nat) (σ : pw_Sto) : Option (Int × pw_Sto) := pw_bd (mf_W_fail x0 (-2 : Int) σ) (fun v4 s3 => some (v4, s3))
def mb_W_quotientCount_47 (rc : Nat → Int → pw_Sto → Option (Int × pw_Sto)) : Nat → Int → pw_Sto → Option (Int × pw_Sto) := fun x0 x3 σ => pw_ck x3 (17 : Int) (if (17 : Int) ≤ x3 then some (x3, σ) else (pw_gr 9 x0 3 σ).bind (fun v14 => (pw_gr 0 v14 1 σ).bind (fun v15 => (pw_gi 4 v15 1 σ).bind (fun v16 => pw_ck v16 0 (if v16 < 0 then some (x3, σ) else (pw_gr 9 x0 3 σ).bind (fun v17 => pw_bd (mf_E_divide v17 σ) (fun _ s18 => rc x0 (x3 + 1) s18)))))))
def ml_W_quotientCount_47 : Nat → Nat → Int → pw_Sto → Option (Int × pw_Sto) := pw_lp (fun _ _ _ => none) (mb_W_quotientCount_47)
def mf_W_quotientCount (x0 : Nat) (x1 : Int) (x2 : Int) (σ : pw_Sto) : Option (Int × pw_Sto) := pw_gd 9 x0 σ (pw_bd (mf_W_isSlot x1 σ) (fun v2 s1 => pw_ck v2 0 (if v2 = 0 then mj_W_quotientCount_14 x0 s1 else pw_bd (mf_W_isTerm x2 s1) (fun v6 s5 => pw_ck v6 0 (if v6 = 0 then mj_W_quotientCount_14 x0 s5 else (pw_gr 9 x0 3 s5).bind (fun v7 => (pw_gr 9 x0 0 s5).bind (fun v8 => (pw_gr 7 v8 1 s5).bind (fun v9 => (pw_ar 13 v9 x1 s5).bind (fun v10 => (pw_gr 9 x0 0 s5).bind (fun v11 => (pw_gi 7 v11 0 s5).bind (fun v12 => pw_bd (mf_E_startWithSeries v7 v10 x2 v12 s5) (fun _ s13 => ml_W_quotientCount_47 1000 x0 (0 : Int) s13))))))))))))
set_option maxHeartbeats 4000000 in
set_option maxRecDepth 20000 in
theorem sj_W_quotientCount_14 {X : pw_X Int} (hX : pw_Ok X prog_1_method_23_code "PadeWorkbench" mr_W_quotientCount 4) (hR : pw_RI X prog_1_method_23_code) (x0 : Nat) (σ : pw_Sto) : pw_Sp X 0 0 14 [(0, Value.ref x0)] [] σ (mj_W_quotientCount_14 x0 σ) := by
  unfold mj_W_quotientCount_14
  refine sp_aload_n (pc := 14) (k := 0) (i := 0) hX rfl 0 rfl md_W_quotientCount_14 ?_
  refine sp_bipush (pc := 15) hX (by decide) md_W_quotientCount_15 ?_
  refine sp_callVI (pc := 17) (y := my_W_fail) (ccy := prog_1_method_37_code) (nLy := 3) (ret := (some .int)) (rmy := mr_W_fail) (n := 1) (idx := 79) (As := [.int (iI (-2 : Int))]) (st := []) (o := x0) (cells' := 0) (slots' := 0) hX (fun _ h => mc_W_fail h) mk_W_fail mv_W_fail mcl_9 (fun _ h => pw_gd_of h) mq_325 ⟨(Nat.le_of_ble_eq_true rfl), (Nat.le_of_ble_eq_true rfl)⟩ rfl rfl (Nat.le_of_ble_eq_true rfl) ⟨(Nat.le_of_ble_eq_true rfl), (Nat.le_of_ble_eq_true rfl)⟩ rfl rfl md_W_quotientCount_17 (fun v4 s3 => ?_)
  exact sp_iret (pc := 20) hX hR rfl (Nat.le_of_ble_eq_true rfl) md_W_quotientCount_20
set_option maxHeartbeats 4000000 in
set_option maxRecDepth 20000 in
theorem sl_W_quotientCount_47 {X : pw_X Int} (hX : pw_Ok X prog_1_method_23_code "PadeWorkbench" mr_W_quotientCount 4) (hR : pw_RI X prog_1_method_23_code) : ∀ (n : Nat) (x0 : Nat) (x3 : Int) (σ : pw_Sto), pw_Sp X 0 0 47 [(0, Value.ref x0), (3, Value.int (iI x3))] [] σ (ml_W_quotientCount_47 n x0 x3 σ) := by
  intro n
  induction n with
  | zero => intros; exact pw_none
  | succ n ih =>
    intro x0 x3 σ
    show pw_Sp X 0 0 47 _ _ σ (mb_W_quotientCount_47 (ml_W_quotientCount_47 n) x0 x3 σ)
    unfold mb_W_quotientCount_47
    refine sp_iload_n (pc := 47) (k := 3) (i := 3) hX rfl 1 rfl md_W_quotientCount_47 ?_
    refine sp_bipush (pc := 48) hX (by decide) md_W_quotientCount_48 ?_
    refine sp_icmp_ge (pc := 50) hX 79 (by decide) md_W_quotientCount_50 (fun _ => ?_) (fun _ => ?_)
    · refine sp_iload_n (pc := 79) (k := 3) (i := 3) hX rfl 1 rfl md_W_quotientCount_79 ?_
      exact sp_iret (pc := 80) hX hR rfl (Nat.le_of_ble_eq_true rfl) md_W_quotientCount_80
    · refine sp_aload_n (pc := 53) (k := 0) (i := 0) hX rfl 0 rfl md_W_quotientCount_53 ?_
      refine sp_getR (pc := 54) (ci := 9) (k := 3) (idx := 33) hX mcl_9 (by decide) mq_287 rfl md_W_quotientCount_54 (fun v14 => ?_)
      refine sp_getRN (pc := 57) (ci := 0) (k := 1) (idx := 202) hX mcl_0 (by decide) mn_202 rfl md_W_quotientCount_57 (fun v15 => ?_)
      refine sp_getIN (pc := 60) (ci := 4) (k := 1) (idx := 160) hX mcl_4 (by decide) mn_194 rfl md_W_quotientCount_60 (fun v16 => ?_)
      refine sp_if_lt (pc := 63) hX 79 (by decide) md_W_quotientCount_63 (fun _ => ?_) (fun _ => ?_)
      · refine sp_iload_n (pc := 79) (k := 3) (i := 3) hX rfl 1 rfl md_W_quotientCount_79 ?_
        exact sp_iret (pc := 80) hX hR rfl (Nat.le_of_ble_eq_true rfl) md_W_quotientCount_80
      · refine sp_aload_n (pc := 66) (k := 0) (i := 0) hX rfl 0 rfl md_W_quotientCount_66 ?_
        refine sp_getR (pc := 67) (ci := 9) (k := 3) (idx := 33) hX mcl_9 (by decide) mq_287 rfl md_W_quotientCount_67 (fun v17 => ?_)
        refine sp_callVV (pc := 70) (y := my_E_divide) (ccy := prog_2_method_6_code) (nLy := 4) (ret := none) (rmy := mr_E_divide) (n := 0) (idx := 205) (As := []) (st := []) (o := v17) (cells' := 0) (slots' := 0) hX (fun _ h => mc_E_divide h) mk_E_divide mv_E_divide mcl_0 (fun _ h => pw_gd_of h) mq_677 ⟨(Nat.le_of_ble_eq_true rfl), (Nat.le_of_ble_eq_true rfl)⟩ rfl rfl (Nat.le_of_ble_eq_true rfl) ⟨(Nat.le_of_ble_eq_true rfl), (Nat.le_of_ble_eq_true rfl)⟩ rfl rfl md_W_quotientCount_70 (fun s18 => ?_)
        refine sp_iinc (pc := 73) (i := 3) (L' := [(3, Value.int (iI (x3 + 1))), (0, Value.ref x0)]) hX 1 rfl (by decide) rfl md_W_quotientCount_73 ?_
        refine sp_goto (pc := 76) hX 47 (by decide) md_W_quotientCount_76 ?_
        refine sp_sub [1, 0] (L' := [(0, Value.ref x0), (3, Value.int (iI (x3 + 1)))]) rfl ?_
        exact ih x0 (x3 + 1) s18
set_option maxHeartbeats 4000000 in
set_option maxRecDepth 20000 in
theorem mc_W_quotientCount {l : Launch} {E : pw_E} {σ : pw_Sto} {x0 : Nat} {x1 : Int} {x2 : Int} {out : Int × pw_Sto} (h : mf_W_quotientCount x0 x1 x2 σ = some out) : pw_CI l E my_W_quotientCount prog_1_method_23_code 4 (some .int) mr_W_quotientCount [.ref x0, .int (iI x1), .int (iI x2)] σ out := by
  unfold mf_W_quotientCount at h
  refine pw_entryI (by decide) (Nat.le_of_ble_eq_true rfl) (pw_gd_val h) (fun X hX hR hI => ?_)
  change pw_Ok X prog_1_method_23_code "PadeWorkbench" mr_W_quotientCount 4 at hX
  show pw_Sp X 0 0 0 [(0, Value.ref x0), (1, Value.int (iI x1)), (2, Value.int (iI x2))] [] σ _
  refine sp_iload_n (pc := 0) (k := 1) (i := 1) hX rfl 1 rfl md_W_quotientCount_0 ?_
  refine sp_callSI (pc := 1) (y := my_W_isSlot) (ccy := prog_1_method_38_code) (nLy := 1) (ret := (some .boolean)) (rmy := mr_W_isSlot) (n := 1) (idx := 95) (As := [.int (iI x1)]) (st := []) (cells' := 0) (slots' := 0) hX (fun _ h => mc_W_isSlot h) mk_W_isSlot mq_352 mq_351 ⟨(Nat.le_of_ble_eq_true rfl), (Nat.le_of_ble_eq_true rfl)⟩ rfl rfl (Nat.le_of_ble_eq_true rfl) ⟨(Nat.le_of_ble_eq_true rfl), (Nat.le_of_ble_eq_true rfl)⟩ rfl rfl md_W_quotientCount_1 (fun v2 s1 => ?_)
  refine sp_if_eq (pc := 4) hX 14 (by decide) md_W_quotientCount_4 (fun _ => ?_) (fun _ => ?_)
  · refine sp_sub [0] (L' := [(0, Value.ref x0)]) rfl ?_
    exact sj_W_quotientCount_14 hX hR x0 s1
  · refine sp_iload_n (pc := 7) (k := 2) (i := 2) hX rfl 2 rfl md_W_quotientCount_7 ?_
    refine sp_callSI (pc := 8) (y := my_W_isTerm) (ccy := prog_1_method_39_code) (nLy := 1) (ret := (some .boolean)) (rmy := mr_W_isTerm) (n := 1) (idx := 98) (As := [.int (iI x2)]) (st := []) (cells' := 0) (slots' := 0) hX (fun _ h => mc_W_isTerm h) mk_W_isTerm mq_355 mq_354 ⟨(Nat.le_of_ble_eq_true rfl), (Nat.le_of_ble_eq_true rfl)⟩ rfl rfl (Nat.le_of_ble_eq_true rfl) ⟨(Nat.le_of_ble_eq_true rfl), (Nat.le_of_ble_eq_true rfl)⟩ rfl rfl md_W_quotientCount_8 (fun v6 s5 => ?_)
    refine sp_if_ne (pc := 11) hX 21 (by decide) md_W_quotientCount_11 (fun _ => ?_) (fun _ => ?_)
    · refine sp_sub [0] (L' := [(0, Value.ref x0)]) rfl ?_
      exact sj_W_quotientCount_14 hX hR x0 s5
    · refine sp_aload_n (pc := 21) (k := 0) (i := 0) hX rfl 0 rfl md_W_quotientCount_21 ?_
      refine sp_getR (pc := 22) (ci := 9) (k := 3) (idx := 33) hX mcl_9 (by decide) mq_287 rfl md_W_quotientCount_22 (fun v7 => ?_)
      refine sp_aload_n (pc := 25) (k := 0) (i := 0) hX rfl 0 rfl md_W_quotientCount_25 ?_
      refine sp_getR (pc := 26) (ci := 9) (k := 0) (idx := 10) hX mcl_9 (by decide) mq_284 rfl md_W_quotientCount_26 (fun v8 => ?_)
      refine sp_getRN (pc := 29) (ci := 7) (k := 1) (idx := 104) hX mcl_7 (by decide) mn_104 rfl md_W_quotientCount_29 (fun v9 => ?_)
      refine sp_iload_n (pc := 32) (k := 1) (i := 1) hX rfl 1 rfl md_W_quotientCount_32 ?_
      refine sp_aaG (pc := 33) hX md_W_quotientCount_33 (fun v10 => ?_)
      refine sp_iload_n (pc := 34) (k := 2) (i := 2) hX rfl 2 rfl md_W_quotientCount_34 ?_
      refine sp_aload_n (pc := 35) (k := 0) (i := 0) hX rfl 0 rfl md_W_quotientCount_35 ?_
      refine sp_getR (pc := 36) (ci := 9) (k := 0) (idx := 10) hX mcl_9 (by decide) mq_284 rfl md_W_quotientCount_36 (fun v11 => ?_)
      refine sp_getIN (pc := 39) (ci := 7) (k := 0) (idx := 83) hX mcl_7 (by decide) mn_101 rfl md_W_quotientCount_39 (fun v12 => ?_)
      refine sp_callVV (pc := 42) (y := my_E_startWithSeries) (ccy := prog_2_method_2_code) (nLy := 4) (ret := none) (rmy := mr_E_startWithSeries) (n := 3) (idx := 198) (As := [.ref v10, .int (iI x2), .int (iI v12)]) (st := []) (o := v7) (cells' := 0) (slots' := 0) hX (fun _ h => mc_E_startWithSeries h) mk_E_startWithSeries mv_E_startWithSeries mcl_0 (fun _ h => pw_gd_of h) mq_488 ⟨(Nat.le_of_ble_eq_true rfl), (Nat.le_of_ble_eq_true rfl)⟩ rfl rfl (Nat.le_of_ble_eq_true rfl) ⟨(Nat.le_of_ble_eq_true rfl), (Nat.le_of_ble_eq_true rfl)⟩ rfl rfl md_W_quotientCount_42 (fun s13 => ?_)
      refine sp_iconst (pc := 45) hX md_W_quotientCount_45 ?_
      refine sp_istore_n (pc := 46) (k := 3) (i := 3) (L' := [(3, Value.int (iI (0 : Int))), (0, Value.ref x0), (1, Value.int (iI x1)), (2, Value.int (iI x2))]) hX rfl (by decide) rfl md_W_quotientCount_46 ?_
      refine sp_sub [1, 0] (L' := [(0, Value.ref x0), (3, Value.int (iI (0 : Int)))]) rfl ?_
      exact sl_W_quotientCount_47 hX hR 1000 x0 (0 : Int) s13
/-! PadeWorkbench.quotient(IIII)I -/
theorem md_W_quotient_0 : decode prog_1_method_24_code 0 = .ok (.iload_n 1, 1) := by decide +kernel
theorem md_W_quotient_1 : decode prog_1_method_24_code 1 = .ok (.invokestatic 95, 3) := by decide +kernel
theorem md_W_quotient_4 : decode prog_1_method_24_code 4 = .ok (.ifCond .eq 26, 3) := by decide +kernel
theorem md_W_quotient_30 : decode prog_1_method_24_code 30 = .ok (.aload_n 0, 1) := by decide +kernel
theorem md_W_quotient_31 : decode prog_1_method_24_code 31 = .ok (.bipush (-2), 2) := by decide +kernel
theorem md_W_quotient_33 : decode prog_1_method_24_code 33 = .ok (.invokevirtual 79, 3) := by decide +kernel
theorem md_W_quotient_36 : decode prog_1_method_24_code 36 = .ok (.ireturn, 1) := by decide +kernel
theorem md_W_quotient_7 : decode prog_1_method_24_code 7 = .ok (.iload_n 2, 1) := by decide +kernel
theorem md_W_quotient_8 : decode prog_1_method_24_code 8 = .ok (.invokestatic 98, 3) := by decide +kernel
theorem md_W_quotient_11 : decode prog_1_method_24_code 11 = .ok (.ifCond .eq 19, 3) := by decide +kernel
theorem md_W_quotient_14 : decode prog_1_method_24_code 14 = .ok (.iload_n 3, 1) := by decide +kernel
theorem md_W_quotient_15 : decode prog_1_method_24_code 15 = .ok (.ifCond .lt 15, 3) := by decide +kernel
theorem md_W_quotient_18 : decode prog_1_method_24_code 18 = .ok (.iload 4, 2) := by decide +kernel
theorem md_W_quotient_20 : decode prog_1_method_24_code 20 = .ok (.ifCond .lt 10, 3) := by decide +kernel
theorem md_W_quotient_23 : decode prog_1_method_24_code 23 = .ok (.iload 4, 2) := by decide +kernel
theorem md_W_quotient_25 : decode prog_1_method_24_code 25 = .ok (.bipush 17, 2) := by decide +kernel
theorem md_W_quotient_27 : decode prog_1_method_24_code 27 = .ok (.if_icmp .lt 10, 3) := by decide +kernel
theorem md_W_quotient_37 : decode prog_1_method_24_code 37 = .ok (.iload_n 3, 1) := by decide +kernel
theorem md_W_quotient_38 : decode prog_1_method_24_code 38 = .ok (.bipush 17, 2) := by decide +kernel
theorem md_W_quotient_40 : decode prog_1_method_24_code 40 = .ok (.if_icmp .lt 5, 3) := by decide +kernel
theorem md_W_quotient_45 : decode prog_1_method_24_code 45 = .ok (.aload_n 0, 1) := by decide +kernel
theorem md_W_quotient_46 : decode prog_1_method_24_code 46 = .ok (.getfield 33, 3) := by decide +kernel
theorem md_W_quotient_49 : decode prog_1_method_24_code 49 = .ok (.aload_n 0, 1) := by decide +kernel
theorem md_W_quotient_50 : decode prog_1_method_24_code 50 = .ok (.getfield 10, 3) := by decide +kernel
theorem md_W_quotient_53 : decode prog_1_method_24_code 53 = .ok (.getfield 104, 3) := by decide +kernel
theorem md_W_quotient_56 : decode prog_1_method_24_code 56 = .ok (.iload_n 1, 1) := by decide +kernel
theorem md_W_quotient_57 : decode prog_1_method_24_code 57 = .ok (.aaload, 1) := by decide +kernel
theorem md_W_quotient_58 : decode prog_1_method_24_code 58 = .ok (.iload_n 2, 1) := by decide +kernel
theorem md_W_quotient_59 : decode prog_1_method_24_code 59 = .ok (.aload_n 0, 1) := by decide +kernel
theorem md_W_quotient_60 : decode prog_1_method_24_code 60 = .ok (.getfield 10, 3) := by decide +kernel
theorem md_W_quotient_63 : decode prog_1_method_24_code 63 = .ok (.getfield 83, 3) := by decide +kernel
theorem md_W_quotient_66 : decode prog_1_method_24_code 66 = .ok (.invokevirtual 198, 3) := by decide +kernel
theorem md_W_quotient_69 : decode prog_1_method_24_code 69 = .ok (.iconst 0, 1) := by decide +kernel
theorem md_W_quotient_70 : decode prog_1_method_24_code 70 = .ok (.istore 5, 2) := by decide +kernel
theorem md_W_quotient_72 : decode prog_1_method_24_code 72 = .ok (.iload 5, 2) := by decide +kernel
theorem md_W_quotient_74 : decode prog_1_method_24_code 74 = .ok (.iload_n 3, 1) := by decide +kernel
theorem md_W_quotient_75 : decode prog_1_method_24_code 75 = .ok (.if_icmp .gt 31, 3) := by decide +kernel
theorem md_W_quotient_106 : decode prog_1_method_24_code 106 = .ok (.aload_n 0, 1) := by decide +kernel
theorem md_W_quotient_107 : decode prog_1_method_24_code 107 = .ok (.getfield 33, 3) := by decide +kernel
theorem md_W_quotient_110 : decode prog_1_method_24_code 110 = .ok (.getfield 208, 3) := by decide +kernel
theorem md_W_quotient_113 : decode prog_1_method_24_code 113 = .ok (.getfield 167, 3) := by decide +kernel
theorem md_W_quotient_116 : decode prog_1_method_24_code 116 = .ok (.iload 4, 2) := by decide +kernel
theorem md_W_quotient_118 : decode prog_1_method_24_code 118 = .ok (.iaload, 1) := by decide +kernel
theorem md_W_quotient_119 : decode prog_1_method_24_code 119 = .ok (.ireturn, 1) := by decide +kernel
theorem md_W_quotient_78 : decode prog_1_method_24_code 78 = .ok (.aload_n 0, 1) := by decide +kernel
theorem md_W_quotient_79 : decode prog_1_method_24_code 79 = .ok (.getfield 33, 3) := by decide +kernel
theorem md_W_quotient_82 : decode prog_1_method_24_code 82 = .ok (.getfield 202, 3) := by decide +kernel
theorem md_W_quotient_85 : decode prog_1_method_24_code 85 = .ok (.getfield 160, 3) := by decide +kernel
theorem md_W_quotient_88 : decode prog_1_method_24_code 88 = .ok (.ifCond .ge 5, 3) := by decide +kernel
theorem md_W_quotient_93 : decode prog_1_method_24_code 93 = .ok (.aload_n 0, 1) := by decide +kernel
theorem md_W_quotient_94 : decode prog_1_method_24_code 94 = .ok (.getfield 33, 3) := by decide +kernel
theorem md_W_quotient_97 : decode prog_1_method_24_code 97 = .ok (.invokevirtual 205, 3) := by decide +kernel
theorem md_W_quotient_100 : decode prog_1_method_24_code 100 = .ok (.iinc 5 1, 3) := by decide +kernel
theorem md_W_quotient_103 : decode prog_1_method_24_code 103 = .ok (.goto (-31), 3) := by decide +kernel
theorem md_W_quotient_91 : decode prog_1_method_24_code 91 = .ok (.iconst (-1), 1) := by decide +kernel
theorem md_W_quotient_92 : decode prog_1_method_24_code 92 = .ok (.ireturn, 1) := by decide +kernel
theorem md_W_quotient_43 : decode prog_1_method_24_code 43 = .ok (.iconst (-1), 1) := by decide +kernel
theorem md_W_quotient_44 : decode prog_1_method_24_code 44 = .ok (.ireturn, 1) := by decide +kernel
def mj_W_quotient_30 (x0 : Nat) (σ : pw_Sto) : Option (Int × pw_Sto) := pw_bd (mf_W_fail x0 (-2 : Int) σ) (fun v4 s3 => some (v4, s3))
def mb_W_quotient_72 (rc : Nat → Int → Int → Int → pw_Sto → Option (Int × pw_Sto)) : Nat → Int → Int → Int → pw_Sto → Option (Int × pw_Sto) := fun x0 x3 x4 x5 σ => pw_ck x5 x3 (if x3 < x5 then (pw_gr 9 x0 3 σ).bind (fun v14 => (pw_gr 0 v14 4 σ).bind (fun v15 => (pw_gr 4 v15 0 σ).bind (fun v16 => (pw_ai v16 x4 σ).bind (fun v17 => some (v17, σ))))) else (pw_gr 9 x0 3 σ).bind (fun v18 => (pw_gr 0 v18 1 σ).bind (fun v19 => (pw_gi 4 v19 1 σ).bind (fun v20 => pw_ck v20 0 (if 0 ≤ v20 then (pw_gr 9 x0 3 σ).bind (fun v21 => pw_bd (mf_E_divide v21 σ) (fun _ s22 => rc x0 x3 x4 (x5 + 1) s22)) else some ((-1 : Int), σ))))))
def ml_W_quotient_72 : Nat → Nat → Int → Int → Int → pw_Sto → Option (Int × pw_Sto) := pw_lp (fun _ _ _ _ _ => none) (mb_W_quotient_72)
def mf_W_quotient (x0 : Nat) (x1 : Int) (x2 : Int) (x3 : Int) (x4 : Int) (σ : pw_Sto) : Option (Int × pw_Sto) := pw_gd 9 x0 σ (pw_bd (mf_W_isSlot x1 σ) (fun v2 s1 => pw_ck v2 0 (if v2 = 0 then mj_W_quotient_30 x0 s1 else pw_bd (mf_W_isTerm x2 s1) (fun v6 s5 => pw_ck v6 0 (if v6 = 0 then mj_W_quotient_30 x0 s5 else pw_ck x3 0 (if x3 < 0 then mj_W_quotient_30 x0 s5 else pw_ck x4 0 (if x4 < 0 then mj_W_quotient_30 x0 s5 else pw_ck x4 (17 : Int) (if x4 < (17 : Int) then pw_ck x3 (17 : Int) (if x3 < (17 : Int) then (pw_gr 9 x0 3 s5).bind (fun v7 => (pw_gr 9 x0 0 s5).bind (fun v8 => (pw_gr 7 v8 1 s5).bind (fun v9 => (pw_ar 13 v9 x1 s5).bind (fun v10 => (pw_gr 9 x0 0 s5).bind (fun v11 => (pw_gi 7 v11 0 s5).bind (fun v12 => pw_bd (mf_E_startWithSeries v7 v10 x2 v12 s5) (fun _ s13 => ml_W_quotient_72 1000 x0 x3 x4 (0 : Int) s13))))))) else some ((-1 : Int), s5)) else mj_W_quotient_30 x0 s5))))))))
set_option maxHeartbeats 4000000 in
set_option maxRecDepth 20000 in
theorem sj_W_quotient_30 {X : pw_X Int} (hX : pw_Ok X prog_1_method_24_code "PadeWorkbench" mr_W_quotient 6) (hR : pw_RI X prog_1_method_24_code) (x0 : Nat) (σ : pw_Sto) : pw_Sp X 0 0 30 [(0, Value.ref x0)] [] σ (mj_W_quotient_30 x0 σ) := by
  unfold mj_W_quotient_30
  refine sp_aload_n (pc := 30) (k := 0) (i := 0) hX rfl 0 rfl md_W_quotient_30 ?_
  refine sp_bipush (pc := 31) hX (by decide) md_W_quotient_31 ?_
  refine sp_callVI (pc := 33) (y := my_W_fail) (ccy := prog_1_method_37_code) (nLy := 3) (ret := (some .int)) (rmy := mr_W_fail) (n := 1) (idx := 79) (As := [.int (iI (-2 : Int))]) (st := []) (o := x0) (cells' := 0) (slots' := 0) hX (fun _ h => mc_W_fail h) mk_W_fail mv_W_fail mcl_9 (fun _ h => pw_gd_of h) mq_325 ⟨(Nat.le_of_ble_eq_true rfl), (Nat.le_of_ble_eq_true rfl)⟩ rfl rfl (Nat.le_of_ble_eq_true rfl) ⟨(Nat.le_of_ble_eq_true rfl), (Nat.le_of_ble_eq_true rfl)⟩ rfl rfl md_W_quotient_33 (fun v4 s3 => ?_)
  exact sp_iret (pc := 36) hX hR rfl (Nat.le_of_ble_eq_true rfl) md_W_quotient_36
set_option maxHeartbeats 4000000 in
set_option maxRecDepth 20000 in
theorem sl_W_quotient_72 {X : pw_X Int} (hX : pw_Ok X prog_1_method_24_code "PadeWorkbench" mr_W_quotient 6) (hR : pw_RI X prog_1_method_24_code) : ∀ (n : Nat) (x0 : Nat) (x3 : Int) (x4 : Int) (x5 : Int) (σ : pw_Sto), pw_Sp X 0 0 72 [(0, Value.ref x0), (3, Value.int (iI x3)), (4, Value.int (iI x4)), (5, Value.int (iI x5))] [] σ (ml_W_quotient_72 n x0 x3 x4 x5 σ) := by
  intro n
  induction n with
  | zero => intros; exact pw_none
  | succ n ih =>
    intro x0 x3 x4 x5 σ
    show pw_Sp X 0 0 72 _ _ σ (mb_W_quotient_72 (ml_W_quotient_72 n) x0 x3 x4 x5 σ)
    unfold mb_W_quotient_72
    refine sp_iload (pc := 72) (i := 5) hX 3 rfl md_W_quotient_72 ?_
    refine sp_iload_n (pc := 74) (k := 3) (i := 3) hX rfl 1 rfl md_W_quotient_74 ?_
    refine sp_icmp_gt (pc := 75) hX 106 (by decide) md_W_quotient_75 (fun _ => ?_) (fun _ => ?_)
    · refine sp_aload_n (pc := 106) (k := 0) (i := 0) hX rfl 0 rfl md_W_quotient_106 ?_
      refine sp_getR (pc := 107) (ci := 9) (k := 3) (idx := 33) hX mcl_9 (by decide) mq_287 rfl md_W_quotient_107 (fun v14 => ?_)
      refine sp_getRN (pc := 110) (ci := 0) (k := 4) (idx := 208) hX mcl_0 (by decide) mn_207 rfl md_W_quotient_110 (fun v15 => ?_)
      refine sp_getRN (pc := 113) (ci := 4) (k := 0) (idx := 167) hX mcl_4 (by decide) mn_190 rfl md_W_quotient_113 (fun v16 => ?_)
      refine sp_iload (pc := 116) (i := 4) hX 2 rfl md_W_quotient_116 ?_
      refine sp_iaload (pc := 118) hX md_W_quotient_118 (fun v17 => ?_)
      exact sp_iret (pc := 119) hX hR rfl (Nat.le_of_ble_eq_true rfl) md_W_quotient_119
    · refine sp_aload_n (pc := 78) (k := 0) (i := 0) hX rfl 0 rfl md_W_quotient_78 ?_
      refine sp_getR (pc := 79) (ci := 9) (k := 3) (idx := 33) hX mcl_9 (by decide) mq_287 rfl md_W_quotient_79 (fun v18 => ?_)
      refine sp_getRN (pc := 82) (ci := 0) (k := 1) (idx := 202) hX mcl_0 (by decide) mn_202 rfl md_W_quotient_82 (fun v19 => ?_)
      refine sp_getIN (pc := 85) (ci := 4) (k := 1) (idx := 160) hX mcl_4 (by decide) mn_194 rfl md_W_quotient_85 (fun v20 => ?_)
      refine sp_if_ge (pc := 88) hX 93 (by decide) md_W_quotient_88 (fun _ => ?_) (fun _ => ?_)
      · refine sp_aload_n (pc := 93) (k := 0) (i := 0) hX rfl 0 rfl md_W_quotient_93 ?_
        refine sp_getR (pc := 94) (ci := 9) (k := 3) (idx := 33) hX mcl_9 (by decide) mq_287 rfl md_W_quotient_94 (fun v21 => ?_)
        refine sp_callVV (pc := 97) (y := my_E_divide) (ccy := prog_2_method_6_code) (nLy := 4) (ret := none) (rmy := mr_E_divide) (n := 0) (idx := 205) (As := []) (st := []) (o := v21) (cells' := 0) (slots' := 0) hX (fun _ h => mc_E_divide h) mk_E_divide mv_E_divide mcl_0 (fun _ h => pw_gd_of h) mq_677 ⟨(Nat.le_of_ble_eq_true rfl), (Nat.le_of_ble_eq_true rfl)⟩ rfl rfl (Nat.le_of_ble_eq_true rfl) ⟨(Nat.le_of_ble_eq_true rfl), (Nat.le_of_ble_eq_true rfl)⟩ rfl rfl md_W_quotient_97 (fun s22 => ?_)
        refine sp_iinc (pc := 100) (i := 5) (L' := [(5, Value.int (iI (x5 + 1))), (0, Value.ref x0), (3, Value.int (iI x3)), (4, Value.int (iI x4))]) hX 3 rfl (by decide) rfl md_W_quotient_100 ?_
        refine sp_goto (pc := 103) hX 72 (by decide) md_W_quotient_103 ?_
        refine sp_sub [1, 2, 3, 0] (L' := [(0, Value.ref x0), (3, Value.int (iI x3)), (4, Value.int (iI x4)), (5, Value.int (iI (x5 + 1)))]) rfl ?_
        exact ih x0 x3 x4 (x5 + 1) s22
      · refine sp_iconst (pc := 91) hX md_W_quotient_91 ?_
        exact sp_iret (pc := 92) hX hR rfl (Nat.le_of_ble_eq_true rfl) md_W_quotient_92
set_option maxHeartbeats 4000000 in
set_option maxRecDepth 20000 in
theorem mc_W_quotient {l : Launch} {E : pw_E} {σ : pw_Sto} {x0 : Nat} {x1 : Int} {x2 : Int} {x3 : Int} {x4 : Int} {out : Int × pw_Sto} (h : mf_W_quotient x0 x1 x2 x3 x4 σ = some out) : pw_CI l E my_W_quotient prog_1_method_24_code 6 (some .int) mr_W_quotient [.ref x0, .int (iI x1), .int (iI x2), .int (iI x3), .int (iI x4)] σ out := by
  unfold mf_W_quotient at h
  refine pw_entryI (by decide) (Nat.le_of_ble_eq_true rfl) (pw_gd_val h) (fun X hX hR hI => ?_)
  change pw_Ok X prog_1_method_24_code "PadeWorkbench" mr_W_quotient 6 at hX
  show pw_Sp X 0 0 0 [(0, Value.ref x0), (1, Value.int (iI x1)), (2, Value.int (iI x2)), (3, Value.int (iI x3)), (4, Value.int (iI x4))] [] σ _
  refine sp_iload_n (pc := 0) (k := 1) (i := 1) hX rfl 1 rfl md_W_quotient_0 ?_
  refine sp_callSI (pc := 1) (y := my_W_isSlot) (ccy := prog_1_method_38_code) (nLy := 1) (ret := (some .boolean)) (rmy := mr_W_isSlot) (n := 1) (idx := 95) (As := [.int (iI x1)]) (st := []) (cells' := 0) (slots' := 0) hX (fun _ h => mc_W_isSlot h) mk_W_isSlot mq_352 mq_351 ⟨(Nat.le_of_ble_eq_true rfl), (Nat.le_of_ble_eq_true rfl)⟩ rfl rfl (Nat.le_of_ble_eq_true rfl) ⟨(Nat.le_of_ble_eq_true rfl), (Nat.le_of_ble_eq_true rfl)⟩ rfl rfl md_W_quotient_1 (fun v2 s1 => ?_)
  refine sp_if_eq (pc := 4) hX 30 (by decide) md_W_quotient_4 (fun _ => ?_) (fun _ => ?_)
  · refine sp_sub [0] (L' := [(0, Value.ref x0)]) rfl ?_
    exact sj_W_quotient_30 hX hR x0 s1
  · refine sp_iload_n (pc := 7) (k := 2) (i := 2) hX rfl 2 rfl md_W_quotient_7 ?_
    refine sp_callSI (pc := 8) (y := my_W_isTerm) (ccy := prog_1_method_39_code) (nLy := 1) (ret := (some .boolean)) (rmy := mr_W_isTerm) (n := 1) (idx := 98) (As := [.int (iI x2)]) (st := []) (cells' := 0) (slots' := 0) hX (fun _ h => mc_W_isTerm h) mk_W_isTerm mq_355 mq_354 ⟨(Nat.le_of_ble_eq_true rfl), (Nat.le_of_ble_eq_true rfl)⟩ rfl rfl (Nat.le_of_ble_eq_true rfl) ⟨(Nat.le_of_ble_eq_true rfl), (Nat.le_of_ble_eq_true rfl)⟩ rfl rfl md_W_quotient_8 (fun v6 s5 => ?_)
    refine sp_if_eq (pc := 11) hX 30 (by decide) md_W_quotient_11 (fun _ => ?_) (fun _ => ?_)
    · refine sp_sub [0] (L' := [(0, Value.ref x0)]) rfl ?_
      exact sj_W_quotient_30 hX hR x0 s5
    · refine sp_iload_n (pc := 14) (k := 3) (i := 3) hX rfl 3 rfl md_W_quotient_14 ?_
      refine sp_if_lt (pc := 15) hX 30 (by decide) md_W_quotient_15 (fun _ => ?_) (fun _ => ?_)
      · refine sp_sub [0] (L' := [(0, Value.ref x0)]) rfl ?_
        exact sj_W_quotient_30 hX hR x0 s5
      · refine sp_iload (pc := 18) (i := 4) hX 4 rfl md_W_quotient_18 ?_
        refine sp_if_lt (pc := 20) hX 30 (by decide) md_W_quotient_20 (fun _ => ?_) (fun _ => ?_)
        · refine sp_sub [0] (L' := [(0, Value.ref x0)]) rfl ?_
          exact sj_W_quotient_30 hX hR x0 s5
        · refine sp_iload (pc := 23) (i := 4) hX 4 rfl md_W_quotient_23 ?_
          refine sp_bipush (pc := 25) hX (by decide) md_W_quotient_25 ?_
          refine sp_icmp_lt (pc := 27) hX 37 (by decide) md_W_quotient_27 (fun _ => ?_) (fun _ => ?_)
          · refine sp_iload_n (pc := 37) (k := 3) (i := 3) hX rfl 3 rfl md_W_quotient_37 ?_
            refine sp_bipush (pc := 38) hX (by decide) md_W_quotient_38 ?_
            refine sp_icmp_lt (pc := 40) hX 45 (by decide) md_W_quotient_40 (fun _ => ?_) (fun _ => ?_)
            · refine sp_aload_n (pc := 45) (k := 0) (i := 0) hX rfl 0 rfl md_W_quotient_45 ?_
              refine sp_getR (pc := 46) (ci := 9) (k := 3) (idx := 33) hX mcl_9 (by decide) mq_287 rfl md_W_quotient_46 (fun v7 => ?_)
              refine sp_aload_n (pc := 49) (k := 0) (i := 0) hX rfl 0 rfl md_W_quotient_49 ?_
              refine sp_getR (pc := 50) (ci := 9) (k := 0) (idx := 10) hX mcl_9 (by decide) mq_284 rfl md_W_quotient_50 (fun v8 => ?_)
              refine sp_getRN (pc := 53) (ci := 7) (k := 1) (idx := 104) hX mcl_7 (by decide) mn_104 rfl md_W_quotient_53 (fun v9 => ?_)
              refine sp_iload_n (pc := 56) (k := 1) (i := 1) hX rfl 1 rfl md_W_quotient_56 ?_
              refine sp_aaG (pc := 57) hX md_W_quotient_57 (fun v10 => ?_)
              refine sp_iload_n (pc := 58) (k := 2) (i := 2) hX rfl 2 rfl md_W_quotient_58 ?_
              refine sp_aload_n (pc := 59) (k := 0) (i := 0) hX rfl 0 rfl md_W_quotient_59 ?_
              refine sp_getR (pc := 60) (ci := 9) (k := 0) (idx := 10) hX mcl_9 (by decide) mq_284 rfl md_W_quotient_60 (fun v11 => ?_)
              refine sp_getIN (pc := 63) (ci := 7) (k := 0) (idx := 83) hX mcl_7 (by decide) mn_101 rfl md_W_quotient_63 (fun v12 => ?_)
              refine sp_callVV (pc := 66) (y := my_E_startWithSeries) (ccy := prog_2_method_2_code) (nLy := 4) (ret := none) (rmy := mr_E_startWithSeries) (n := 3) (idx := 198) (As := [.ref v10, .int (iI x2), .int (iI v12)]) (st := []) (o := v7) (cells' := 0) (slots' := 0) hX (fun _ h => mc_E_startWithSeries h) mk_E_startWithSeries mv_E_startWithSeries mcl_0 (fun _ h => pw_gd_of h) mq_488 ⟨(Nat.le_of_ble_eq_true rfl), (Nat.le_of_ble_eq_true rfl)⟩ rfl rfl (Nat.le_of_ble_eq_true rfl) ⟨(Nat.le_of_ble_eq_true rfl), (Nat.le_of_ble_eq_true rfl)⟩ rfl rfl md_W_quotient_66 (fun s13 => ?_)
              refine sp_iconst (pc := 69) hX md_W_quotient_69 ?_
              refine sp_istore (pc := 70) (i := 5) (L' := [(5, Value.int (iI (0 : Int))), (0, Value.ref x0), (1, Value.int (iI x1)), (2, Value.int (iI x2)), (3, Value.int (iI x3)), (4, Value.int (iI x4))]) hX (by decide) rfl md_W_quotient_70 ?_
              refine sp_sub [1, 4, 5, 0] (L' := [(0, Value.ref x0), (3, Value.int (iI x3)), (4, Value.int (iI x4)), (5, Value.int (iI (0 : Int)))]) rfl ?_
              exact sl_W_quotient_72 hX hR 1000 x0 x3 x4 (0 : Int) s13
            · refine sp_iconst (pc := 43) hX md_W_quotient_43 ?_
              exact sp_iret (pc := 44) hX hR rfl (Nat.le_of_ble_eq_true rfl) md_W_quotient_44
          · refine sp_sub [0] (L' := [(0, Value.ref x0)]) rfl ?_
            exact sj_W_quotient_30 hX hR x0 s5
/-! PadeWorkbench.complexity(II)I -/
theorem md_W_complexity_0 : decode prog_1_method_25_code 0 = .ok (.iload_n 1, 1) := by decide +kernel
theorem md_W_complexity_1 : decode prog_1_method_25_code 1 = .ok (.invokestatic 95, 3) := by decide +kernel
theorem md_W_complexity_4 : decode prog_1_method_25_code 4 = .ok (.ifCond .eq 14, 3) := by decide +kernel
theorem md_W_complexity_18 : decode prog_1_method_25_code 18 = .ok (.aload_n 0, 1) := by decide +kernel
theorem md_W_complexity_19 : decode prog_1_method_25_code 19 = .ok (.bipush (-2), 2) := by decide +kernel
theorem md_W_complexity_21 : decode prog_1_method_25_code 21 = .ok (.invokevirtual 79, 3) := by decide +kernel
theorem md_W_complexity_24 : decode prog_1_method_25_code 24 = .ok (.ireturn, 1) := by decide +kernel
theorem md_W_complexity_7 : decode prog_1_method_25_code 7 = .ok (.iload_n 2, 1) := by decide +kernel
theorem md_W_complexity_8 : decode prog_1_method_25_code 8 = .ok (.iconst 1, 1) := by decide +kernel
theorem md_W_complexity_9 : decode prog_1_method_25_code 9 = .ok (.if_icmp .lt 9, 3) := by decide +kernel
theorem md_W_complexity_12 : decode prog_1_method_25_code 12 = .ok (.iload_n 2, 1) := by decide +kernel
theorem md_W_complexity_13 : decode prog_1_method_25_code 13 = .ok (.bipush 16, 2) := by decide +kernel
theorem md_W_complexity_15 : decode prog_1_method_25_code 15 = .ok (.if_icmp .le 10, 3) := by decide +kernel
theorem md_W_complexity_25 : decode prog_1_method_25_code 25 = .ok (.aload_n 0, 1) := by decide +kernel
theorem md_W_complexity_26 : decode prog_1_method_25_code 26 = .ok (.getfield 61, 3) := by decide +kernel
theorem md_W_complexity_29 : decode prog_1_method_25_code 29 = .ok (.aload_n 0, 1) := by decide +kernel
theorem md_W_complexity_30 : decode prog_1_method_25_code 30 = .ok (.getfield 10, 3) := by decide +kernel
theorem md_W_complexity_33 : decode prog_1_method_25_code 33 = .ok (.getfield 104, 3) := by decide +kernel
theorem md_W_complexity_36 : decode prog_1_method_25_code 36 = .ok (.iload_n 1, 1) := by decide +kernel
theorem md_W_complexity_37 : decode prog_1_method_25_code 37 = .ok (.aaload, 1) := by decide +kernel
theorem md_W_complexity_38 : decode prog_1_method_25_code 38 = .ok (.iload_n 2, 1) := by decide +kernel
theorem md_W_complexity_39 : decode prog_1_method_25_code 39 = .ok (.aload_n 0, 1) := by decide +kernel
theorem md_W_complexity_40 : decode prog_1_method_25_code 40 = .ok (.getfield 10, 3) := by decide +kernel
theorem md_W_complexity_43 : decode prog_1_method_25_code 43 = .ok (.getfield 83, 3) := by decide +kernel
theorem md_W_complexity_46 : decode prog_1_method_25_code 46 = .ok (.invokevirtual 211, 3) := by decide +kernel
theorem md_W_complexity_49 : decode prog_1_method_25_code 49 = .ok (.aload_n 0, 1) := by decide +kernel
theorem md_W_complexity_50 : decode prog_1_method_25_code 50 = .ok (.getfield 61, 3) := by decide +kernel
theorem md_W_complexity_53 : decode prog_1_method_25_code 53 = .ok (.getfield 214, 3) := by decide +kernel
theorem md_W_complexity_56 : decode prog_1_method_25_code 56 = .ok (.ireturn, 1) := by decide +kernel
def mj_W_complexity_18 (x0 : Nat) (σ : pw_Sto) : Option (Int × pw_Sto) := pw_bd (mf_W_fail x0 (-2 : Int) σ) (fun v4 s3 => some (v4, s3))
def mf_W_complexity (x0 : Nat) (x1 : Int) (x2 : Int) (σ : pw_Sto) : Option (Int × pw_Sto) := pw_gd 9 x0 σ (pw_bd (mf_W_isSlot x1 σ) (fun v2 s1 => pw_ck v2 0 (if v2 = 0 then mj_W_complexity_18 x0 s1 else pw_ck x2 (1 : Int) (if x2 < (1 : Int) then mj_W_complexity_18 x0 s1 else pw_ck x2 (16 : Int) (if x2 ≤ (16 : Int) then (pw_gr 9 x0 7 s1).bind (fun v5 => (pw_gr 9 x0 0 s1).bind (fun v6 => (pw_gr 7 v6 1 s1).bind (fun v7 => (pw_ar 13 v7 x1 s1).bind (fun v8 => (pw_gr 9 x0 0 s1).bind (fun v9 => (pw_gi 7 v9 0 s1).bind (fun v10 => pw_bd (mf_B_fit v5 v8 x2 v10 s1) (fun _ s11 => (pw_gr 9 x0 7 s11).bind (fun v12 => (pw_gi 5 v12 3 s11).bind (fun v13 => some (v13, s11)))))))))) else mj_W_complexity_18 x0 s1)))))
set_option maxHeartbeats 4000000 in
set_option maxRecDepth 20000 in
theorem sj_W_complexity_18 {X : pw_X Int} (hX : pw_Ok X prog_1_method_25_code "PadeWorkbench" mr_W_complexity 3) (hR : pw_RI X prog_1_method_25_code) (x0 : Nat) (σ : pw_Sto) : pw_Sp X 0 0 18 [(0, Value.ref x0)] [] σ (mj_W_complexity_18 x0 σ) := by
  unfold mj_W_complexity_18
  refine sp_aload_n (pc := 18) (k := 0) (i := 0) hX rfl 0 rfl md_W_complexity_18 ?_
  refine sp_bipush (pc := 19) hX (by decide) md_W_complexity_19 ?_
  refine sp_callVI (pc := 21) (y := my_W_fail) (ccy := prog_1_method_37_code) (nLy := 3) (ret := (some .int)) (rmy := mr_W_fail) (n := 1) (idx := 79) (As := [.int (iI (-2 : Int))]) (st := []) (o := x0) (cells' := 0) (slots' := 0) hX (fun _ h => mc_W_fail h) mk_W_fail mv_W_fail mcl_9 (fun _ h => pw_gd_of h) mq_325 ⟨(Nat.le_of_ble_eq_true rfl), (Nat.le_of_ble_eq_true rfl)⟩ rfl rfl (Nat.le_of_ble_eq_true rfl) ⟨(Nat.le_of_ble_eq_true rfl), (Nat.le_of_ble_eq_true rfl)⟩ rfl rfl md_W_complexity_21 (fun v4 s3 => ?_)
  exact sp_iret (pc := 24) hX hR rfl (Nat.le_of_ble_eq_true rfl) md_W_complexity_24
set_option maxHeartbeats 4000000 in
set_option maxRecDepth 20000 in
theorem mc_W_complexity {l : Launch} {E : pw_E} {σ : pw_Sto} {x0 : Nat} {x1 : Int} {x2 : Int} {out : Int × pw_Sto} (h : mf_W_complexity x0 x1 x2 σ = some out) : pw_CI l E my_W_complexity prog_1_method_25_code 3 (some .int) mr_W_complexity [.ref x0, .int (iI x1), .int (iI x2)] σ out := by
  unfold mf_W_complexity at h
  refine pw_entryI (by decide) (Nat.le_of_ble_eq_true rfl) (pw_gd_val h) (fun X hX hR hI => ?_)
  change pw_Ok X prog_1_method_25_code "PadeWorkbench" mr_W_complexity 3 at hX
  show pw_Sp X 0 0 0 [(0, Value.ref x0), (1, Value.int (iI x1)), (2, Value.int (iI x2))] [] σ _
  refine sp_iload_n (pc := 0) (k := 1) (i := 1) hX rfl 1 rfl md_W_complexity_0 ?_
  refine sp_callSI (pc := 1) (y := my_W_isSlot) (ccy := prog_1_method_38_code) (nLy := 1) (ret := (some .boolean)) (rmy := mr_W_isSlot) (n := 1) (idx := 95) (As := [.int (iI x1)]) (st := []) (cells' := 0) (slots' := 0) hX (fun _ h => mc_W_isSlot h) mk_W_isSlot mq_352 mq_351 ⟨(Nat.le_of_ble_eq_true rfl), (Nat.le_of_ble_eq_true rfl)⟩ rfl rfl (Nat.le_of_ble_eq_true rfl) ⟨(Nat.le_of_ble_eq_true rfl), (Nat.le_of_ble_eq_true rfl)⟩ rfl rfl md_W_complexity_1 (fun v2 s1 => ?_)
  refine sp_if_eq (pc := 4) hX 18 (by decide) md_W_complexity_4 (fun _ => ?_) (fun _ => ?_)
  · refine sp_sub [0] (L' := [(0, Value.ref x0)]) rfl ?_
    exact sj_W_complexity_18 hX hR x0 s1
  · refine sp_iload_n (pc := 7) (k := 2) (i := 2) hX rfl 2 rfl md_W_complexity_7 ?_
    refine sp_iconst (pc := 8) hX md_W_complexity_8 ?_
    refine sp_icmp_lt (pc := 9) hX 18 (by decide) md_W_complexity_9 (fun _ => ?_) (fun _ => ?_)
    · refine sp_sub [0] (L' := [(0, Value.ref x0)]) rfl ?_
      exact sj_W_complexity_18 hX hR x0 s1
    · refine sp_iload_n (pc := 12) (k := 2) (i := 2) hX rfl 2 rfl md_W_complexity_12 ?_
      refine sp_bipush (pc := 13) hX (by decide) md_W_complexity_13 ?_
      refine sp_icmp_le (pc := 15) hX 25 (by decide) md_W_complexity_15 (fun _ => ?_) (fun _ => ?_)
      · refine sp_aload_n (pc := 25) (k := 0) (i := 0) hX rfl 0 rfl md_W_complexity_25 ?_
        refine sp_getR (pc := 26) (ci := 9) (k := 7) (idx := 61) hX mcl_9 (by decide) mq_291 rfl md_W_complexity_26 (fun v5 => ?_)
        refine sp_aload_n (pc := 29) (k := 0) (i := 0) hX rfl 0 rfl md_W_complexity_29 ?_
        refine sp_getR (pc := 30) (ci := 9) (k := 0) (idx := 10) hX mcl_9 (by decide) mq_284 rfl md_W_complexity_30 (fun v6 => ?_)
        refine sp_getRN (pc := 33) (ci := 7) (k := 1) (idx := 104) hX mcl_7 (by decide) mn_104 rfl md_W_complexity_33 (fun v7 => ?_)
        refine sp_iload_n (pc := 36) (k := 1) (i := 1) hX rfl 1 rfl md_W_complexity_36 ?_
        refine sp_aaG (pc := 37) hX md_W_complexity_37 (fun v8 => ?_)
        refine sp_iload_n (pc := 38) (k := 2) (i := 2) hX rfl 2 rfl md_W_complexity_38 ?_
        refine sp_aload_n (pc := 39) (k := 0) (i := 0) hX rfl 0 rfl md_W_complexity_39 ?_
        refine sp_getR (pc := 40) (ci := 9) (k := 0) (idx := 10) hX mcl_9 (by decide) mq_284 rfl md_W_complexity_40 (fun v9 => ?_)
        refine sp_getIN (pc := 43) (ci := 7) (k := 0) (idx := 83) hX mcl_7 (by decide) mn_101 rfl md_W_complexity_43 (fun v10 => ?_)
        refine sp_callVV (pc := 46) (y := my_B_fit) (ccy := prog_8_method_2_code) (nLy := 8) (ret := none) (rmy := mr_B_fit) (n := 3) (idx := 211) (As := [.ref v8, .int (iI x2), .int (iI v10)]) (st := []) (o := v5) (cells' := 0) (slots' := 0) hX (fun _ h => mc_B_fit h) mk_B_fit mv_B_fit mcl_5 (fun _ h => pw_gd_of h) mq_686 ⟨(Nat.le_of_ble_eq_true rfl), (Nat.le_of_ble_eq_true rfl)⟩ rfl rfl (Nat.le_of_ble_eq_true rfl) ⟨(Nat.le_of_ble_eq_true rfl), (Nat.le_of_ble_eq_true rfl)⟩ rfl rfl md_W_complexity_46 (fun s11 => ?_)
        refine sp_aload_n (pc := 49) (k := 0) (i := 0) hX rfl 0 rfl md_W_complexity_49 ?_
        refine sp_getR (pc := 50) (ci := 9) (k := 7) (idx := 61) hX mcl_9 (by decide) mq_291 rfl md_W_complexity_50 (fun v12 => ?_)
        refine sp_getIN (pc := 53) (ci := 5) (k := 3) (idx := 214) hX mcl_5 (by decide) mn_274 rfl md_W_complexity_53 (fun v13 => ?_)
        exact sp_iret (pc := 56) hX hR rfl (Nat.le_of_ble_eq_true rfl) md_W_complexity_56
      · refine sp_sub [0] (L' := [(0, Value.ref x0)]) rfl ?_
        exact sj_W_complexity_18 hX hR x0 s1
/-! PadeWorkbench.recurrence(III)I -/
theorem md_W_recurrence_0 : decode prog_1_method_26_code 0 = .ok (.iload_n 1, 1) := by decide +kernel
theorem md_W_recurrence_1 : decode prog_1_method_26_code 1 = .ok (.invokestatic 95, 3) := by decide +kernel
theorem md_W_recurrence_4 : decode prog_1_method_26_code 4 = .ok (.ifCond .eq 19, 3) := by decide +kernel
theorem md_W_recurrence_23 : decode prog_1_method_26_code 23 = .ok (.aload_n 0, 1) := by decide +kernel
theorem md_W_recurrence_24 : decode prog_1_method_26_code 24 = .ok (.bipush (-2), 2) := by decide +kernel
theorem md_W_recurrence_26 : decode prog_1_method_26_code 26 = .ok (.invokevirtual 79, 3) := by decide +kernel
theorem md_W_recurrence_29 : decode prog_1_method_26_code 29 = .ok (.ireturn, 1) := by decide +kernel
theorem md_W_recurrence_7 : decode prog_1_method_26_code 7 = .ok (.iload_n 2, 1) := by decide +kernel
theorem md_W_recurrence_8 : decode prog_1_method_26_code 8 = .ok (.iconst 1, 1) := by decide +kernel
theorem md_W_recurrence_9 : decode prog_1_method_26_code 9 = .ok (.if_icmp .lt 14, 3) := by decide +kernel
theorem md_W_recurrence_12 : decode prog_1_method_26_code 12 = .ok (.iload_n 2, 1) := by decide +kernel
theorem md_W_recurrence_13 : decode prog_1_method_26_code 13 = .ok (.bipush 16, 2) := by decide +kernel
theorem md_W_recurrence_15 : decode prog_1_method_26_code 15 = .ok (.if_icmp .gt 8, 3) := by decide +kernel
theorem md_W_recurrence_18 : decode prog_1_method_26_code 18 = .ok (.iload_n 3, 1) := by decide +kernel
theorem md_W_recurrence_19 : decode prog_1_method_26_code 19 = .ok (.iconst 1, 1) := by decide +kernel
theorem md_W_recurrence_20 : decode prog_1_method_26_code 20 = .ok (.if_icmp .ge 10, 3) := by decide +kernel
theorem md_W_recurrence_30 : decode prog_1_method_26_code 30 = .ok (.aload_n 0, 1) := by decide +kernel
theorem md_W_recurrence_31 : decode prog_1_method_26_code 31 = .ok (.getfield 61, 3) := by decide +kernel
theorem md_W_recurrence_34 : decode prog_1_method_26_code 34 = .ok (.aload_n 0, 1) := by decide +kernel
theorem md_W_recurrence_35 : decode prog_1_method_26_code 35 = .ok (.getfield 10, 3) := by decide +kernel
theorem md_W_recurrence_38 : decode prog_1_method_26_code 38 = .ok (.getfield 104, 3) := by decide +kernel
theorem md_W_recurrence_41 : decode prog_1_method_26_code 41 = .ok (.iload_n 1, 1) := by decide +kernel
theorem md_W_recurrence_42 : decode prog_1_method_26_code 42 = .ok (.aaload, 1) := by decide +kernel
theorem md_W_recurrence_43 : decode prog_1_method_26_code 43 = .ok (.iload_n 2, 1) := by decide +kernel
theorem md_W_recurrence_44 : decode prog_1_method_26_code 44 = .ok (.aload_n 0, 1) := by decide +kernel
theorem md_W_recurrence_45 : decode prog_1_method_26_code 45 = .ok (.getfield 10, 3) := by decide +kernel
theorem md_W_recurrence_48 : decode prog_1_method_26_code 48 = .ok (.getfield 83, 3) := by decide +kernel
theorem md_W_recurrence_51 : decode prog_1_method_26_code 51 = .ok (.invokevirtual 211, 3) := by decide +kernel
theorem md_W_recurrence_54 : decode prog_1_method_26_code 54 = .ok (.iconst 2, 1) := by decide +kernel
theorem md_W_recurrence_55 : decode prog_1_method_26_code 55 = .ok (.aload_n 0, 1) := by decide +kernel
theorem md_W_recurrence_56 : decode prog_1_method_26_code 56 = .ok (.getfield 61, 3) := by decide +kernel
theorem md_W_recurrence_59 : decode prog_1_method_26_code 59 = .ok (.getfield 214, 3) := by decide +kernel
theorem md_W_recurrence_62 : decode prog_1_method_26_code 62 = .ok (.imul, 1) := by decide +kernel
theorem md_W_recurrence_63 : decode prog_1_method_26_code 63 = .ok (.iload_n 2, 1) := by decide +kernel
theorem md_W_recurrence_64 : decode prog_1_method_26_code 64 = .ok (.if_icmp .gt 20, 3) := by decide +kernel
theorem md_W_recurrence_84 : decode prog_1_method_26_code 84 = .ok (.iconst (-1), 1) := by decide +kernel
theorem md_W_recurrence_85 : decode prog_1_method_26_code 85 = .ok (.ireturn, 1) := by decide +kernel
theorem md_W_recurrence_67 : decode prog_1_method_26_code 67 = .ok (.iload_n 3, 1) := by decide +kernel
theorem md_W_recurrence_68 : decode prog_1_method_26_code 68 = .ok (.aload_n 0, 1) := by decide +kernel
theorem md_W_recurrence_69 : decode prog_1_method_26_code 69 = .ok (.getfield 61, 3) := by decide +kernel
theorem md_W_recurrence_72 : decode prog_1_method_26_code 72 = .ok (.getfield 214, 3) := by decide +kernel
theorem md_W_recurrence_75 : decode prog_1_method_26_code 75 = .ok (.if_icmp .gt 9, 3) := by decide +kernel
theorem md_W_recurrence_78 : decode prog_1_method_26_code 78 = .ok (.iload_n 3, 1) := by decide +kernel
theorem md_W_recurrence_79 : decode prog_1_method_26_code 79 = .ok (.bipush 17, 2) := by decide +kernel
theorem md_W_recurrence_81 : decode prog_1_method_26_code 81 = .ok (.if_icmp .lt 5, 3) := by decide +kernel
theorem md_W_recurrence_86 : decode prog_1_method_26_code 86 = .ok (.aload_n 0, 1) := by decide +kernel
theorem md_W_recurrence_87 : decode prog_1_method_26_code 87 = .ok (.getfield 61, 3) := by decide +kernel
theorem md_W_recurrence_90 : decode prog_1_method_26_code 90 = .ok (.getfield 217, 3) := by decide +kernel
theorem md_W_recurrence_93 : decode prog_1_method_26_code 93 = .ok (.iload_n 3, 1) := by decide +kernel
theorem md_W_recurrence_94 : decode prog_1_method_26_code 94 = .ok (.iaload, 1) := by decide +kernel
theorem md_W_recurrence_95 : decode prog_1_method_26_code 95 = .ok (.aload_n 0, 1) := by decide +kernel
theorem md_W_recurrence_96 : decode prog_1_method_26_code 96 = .ok (.getfield 10, 3) := by decide +kernel
theorem md_W_recurrence_99 : decode prog_1_method_26_code 99 = .ok (.getfield 83, 3) := by decide +kernel
theorem md_W_recurrence_102 : decode prog_1_method_26_code 102 = .ok (.invokestatic 220, 3) := by decide +kernel
theorem md_W_recurrence_105 : decode prog_1_method_26_code 105 = .ok (.ireturn, 1) := by decide +kernel
def mj_W_recurrence_23 (x0 : Nat) (σ : pw_Sto) : Option (Int × pw_Sto) := pw_bd (mf_W_fail x0 (-2 : Int) σ) (fun v4 s3 => some (v4, s3))
def mf_W_recurrence (x0 : Nat) (x1 : Int) (x2 : Int) (x3 : Int) (σ : pw_Sto) : Option (Int × pw_Sto) := pw_gd 9 x0 σ (pw_bd (mf_W_isSlot x1 σ) (fun v2 s1 => pw_ck v2 0 (if v2 = 0 then mj_W_recurrence_23 x0 s1 else pw_ck x2 (1 : Int) (if x2 < (1 : Int) then mj_W_recurrence_23 x0 s1 else pw_ck x2 (16 : Int) (if (16 : Int) < x2 then mj_W_recurrence_23 x0 s1 else pw_ck x3 (1 : Int) (if (1 : Int) ≤ x3 then (pw_gr 9 x0 7 s1).bind (fun v5 => (pw_gr 9 x0 0 s1).bind (fun v6 => (pw_gr 7 v6 1 s1).bind (fun v7 => (pw_ar 13 v7 x1 s1).bind (fun v8 => (pw_gr 9 x0 0 s1).bind (fun v9 => (pw_gi 7 v9 0 s1).bind (fun v10 => pw_bd (mf_B_fit v5 v8 x2 v10 s1) (fun _ s11 => (pw_gr 9 x0 7 s11).bind (fun v12 => (pw_gi 5 v12 3 s11).bind (fun v13 => pw_ck ((2 : Int) * v13) x2 (if x2 < ((2 : Int) * v13) then some ((-1 : Int), s11) else (pw_gr 9 x0 7 s11).bind (fun v14 => (pw_gi 5 v14 3 s11).bind (fun v15 => pw_ck x3 v15 (if v15 < x3 then some ((-1 : Int), s11) else pw_ck x3 (17 : Int) (if x3 < (17 : Int) then (pw_gr 9 x0 7 s11).bind (fun v16 => (pw_gr 5 v16 0 s11).bind (fun v17 => (pw_ai v17 x3 s11).bind (fun v18 => (pw_gr 9 x0 0 s11).bind (fun v19 => (pw_gi 7 v19 0 s11).bind (fun v20 => pw_bd (mf_K_negative v18 v20 s11) (fun v22 s21 => some (v22, s21))))))) else some ((-1 : Int), s11))))))))))))))) else mj_W_recurrence_23 x0 s1))))))
set_option maxHeartbeats 4000000 in
set_option maxRecDepth 20000 in
theorem sj_W_recurrence_23 {X : pw_X Int} (hX : pw_Ok X prog_1_method_26_code "PadeWorkbench" mr_W_recurrence 4) (hR : pw_RI X prog_1_method_26_code) (x0 : Nat) (σ : pw_Sto) : pw_Sp X 0 0 23 [(0, Value.ref x0)] [] σ (mj_W_recurrence_23 x0 σ) := by
  unfold mj_W_recurrence_23
  refine sp_aload_n (pc := 23) (k := 0) (i := 0) hX rfl 0 rfl md_W_recurrence_23 ?_
  refine sp_bipush (pc := 24) hX (by decide) md_W_recurrence_24 ?_
  refine sp_callVI (pc := 26) (y := my_W_fail) (ccy := prog_1_method_37_code) (nLy := 3) (ret := (some .int)) (rmy := mr_W_fail) (n := 1) (idx := 79) (As := [.int (iI (-2 : Int))]) (st := []) (o := x0) (cells' := 0) (slots' := 0) hX (fun _ h => mc_W_fail h) mk_W_fail mv_W_fail mcl_9 (fun _ h => pw_gd_of h) mq_325 ⟨(Nat.le_of_ble_eq_true rfl), (Nat.le_of_ble_eq_true rfl)⟩ rfl rfl (Nat.le_of_ble_eq_true rfl) ⟨(Nat.le_of_ble_eq_true rfl), (Nat.le_of_ble_eq_true rfl)⟩ rfl rfl md_W_recurrence_26 (fun v4 s3 => ?_)
  exact sp_iret (pc := 29) hX hR rfl (Nat.le_of_ble_eq_true rfl) md_W_recurrence_29
set_option maxHeartbeats 4000000 in
set_option maxRecDepth 20000 in
theorem mc_W_recurrence {l : Launch} {E : pw_E} {σ : pw_Sto} {x0 : Nat} {x1 : Int} {x2 : Int} {x3 : Int} {out : Int × pw_Sto} (h : mf_W_recurrence x0 x1 x2 x3 σ = some out) : pw_CI l E my_W_recurrence prog_1_method_26_code 4 (some .int) mr_W_recurrence [.ref x0, .int (iI x1), .int (iI x2), .int (iI x3)] σ out := by
  unfold mf_W_recurrence at h
  refine pw_entryI (by decide) (Nat.le_of_ble_eq_true rfl) (pw_gd_val h) (fun X hX hR hI => ?_)
  change pw_Ok X prog_1_method_26_code "PadeWorkbench" mr_W_recurrence 4 at hX
  show pw_Sp X 0 0 0 [(0, Value.ref x0), (1, Value.int (iI x1)), (2, Value.int (iI x2)), (3, Value.int (iI x3))] [] σ _
  refine sp_iload_n (pc := 0) (k := 1) (i := 1) hX rfl 1 rfl md_W_recurrence_0 ?_
  refine sp_callSI (pc := 1) (y := my_W_isSlot) (ccy := prog_1_method_38_code) (nLy := 1) (ret := (some .boolean)) (rmy := mr_W_isSlot) (n := 1) (idx := 95) (As := [.int (iI x1)]) (st := []) (cells' := 0) (slots' := 0) hX (fun _ h => mc_W_isSlot h) mk_W_isSlot mq_352 mq_351 ⟨(Nat.le_of_ble_eq_true rfl), (Nat.le_of_ble_eq_true rfl)⟩ rfl rfl (Nat.le_of_ble_eq_true rfl) ⟨(Nat.le_of_ble_eq_true rfl), (Nat.le_of_ble_eq_true rfl)⟩ rfl rfl md_W_recurrence_1 (fun v2 s1 => ?_)
  refine sp_if_eq (pc := 4) hX 23 (by decide) md_W_recurrence_4 (fun _ => ?_) (fun _ => ?_)
  · refine sp_sub [0] (L' := [(0, Value.ref x0)]) rfl ?_
    exact sj_W_recurrence_23 hX hR x0 s1
  · refine sp_iload_n (pc := 7) (k := 2) (i := 2) hX rfl 2 rfl md_W_recurrence_7 ?_
    refine sp_iconst (pc := 8) hX md_W_recurrence_8 ?_
    refine sp_icmp_lt (pc := 9) hX 23 (by decide) md_W_recurrence_9 (fun _ => ?_) (fun _ => ?_)
    · refine sp_sub [0] (L' := [(0, Value.ref x0)]) rfl ?_
      exact sj_W_recurrence_23 hX hR x0 s1
    · refine sp_iload_n (pc := 12) (k := 2) (i := 2) hX rfl 2 rfl md_W_recurrence_12 ?_
      refine sp_bipush (pc := 13) hX (by decide) md_W_recurrence_13 ?_
      refine sp_icmp_gt (pc := 15) hX 23 (by decide) md_W_recurrence_15 (fun _ => ?_) (fun _ => ?_)
      · refine sp_sub [0] (L' := [(0, Value.ref x0)]) rfl ?_
        exact sj_W_recurrence_23 hX hR x0 s1
      · refine sp_iload_n (pc := 18) (k := 3) (i := 3) hX rfl 3 rfl md_W_recurrence_18 ?_
        refine sp_iconst (pc := 19) hX md_W_recurrence_19 ?_
        refine sp_icmp_ge (pc := 20) hX 30 (by decide) md_W_recurrence_20 (fun _ => ?_) (fun _ => ?_)
        · refine sp_aload_n (pc := 30) (k := 0) (i := 0) hX rfl 0 rfl md_W_recurrence_30 ?_
          refine sp_getR (pc := 31) (ci := 9) (k := 7) (idx := 61) hX mcl_9 (by decide) mq_291 rfl md_W_recurrence_31 (fun v5 => ?_)
          refine sp_aload_n (pc := 34) (k := 0) (i := 0) hX rfl 0 rfl md_W_recurrence_34 ?_
          refine sp_getR (pc := 35) (ci := 9) (k := 0) (idx := 10) hX mcl_9 (by decide) mq_284 rfl md_W_recurrence_35 (fun v6 => ?_)
          refine sp_getRN (pc := 38) (ci := 7) (k := 1) (idx := 104) hX mcl_7 (by decide) mn_104 rfl md_W_recurrence_38 (fun v7 => ?_)
          refine sp_iload_n (pc := 41) (k := 1) (i := 1) hX rfl 1 rfl md_W_recurrence_41 ?_
          refine sp_aaG (pc := 42) hX md_W_recurrence_42 (fun v8 => ?_)
          refine sp_iload_n (pc := 43) (k := 2) (i := 2) hX rfl 2 rfl md_W_recurrence_43 ?_
          refine sp_aload_n (pc := 44) (k := 0) (i := 0) hX rfl 0 rfl md_W_recurrence_44 ?_
          refine sp_getR (pc := 45) (ci := 9) (k := 0) (idx := 10) hX mcl_9 (by decide) mq_284 rfl md_W_recurrence_45 (fun v9 => ?_)
          refine sp_getIN (pc := 48) (ci := 7) (k := 0) (idx := 83) hX mcl_7 (by decide) mn_101 rfl md_W_recurrence_48 (fun v10 => ?_)
          refine sp_callVV (pc := 51) (y := my_B_fit) (ccy := prog_8_method_2_code) (nLy := 8) (ret := none) (rmy := mr_B_fit) (n := 3) (idx := 211) (As := [.ref v8, .int (iI x2), .int (iI v10)]) (st := []) (o := v5) (cells' := 0) (slots' := 0) hX (fun _ h => mc_B_fit h) mk_B_fit mv_B_fit mcl_5 (fun _ h => pw_gd_of h) mq_686 ⟨(Nat.le_of_ble_eq_true rfl), (Nat.le_of_ble_eq_true rfl)⟩ rfl rfl (Nat.le_of_ble_eq_true rfl) ⟨(Nat.le_of_ble_eq_true rfl), (Nat.le_of_ble_eq_true rfl)⟩ rfl rfl md_W_recurrence_51 (fun s11 => ?_)
          refine sp_iconst (pc := 54) hX md_W_recurrence_54 ?_
          refine sp_aload_n (pc := 55) (k := 0) (i := 0) hX rfl 0 rfl md_W_recurrence_55 ?_
          refine sp_getR (pc := 56) (ci := 9) (k := 7) (idx := 61) hX mcl_9 (by decide) mq_291 rfl md_W_recurrence_56 (fun v12 => ?_)
          refine sp_getIN (pc := 59) (ci := 5) (k := 3) (idx := 214) hX mcl_5 (by decide) mn_274 rfl md_W_recurrence_59 (fun v13 => ?_)
          refine sp_imul (pc := 62) hX md_W_recurrence_62 ?_
          refine sp_iload_n (pc := 63) (k := 2) (i := 2) hX rfl 2 rfl md_W_recurrence_63 ?_
          refine sp_icmp_gt (pc := 64) hX 84 (by decide) md_W_recurrence_64 (fun _ => ?_) (fun _ => ?_)
          · refine sp_iconst (pc := 84) hX md_W_recurrence_84 ?_
            exact sp_iret (pc := 85) hX hR rfl (Nat.le_of_ble_eq_true rfl) md_W_recurrence_85
          · refine sp_iload_n (pc := 67) (k := 3) (i := 3) hX rfl 3 rfl md_W_recurrence_67 ?_
            refine sp_aload_n (pc := 68) (k := 0) (i := 0) hX rfl 0 rfl md_W_recurrence_68 ?_
            refine sp_getR (pc := 69) (ci := 9) (k := 7) (idx := 61) hX mcl_9 (by decide) mq_291 rfl md_W_recurrence_69 (fun v14 => ?_)
            refine sp_getIN (pc := 72) (ci := 5) (k := 3) (idx := 214) hX mcl_5 (by decide) mn_274 rfl md_W_recurrence_72 (fun v15 => ?_)
            refine sp_icmp_gt (pc := 75) hX 84 (by decide) md_W_recurrence_75 (fun _ => ?_) (fun _ => ?_)
            · refine sp_iconst (pc := 84) hX md_W_recurrence_84 ?_
              exact sp_iret (pc := 85) hX hR rfl (Nat.le_of_ble_eq_true rfl) md_W_recurrence_85
            · refine sp_iload_n (pc := 78) (k := 3) (i := 3) hX rfl 3 rfl md_W_recurrence_78 ?_
              refine sp_bipush (pc := 79) hX (by decide) md_W_recurrence_79 ?_
              refine sp_icmp_lt (pc := 81) hX 86 (by decide) md_W_recurrence_81 (fun _ => ?_) (fun _ => ?_)
              · refine sp_aload_n (pc := 86) (k := 0) (i := 0) hX rfl 0 rfl md_W_recurrence_86 ?_
                refine sp_getR (pc := 87) (ci := 9) (k := 7) (idx := 61) hX mcl_9 (by decide) mq_291 rfl md_W_recurrence_87 (fun v16 => ?_)
                refine sp_getRN (pc := 90) (ci := 5) (k := 0) (idx := 217) hX mcl_5 (by decide) mn_270 rfl md_W_recurrence_90 (fun v17 => ?_)
                refine sp_iload_n (pc := 93) (k := 3) (i := 3) hX rfl 3 rfl md_W_recurrence_93 ?_
                refine sp_iaload (pc := 94) hX md_W_recurrence_94 (fun v18 => ?_)
                refine sp_aload_n (pc := 95) (k := 0) (i := 0) hX rfl 0 rfl md_W_recurrence_95 ?_
                refine sp_getR (pc := 96) (ci := 9) (k := 0) (idx := 10) hX mcl_9 (by decide) mq_284 rfl md_W_recurrence_96 (fun v19 => ?_)
                refine sp_getIN (pc := 99) (ci := 7) (k := 0) (idx := 83) hX mcl_7 (by decide) mn_101 rfl md_W_recurrence_99 (fun v20 => ?_)
                refine sp_callSI (pc := 102) (y := my_K_negative) (ccy := prog_3_method_3_code) (nLy := 2) (ret := (some .int)) (rmy := mr_K_negative) (n := 2) (idx := 220) (As := [.int (iI v18), .int (iI v20)]) (st := []) (cells' := 0) (slots' := 0) hX (fun _ h => mc_K_negative h) mk_K_negative mq_405 mq_710 ⟨(Nat.le_of_ble_eq_true rfl), (Nat.le_of_ble_eq_true rfl)⟩ rfl rfl (Nat.le_of_ble_eq_true rfl) ⟨(Nat.le_of_ble_eq_true rfl), (Nat.le_of_ble_eq_true rfl)⟩ rfl rfl md_W_recurrence_102 (fun v22 s21 => ?_)
                exact sp_iret (pc := 105) hX hR rfl (Nat.le_of_ble_eq_true rfl) md_W_recurrence_105
              · refine sp_iconst (pc := 84) hX md_W_recurrence_84 ?_
                exact sp_iret (pc := 85) hX hR rfl (Nat.le_of_ble_eq_true rfl) md_W_recurrence_85
        · refine sp_sub [0] (L' := [(0, Value.ref x0)]) rfl ?_
          exact sj_W_recurrence_23 hX hR x0 s1
/-! PadeWorkbench.addPoint(II)I -/
theorem md_W_addPoint_0 : decode prog_1_method_27_code 0 = .ok (.aload_n 0, 1) := by decide +kernel
theorem md_W_addPoint_1 : decode prog_1_method_27_code 1 = .ok (.iload_n 1, 1) := by decide +kernel
theorem md_W_addPoint_2 : decode prog_1_method_27_code 2 = .ok (.invokevirtual 101, 3) := by decide +kernel
theorem md_W_addPoint_5 : decode prog_1_method_27_code 5 = .ok (.ifCond .eq 11, 3) := by decide +kernel
theorem md_W_addPoint_16 : decode prog_1_method_27_code 16 = .ok (.aload_n 0, 1) := by decide +kernel
theorem md_W_addPoint_17 : decode prog_1_method_27_code 17 = .ok (.bipush (-2), 2) := by decide +kernel
theorem md_W_addPoint_19 : decode prog_1_method_27_code 19 = .ok (.invokevirtual 79, 3) := by decide +kernel
theorem md_W_addPoint_22 : decode prog_1_method_27_code 22 = .ok (.ireturn, 1) := by decide +kernel
theorem md_W_addPoint_8 : decode prog_1_method_27_code 8 = .ok (.aload_n 0, 1) := by decide +kernel
theorem md_W_addPoint_9 : decode prog_1_method_27_code 9 = .ok (.iload_n 2, 1) := by decide +kernel
theorem md_W_addPoint_10 : decode prog_1_method_27_code 10 = .ok (.invokevirtual 101, 3) := by decide +kernel
theorem md_W_addPoint_13 : decode prog_1_method_27_code 13 = .ok (.ifCond .ne 10, 3) := by decide +kernel
theorem md_W_addPoint_23 : decode prog_1_method_27_code 23 = .ok (.aload_n 0, 1) := by decide +kernel
theorem md_W_addPoint_24 : decode prog_1_method_27_code 24 = .ok (.getfield 10, 3) := by decide +kernel
theorem md_W_addPoint_27 : decode prog_1_method_27_code 27 = .ok (.iload_n 1, 1) := by decide +kernel
theorem md_W_addPoint_28 : decode prog_1_method_27_code 28 = .ok (.invokevirtual 223, 3) := by decide +kernel
theorem md_W_addPoint_31 : decode prog_1_method_27_code 31 = .ok (.ifCond .eq 10, 3) := by decide +kernel
theorem md_W_addPoint_41 : decode prog_1_method_27_code 41 = .ok (.aload_n 0, 1) := by decide +kernel
theorem md_W_addPoint_42 : decode prog_1_method_27_code 42 = .ok (.getfield 10, 3) := by decide +kernel
theorem md_W_addPoint_45 : decode prog_1_method_27_code 45 = .ok (.getfield 226, 3) := by decide +kernel
theorem md_W_addPoint_48 : decode prog_1_method_27_code 48 = .ok (.bipush 10, 2) := by decide +kernel
theorem md_W_addPoint_50 : decode prog_1_method_27_code 50 = .ok (.if_icmp .lt 10, 3) := by decide +kernel
theorem md_W_addPoint_60 : decode prog_1_method_27_code 60 = .ok (.aload_n 0, 1) := by decide +kernel
theorem md_W_addPoint_61 : decode prog_1_method_27_code 61 = .ok (.getfield 19, 3) := by decide +kernel
theorem md_W_addPoint_64 : decode prog_1_method_27_code 64 = .ok (.aload_n 0, 1) := by decide +kernel
theorem md_W_addPoint_65 : decode prog_1_method_27_code 65 = .ok (.getfield 10, 3) := by decide +kernel
theorem md_W_addPoint_68 : decode prog_1_method_27_code 68 = .ok (.invokevirtual 87, 3) := by decide +kernel
theorem md_W_addPoint_71 : decode prog_1_method_27_code 71 = .ok (.aload_n 0, 1) := by decide +kernel
theorem md_W_addPoint_72 : decode prog_1_method_27_code 72 = .ok (.getfield 10, 3) := by decide +kernel
theorem md_W_addPoint_75 : decode prog_1_method_27_code 75 = .ok (.iload_n 1, 1) := by decide +kernel
theorem md_W_addPoint_76 : decode prog_1_method_27_code 76 = .ok (.iload_n 2, 1) := by decide +kernel
theorem md_W_addPoint_77 : decode prog_1_method_27_code 77 = .ok (.invokevirtual 229, 3) := by decide +kernel
theorem md_W_addPoint_80 : decode prog_1_method_27_code 80 = .ok (.aload_n 0, 1) := by decide +kernel
theorem md_W_addPoint_81 : decode prog_1_method_27_code 81 = .ok (.getfield 10, 3) := by decide +kernel
theorem md_W_addPoint_84 : decode prog_1_method_27_code 84 = .ok (.getfield 226, 3) := by decide +kernel
theorem md_W_addPoint_87 : decode prog_1_method_27_code 87 = .ok (.ireturn, 1) := by decide +kernel
theorem md_W_addPoint_53 : decode prog_1_method_27_code 53 = .ok (.aload_n 0, 1) := by decide +kernel
theorem md_W_addPoint_54 : decode prog_1_method_27_code 54 = .ok (.bipush (-4), 2) := by decide +kernel
theorem md_W_addPoint_56 : decode prog_1_method_27_code 56 = .ok (.invokevirtual 79, 3) := by decide +kernel
theorem md_W_addPoint_59 : decode prog_1_method_27_code 59 = .ok (.ireturn, 1) := by decide +kernel
theorem md_W_addPoint_34 : decode prog_1_method_27_code 34 = .ok (.aload_n 0, 1) := by decide +kernel
theorem md_W_addPoint_35 : decode prog_1_method_27_code 35 = .ok (.bipush (-3), 2) := by decide +kernel
theorem md_W_addPoint_37 : decode prog_1_method_27_code 37 = .ok (.invokevirtual 79, 3) := by decide +kernel
theorem md_W_addPoint_40 : decode prog_1_method_27_code 40 = .ok (.ireturn, 1) := by decide +kernel
def mj_W_addPoint_16 (x0 : Nat) (σ : pw_Sto) : Option (Int × pw_Sto) := pw_bd (mf_W_fail x0 (-2 : Int) σ) (fun v4 s3 => some (v4, s3))
def mf_W_addPoint (x0 : Nat) (x1 : Int) (x2 : Int) (σ : pw_Sto) : Option (Int × pw_Sto) := pw_gd 9 x0 σ (pw_bd (mf_W_isElement x0 x1 σ) (fun v2 s1 => pw_ck v2 0 (if v2 = 0 then mj_W_addPoint_16 x0 s1 else pw_bd (mf_W_isElement x0 x2 s1) (fun v6 s5 => pw_ck v6 0 (if v6 = 0 then mj_W_addPoint_16 x0 s5 else (pw_gr 9 x0 0 s5).bind (fun v7 => pw_bd (mf_Z_hasPointAt v7 x1 s5) (fun v9 s8 => pw_ck v9 0 (if v9 = 0 then (pw_gr 9 x0 0 s8).bind (fun v10 => (pw_gi 7 v10 2 s8).bind (fun v11 => pw_ck v11 (10 : Int) (if v11 < (10 : Int) then (pw_gr 9 x0 1 s8).bind (fun v12 => (pw_gr 9 x0 0 s8).bind (fun v13 => pw_bd (mf_H_keep v12 v13 s8) (fun _ s14 => (pw_gr 9 x0 0 s14).bind (fun v15 => pw_bd (mf_Z_putPoint v15 x1 x2 s14) (fun _ s16 => (pw_gr 9 x0 0 s16).bind (fun v17 => (pw_gi 7 v17 2 s16).bind (fun v18 => some (v18, s16)))))))) else pw_bd (mf_W_fail x0 (-4 : Int) s8) (fun v20 s19 => some (v20, s19))))) else pw_bd (mf_W_fail x0 (-3 : Int) s8) (fun v22 s21 => some (v22, s21))))))))))
set_option maxHeartbeats 4000000 in
set_option maxRecDepth 20000 in
theorem sj_W_addPoint_16 {X : pw_X Int} (hX : pw_Ok X prog_1_method_27_code "PadeWorkbench" mr_W_addPoint 3) (hR : pw_RI X prog_1_method_27_code) (x0 : Nat) (σ : pw_Sto) : pw_Sp X 0 0 16 [(0, Value.ref x0)] [] σ (mj_W_addPoint_16 x0 σ) := by
  unfold mj_W_addPoint_16
  refine sp_aload_n (pc := 16) (k := 0) (i := 0) hX rfl 0 rfl md_W_addPoint_16 ?_
  refine sp_bipush (pc := 17) hX (by decide) md_W_addPoint_17 ?_
  refine sp_callVI (pc := 19) (y := my_W_fail) (ccy := prog_1_method_37_code) (nLy := 3) (ret := (some .int)) (rmy := mr_W_fail) (n := 1) (idx := 79) (As := [.int (iI (-2 : Int))]) (st := []) (o := x0) (cells' := 0) (slots' := 0) hX (fun _ h => mc_W_fail h) mk_W_fail mv_W_fail mcl_9 (fun _ h => pw_gd_of h) mq_325 ⟨(Nat.le_of_ble_eq_true rfl), (Nat.le_of_ble_eq_true rfl)⟩ rfl rfl (Nat.le_of_ble_eq_true rfl) ⟨(Nat.le_of_ble_eq_true rfl), (Nat.le_of_ble_eq_true rfl)⟩ rfl rfl md_W_addPoint_19 (fun v4 s3 => ?_)
  exact sp_iret (pc := 22) hX hR rfl (Nat.le_of_ble_eq_true rfl) md_W_addPoint_22
set_option maxHeartbeats 4000000 in
set_option maxRecDepth 20000 in
theorem mc_W_addPoint {l : Launch} {E : pw_E} {σ : pw_Sto} {x0 : Nat} {x1 : Int} {x2 : Int} {out : Int × pw_Sto} (h : mf_W_addPoint x0 x1 x2 σ = some out) : pw_CI l E my_W_addPoint prog_1_method_27_code 3 (some .int) mr_W_addPoint [.ref x0, .int (iI x1), .int (iI x2)] σ out := by
  unfold mf_W_addPoint at h
  refine pw_entryI (by decide) (Nat.le_of_ble_eq_true rfl) (pw_gd_val h) (fun X hX hR hI => ?_)
  change pw_Ok X prog_1_method_27_code "PadeWorkbench" mr_W_addPoint 3 at hX
  show pw_Sp X 0 0 0 [(0, Value.ref x0), (1, Value.int (iI x1)), (2, Value.int (iI x2))] [] σ _
  refine sp_aload_n (pc := 0) (k := 0) (i := 0) hX rfl 0 rfl md_W_addPoint_0 ?_
  refine sp_iload_n (pc := 1) (k := 1) (i := 1) hX rfl 1 rfl md_W_addPoint_1 ?_
  refine sp_callVI (pc := 2) (y := my_W_isElement) (ccy := prog_1_method_40_code) (nLy := 2) (ret := (some .boolean)) (rmy := mr_W_isElement) (n := 1) (idx := 101) (As := [.int (iI x1)]) (st := []) (o := x0) (cells' := 0) (slots' := 0) hX (fun _ h => mc_W_isElement h) mk_W_isElement mv_W_isElement mcl_9 (fun _ h => pw_gd_of h) mq_357 ⟨(Nat.le_of_ble_eq_true rfl), (Nat.le_of_ble_eq_true rfl)⟩ rfl rfl (Nat.le_of_ble_eq_true rfl) ⟨(Nat.le_of_ble_eq_true rfl), (Nat.le_of_ble_eq_true rfl)⟩ rfl rfl md_W_addPoint_2 (fun v2 s1 => ?_)
  refine sp_if_eq (pc := 5) hX 16 (by decide) md_W_addPoint_5 (fun _ => ?_) (fun _ => ?_)
  · refine sp_sub [0] (L' := [(0, Value.ref x0)]) rfl ?_
    exact sj_W_addPoint_16 hX hR x0 s1
  · refine sp_aload_n (pc := 8) (k := 0) (i := 0) hX rfl 0 rfl md_W_addPoint_8 ?_
    refine sp_iload_n (pc := 9) (k := 2) (i := 2) hX rfl 2 rfl md_W_addPoint_9 ?_
    refine sp_callVI (pc := 10) (y := my_W_isElement) (ccy := prog_1_method_40_code) (nLy := 2) (ret := (some .boolean)) (rmy := mr_W_isElement) (n := 1) (idx := 101) (As := [.int (iI x2)]) (st := []) (o := x0) (cells' := 0) (slots' := 0) hX (fun _ h => mc_W_isElement h) mk_W_isElement mv_W_isElement mcl_9 (fun _ h => pw_gd_of h) mq_357 ⟨(Nat.le_of_ble_eq_true rfl), (Nat.le_of_ble_eq_true rfl)⟩ rfl rfl (Nat.le_of_ble_eq_true rfl) ⟨(Nat.le_of_ble_eq_true rfl), (Nat.le_of_ble_eq_true rfl)⟩ rfl rfl md_W_addPoint_10 (fun v6 s5 => ?_)
    refine sp_if_ne (pc := 13) hX 23 (by decide) md_W_addPoint_13 (fun _ => ?_) (fun _ => ?_)
    · refine sp_sub [0] (L' := [(0, Value.ref x0)]) rfl ?_
      exact sj_W_addPoint_16 hX hR x0 s5
    · refine sp_aload_n (pc := 23) (k := 0) (i := 0) hX rfl 0 rfl md_W_addPoint_23 ?_
      refine sp_getR (pc := 24) (ci := 9) (k := 0) (idx := 10) hX mcl_9 (by decide) mq_284 rfl md_W_addPoint_24 (fun v7 => ?_)
      refine sp_iload_n (pc := 27) (k := 1) (i := 1) hX rfl 1 rfl md_W_addPoint_27 ?_
      refine sp_callVI (pc := 28) (y := my_Z_hasPointAt) (ccy := prog_11_method_4_code) (nLy := 3) (ret := (some .boolean)) (rmy := mr_Z_hasPointAt) (n := 1) (idx := 223) (As := [.int (iI x1)]) (st := []) (o := v7) (cells' := 0) (slots' := 0) hX (fun _ h => mc_Z_hasPointAt h) mk_Z_hasPointAt mv_Z_hasPointAt mcl_7 (fun _ h => pw_gd_of h) mq_715 ⟨(Nat.le_of_ble_eq_true rfl), (Nat.le_of_ble_eq_true rfl)⟩ rfl rfl (Nat.le_of_ble_eq_true rfl) ⟨(Nat.le_of_ble_eq_true rfl), (Nat.le_of_ble_eq_true rfl)⟩ rfl rfl md_W_addPoint_28 (fun v9 s8 => ?_)
      refine sp_if_eq (pc := 31) hX 41 (by decide) md_W_addPoint_31 (fun _ => ?_) (fun _ => ?_)
      · refine sp_aload_n (pc := 41) (k := 0) (i := 0) hX rfl 0 rfl md_W_addPoint_41 ?_
        refine sp_getR (pc := 42) (ci := 9) (k := 0) (idx := 10) hX mcl_9 (by decide) mq_284 rfl md_W_addPoint_42 (fun v10 => ?_)
        refine sp_getIN (pc := 45) (ci := 7) (k := 2) (idx := 226) hX mcl_7 (by decide) mn_107 rfl md_W_addPoint_45 (fun v11 => ?_)
        refine sp_bipush (pc := 48) hX (by decide) md_W_addPoint_48 ?_
        refine sp_icmp_lt (pc := 50) hX 60 (by decide) md_W_addPoint_50 (fun _ => ?_) (fun _ => ?_)
        · refine sp_aload_n (pc := 60) (k := 0) (i := 0) hX rfl 0 rfl md_W_addPoint_60 ?_
          refine sp_getR (pc := 61) (ci := 9) (k := 1) (idx := 19) hX mcl_9 (by decide) mq_285 rfl md_W_addPoint_61 (fun v12 => ?_)
          refine sp_aload_n (pc := 64) (k := 0) (i := 0) hX rfl 0 rfl md_W_addPoint_64 ?_
          refine sp_getR (pc := 65) (ci := 9) (k := 0) (idx := 10) hX mcl_9 (by decide) mq_284 rfl md_W_addPoint_65 (fun v13 => ?_)
          refine sp_callVV (pc := 68) (y := my_H_keep) (ccy := prog_6_method_2_code) (nLy := 2) (ret := none) (rmy := mr_H_keep) (n := 1) (idx := 87) (As := [.ref v13]) (st := []) (o := v12) (cells' := 0) (slots' := 0) hX (fun _ h => mc_H_keep h) mk_H_keep mv_H_keep mcl_3 (fun _ h => pw_gd_of h) mq_329 ⟨(Nat.le_of_ble_eq_true rfl), (Nat.le_of_ble_eq_true rfl)⟩ rfl rfl (Nat.le_of_ble_eq_true rfl) ⟨(Nat.le_of_ble_eq_true rfl), (Nat.le_of_ble_eq_true rfl)⟩ rfl rfl md_W_addPoint_68 (fun s14 => ?_)
          refine sp_aload_n (pc := 71) (k := 0) (i := 0) hX rfl 0 rfl md_W_addPoint_71 ?_
          refine sp_getR (pc := 72) (ci := 9) (k := 0) (idx := 10) hX mcl_9 (by decide) mq_284 rfl md_W_addPoint_72 (fun v15 => ?_)
          refine sp_iload_n (pc := 75) (k := 1) (i := 1) hX rfl 1 rfl md_W_addPoint_75 ?_
          refine sp_iload_n (pc := 76) (k := 2) (i := 2) hX rfl 2 rfl md_W_addPoint_76 ?_
          refine sp_callVV (pc := 77) (y := my_Z_putPoint) (ccy := prog_11_method_5_code) (nLy := 3) (ret := none) (rmy := mr_Z_putPoint) (n := 2) (idx := 229) (As := [.int (iI x1), .int (iI x2)]) (st := []) (o := v15) (cells' := 0) (slots' := 0) hX (fun _ h => mc_Z_putPoint h) mk_Z_putPoint mv_Z_putPoint mcl_7 (fun _ h => pw_gd_of h) mq_719 ⟨(Nat.le_of_ble_eq_true rfl), (Nat.le_of_ble_eq_true rfl)⟩ rfl rfl (Nat.le_of_ble_eq_true rfl) ⟨(Nat.le_of_ble_eq_true rfl), (Nat.le_of_ble_eq_true rfl)⟩ rfl rfl md_W_addPoint_77 (fun s16 => ?_)
          refine sp_aload_n (pc := 80) (k := 0) (i := 0) hX rfl 0 rfl md_W_addPoint_80 ?_
          refine sp_getR (pc := 81) (ci := 9) (k := 0) (idx := 10) hX mcl_9 (by decide) mq_284 rfl md_W_addPoint_81 (fun v17 => ?_)
          refine sp_getIN (pc := 84) (ci := 7) (k := 2) (idx := 226) hX mcl_7 (by decide) mn_107 rfl md_W_addPoint_84 (fun v18 => ?_)
          exact sp_iret (pc := 87) hX hR rfl (Nat.le_of_ble_eq_true rfl) md_W_addPoint_87
        · refine sp_aload_n (pc := 53) (k := 0) (i := 0) hX rfl 0 rfl md_W_addPoint_53 ?_
          refine sp_bipush (pc := 54) hX (by decide) md_W_addPoint_54 ?_
          refine sp_callVI (pc := 56) (y := my_W_fail) (ccy := prog_1_method_37_code) (nLy := 3) (ret := (some .int)) (rmy := mr_W_fail) (n := 1) (idx := 79) (As := [.int (iI (-4 : Int))]) (st := []) (o := x0) (cells' := 0) (slots' := 0) hX (fun _ h => mc_W_fail h) mk_W_fail mv_W_fail mcl_9 (fun _ h => pw_gd_of h) mq_325 ⟨(Nat.le_of_ble_eq_true rfl), (Nat.le_of_ble_eq_true rfl)⟩ rfl rfl (Nat.le_of_ble_eq_true rfl) ⟨(Nat.le_of_ble_eq_true rfl), (Nat.le_of_ble_eq_true rfl)⟩ rfl rfl md_W_addPoint_56 (fun v20 s19 => ?_)
          exact sp_iret (pc := 59) hX hR rfl (Nat.le_of_ble_eq_true rfl) md_W_addPoint_59
      · refine sp_aload_n (pc := 34) (k := 0) (i := 0) hX rfl 0 rfl md_W_addPoint_34 ?_
        refine sp_bipush (pc := 35) hX (by decide) md_W_addPoint_35 ?_
        refine sp_callVI (pc := 37) (y := my_W_fail) (ccy := prog_1_method_37_code) (nLy := 3) (ret := (some .int)) (rmy := mr_W_fail) (n := 1) (idx := 79) (As := [.int (iI (-3 : Int))]) (st := []) (o := x0) (cells' := 0) (slots' := 0) hX (fun _ h => mc_W_fail h) mk_W_fail mv_W_fail mcl_9 (fun _ h => pw_gd_of h) mq_325 ⟨(Nat.le_of_ble_eq_true rfl), (Nat.le_of_ble_eq_true rfl)⟩ rfl rfl (Nat.le_of_ble_eq_true rfl) ⟨(Nat.le_of_ble_eq_true rfl), (Nat.le_of_ble_eq_true rfl)⟩ rfl rfl md_W_addPoint_37 (fun v22 s21 => ?_)
        exact sp_iret (pc := 40) hX hR rfl (Nat.le_of_ble_eq_true rfl) md_W_addPoint_40
/-! PadeWorkbench.clearPoints()I -/
theorem md_W_clearPoints_0 : decode prog_1_method_28_code 0 = .ok (.aload_n 0, 1) := by decide +kernel
theorem md_W_clearPoints_1 : decode prog_1_method_28_code 1 = .ok (.getfield 19, 3) := by decide +kernel
theorem md_W_clearPoints_4 : decode prog_1_method_28_code 4 = .ok (.aload_n 0, 1) := by decide +kernel
theorem md_W_clearPoints_5 : decode prog_1_method_28_code 5 = .ok (.getfield 10, 3) := by decide +kernel
theorem md_W_clearPoints_8 : decode prog_1_method_28_code 8 = .ok (.invokevirtual 87, 3) := by decide +kernel
theorem md_W_clearPoints_11 : decode prog_1_method_28_code 11 = .ok (.aload_n 0, 1) := by decide +kernel
theorem md_W_clearPoints_12 : decode prog_1_method_28_code 12 = .ok (.getfield 10, 3) := by decide +kernel
theorem md_W_clearPoints_15 : decode prog_1_method_28_code 15 = .ok (.getfield 226, 3) := by decide +kernel
theorem md_W_clearPoints_18 : decode prog_1_method_28_code 18 = .ok (.istore_n 1, 1) := by decide +kernel
theorem md_W_clearPoints_19 : decode prog_1_method_28_code 19 = .ok (.aload_n 0, 1) := by decide +kernel
theorem md_W_clearPoints_20 : decode prog_1_method_28_code 20 = .ok (.getfield 10, 3) := by decide +kernel
theorem md_W_clearPoints_23 : decode prog_1_method_28_code 23 = .ok (.iconst 0, 1) := by decide +kernel
theorem md_W_clearPoints_24 : decode prog_1_method_28_code 24 = .ok (.putfield 226, 3) := by decide +kernel
theorem md_W_clearPoints_27 : decode prog_1_method_28_code 27 = .ok (.iload_n 1, 1) := by decide +kernel
theorem md_W_clearPoints_28 : decode prog_1_method_28_code 28 = .ok (.ireturn, 1) := by decide +kernel
def mf_W_clearPoints (x0 : Nat) (σ : pw_Sto) : Option (Int × pw_Sto) := pw_gd 9 x0 σ ((pw_gr 9 x0 1 σ).bind (fun v1 => (pw_gr 9 x0 0 σ).bind (fun v2 => pw_bd (mf_H_keep v1 v2 σ) (fun _ s3 => (pw_gr 9 x0 0 s3).bind (fun v4 => (pw_gi 7 v4 2 s3).bind (fun v5 => (pw_gr 9 x0 0 s3).bind (fun v6 => (pw_pi 7 v6 2 (0 : Int) s3).bind (fun s7 => some (v5, s7)))))))))
set_option maxHeartbeats 4000000 in
set_option maxRecDepth 20000 in
theorem mc_W_clearPoints {l : Launch} {E : pw_E} {σ : pw_Sto} {x0 : Nat} {out : Int × pw_Sto} (h : mf_W_clearPoints x0 σ = some out) : pw_CI l E my_W_clearPoints prog_1_method_28_code 2 (some .int) mr_W_clearPoints [.ref x0] σ out := by
  unfold mf_W_clearPoints at h
  refine pw_entryI (by decide) (Nat.le_of_ble_eq_true rfl) (pw_gd_val h) (fun X hX hR hI => ?_)
  change pw_Ok X prog_1_method_28_code "PadeWorkbench" mr_W_clearPoints 2 at hX
  show pw_Sp X 0 0 0 [(0, Value.ref x0)] [] σ _
  refine sp_aload_n (pc := 0) (k := 0) (i := 0) hX rfl 0 rfl md_W_clearPoints_0 ?_
  refine sp_getR (pc := 1) (ci := 9) (k := 1) (idx := 19) hX mcl_9 (by decide) mq_285 rfl md_W_clearPoints_1 (fun v1 => ?_)
  refine sp_aload_n (pc := 4) (k := 0) (i := 0) hX rfl 0 rfl md_W_clearPoints_4 ?_
  refine sp_getR (pc := 5) (ci := 9) (k := 0) (idx := 10) hX mcl_9 (by decide) mq_284 rfl md_W_clearPoints_5 (fun v2 => ?_)
  refine sp_callVV (pc := 8) (y := my_H_keep) (ccy := prog_6_method_2_code) (nLy := 2) (ret := none) (rmy := mr_H_keep) (n := 1) (idx := 87) (As := [.ref v2]) (st := []) (o := v1) (cells' := 0) (slots' := 0) hX (fun _ h => mc_H_keep h) mk_H_keep mv_H_keep mcl_3 (fun _ h => pw_gd_of h) mq_329 ⟨(Nat.le_of_ble_eq_true rfl), (Nat.le_of_ble_eq_true rfl)⟩ rfl rfl (Nat.le_of_ble_eq_true rfl) ⟨(Nat.le_of_ble_eq_true rfl), (Nat.le_of_ble_eq_true rfl)⟩ rfl rfl md_W_clearPoints_8 (fun s3 => ?_)
  refine sp_aload_n (pc := 11) (k := 0) (i := 0) hX rfl 0 rfl md_W_clearPoints_11 ?_
  refine sp_getR (pc := 12) (ci := 9) (k := 0) (idx := 10) hX mcl_9 (by decide) mq_284 rfl md_W_clearPoints_12 (fun v4 => ?_)
  refine sp_getIN (pc := 15) (ci := 7) (k := 2) (idx := 226) hX mcl_7 (by decide) mn_107 rfl md_W_clearPoints_15 (fun v5 => ?_)
  refine sp_istore_n (pc := 18) (k := 1) (i := 1) (L' := [(1, Value.int (iI v5)), (0, Value.ref x0)]) hX rfl (by decide) rfl md_W_clearPoints_18 ?_
  refine sp_aload_n (pc := 19) (k := 0) (i := 0) hX rfl 1 rfl md_W_clearPoints_19 ?_
  refine sp_getR (pc := 20) (ci := 9) (k := 0) (idx := 10) hX mcl_9 (by decide) mq_284 rfl md_W_clearPoints_20 (fun v6 => ?_)
  refine sp_iconst (pc := 23) hX md_W_clearPoints_23 ?_
  refine sp_putIN (pc := 24) (ci := 7) (k := 2) (idx := 226) hX mcl_7 (by decide) mn_107 rfl rfl rfl md_W_clearPoints_24 (fun s7 => ?_)
  refine sp_iload_n (pc := 27) (k := 1) (i := 1) hX rfl 0 rfl md_W_clearPoints_27 ?_
  exact sp_iret (pc := 28) hX hR rfl (Nat.le_of_ble_eq_true rfl) md_W_clearPoints_28
/-! PadeWorkbench.isInterpolant(I)Z -/
theorem md_W_isInterpolant_0 : decode prog_1_method_43_code 0 = .ok (.iload_n 1, 1) := by decide +kernel
theorem md_W_isInterpolant_1 : decode prog_1_method_43_code 1 = .ok (.ifCond .lt 18, 3) := by decide +kernel
theorem md_W_isInterpolant_19 : decode prog_1_method_43_code 19 = .ok (.iconst 0, 1) := by decide +kernel
theorem md_W_isInterpolant_20 : decode prog_1_method_43_code 20 = .ok (.ireturn, 1) := by decide +kernel
theorem md_W_isInterpolant_4 : decode prog_1_method_43_code 4 = .ok (.iload_n 1, 1) := by decide +kernel
theorem md_W_isInterpolant_5 : decode prog_1_method_43_code 5 = .ok (.aload_n 0, 1) := by decide +kernel
theorem md_W_isInterpolant_6 : decode prog_1_method_43_code 6 = .ok (.getfield 10, 3) := by decide +kernel
theorem md_W_isInterpolant_9 : decode prog_1_method_43_code 9 = .ok (.getfield 226, 3) := by decide +kernel
theorem md_W_isInterpolant_12 : decode prog_1_method_43_code 12 = .ok (.if_icmp .ge 7, 3) := by decide +kernel
theorem md_W_isInterpolant_15 : decode prog_1_method_43_code 15 = .ok (.iconst 1, 1) := by decide +kernel
theorem md_W_isInterpolant_16 : decode prog_1_method_43_code 16 = .ok (.goto 4, 3) := by decide +kernel
def mf_W_isInterpolant (x0 : Nat) (x1 : Int) (σ : pw_Sto) : Option (Int × pw_Sto) := pw_gd 9 x0 σ (pw_ck x1 0 (if x1 < 0 then some ((0 : Int), σ) else (pw_gr 9 x0 0 σ).bind (fun v1 => (pw_gi 7 v1 2 σ).bind (fun v2 => pw_ck x1 v2 (if v2 ≤ x1 then some ((0 : Int), σ) else some ((1 : Int), σ))))))
set_option maxHeartbeats 4000000 in
set_option maxRecDepth 20000 in
theorem mc_W_isInterpolant {l : Launch} {E : pw_E} {σ : pw_Sto} {x0 : Nat} {x1 : Int} {out : Int × pw_Sto} (h : mf_W_isInterpolant x0 x1 σ = some out) : pw_CI l E my_W_isInterpolant prog_1_method_43_code 2 (some .boolean) mr_W_isInterpolant [.ref x0, .int (iI x1)] σ out := by
  unfold mf_W_isInterpolant at h
  refine pw_entryZ (by decide) (Nat.le_of_ble_eq_true rfl) (pw_gd_val h) (fun X hX hR hI => ?_)
  change pw_Ok X prog_1_method_43_code "PadeWorkbench" mr_W_isInterpolant 2 at hX
  show pw_Sp X 0 0 0 [(0, Value.ref x0), (1, Value.int (iI x1))] [] σ _
  refine sp_iload_n (pc := 0) (k := 1) (i := 1) hX rfl 1 rfl md_W_isInterpolant_0 ?_
  refine sp_if_lt (pc := 1) hX 19 (by decide) md_W_isInterpolant_1 (fun _ => ?_) (fun _ => ?_)
  · refine sp_iconst (pc := 19) hX md_W_isInterpolant_19 ?_
    exact sp_zret (pc := 20) hX hR (by decide) rfl (Nat.le_of_ble_eq_true rfl) md_W_isInterpolant_20
  · refine sp_iload_n (pc := 4) (k := 1) (i := 1) hX rfl 1 rfl md_W_isInterpolant_4 ?_
    refine sp_aload_n (pc := 5) (k := 0) (i := 0) hX rfl 0 rfl md_W_isInterpolant_5 ?_
    refine sp_getR (pc := 6) (ci := 9) (k := 0) (idx := 10) hX mcl_9 (by decide) mq_284 rfl md_W_isInterpolant_6 (fun v1 => ?_)
    refine sp_getIN (pc := 9) (ci := 7) (k := 2) (idx := 226) hX mcl_7 (by decide) mn_107 rfl md_W_isInterpolant_9 (fun v2 => ?_)
    refine sp_icmp_ge (pc := 12) hX 19 (by decide) md_W_isInterpolant_12 (fun _ => ?_) (fun _ => ?_)
    · refine sp_iconst (pc := 19) hX md_W_isInterpolant_19 ?_
      exact sp_zret (pc := 20) hX hR (by decide) rfl (Nat.le_of_ble_eq_true rfl) md_W_isInterpolant_20
    · refine sp_iconst (pc := 15) hX md_W_isInterpolant_15 ?_
      refine sp_goto (pc := 16) hX 20 (by decide) md_W_isInterpolant_16 ?_
      exact sp_zret (pc := 20) hX hR (by decide) rfl (Nat.le_of_ble_eq_true rfl) md_W_isInterpolant_20
/-! PadeWorkbench.interpolate(I)V -/
theorem md_W_interpolate_0 : decode prog_1_method_48_code 0 = .ok (.aload_n 0, 1) := by decide +kernel
theorem md_W_interpolate_1 : decode prog_1_method_48_code 1 = .ok (.getfield 33, 3) := by decide +kernel
theorem md_W_interpolate_4 : decode prog_1_method_48_code 4 = .ok (.aload_n 0, 1) := by decide +kernel
theorem md_W_interpolate_5 : decode prog_1_method_48_code 5 = .ok (.getfield 10, 3) := by decide +kernel
theorem md_W_interpolate_8 : decode prog_1_method_48_code 8 = .ok (.invokevirtual 305, 3) := by decide +kernel
theorem md_W_interpolate_11 : decode prog_1_method_48_code 11 = .ok (.aload_n 0, 1) := by decide +kernel
theorem md_W_interpolate_12 : decode prog_1_method_48_code 12 = .ok (.getfield 33, 3) := by decide +kernel
theorem md_W_interpolate_15 : decode prog_1_method_48_code 15 = .ok (.iload_n 1, 1) := by decide +kernel
theorem md_W_interpolate_16 : decode prog_1_method_48_code 16 = .ok (.invokevirtual 289, 3) := by decide +kernel
theorem md_W_interpolate_19 : decode prog_1_method_48_code 19 = .ok (.aload_n 0, 1) := by decide +kernel
theorem md_W_interpolate_20 : decode prog_1_method_48_code 20 = .ok (.getfield 40, 3) := by decide +kernel
theorem md_W_interpolate_23 : decode prog_1_method_48_code 23 = .ok (.aload_n 0, 1) := by decide +kernel
theorem md_W_interpolate_24 : decode prog_1_method_48_code 24 = .ok (.getfield 33, 3) := by decide +kernel
theorem md_W_interpolate_27 : decode prog_1_method_48_code 27 = .ok (.getfield 202, 3) := by decide +kernel
theorem md_W_interpolate_30 : decode prog_1_method_48_code 30 = .ok (.aload_n 0, 1) := by decide +kernel
theorem md_W_interpolate_31 : decode prog_1_method_48_code 31 = .ok (.getfield 33, 3) := by decide +kernel
theorem md_W_interpolate_34 : decode prog_1_method_48_code 34 = .ok (.getfield 292, 3) := by decide +kernel
theorem md_W_interpolate_37 : decode prog_1_method_48_code 37 = .ok (.invokevirtual 295, 3) := by decide +kernel
theorem md_W_interpolate_40 : decode prog_1_method_48_code 40 = .ok (.iconst 0, 1) := by decide +kernel
theorem md_W_interpolate_41 : decode prog_1_method_48_code 41 = .ok (.istore_n 2, 1) := by decide +kernel
theorem md_W_interpolate_42 : decode prog_1_method_48_code 42 = .ok (.iload_n 2, 1) := by decide +kernel
theorem md_W_interpolate_43 : decode prog_1_method_48_code 43 = .ok (.aload_n 0, 1) := by decide +kernel
theorem md_W_interpolate_44 : decode prog_1_method_48_code 44 = .ok (.getfield 10, 3) := by decide +kernel
theorem md_W_interpolate_47 : decode prog_1_method_48_code 47 = .ok (.getfield 226, 3) := by decide +kernel
theorem md_W_interpolate_50 : decode prog_1_method_48_code 50 = .ok (.if_icmp .ge 38, 3) := by decide +kernel
theorem md_W_interpolate_88 : decode prog_1_method_48_code 88 = .ok (.aload_n 0, 1) := by decide +kernel
theorem md_W_interpolate_89 : decode prog_1_method_48_code 89 = .ok (.getfield 40, 3) := by decide +kernel
theorem md_W_interpolate_92 : decode prog_1_method_48_code 92 = .ok (.aload_n 0, 1) := by decide +kernel
theorem md_W_interpolate_93 : decode prog_1_method_48_code 93 = .ok (.getfield 10, 3) := by decide +kernel
theorem md_W_interpolate_96 : decode prog_1_method_48_code 96 = .ok (.getfield 83, 3) := by decide +kernel
theorem md_W_interpolate_99 : decode prog_1_method_48_code 99 = .ok (.invokevirtual 302, 3) := by decide +kernel
theorem md_W_interpolate_102 : decode prog_1_method_48_code 102 = .ok (.return_, 1) := by decide +kernel
theorem md_W_interpolate_53 : decode prog_1_method_48_code 53 = .ok (.iload_n 2, 1) := by decide +kernel
theorem md_W_interpolate_54 : decode prog_1_method_48_code 54 = .ok (.bipush 10, 2) := by decide +kernel
theorem md_W_interpolate_56 : decode prog_1_method_48_code 56 = .ok (.if_icmp .ge 32, 3) := by decide +kernel
theorem md_W_interpolate_59 : decode prog_1_method_48_code 59 = .ok (.aload_n 0, 1) := by decide +kernel
theorem md_W_interpolate_60 : decode prog_1_method_48_code 60 = .ok (.getfield 40, 3) := by decide +kernel
theorem md_W_interpolate_63 : decode prog_1_method_48_code 63 = .ok (.aload_n 0, 1) := by decide +kernel
theorem md_W_interpolate_64 : decode prog_1_method_48_code 64 = .ok (.getfield 10, 3) := by decide +kernel
theorem md_W_interpolate_67 : decode prog_1_method_48_code 67 = .ok (.getfield 264, 3) := by decide +kernel
theorem md_W_interpolate_70 : decode prog_1_method_48_code 70 = .ok (.iload_n 2, 1) := by decide +kernel
theorem md_W_interpolate_71 : decode prog_1_method_48_code 71 = .ok (.iaload, 1) := by decide +kernel
theorem md_W_interpolate_72 : decode prog_1_method_48_code 72 = .ok (.aload_n 0, 1) := by decide +kernel
theorem md_W_interpolate_73 : decode prog_1_method_48_code 73 = .ok (.getfield 10, 3) := by decide +kernel
theorem md_W_interpolate_76 : decode prog_1_method_48_code 76 = .ok (.getfield 83, 3) := by decide +kernel
theorem md_W_interpolate_79 : decode prog_1_method_48_code 79 = .ok (.invokevirtual 299, 3) := by decide +kernel
theorem md_W_interpolate_82 : decode prog_1_method_48_code 82 = .ok (.iinc 2 1, 3) := by decide +kernel
theorem md_W_interpolate_85 : decode prog_1_method_48_code 85 = .ok (.goto (-43), 3) := by decide +kernel
def mj_W_interpolate_88 (x0 : Nat) (σ : pw_Sto) : Option (Unit × pw_Sto) := (pw_gr 9 x0 4 σ).bind (fun v14 => (pw_gr 9 x0 0 σ).bind (fun v15 => (pw_gi 7 v15 0 σ).bind (fun v16 => pw_bd (mf_R_scale v14 v16 σ) (fun _ s17 => some ((), s17)))))
def mb_W_interpolate_42 (rc : Nat → Int → pw_Sto → Option (Unit × pw_Sto)) : Nat → Int → pw_Sto → Option (Unit × pw_Sto) := fun x0 x2 σ => (pw_gr 9 x0 0 σ).bind (fun v12 => (pw_gi 7 v12 2 σ).bind (fun v13 => pw_ck x2 v13 (if v13 ≤ x2 then mj_W_interpolate_88 x0 σ else pw_ck x2 (10 : Int) (if (10 : Int) ≤ x2 then mj_W_interpolate_88 x0 σ else (pw_gr 9 x0 4 σ).bind (fun v18 => (pw_gr 9 x0 0 σ).bind (fun v19 => (pw_gr 7 v19 3 σ).bind (fun v20 => (pw_ai v20 x2 σ).bind (fun v21 => (pw_gr 9 x0 0 σ).bind (fun v22 => (pw_gi 7 v22 0 σ).bind (fun v23 => pw_bd (mf_R_cancelRoot v18 v21 v23 σ) (fun _ s24 => rc x0 (x2 + 1) s24)))))))))))
def ml_W_interpolate_42 : Nat → Nat → Int → pw_Sto → Option (Unit × pw_Sto) := pw_lp (fun _ _ _ => none) (mb_W_interpolate_42)
def mf_W_interpolate (x0 : Nat) (x1 : Int) (σ : pw_Sto) : Option (Unit × pw_Sto) := pw_gd 9 x0 σ ((pw_gr 9 x0 3 σ).bind (fun v1 => (pw_gr 9 x0 0 σ).bind (fun v2 => pw_bd (mf_E_startWithPoints v1 v2 σ) (fun _ s3 => (pw_gr 9 x0 3 s3).bind (fun v4 => pw_bd (mf_E_runDownTo v4 x1 s3) (fun _ s5 => (pw_gr 9 x0 4 s5).bind (fun v6 => (pw_gr 9 x0 3 s5).bind (fun v7 => (pw_gr 0 v7 1 s5).bind (fun v8 => (pw_gr 9 x0 3 s5).bind (fun v9 => (pw_gr 0 v9 3 s5).bind (fun v10 => pw_bd (mf_R_take v6 v8 v10 s5) (fun _ s11 => ml_W_interpolate_42 1000 x0 (0 : Int) s11))))))))))))
set_option maxHeartbeats 4000000 in
set_option maxRecDepth 20000 in
theorem sj_W_interpolate_88 {X : pw_X Unit} (hX : pw_Ok X prog_1_method_48_code "PadeWorkbench" mr_W_interpolate 3) (hR : pw_RV X prog_1_method_48_code) (x0 : Nat) (σ : pw_Sto) : pw_Sp X 0 0 88 [(0, Value.ref x0)] [] σ (mj_W_interpolate_88 x0 σ) := by
  unfold mj_W_interpolate_88
  refine sp_aload_n (pc := 88) (k := 0) (i := 0) hX rfl 0 rfl md_W_interpolate_88 ?_
  refine sp_getR (pc := 89) (ci := 9) (k := 4) (idx := 40) hX mcl_9 (by decide) mq_288 rfl md_W_interpolate_89 (fun v14 => ?_)
  refine sp_aload_n (pc := 92) (k := 0) (i := 0) hX rfl 0 rfl md_W_interpolate_92 ?_
  refine sp_getR (pc := 93) (ci := 9) (k := 0) (idx := 10) hX mcl_9 (by decide) mq_284 rfl md_W_interpolate_93 (fun v15 => ?_)
  refine sp_getIN (pc := 96) (ci := 7) (k := 0) (idx := 83) hX mcl_7 (by decide) mn_101 rfl md_W_interpolate_96 (fun v16 => ?_)
  refine sp_callVV (pc := 99) (y := my_R_scale) (ccy := prog_4_method_4_code) (nLy := 3) (ret := none) (rmy := mr_R_scale) (n := 1) (idx := 302) (As := [.int (iI v16)]) (st := []) (o := v14) (cells' := 0) (slots' := 0) hX (fun _ h => mc_R_scale h) mk_R_scale mv_R_scale mcl_1 (fun _ h => pw_gd_of h) mq_557 ⟨(Nat.le_of_ble_eq_true rfl), (Nat.le_of_ble_eq_true rfl)⟩ rfl rfl (Nat.le_of_ble_eq_true rfl) ⟨(Nat.le_of_ble_eq_true rfl), (Nat.le_of_ble_eq_true rfl)⟩ rfl rfl md_W_interpolate_99 (fun s17 => ?_)
  exact sp_vret (pc := 102) hX hR rfl (Nat.le_of_ble_eq_true rfl) md_W_interpolate_102
set_option maxHeartbeats 4000000 in
set_option maxRecDepth 20000 in
theorem sl_W_interpolate_42 {X : pw_X Unit} (hX : pw_Ok X prog_1_method_48_code "PadeWorkbench" mr_W_interpolate 3) (hR : pw_RV X prog_1_method_48_code) : ∀ (n : Nat) (x0 : Nat) (x2 : Int) (σ : pw_Sto), pw_Sp X 0 0 42 [(0, Value.ref x0), (2, Value.int (iI x2))] [] σ (ml_W_interpolate_42 n x0 x2 σ) := by
  intro n
  induction n with
  | zero => intros; exact pw_none
  | succ n ih =>
    intro x0 x2 σ
    show pw_Sp X 0 0 42 _ _ σ (mb_W_interpolate_42 (ml_W_interpolate_42 n) x0 x2 σ)
    unfold mb_W_interpolate_42
    refine sp_iload_n (pc := 42) (k := 2) (i := 2) hX rfl 1 rfl md_W_interpolate_42 ?_
    refine sp_aload_n (pc := 43) (k := 0) (i := 0) hX rfl 0 rfl md_W_interpolate_43 ?_
    refine sp_getR (pc := 44) (ci := 9) (k := 0) (idx := 10) hX mcl_9 (by decide) mq_284 rfl md_W_interpolate_44 (fun v12 => ?_)
    refine sp_getIN (pc := 47) (ci := 7) (k := 2) (idx := 226) hX mcl_7 (by decide) mn_107 rfl md_W_interpolate_47 (fun v13 => ?_)
    refine sp_icmp_ge (pc := 50) hX 88 (by decide) md_W_interpolate_50 (fun _ => ?_) (fun _ => ?_)
    · refine sp_sub [0] (L' := [(0, Value.ref x0)]) rfl ?_
      exact sj_W_interpolate_88 hX hR x0 σ
    · refine sp_iload_n (pc := 53) (k := 2) (i := 2) hX rfl 1 rfl md_W_interpolate_53 ?_
      refine sp_bipush (pc := 54) hX (by decide) md_W_interpolate_54 ?_
      refine sp_icmp_ge (pc := 56) hX 88 (by decide) md_W_interpolate_56 (fun _ => ?_) (fun _ => ?_)
      · refine sp_sub [0] (L' := [(0, Value.ref x0)]) rfl ?_
        exact sj_W_interpolate_88 hX hR x0 σ
      · refine sp_aload_n (pc := 59) (k := 0) (i := 0) hX rfl 0 rfl md_W_interpolate_59 ?_
        refine sp_getR (pc := 60) (ci := 9) (k := 4) (idx := 40) hX mcl_9 (by decide) mq_288 rfl md_W_interpolate_60 (fun v18 => ?_)
        refine sp_aload_n (pc := 63) (k := 0) (i := 0) hX rfl 0 rfl md_W_interpolate_63 ?_
        refine sp_getR (pc := 64) (ci := 9) (k := 0) (idx := 10) hX mcl_9 (by decide) mq_284 rfl md_W_interpolate_64 (fun v19 => ?_)
        refine sp_getRN (pc := 67) (ci := 7) (k := 3) (idx := 264) hX mcl_7 (by decide) mn_110 rfl md_W_interpolate_67 (fun v20 => ?_)
        refine sp_iload_n (pc := 70) (k := 2) (i := 2) hX rfl 1 rfl md_W_interpolate_70 ?_
        refine sp_iaload (pc := 71) hX md_W_interpolate_71 (fun v21 => ?_)
        refine sp_aload_n (pc := 72) (k := 0) (i := 0) hX rfl 0 rfl md_W_interpolate_72 ?_
        refine sp_getR (pc := 73) (ci := 9) (k := 0) (idx := 10) hX mcl_9 (by decide) mq_284 rfl md_W_interpolate_73 (fun v22 => ?_)
        refine sp_getIN (pc := 76) (ci := 7) (k := 0) (idx := 83) hX mcl_7 (by decide) mn_101 rfl md_W_interpolate_76 (fun v23 => ?_)
        refine sp_callVV (pc := 79) (y := my_R_cancelRoot) (ccy := prog_4_method_3_code) (nLy := 4) (ret := none) (rmy := mr_R_cancelRoot) (n := 2) (idx := 299) (As := [.int (iI v21), .int (iI v23)]) (st := []) (o := v18) (cells' := 0) (slots' := 0) hX (fun _ h => mc_R_cancelRoot h) mk_R_cancelRoot mv_R_cancelRoot mcl_1 (fun _ h => pw_gd_of h) mq_545 ⟨(Nat.le_of_ble_eq_true rfl), (Nat.le_of_ble_eq_true rfl)⟩ rfl rfl (Nat.le_of_ble_eq_true rfl) ⟨(Nat.le_of_ble_eq_true rfl), (Nat.le_of_ble_eq_true rfl)⟩ rfl rfl md_W_interpolate_79 (fun s24 => ?_)
        refine sp_iinc (pc := 82) (i := 2) (L' := [(2, Value.int (iI (x2 + 1))), (0, Value.ref x0)]) hX 1 rfl (by decide) rfl md_W_interpolate_82 ?_
        refine sp_goto (pc := 85) hX 42 (by decide) md_W_interpolate_85 ?_
        refine sp_sub [1, 0] (L' := [(0, Value.ref x0), (2, Value.int (iI (x2 + 1)))]) rfl ?_
        exact ih x0 (x2 + 1) s24
set_option maxHeartbeats 4000000 in
set_option maxRecDepth 20000 in
theorem mc_W_interpolate {l : Launch} {E : pw_E} {σ : pw_Sto} {x0 : Nat} {x1 : Int} {out : Unit × pw_Sto} (h : mf_W_interpolate x0 x1 σ = some out) : pw_CV l E my_W_interpolate prog_1_method_48_code 3 none mr_W_interpolate [.ref x0, .int (iI x1)] σ out := by
  unfold mf_W_interpolate at h
  refine pw_entryV (by decide) (Nat.le_of_ble_eq_true rfl) (pw_gd_val h) (fun X hX hR hI => ?_)
  change pw_Ok X prog_1_method_48_code "PadeWorkbench" mr_W_interpolate 3 at hX
  show pw_Sp X 0 0 0 [(0, Value.ref x0), (1, Value.int (iI x1))] [] σ _
  refine sp_aload_n (pc := 0) (k := 0) (i := 0) hX rfl 0 rfl md_W_interpolate_0 ?_
  refine sp_getR (pc := 1) (ci := 9) (k := 3) (idx := 33) hX mcl_9 (by decide) mq_287 rfl md_W_interpolate_1 (fun v1 => ?_)
  refine sp_aload_n (pc := 4) (k := 0) (i := 0) hX rfl 0 rfl md_W_interpolate_4 ?_
  refine sp_getR (pc := 5) (ci := 9) (k := 0) (idx := 10) hX mcl_9 (by decide) mq_284 rfl md_W_interpolate_5 (fun v2 => ?_)
  refine sp_callVV (pc := 8) (y := my_E_startWithPoints) (ccy := prog_2_method_3_code) (nLy := 6) (ret := none) (rmy := mr_E_startWithPoints) (n := 1) (idx := 305) (As := [.ref v2]) (st := []) (o := v1) (cells' := 0) (slots' := 0) hX (fun _ h => mc_E_startWithPoints h) mk_E_startWithPoints mv_E_startWithPoints mcl_0 (fun _ h => pw_gd_of h) mq_739 ⟨(Nat.le_of_ble_eq_true rfl), (Nat.le_of_ble_eq_true rfl)⟩ rfl rfl (Nat.le_of_ble_eq_true rfl) ⟨(Nat.le_of_ble_eq_true rfl), (Nat.le_of_ble_eq_true rfl)⟩ rfl rfl md_W_interpolate_8 (fun s3 => ?_)
  refine sp_aload_n (pc := 11) (k := 0) (i := 0) hX rfl 0 rfl md_W_interpolate_11 ?_
  refine sp_getR (pc := 12) (ci := 9) (k := 3) (idx := 33) hX mcl_9 (by decide) mq_287 rfl md_W_interpolate_12 (fun v4 => ?_)
  refine sp_iload_n (pc := 15) (k := 1) (i := 1) hX rfl 1 rfl md_W_interpolate_15 ?_
  refine sp_callVV (pc := 16) (y := my_E_runDownTo) (ccy := prog_2_method_5_code) (nLy := 3) (ret := none) (rmy := mr_E_runDownTo) (n := 1) (idx := 289) (As := [.int (iI x1)]) (st := []) (o := v4) (cells' := 0) (slots' := 0) hX (fun _ h => mc_E_runDownTo h) mk_E_runDownTo mv_E_runDownTo mcl_0 (fun _ h => pw_gd_of h) mq_514 ⟨(Nat.le_of_ble_eq_true rfl), (Nat.le_of_ble_eq_true rfl)⟩ rfl rfl (Nat.le_of_ble_eq_true rfl) ⟨(Nat.le_of_ble_eq_true rfl), (Nat.le_of_ble_eq_true rfl)⟩ rfl rfl md_W_interpolate_16 (fun s5 => ?_)
  refine sp_aload_n (pc := 19) (k := 0) (i := 0) hX rfl 0 rfl md_W_interpolate_19 ?_
  refine sp_getR (pc := 20) (ci := 9) (k := 4) (idx := 40) hX mcl_9 (by decide) mq_288 rfl md_W_interpolate_20 (fun v6 => ?_)
  refine sp_aload_n (pc := 23) (k := 0) (i := 0) hX rfl 0 rfl md_W_interpolate_23 ?_
  refine sp_getR (pc := 24) (ci := 9) (k := 3) (idx := 33) hX mcl_9 (by decide) mq_287 rfl md_W_interpolate_24 (fun v7 => ?_)
  refine sp_getRN (pc := 27) (ci := 0) (k := 1) (idx := 202) hX mcl_0 (by decide) mn_202 rfl md_W_interpolate_27 (fun v8 => ?_)
  refine sp_aload_n (pc := 30) (k := 0) (i := 0) hX rfl 0 rfl md_W_interpolate_30 ?_
  refine sp_getR (pc := 31) (ci := 9) (k := 3) (idx := 33) hX mcl_9 (by decide) mq_287 rfl md_W_interpolate_31 (fun v9 => ?_)
  refine sp_getRN (pc := 34) (ci := 0) (k := 3) (idx := 292) hX mcl_0 (by decide) mn_205 rfl md_W_interpolate_34 (fun v10 => ?_)
  refine sp_callVV (pc := 37) (y := my_R_take) (ccy := prog_4_method_2_code) (nLy := 3) (ret := none) (rmy := mr_R_take) (n := 2) (idx := 295) (As := [.ref v8, .ref v10]) (st := []) (o := v6) (cells' := 0) (slots' := 0) hX (fun _ h => mc_R_take h) mk_R_take mv_R_take mcl_1 (fun _ h => pw_gd_of h) mq_535 ⟨(Nat.le_of_ble_eq_true rfl), (Nat.le_of_ble_eq_true rfl)⟩ rfl rfl (Nat.le_of_ble_eq_true rfl) ⟨(Nat.le_of_ble_eq_true rfl), (Nat.le_of_ble_eq_true rfl)⟩ rfl rfl md_W_interpolate_37 (fun s11 => ?_)
  refine sp_iconst (pc := 40) hX md_W_interpolate_40 ?_
  refine sp_istore_n (pc := 41) (k := 2) (i := 2) (L' := [(2, Value.int (iI (0 : Int))), (0, Value.ref x0), (1, Value.int (iI x1))]) hX rfl (by decide) rfl md_W_interpolate_41 ?_
  refine sp_sub [1, 0] (L' := [(0, Value.ref x0), (2, Value.int (iI (0 : Int)))]) rfl ?_
  exact sl_W_interpolate_42 hX hR 1000 x0 (0 : Int) s11
/-! PadeWorkbench.interpolant(III)I -/
theorem md_W_interpolant_0 : decode prog_1_method_29_code 0 = .ok (.aload_n 0, 1) := by decide +kernel
theorem md_W_interpolant_1 : decode prog_1_method_29_code 1 = .ok (.iload_n 1, 1) := by decide +kernel
theorem md_W_interpolant_2 : decode prog_1_method_29_code 2 = .ok (.invokevirtual 233, 3) := by decide +kernel
theorem md_W_interpolant_5 : decode prog_1_method_29_code 5 = .ok (.ifCond .eq 22, 3) := by decide +kernel
theorem md_W_interpolant_27 : decode prog_1_method_29_code 27 = .ok (.aload_n 0, 1) := by decide +kernel
theorem md_W_interpolant_28 : decode prog_1_method_29_code 28 = .ok (.bipush (-2), 2) := by decide +kernel
theorem md_W_interpolant_30 : decode prog_1_method_29_code 30 = .ok (.invokevirtual 79, 3) := by decide +kernel
theorem md_W_interpolant_33 : decode prog_1_method_29_code 33 = .ok (.ireturn, 1) := by decide +kernel
theorem md_W_interpolant_8 : decode prog_1_method_29_code 8 = .ok (.iload_n 2, 1) := by decide +kernel
theorem md_W_interpolant_9 : decode prog_1_method_29_code 9 = .ok (.ifCond .lt 18, 3) := by decide +kernel
theorem md_W_interpolant_12 : decode prog_1_method_29_code 12 = .ok (.iload_n 2, 1) := by decide +kernel
theorem md_W_interpolant_13 : decode prog_1_method_29_code 13 = .ok (.iconst 1, 1) := by decide +kernel
theorem md_W_interpolant_14 : decode prog_1_method_29_code 14 = .ok (.if_icmp .gt 13, 3) := by decide +kernel
theorem md_W_interpolant_17 : decode prog_1_method_29_code 17 = .ok (.iload_n 3, 1) := by decide +kernel
theorem md_W_interpolant_18 : decode prog_1_method_29_code 18 = .ok (.ifCond .lt 9, 3) := by decide +kernel
theorem md_W_interpolant_21 : decode prog_1_method_29_code 21 = .ok (.iload_n 3, 1) := by decide +kernel
theorem md_W_interpolant_22 : decode prog_1_method_29_code 22 = .ok (.bipush 10, 2) := by decide +kernel
theorem md_W_interpolant_24 : decode prog_1_method_29_code 24 = .ok (.if_icmp .lt 10, 3) := by decide +kernel
theorem md_W_interpolant_34 : decode prog_1_method_29_code 34 = .ok (.aload_n 0, 1) := by decide +kernel
theorem md_W_interpolant_35 : decode prog_1_method_29_code 35 = .ok (.iload_n 1, 1) := by decide +kernel
theorem md_W_interpolant_36 : decode prog_1_method_29_code 36 = .ok (.invokevirtual 236, 3) := by decide +kernel
theorem md_W_interpolant_39 : decode prog_1_method_29_code 39 = .ok (.iload_n 2, 1) := by decide +kernel
theorem md_W_interpolant_40 : decode prog_1_method_29_code 40 = .ok (.ifCond .ne 18, 3) := by decide +kernel
theorem md_W_interpolant_58 : decode prog_1_method_29_code 58 = .ok (.aload_n 0, 1) := by decide +kernel
theorem md_W_interpolant_59 : decode prog_1_method_29_code 59 = .ok (.getfield 40, 3) := by decide +kernel
theorem md_W_interpolant_62 : decode prog_1_method_29_code 62 = .ok (.getfield 165, 3) := by decide +kernel
theorem md_W_interpolant_65 : decode prog_1_method_29_code 65 = .ok (.getfield 167, 3) := by decide +kernel
theorem md_W_interpolant_68 : decode prog_1_method_29_code 68 = .ok (.iload_n 3, 1) := by decide +kernel
theorem md_W_interpolant_69 : decode prog_1_method_29_code 69 = .ok (.iaload, 1) := by decide +kernel
theorem md_W_interpolant_70 : decode prog_1_method_29_code 70 = .ok (.ireturn, 1) := by decide +kernel
theorem md_W_interpolant_43 : decode prog_1_method_29_code 43 = .ok (.aload_n 0, 1) := by decide +kernel
theorem md_W_interpolant_44 : decode prog_1_method_29_code 44 = .ok (.getfield 40, 3) := by decide +kernel
theorem md_W_interpolant_47 : decode prog_1_method_29_code 47 = .ok (.getfield 157, 3) := by decide +kernel
theorem md_W_interpolant_50 : decode prog_1_method_29_code 50 = .ok (.getfield 167, 3) := by decide +kernel
theorem md_W_interpolant_53 : decode prog_1_method_29_code 53 = .ok (.iload_n 3, 1) := by decide +kernel
theorem md_W_interpolant_54 : decode prog_1_method_29_code 54 = .ok (.iaload, 1) := by decide +kernel
theorem md_W_interpolant_55 : decode prog_1_method_29_code 55 = .ok (.goto 15, 3) := by decide +kernel
def mj_W_interpolant_27 (x0 : Nat) (σ : pw_Sto) : Option (Int × pw_Sto) := pw_bd (mf_W_fail x0 (-2 : Int) σ) (fun v4 s3 => some (v4, s3))
def mf_W_interpolant (x0 : Nat) (x1 : Int) (x2 : Int) (x3 : Int) (σ : pw_Sto) : Option (Int × pw_Sto) := pw_gd 9 x0 σ (pw_bd (mf_W_isInterpolant x0 x1 σ) (fun v2 s1 => pw_ck v2 0 (if v2 = 0 then mj_W_interpolant_27 x0 s1 else pw_ck x2 0 (if x2 < 0 then mj_W_interpolant_27 x0 s1 else pw_ck x2 (1 : Int) (if (1 : Int) < x2 then mj_W_interpolant_27 x0 s1 else pw_ck x3 0 (if x3 < 0 then mj_W_interpolant_27 x0 s1 else pw_ck x3 (10 : Int) (if x3 < (10 : Int) then pw_bd (mf_W_interpolate x0 x1 s1) (fun _ s5 => pw_ck x2 0 (if x2 = 0 then (pw_gr 9 x0 4 s5).bind (fun v10 => (pw_gr 1 v10 0 s5).bind (fun v11 => (pw_gr 4 v11 0 s5).bind (fun v12 => (pw_ai v12 x3 s5).bind (fun v13 => some (v13, s5))))) else (pw_gr 9 x0 4 s5).bind (fun v6 => (pw_gr 1 v6 1 s5).bind (fun v7 => (pw_gr 4 v7 0 s5).bind (fun v8 => (pw_ai v8 x3 s5).bind (fun v9 => some (v9, s5))))))) else mj_W_interpolant_27 x0 s1)))))))
set_option maxHeartbeats 4000000 in
set_option maxRecDepth 20000 in
theorem sj_W_interpolant_27 {X : pw_X Int} (hX : pw_Ok X prog_1_method_29_code "PadeWorkbench" mr_W_interpolant 4) (hR : pw_RI X prog_1_method_29_code) (x0 : Nat) (σ : pw_Sto) : pw_Sp X 0 0 27 [(0, Value.ref x0)] [] σ (mj_W_interpolant_27 x0 σ) := by
  unfold mj_W_interpolant_27
  refine sp_aload_n (pc := 27) (k := 0) (i := 0) hX rfl 0 rfl md_W_interpolant_27 ?_
  refine sp_bipush (pc := 28) hX (by decide) md_W_interpolant_28 ?_
  refine sp_callVI (pc := 30) (y := my_W_fail) (ccy := prog_1_method_37_code) (nLy := 3) (ret := (some .int)) (rmy := mr_W_fail) (n := 1) (idx := 79) (As := [.int (iI (-2 : Int))]) (st := []) (o := x0) (cells' := 0) (slots' := 0) hX (fun _ h => mc_W_fail h) mk_W_fail mv_W_fail mcl_9 (fun _ h => pw_gd_of h) mq_325 ⟨(Nat.le_of_ble_eq_true rfl), (Nat.le_of_ble_eq_true rfl)⟩ rfl rfl (Nat.le_of_ble_eq_true rfl) ⟨(Nat.le_of_ble_eq_true rfl), (Nat.le_of_ble_eq_true rfl)⟩ rfl rfl md_W_interpolant_30 (fun v4 s3 => ?_)
  exact sp_iret (pc := 33) hX hR rfl (Nat.le_of_ble_eq_true rfl) md_W_interpolant_33
set_option maxHeartbeats 4000000 in
set_option maxRecDepth 20000 in
theorem mc_W_interpolant {l : Launch} {E : pw_E} {σ : pw_Sto} {x0 : Nat} {x1 : Int} {x2 : Int} {x3 : Int} {out : Int × pw_Sto} (h : mf_W_interpolant x0 x1 x2 x3 σ = some out) : pw_CI l E my_W_interpolant prog_1_method_29_code 4 (some .int) mr_W_interpolant [.ref x0, .int (iI x1), .int (iI x2), .int (iI x3)] σ out := by
  unfold mf_W_interpolant at h
  refine pw_entryI (by decide) (Nat.le_of_ble_eq_true rfl) (pw_gd_val h) (fun X hX hR hI => ?_)
  change pw_Ok X prog_1_method_29_code "PadeWorkbench" mr_W_interpolant 4 at hX
  show pw_Sp X 0 0 0 [(0, Value.ref x0), (1, Value.int (iI x1)), (2, Value.int (iI x2)), (3, Value.int (iI x3))] [] σ _
  refine sp_aload_n (pc := 0) (k := 0) (i := 0) hX rfl 0 rfl md_W_interpolant_0 ?_
  refine sp_iload_n (pc := 1) (k := 1) (i := 1) hX rfl 1 rfl md_W_interpolant_1 ?_
  refine sp_callVI (pc := 2) (y := my_W_isInterpolant) (ccy := prog_1_method_43_code) (nLy := 2) (ret := (some .boolean)) (rmy := mr_W_isInterpolant) (n := 1) (idx := 233) (As := [.int (iI x1)]) (st := []) (o := x0) (cells' := 0) (slots' := 0) hX (fun _ h => mc_W_isInterpolant h) mk_W_isInterpolant mv_W_isInterpolant mcl_9 (fun _ h => pw_gd_of h) mq_731 ⟨(Nat.le_of_ble_eq_true rfl), (Nat.le_of_ble_eq_true rfl)⟩ rfl rfl (Nat.le_of_ble_eq_true rfl) ⟨(Nat.le_of_ble_eq_true rfl), (Nat.le_of_ble_eq_true rfl)⟩ rfl rfl md_W_interpolant_2 (fun v2 s1 => ?_)
  refine sp_if_eq (pc := 5) hX 27 (by decide) md_W_interpolant_5 (fun _ => ?_) (fun _ => ?_)
  · refine sp_sub [0] (L' := [(0, Value.ref x0)]) rfl ?_
    exact sj_W_interpolant_27 hX hR x0 s1
  · refine sp_iload_n (pc := 8) (k := 2) (i := 2) hX rfl 2 rfl md_W_interpolant_8 ?_
    refine sp_if_lt (pc := 9) hX 27 (by decide) md_W_interpolant_9 (fun _ => ?_) (fun _ => ?_)
    · refine sp_sub [0] (L' := [(0, Value.ref x0)]) rfl ?_
      exact sj_W_interpolant_27 hX hR x0 s1
    · refine sp_iload_n (pc := 12) (k := 2) (i := 2) hX rfl 2 rfl md_W_interpolant_12 ?_
      refine sp_iconst (pc := 13) hX md_W_interpolant_13 ?_
      refine sp_icmp_gt (pc := 14) hX 27 (by decide) md_W_interpolant_14 (fun _ => ?_) (fun _ => ?_)
      · refine sp_sub [0] (L' := [(0, Value.ref x0)]) rfl ?_
        exact sj_W_interpolant_27 hX hR x0 s1
      · refine sp_iload_n (pc := 17) (k := 3) (i := 3) hX rfl 3 rfl md_W_interpolant_17 ?_
        refine sp_if_lt (pc := 18) hX 27 (by decide) md_W_interpolant_18 (fun _ => ?_) (fun _ => ?_)
        · refine sp_sub [0] (L' := [(0, Value.ref x0)]) rfl ?_
          exact sj_W_interpolant_27 hX hR x0 s1
        · refine sp_iload_n (pc := 21) (k := 3) (i := 3) hX rfl 3 rfl md_W_interpolant_21 ?_
          refine sp_bipush (pc := 22) hX (by decide) md_W_interpolant_22 ?_
          refine sp_icmp_lt (pc := 24) hX 34 (by decide) md_W_interpolant_24 (fun _ => ?_) (fun _ => ?_)
          · refine sp_aload_n (pc := 34) (k := 0) (i := 0) hX rfl 0 rfl md_W_interpolant_34 ?_
            refine sp_iload_n (pc := 35) (k := 1) (i := 1) hX rfl 1 rfl md_W_interpolant_35 ?_
            refine sp_callVV (pc := 36) (y := my_W_interpolate) (ccy := prog_1_method_48_code) (nLy := 3) (ret := none) (rmy := mr_W_interpolate) (n := 1) (idx := 236) (As := [.int (iI x1)]) (st := []) (o := x0) (cells' := 0) (slots' := 0) hX (fun _ h => mc_W_interpolate h) mk_W_interpolate mv_W_interpolate mcl_9 (fun _ h => pw_gd_of h) mq_735 ⟨(Nat.le_of_ble_eq_true rfl), (Nat.le_of_ble_eq_true rfl)⟩ rfl rfl (Nat.le_of_ble_eq_true rfl) ⟨(Nat.le_of_ble_eq_true rfl), (Nat.le_of_ble_eq_true rfl)⟩ rfl rfl md_W_interpolant_36 (fun s5 => ?_)
            refine sp_iload_n (pc := 39) (k := 2) (i := 2) hX rfl 2 rfl md_W_interpolant_39 ?_
            refine sp_if_ne (pc := 40) hX 58 (by decide) md_W_interpolant_40 (fun _ => ?_) (fun _ => ?_)
            · refine sp_aload_n (pc := 43) (k := 0) (i := 0) hX rfl 0 rfl md_W_interpolant_43 ?_
              refine sp_getR (pc := 44) (ci := 9) (k := 4) (idx := 40) hX mcl_9 (by decide) mq_288 rfl md_W_interpolant_44 (fun v10 => ?_)
              refine sp_getRN (pc := 47) (ci := 1) (k := 0) (idx := 157) hX mcl_1 (by decide) mn_231 rfl md_W_interpolant_47 (fun v11 => ?_)
              refine sp_getRN (pc := 50) (ci := 4) (k := 0) (idx := 167) hX mcl_4 (by decide) mn_190 rfl md_W_interpolant_50 (fun v12 => ?_)
              refine sp_iload_n (pc := 53) (k := 3) (i := 3) hX rfl 3 rfl md_W_interpolant_53 ?_
              refine sp_iaload (pc := 54) hX md_W_interpolant_54 (fun v13 => ?_)
              refine sp_goto (pc := 55) hX 70 (by decide) md_W_interpolant_55 ?_
              exact sp_iret (pc := 70) hX hR rfl (Nat.le_of_ble_eq_true rfl) md_W_interpolant_70
            · refine sp_aload_n (pc := 58) (k := 0) (i := 0) hX rfl 0 rfl md_W_interpolant_58 ?_
              refine sp_getR (pc := 59) (ci := 9) (k := 4) (idx := 40) hX mcl_9 (by decide) mq_288 rfl md_W_interpolant_59 (fun v6 => ?_)
              refine sp_getRN (pc := 62) (ci := 1) (k := 1) (idx := 165) hX mcl_1 (by decide) mn_233 rfl md_W_interpolant_62 (fun v7 => ?_)
              refine sp_getRN (pc := 65) (ci := 4) (k := 0) (idx := 167) hX mcl_4 (by decide) mn_190 rfl md_W_interpolant_65 (fun v8 => ?_)
              refine sp_iload_n (pc := 68) (k := 3) (i := 3) hX rfl 3 rfl md_W_interpolant_68 ?_
              refine sp_iaload (pc := 69) hX md_W_interpolant_69 (fun v9 => ?_)
              exact sp_iret (pc := 70) hX hR rfl (Nat.le_of_ble_eq_true rfl) md_W_interpolant_70
          · refine sp_sub [0] (L' := [(0, Value.ref x0)]) rfl ?_
            exact sj_W_interpolant_27 hX hR x0 s1
/-! PadeWorkbench.missedPoints()I -/
theorem md_W_missedPoints_0 : decode prog_1_method_49_code 0 = .ok (.iconst 0, 1) := by decide +kernel
theorem md_W_missedPoints_1 : decode prog_1_method_49_code 1 = .ok (.istore_n 1, 1) := by decide +kernel
theorem md_W_missedPoints_2 : decode prog_1_method_49_code 2 = .ok (.iconst 0, 1) := by decide +kernel
theorem md_W_missedPoints_3 : decode prog_1_method_49_code 3 = .ok (.istore_n 2, 1) := by decide +kernel
theorem md_W_missedPoints_4 : decode prog_1_method_49_code 4 = .ok (.iload_n 2, 1) := by decide +kernel
theorem md_W_missedPoints_5 : decode prog_1_method_49_code 5 = .ok (.aload_n 0, 1) := by decide +kernel
theorem md_W_missedPoints_6 : decode prog_1_method_49_code 6 = .ok (.getfield 10, 3) := by decide +kernel
theorem md_W_missedPoints_9 : decode prog_1_method_49_code 9 = .ok (.getfield 226, 3) := by decide +kernel
theorem md_W_missedPoints_12 : decode prog_1_method_49_code 12 = .ok (.if_icmp .ge 53, 3) := by decide +kernel
theorem md_W_missedPoints_65 : decode prog_1_method_49_code 65 = .ok (.iload_n 1, 1) := by decide +kernel
theorem md_W_missedPoints_66 : decode prog_1_method_49_code 66 = .ok (.ireturn, 1) := by decide +kernel
theorem md_W_missedPoints_15 : decode prog_1_method_49_code 15 = .ok (.iload_n 2, 1) := by decide +kernel
theorem md_W_missedPoints_16 : decode prog_1_method_49_code 16 = .ok (.bipush 10, 2) := by decide +kernel
theorem md_W_missedPoints_18 : decode prog_1_method_49_code 18 = .ok (.if_icmp .ge 47, 3) := by decide +kernel
theorem md_W_missedPoints_21 : decode prog_1_method_49_code 21 = .ok (.aload_n 0, 1) := by decide +kernel
theorem md_W_missedPoints_22 : decode prog_1_method_49_code 22 = .ok (.getfield 40, 3) := by decide +kernel
theorem md_W_missedPoints_25 : decode prog_1_method_49_code 25 = .ok (.aload_n 0, 1) := by decide +kernel
theorem md_W_missedPoints_26 : decode prog_1_method_49_code 26 = .ok (.getfield 10, 3) := by decide +kernel
theorem md_W_missedPoints_29 : decode prog_1_method_49_code 29 = .ok (.getfield 264, 3) := by decide +kernel
theorem md_W_missedPoints_32 : decode prog_1_method_49_code 32 = .ok (.iload_n 2, 1) := by decide +kernel
theorem md_W_missedPoints_33 : decode prog_1_method_49_code 33 = .ok (.iaload, 1) := by decide +kernel
theorem md_W_missedPoints_34 : decode prog_1_method_49_code 34 = .ok (.aload_n 0, 1) := by decide +kernel
theorem md_W_missedPoints_35 : decode prog_1_method_49_code 35 = .ok (.getfield 10, 3) := by decide +kernel
theorem md_W_missedPoints_38 : decode prog_1_method_49_code 38 = .ok (.getfield 267, 3) := by decide +kernel
theorem md_W_missedPoints_41 : decode prog_1_method_49_code 41 = .ok (.iload_n 2, 1) := by decide +kernel
theorem md_W_missedPoints_42 : decode prog_1_method_49_code 42 = .ok (.iaload, 1) := by decide +kernel
theorem md_W_missedPoints_43 : decode prog_1_method_49_code 43 = .ok (.aload_n 0, 1) := by decide +kernel
theorem md_W_missedPoints_44 : decode prog_1_method_49_code 44 = .ok (.getfield 10, 3) := by decide +kernel
theorem md_W_missedPoints_47 : decode prog_1_method_49_code 47 = .ok (.getfield 83, 3) := by decide +kernel
theorem md_W_missedPoints_50 : decode prog_1_method_49_code 50 = .ok (.invokevirtual 308, 3) := by decide +kernel
theorem md_W_missedPoints_53 : decode prog_1_method_49_code 53 = .ok (.ifCond .ne 6, 3) := by decide +kernel
theorem md_W_missedPoints_59 : decode prog_1_method_49_code 59 = .ok (.iinc 2 1, 3) := by decide +kernel
theorem md_W_missedPoints_62 : decode prog_1_method_49_code 62 = .ok (.goto (-58), 3) := by decide +kernel
theorem md_W_missedPoints_56 : decode prog_1_method_49_code 56 = .ok (.iinc 1 1, 3) := by decide +kernel
def mb_W_missedPoints_4 (rc : Nat → Int → Int → pw_Sto → Option (Int × pw_Sto)) : Nat → Int → Int → pw_Sto → Option (Int × pw_Sto) := fun x0 x1 x2 σ => (pw_gr 9 x0 0 σ).bind (fun v1 => (pw_gi 7 v1 2 σ).bind (fun v2 => pw_ck x2 v2 (if v2 ≤ x2 then some (x1, σ) else pw_ck x2 (10 : Int) (if (10 : Int) ≤ x2 then some (x1, σ) else (pw_gr 9 x0 4 σ).bind (fun v3 => (pw_gr 9 x0 0 σ).bind (fun v4 => (pw_gr 7 v4 3 σ).bind (fun v5 => (pw_ai v5 x2 σ).bind (fun v6 => (pw_gr 9 x0 0 σ).bind (fun v7 => (pw_gr 7 v7 4 σ).bind (fun v8 => (pw_ai v8 x2 σ).bind (fun v9 => (pw_gr 9 x0 0 σ).bind (fun v10 => (pw_gi 7 v10 0 σ).bind (fun v11 => pw_bd (mf_R_passes v3 v6 v9 v11 σ) (fun v13 s12 => pw_ck v13 0 (if v13 = 0 then rc x0 (x1 + 1) (x2 + 1) s12 else rc x0 x1 (x2 + 1) s12)))))))))))))))
def ml_W_missedPoints_4 : Nat → Nat → Int → Int → pw_Sto → Option (Int × pw_Sto) := pw_lp (fun _ _ _ _ => none) (mb_W_missedPoints_4)
def mf_W_missedPoints (x0 : Nat) (σ : pw_Sto) : Option (Int × pw_Sto) := pw_gd 9 x0 σ (ml_W_missedPoints_4 1000 x0 (0 : Int) (0 : Int) σ)
set_option maxHeartbeats 4000000 in
set_option maxRecDepth 20000 in
theorem sl_W_missedPoints_4 {X : pw_X Int} (hX : pw_Ok X prog_1_method_49_code "PadeWorkbench" mr_W_missedPoints 3) (hR : pw_RI X prog_1_method_49_code) : ∀ (n : Nat) (x0 : Nat) (x1 : Int) (x2 : Int) (σ : pw_Sto), pw_Sp X 0 0 4 [(0, Value.ref x0), (1, Value.int (iI x1)), (2, Value.int (iI x2))] [] σ (ml_W_missedPoints_4 n x0 x1 x2 σ) := by
  intro n
  induction n with
  | zero => intros; exact pw_none
  | succ n ih =>
    intro x0 x1 x2 σ
    show pw_Sp X 0 0 4 _ _ σ (mb_W_missedPoints_4 (ml_W_missedPoints_4 n) x0 x1 x2 σ)
    unfold mb_W_missedPoints_4
    refine sp_iload_n (pc := 4) (k := 2) (i := 2) hX rfl 2 rfl md_W_missedPoints_4 ?_
    refine sp_aload_n (pc := 5) (k := 0) (i := 0) hX rfl 0 rfl md_W_missedPoints_5 ?_
    refine sp_getR (pc := 6) (ci := 9) (k := 0) (idx := 10) hX mcl_9 (by decide) mq_284 rfl md_W_missedPoints_6 (fun v1 => ?_)
    refine sp_getIN (pc := 9) (ci := 7) (k := 2) (idx := 226) hX mcl_7 (by decide) mn_107 rfl md_W_missedPoints_9 (fun v2 => ?_)
    refine sp_icmp_ge (pc := 12) hX 65 (by decide) md_W_missedPoints_12 (fun _ => ?_) (fun _ => ?_)
    · refine sp_iload_n (pc := 65) (k := 1) (i := 1) hX rfl 1 rfl md_W_missedPoints_65 ?_
      exact sp_iret (pc := 66) hX hR rfl (Nat.le_of_ble_eq_true rfl) md_W_missedPoints_66
    · refine sp_iload_n (pc := 15) (k := 2) (i := 2) hX rfl 2 rfl md_W_missedPoints_15 ?_
      refine sp_bipush (pc := 16) hX (by decide) md_W_missedPoints_16 ?_
      refine sp_icmp_ge (pc := 18) hX 65 (by decide) md_W_missedPoints_18 (fun _ => ?_) (fun _ => ?_)
      · refine sp_iload_n (pc := 65) (k := 1) (i := 1) hX rfl 1 rfl md_W_missedPoints_65 ?_
        exact sp_iret (pc := 66) hX hR rfl (Nat.le_of_ble_eq_true rfl) md_W_missedPoints_66
      · refine sp_aload_n (pc := 21) (k := 0) (i := 0) hX rfl 0 rfl md_W_missedPoints_21 ?_
        refine sp_getR (pc := 22) (ci := 9) (k := 4) (idx := 40) hX mcl_9 (by decide) mq_288 rfl md_W_missedPoints_22 (fun v3 => ?_)
        refine sp_aload_n (pc := 25) (k := 0) (i := 0) hX rfl 0 rfl md_W_missedPoints_25 ?_
        refine sp_getR (pc := 26) (ci := 9) (k := 0) (idx := 10) hX mcl_9 (by decide) mq_284 rfl md_W_missedPoints_26 (fun v4 => ?_)
        refine sp_getRN (pc := 29) (ci := 7) (k := 3) (idx := 264) hX mcl_7 (by decide) mn_110 rfl md_W_missedPoints_29 (fun v5 => ?_)
        refine sp_iload_n (pc := 32) (k := 2) (i := 2) hX rfl 2 rfl md_W_missedPoints_32 ?_
        refine sp_iaload (pc := 33) hX md_W_missedPoints_33 (fun v6 => ?_)
        refine sp_aload_n (pc := 34) (k := 0) (i := 0) hX rfl 0 rfl md_W_missedPoints_34 ?_
        refine sp_getR (pc := 35) (ci := 9) (k := 0) (idx := 10) hX mcl_9 (by decide) mq_284 rfl md_W_missedPoints_35 (fun v7 => ?_)
        refine sp_getRN (pc := 38) (ci := 7) (k := 4) (idx := 267) hX mcl_7 (by decide) mn_113 rfl md_W_missedPoints_38 (fun v8 => ?_)
        refine sp_iload_n (pc := 41) (k := 2) (i := 2) hX rfl 2 rfl md_W_missedPoints_41 ?_
        refine sp_iaload (pc := 42) hX md_W_missedPoints_42 (fun v9 => ?_)
        refine sp_aload_n (pc := 43) (k := 0) (i := 0) hX rfl 0 rfl md_W_missedPoints_43 ?_
        refine sp_getR (pc := 44) (ci := 9) (k := 0) (idx := 10) hX mcl_9 (by decide) mq_284 rfl md_W_missedPoints_44 (fun v10 => ?_)
        refine sp_getIN (pc := 47) (ci := 7) (k := 0) (idx := 83) hX mcl_7 (by decide) mn_101 rfl md_W_missedPoints_47 (fun v11 => ?_)
        refine sp_callVI (pc := 50) (y := my_R_passes) (ccy := prog_4_method_7_code) (nLy := 5) (ret := (some .boolean)) (rmy := mr_R_passes) (n := 3) (idx := 308) (As := [.int (iI v6), .int (iI v9), .int (iI v11)]) (st := []) (o := v3) (cells' := 0) (slots' := 0) hX (fun _ h => mc_R_passes h) mk_R_passes mv_R_passes mcl_1 (fun _ h => pw_gd_of h) mq_759 ⟨(Nat.le_of_ble_eq_true rfl), (Nat.le_of_ble_eq_true rfl)⟩ rfl rfl (Nat.le_of_ble_eq_true rfl) ⟨(Nat.le_of_ble_eq_true rfl), (Nat.le_of_ble_eq_true rfl)⟩ rfl rfl md_W_missedPoints_50 (fun v13 s12 => ?_)
        refine sp_if_ne (pc := 53) hX 59 (by decide) md_W_missedPoints_53 (fun _ => ?_) (fun _ => ?_)
        · refine sp_iinc (pc := 56) (i := 1) (L' := [(1, Value.int (iI (x1 + 1))), (0, Value.ref x0), (2, Value.int (iI x2))]) hX 1 rfl (by decide) rfl md_W_missedPoints_56 ?_
          refine sp_iinc (pc := 59) (i := 2) (L' := [(2, Value.int (iI (x2 + 1))), (1, Value.int (iI (x1 + 1))), (0, Value.ref x0)]) hX 2 rfl (by decide) rfl md_W_missedPoints_59 ?_
          refine sp_goto (pc := 62) hX 4 (by decide) md_W_missedPoints_62 ?_
          refine sp_sub [2, 1, 0] (L' := [(0, Value.ref x0), (1, Value.int (iI (x1 + 1))), (2, Value.int (iI (x2 + 1)))]) rfl ?_
          exact ih x0 (x1 + 1) (x2 + 1) s12
        · refine sp_iinc (pc := 59) (i := 2) (L' := [(2, Value.int (iI (x2 + 1))), (0, Value.ref x0), (1, Value.int (iI x1))]) hX 2 rfl (by decide) rfl md_W_missedPoints_59 ?_
          refine sp_goto (pc := 62) hX 4 (by decide) md_W_missedPoints_62 ?_
          refine sp_sub [1, 2, 0] (L' := [(0, Value.ref x0), (1, Value.int (iI x1)), (2, Value.int (iI (x2 + 1)))]) rfl ?_
          exact ih x0 x1 (x2 + 1) s12
set_option maxHeartbeats 4000000 in
set_option maxRecDepth 20000 in
theorem mc_W_missedPoints {l : Launch} {E : pw_E} {σ : pw_Sto} {x0 : Nat} {out : Int × pw_Sto} (h : mf_W_missedPoints x0 σ = some out) : pw_CI l E my_W_missedPoints prog_1_method_49_code 3 (some .int) mr_W_missedPoints [.ref x0] σ out := by
  unfold mf_W_missedPoints at h
  refine pw_entryI (by decide) (Nat.le_of_ble_eq_true rfl) (pw_gd_val h) (fun X hX hR hI => ?_)
  change pw_Ok X prog_1_method_49_code "PadeWorkbench" mr_W_missedPoints 3 at hX
  show pw_Sp X 0 0 0 [(0, Value.ref x0)] [] σ _
  refine sp_iconst (pc := 0) hX md_W_missedPoints_0 ?_
  refine sp_istore_n (pc := 1) (k := 1) (i := 1) (L' := [(1, Value.int (iI (0 : Int))), (0, Value.ref x0)]) hX rfl (by decide) rfl md_W_missedPoints_1 ?_
  refine sp_iconst (pc := 2) hX md_W_missedPoints_2 ?_
  refine sp_istore_n (pc := 3) (k := 2) (i := 2) (L' := [(2, Value.int (iI (0 : Int))), (1, Value.int (iI (0 : Int))), (0, Value.ref x0)]) hX rfl (by decide) rfl md_W_missedPoints_3 ?_
  refine sp_sub [2, 1, 0] (L' := [(0, Value.ref x0), (1, Value.int (iI (0 : Int))), (2, Value.int (iI (0 : Int)))]) rfl ?_
  exact sl_W_missedPoints_4 hX hR 1000 x0 (0 : Int) (0 : Int) σ
/-! PadeWorkbench.unattainable(I)I -/
theorem md_W_unattainable_0 : decode prog_1_method_30_code 0 = .ok (.aload_n 0, 1) := by decide +kernel
theorem md_W_unattainable_1 : decode prog_1_method_30_code 1 = .ok (.iload_n 1, 1) := by decide +kernel
theorem md_W_unattainable_2 : decode prog_1_method_30_code 2 = .ok (.invokevirtual 233, 3) := by decide +kernel
theorem md_W_unattainable_5 : decode prog_1_method_30_code 5 = .ok (.ifCond .ne 10, 3) := by decide +kernel
theorem md_W_unattainable_15 : decode prog_1_method_30_code 15 = .ok (.aload_n 0, 1) := by decide +kernel
theorem md_W_unattainable_16 : decode prog_1_method_30_code 16 = .ok (.iload_n 1, 1) := by decide +kernel
theorem md_W_unattainable_17 : decode prog_1_method_30_code 17 = .ok (.invokevirtual 236, 3) := by decide +kernel
theorem md_W_unattainable_20 : decode prog_1_method_30_code 20 = .ok (.aload_n 0, 1) := by decide +kernel
theorem md_W_unattainable_21 : decode prog_1_method_30_code 21 = .ok (.invokevirtual 239, 3) := by decide +kernel
theorem md_W_unattainable_24 : decode prog_1_method_30_code 24 = .ok (.ireturn, 1) := by decide +kernel
theorem md_W_unattainable_8 : decode prog_1_method_30_code 8 = .ok (.aload_n 0, 1) := by decide +kernel
theorem md_W_unattainable_9 : decode prog_1_method_30_code 9 = .ok (.bipush (-2), 2) := by decide +kernel
theorem md_W_unattainable_11 : decode prog_1_method_30_code 11 = .ok (.invokevirtual 79, 3) := by decide +kernel
theorem md_W_unattainable_14 : decode prog_1_method_30_code 14 = .ok (.ireturn, 1) := by decide +kernel
def mf_W_unattainable (x0 : Nat) (x1 : Int) (σ : pw_Sto) : Option (Int × pw_Sto) := pw_gd 9 x0 σ (pw_bd (mf_W_isInterpolant x0 x1 σ) (fun v2 s1 => pw_ck v2 0 (if v2 = 0 then pw_bd (mf_W_fail x0 (-2 : Int) s1) (fun v7 s6 => some (v7, s6)) else pw_bd (mf_W_interpolate x0 x1 s1) (fun _ s3 => pw_bd (mf_W_missedPoints x0 s3) (fun v5 s4 => some (v5, s4))))))
set_option maxHeartbeats 4000000 in
set_option maxRecDepth 20000 in
theorem mc_W_unattainable {l : Launch} {E : pw_E} {σ : pw_Sto} {x0 : Nat} {x1 : Int} {out : Int × pw_Sto} (h : mf_W_unattainable x0 x1 σ = some out) : pw_CI l E my_W_unattainable prog_1_method_30_code 2 (some .int) mr_W_unattainable [.ref x0, .int (iI x1)] σ out := by
  unfold mf_W_unattainable at h
  refine pw_entryI (by decide) (Nat.le_of_ble_eq_true rfl) (pw_gd_val h) (fun X hX hR hI => ?_)
  change pw_Ok X prog_1_method_30_code "PadeWorkbench" mr_W_unattainable 2 at hX
  show pw_Sp X 0 0 0 [(0, Value.ref x0), (1, Value.int (iI x1))] [] σ _
  refine sp_aload_n (pc := 0) (k := 0) (i := 0) hX rfl 0 rfl md_W_unattainable_0 ?_
  refine sp_iload_n (pc := 1) (k := 1) (i := 1) hX rfl 1 rfl md_W_unattainable_1 ?_
  refine sp_callVI (pc := 2) (y := my_W_isInterpolant) (ccy := prog_1_method_43_code) (nLy := 2) (ret := (some .boolean)) (rmy := mr_W_isInterpolant) (n := 1) (idx := 233) (As := [.int (iI x1)]) (st := []) (o := x0) (cells' := 0) (slots' := 0) hX (fun _ h => mc_W_isInterpolant h) mk_W_isInterpolant mv_W_isInterpolant mcl_9 (fun _ h => pw_gd_of h) mq_731 ⟨(Nat.le_of_ble_eq_true rfl), (Nat.le_of_ble_eq_true rfl)⟩ rfl rfl (Nat.le_of_ble_eq_true rfl) ⟨(Nat.le_of_ble_eq_true rfl), (Nat.le_of_ble_eq_true rfl)⟩ rfl rfl md_W_unattainable_2 (fun v2 s1 => ?_)
  refine sp_if_ne (pc := 5) hX 15 (by decide) md_W_unattainable_5 (fun _ => ?_) (fun _ => ?_)
  · refine sp_aload_n (pc := 8) (k := 0) (i := 0) hX rfl 0 rfl md_W_unattainable_8 ?_
    refine sp_bipush (pc := 9) hX (by decide) md_W_unattainable_9 ?_
    refine sp_callVI (pc := 11) (y := my_W_fail) (ccy := prog_1_method_37_code) (nLy := 3) (ret := (some .int)) (rmy := mr_W_fail) (n := 1) (idx := 79) (As := [.int (iI (-2 : Int))]) (st := []) (o := x0) (cells' := 0) (slots' := 0) hX (fun _ h => mc_W_fail h) mk_W_fail mv_W_fail mcl_9 (fun _ h => pw_gd_of h) mq_325 ⟨(Nat.le_of_ble_eq_true rfl), (Nat.le_of_ble_eq_true rfl)⟩ rfl rfl (Nat.le_of_ble_eq_true rfl) ⟨(Nat.le_of_ble_eq_true rfl), (Nat.le_of_ble_eq_true rfl)⟩ rfl rfl md_W_unattainable_11 (fun v7 s6 => ?_)
    exact sp_iret (pc := 14) hX hR rfl (Nat.le_of_ble_eq_true rfl) md_W_unattainable_14
  · refine sp_aload_n (pc := 15) (k := 0) (i := 0) hX rfl 0 rfl md_W_unattainable_15 ?_
    refine sp_iload_n (pc := 16) (k := 1) (i := 1) hX rfl 1 rfl md_W_unattainable_16 ?_
    refine sp_callVV (pc := 17) (y := my_W_interpolate) (ccy := prog_1_method_48_code) (nLy := 3) (ret := none) (rmy := mr_W_interpolate) (n := 1) (idx := 236) (As := [.int (iI x1)]) (st := []) (o := x0) (cells' := 0) (slots' := 0) hX (fun _ h => mc_W_interpolate h) mk_W_interpolate mv_W_interpolate mcl_9 (fun _ h => pw_gd_of h) mq_735 ⟨(Nat.le_of_ble_eq_true rfl), (Nat.le_of_ble_eq_true rfl)⟩ rfl rfl (Nat.le_of_ble_eq_true rfl) ⟨(Nat.le_of_ble_eq_true rfl), (Nat.le_of_ble_eq_true rfl)⟩ rfl rfl md_W_unattainable_17 (fun s3 => ?_)
    refine sp_aload_n (pc := 20) (k := 0) (i := 0) hX rfl 0 rfl md_W_unattainable_20 ?_
    refine sp_callVI (pc := 21) (y := my_W_missedPoints) (ccy := prog_1_method_49_code) (nLy := 3) (ret := (some .int)) (rmy := mr_W_missedPoints) (n := 0) (idx := 239) (As := []) (st := []) (o := x0) (cells' := 0) (slots' := 0) hX (fun _ h => mc_W_missedPoints h) mk_W_missedPoints mv_W_missedPoints mcl_9 (fun _ h => pw_gd_of h) mq_755 ⟨(Nat.le_of_ble_eq_true rfl), (Nat.le_of_ble_eq_true rfl)⟩ rfl rfl (Nat.le_of_ble_eq_true rfl) ⟨(Nat.le_of_ble_eq_true rfl), (Nat.le_of_ble_eq_true rfl)⟩ rfl rfl md_W_unattainable_21 (fun v5 s4 => ?_)
    exact sp_iret (pc := 24) hX hR rfl (Nat.le_of_ble_eq_true rfl) md_W_unattainable_24
/-! PadeWorkbench.undo()I -/
theorem md_W_undo_0 : decode prog_1_method_31_code 0 = .ok (.aload_n 0, 1) := by decide +kernel
theorem md_W_undo_1 : decode prog_1_method_31_code 1 = .ok (.getfield 19, 3) := by decide +kernel
theorem md_W_undo_4 : decode prog_1_method_31_code 4 = .ok (.getfield 243, 3) := by decide +kernel
theorem md_W_undo_7 : decode prog_1_method_31_code 7 = .ok (.ifCond .ne 10, 3) := by decide +kernel
theorem md_W_undo_17 : decode prog_1_method_31_code 17 = .ok (.aload_n 0, 1) := by decide +kernel
theorem md_W_undo_18 : decode prog_1_method_31_code 18 = .ok (.getfield 19, 3) := by decide +kernel
theorem md_W_undo_21 : decode prog_1_method_31_code 21 = .ok (.aload_n 0, 1) := by decide +kernel
theorem md_W_undo_22 : decode prog_1_method_31_code 22 = .ok (.getfield 10, 3) := by decide +kernel
theorem md_W_undo_25 : decode prog_1_method_31_code 25 = .ok (.invokevirtual 246, 3) := by decide +kernel
theorem md_W_undo_28 : decode prog_1_method_31_code 28 = .ok (.aload_n 0, 1) := by decide +kernel
theorem md_W_undo_29 : decode prog_1_method_31_code 29 = .ok (.getfield 19, 3) := by decide +kernel
theorem md_W_undo_32 : decode prog_1_method_31_code 32 = .ok (.getfield 243, 3) := by decide +kernel
theorem md_W_undo_35 : decode prog_1_method_31_code 35 = .ok (.ireturn, 1) := by decide +kernel
theorem md_W_undo_10 : decode prog_1_method_31_code 10 = .ok (.aload_n 0, 1) := by decide +kernel
theorem md_W_undo_11 : decode prog_1_method_31_code 11 = .ok (.bipush (-3), 2) := by decide +kernel
theorem md_W_undo_13 : decode prog_1_method_31_code 13 = .ok (.invokevirtual 79, 3) := by decide +kernel
theorem md_W_undo_16 : decode prog_1_method_31_code 16 = .ok (.ireturn, 1) := by decide +kernel
def mf_W_undo (x0 : Nat) (σ : pw_Sto) : Option (Int × pw_Sto) := pw_gd 9 x0 σ ((pw_gr 9 x0 1 σ).bind (fun v1 => (pw_gi 3 v1 2 σ).bind (fun v2 => pw_ck v2 0 (if v2 = 0 then pw_bd (mf_W_fail x0 (-3 : Int) σ) (fun v9 s8 => some (v9, s8)) else (pw_gr 9 x0 1 σ).bind (fun v3 => (pw_gr 9 x0 0 σ).bind (fun v4 => pw_bd (mf_H_giveBack v3 v4 σ) (fun _ s5 => (pw_gr 9 x0 1 s5).bind (fun v6 => (pw_gi 3 v6 2 s5).bind (fun v7 => some (v7, s5))))))))))
set_option maxHeartbeats 4000000 in
set_option maxRecDepth 20000 in
theorem mc_W_undo {l : Launch} {E : pw_E} {σ : pw_Sto} {x0 : Nat} {out : Int × pw_Sto} (h : mf_W_undo x0 σ = some out) : pw_CI l E my_W_undo prog_1_method_31_code 1 (some .int) mr_W_undo [.ref x0] σ out := by
  unfold mf_W_undo at h
  refine pw_entryI (by decide) (Nat.le_of_ble_eq_true rfl) (pw_gd_val h) (fun X hX hR hI => ?_)
  change pw_Ok X prog_1_method_31_code "PadeWorkbench" mr_W_undo 1 at hX
  show pw_Sp X 0 0 0 [(0, Value.ref x0)] [] σ _
  refine sp_aload_n (pc := 0) (k := 0) (i := 0) hX rfl 0 rfl md_W_undo_0 ?_
  refine sp_getR (pc := 1) (ci := 9) (k := 1) (idx := 19) hX mcl_9 (by decide) mq_285 rfl md_W_undo_1 (fun v1 => ?_)
  refine sp_getIN (pc := 4) (ci := 3) (k := 2) (idx := 243) hX mcl_3 (by decide) mn_138 rfl md_W_undo_4 (fun v2 => ?_)
  refine sp_if_ne (pc := 7) hX 17 (by decide) md_W_undo_7 (fun _ => ?_) (fun _ => ?_)
  · refine sp_aload_n (pc := 10) (k := 0) (i := 0) hX rfl 0 rfl md_W_undo_10 ?_
    refine sp_bipush (pc := 11) hX (by decide) md_W_undo_11 ?_
    refine sp_callVI (pc := 13) (y := my_W_fail) (ccy := prog_1_method_37_code) (nLy := 3) (ret := (some .int)) (rmy := mr_W_fail) (n := 1) (idx := 79) (As := [.int (iI (-3 : Int))]) (st := []) (o := x0) (cells' := 0) (slots' := 0) hX (fun _ h => mc_W_fail h) mk_W_fail mv_W_fail mcl_9 (fun _ h => pw_gd_of h) mq_325 ⟨(Nat.le_of_ble_eq_true rfl), (Nat.le_of_ble_eq_true rfl)⟩ rfl rfl (Nat.le_of_ble_eq_true rfl) ⟨(Nat.le_of_ble_eq_true rfl), (Nat.le_of_ble_eq_true rfl)⟩ rfl rfl md_W_undo_13 (fun v9 s8 => ?_)
    exact sp_iret (pc := 16) hX hR rfl (Nat.le_of_ble_eq_true rfl) md_W_undo_16
  · refine sp_aload_n (pc := 17) (k := 0) (i := 0) hX rfl 0 rfl md_W_undo_17 ?_
    refine sp_getR (pc := 18) (ci := 9) (k := 1) (idx := 19) hX mcl_9 (by decide) mq_285 rfl md_W_undo_18 (fun v3 => ?_)
    refine sp_aload_n (pc := 21) (k := 0) (i := 0) hX rfl 0 rfl md_W_undo_21 ?_
    refine sp_getR (pc := 22) (ci := 9) (k := 0) (idx := 10) hX mcl_9 (by decide) mq_284 rfl md_W_undo_22 (fun v4 => ?_)
    refine sp_callVV (pc := 25) (y := my_H_giveBack) (ccy := prog_6_method_3_code) (nLy := 2) (ret := none) (rmy := mr_H_giveBack) (n := 1) (idx := 246) (As := [.ref v4]) (st := []) (o := v3) (cells' := 0) (slots' := 0) hX (fun _ h => mc_H_giveBack h) mk_H_giveBack mv_H_giveBack mcl_3 (fun _ h => pw_gd_of h) mq_768 ⟨(Nat.le_of_ble_eq_true rfl), (Nat.le_of_ble_eq_true rfl)⟩ rfl rfl (Nat.le_of_ble_eq_true rfl) ⟨(Nat.le_of_ble_eq_true rfl), (Nat.le_of_ble_eq_true rfl)⟩ rfl rfl md_W_undo_25 (fun s5 => ?_)
    refine sp_aload_n (pc := 28) (k := 0) (i := 0) hX rfl 0 rfl md_W_undo_28 ?_
    refine sp_getR (pc := 29) (ci := 9) (k := 1) (idx := 19) hX mcl_9 (by decide) mq_285 rfl md_W_undo_29 (fun v6 => ?_)
    refine sp_getIN (pc := 32) (ci := 3) (k := 2) (idx := 243) hX mcl_3 (by decide) mn_138 rfl md_W_undo_32 (fun v7 => ?_)
    exact sp_iret (pc := 35) hX hR rfl (Nat.le_of_ble_eq_true rfl) md_W_undo_35
/-! PadeWorkbench.errorCount(I)I -/
theorem md_W_errorCount_0 : decode prog_1_method_32_code 0 = .ok (.iload_n 1, 1) := by decide +kernel
theorem md_W_errorCount_1 : decode prog_1_method_32_code 1 = .ok (.ifCond .lt 8, 3) := by decide +kernel
theorem md_W_errorCount_9 : decode prog_1_method_32_code 9 = .ok (.aload_n 0, 1) := by decide +kernel
theorem md_W_errorCount_10 : decode prog_1_method_32_code 10 = .ok (.bipush (-2), 2) := by decide +kernel
theorem md_W_errorCount_12 : decode prog_1_method_32_code 12 = .ok (.invokevirtual 79, 3) := by decide +kernel
theorem md_W_errorCount_15 : decode prog_1_method_32_code 15 = .ok (.ireturn, 1) := by decide +kernel
theorem md_W_errorCount_4 : decode prog_1_method_32_code 4 = .ok (.iload_n 1, 1) := by decide +kernel
theorem md_W_errorCount_5 : decode prog_1_method_32_code 5 = .ok (.iconst 3, 1) := by decide +kernel
theorem md_W_errorCount_6 : decode prog_1_method_32_code 6 = .ok (.if_icmp .lt 10, 3) := by decide +kernel
theorem md_W_errorCount_16 : decode prog_1_method_32_code 16 = .ok (.aload_n 0, 1) := by decide +kernel
theorem md_W_errorCount_17 : decode prog_1_method_32_code 17 = .ok (.getfield 72, 3) := by decide +kernel
theorem md_W_errorCount_20 : decode prog_1_method_32_code 20 = .ok (.iload_n 1, 1) := by decide +kernel
theorem md_W_errorCount_21 : decode prog_1_method_32_code 21 = .ok (.iaload, 1) := by decide +kernel
theorem md_W_errorCount_22 : decode prog_1_method_32_code 22 = .ok (.ireturn, 1) := by decide +kernel
def mj_W_errorCount_9 (x0 : Nat) (σ : pw_Sto) : Option (Int × pw_Sto) := pw_bd (mf_W_fail x0 (-2 : Int) σ) (fun v2 s1 => some (v2, s1))
def mf_W_errorCount (x0 : Nat) (x1 : Int) (σ : pw_Sto) : Option (Int × pw_Sto) := pw_gd 9 x0 σ (pw_ck x1 0 (if x1 < 0 then mj_W_errorCount_9 x0 σ else pw_ck x1 (3 : Int) (if x1 < (3 : Int) then (pw_gr 9 x0 10 σ).bind (fun v3 => (pw_ai v3 x1 σ).bind (fun v4 => some (v4, σ))) else mj_W_errorCount_9 x0 σ)))
set_option maxHeartbeats 4000000 in
set_option maxRecDepth 20000 in
theorem sj_W_errorCount_9 {X : pw_X Int} (hX : pw_Ok X prog_1_method_32_code "PadeWorkbench" mr_W_errorCount 2) (hR : pw_RI X prog_1_method_32_code) (x0 : Nat) (σ : pw_Sto) : pw_Sp X 0 0 9 [(0, Value.ref x0)] [] σ (mj_W_errorCount_9 x0 σ) := by
  unfold mj_W_errorCount_9
  refine sp_aload_n (pc := 9) (k := 0) (i := 0) hX rfl 0 rfl md_W_errorCount_9 ?_
  refine sp_bipush (pc := 10) hX (by decide) md_W_errorCount_10 ?_
  refine sp_callVI (pc := 12) (y := my_W_fail) (ccy := prog_1_method_37_code) (nLy := 3) (ret := (some .int)) (rmy := mr_W_fail) (n := 1) (idx := 79) (As := [.int (iI (-2 : Int))]) (st := []) (o := x0) (cells' := 0) (slots' := 0) hX (fun _ h => mc_W_fail h) mk_W_fail mv_W_fail mcl_9 (fun _ h => pw_gd_of h) mq_325 ⟨(Nat.le_of_ble_eq_true rfl), (Nat.le_of_ble_eq_true rfl)⟩ rfl rfl (Nat.le_of_ble_eq_true rfl) ⟨(Nat.le_of_ble_eq_true rfl), (Nat.le_of_ble_eq_true rfl)⟩ rfl rfl md_W_errorCount_12 (fun v2 s1 => ?_)
  exact sp_iret (pc := 15) hX hR rfl (Nat.le_of_ble_eq_true rfl) md_W_errorCount_15
set_option maxHeartbeats 4000000 in
set_option maxRecDepth 20000 in
theorem mc_W_errorCount {l : Launch} {E : pw_E} {σ : pw_Sto} {x0 : Nat} {x1 : Int} {out : Int × pw_Sto} (h : mf_W_errorCount x0 x1 σ = some out) : pw_CI l E my_W_errorCount prog_1_method_32_code 2 (some .int) mr_W_errorCount [.ref x0, .int (iI x1)] σ out := by
  unfold mf_W_errorCount at h
  refine pw_entryI (by decide) (Nat.le_of_ble_eq_true rfl) (pw_gd_val h) (fun X hX hR hI => ?_)
  change pw_Ok X prog_1_method_32_code "PadeWorkbench" mr_W_errorCount 2 at hX
  show pw_Sp X 0 0 0 [(0, Value.ref x0), (1, Value.int (iI x1))] [] σ _
  refine sp_iload_n (pc := 0) (k := 1) (i := 1) hX rfl 1 rfl md_W_errorCount_0 ?_
  refine sp_if_lt (pc := 1) hX 9 (by decide) md_W_errorCount_1 (fun _ => ?_) (fun _ => ?_)
  · refine sp_sub [0] (L' := [(0, Value.ref x0)]) rfl ?_
    exact sj_W_errorCount_9 hX hR x0 σ
  · refine sp_iload_n (pc := 4) (k := 1) (i := 1) hX rfl 1 rfl md_W_errorCount_4 ?_
    refine sp_iconst (pc := 5) hX md_W_errorCount_5 ?_
    refine sp_icmp_lt (pc := 6) hX 16 (by decide) md_W_errorCount_6 (fun _ => ?_) (fun _ => ?_)
    · refine sp_aload_n (pc := 16) (k := 0) (i := 0) hX rfl 0 rfl md_W_errorCount_16 ?_
      refine sp_getR (pc := 17) (ci := 9) (k := 10) (idx := 72) hX mcl_9 (by decide) mq_294 rfl md_W_errorCount_17 (fun v3 => ?_)
      refine sp_iload_n (pc := 20) (k := 1) (i := 1) hX rfl 1 rfl md_W_errorCount_20 ?_
      refine sp_iaload (pc := 21) hX md_W_errorCount_21 (fun v4 => ?_)
      exact sp_iret (pc := 22) hX hR rfl (Nat.le_of_ble_eq_true rfl) md_W_errorCount_22
    · refine sp_sub [0] (L' := [(0, Value.ref x0)]) rfl ?_
      exact sj_W_errorCount_9 hX hR x0 σ
/-! PadeWorkbench.mix(JI)J -/
theorem md_W_mix_0 : decode prog_1_method_34_code 0 = .ok (.ldc2_w 262, 3) := by decide +kernel
theorem md_W_mix_3 : decode prog_1_method_34_code 3 = .ok (.lload_n 0, 1) := by decide +kernel
theorem md_W_mix_4 : decode prog_1_method_34_code 4 = .ok (.lmul, 1) := by decide +kernel
theorem md_W_mix_5 : decode prog_1_method_34_code 5 = .ok (.iload_n 2, 1) := by decide +kernel
theorem md_W_mix_6 : decode prog_1_method_34_code 6 = .ok (.i2l, 1) := by decide +kernel
theorem md_W_mix_7 : decode prog_1_method_34_code 7 = .ok (.ladd, 1) := by decide +kernel
theorem md_W_mix_8 : decode prog_1_method_34_code 8 = .ok (.lreturn, 1) := by decide +kernel
def mf_W_mix (x0 : Int64) (x2 : Int) (σ : pw_Sto) : Option (Int64 × pw_Sto) := some ((((31 : Int64) * x0) + (Int32.toInt64 (iI x2))), σ)
set_option maxHeartbeats 4000000 in
set_option maxRecDepth 20000 in
theorem mc_W_mix {l : Launch} {E : pw_E} {σ : pw_Sto} {x0 : Int64} {x2 : Int} {out : Int64 × pw_Sto} (h : mf_W_mix x0 x2 σ = some out) : pw_CL l E my_W_mix prog_1_method_34_code 3 (some .long) mr_W_mix [.long x0, .int (iI x2)] σ out := by
  unfold mf_W_mix at h
  refine pw_entryL (by decide) (Nat.le_of_ble_eq_true rfl) h (fun X hX hR hI => ?_)
  change pw_Ok X prog_1_method_34_code "PadeWorkbench" mr_W_mix 3 at hX
  show pw_Sp X 0 0 0 [(0, Value.long x0), (2, Value.int (iI x2))] [] σ _
  refine sp_ldc2 (pc := 0) hX (31 : Int64) mq_784 md_W_mix_0 ?_
  refine sp_lload_n (pc := 3) (k := 0) (i := 0) hX rfl 0 rfl md_W_mix_3 ?_
  refine sp_lmul (pc := 4) hX md_W_mix_4 ?_
  refine sp_iload_n (pc := 5) (k := 2) (i := 2) hX rfl 1 rfl md_W_mix_5 ?_
  refine sp_i2l (pc := 6) hX md_W_mix_6 ?_
  refine sp_ladd (pc := 7) hX md_W_mix_7 ?_
  exact sp_lret (pc := 8) hX hR rfl (Nat.le_of_ble_eq_true rfl) md_W_mix_8
/-! PadeWorkbench.mixSeries(JI)J -/
theorem md_W_mixSeries_0 : decode prog_1_method_35_code 0 = .ok (.lload_n 1, 1) := by decide +kernel
theorem md_W_mixSeries_1 : decode prog_1_method_35_code 1 = .ok (.lstore 4, 2) := by decide +kernel
theorem md_W_mixSeries_3 : decode prog_1_method_35_code 3 = .ok (.aload_n 0, 1) := by decide +kernel
theorem md_W_mixSeries_4 : decode prog_1_method_35_code 4 = .ok (.getfield 10, 3) := by decide +kernel
theorem md_W_mixSeries_7 : decode prog_1_method_35_code 7 = .ok (.getfield 104, 3) := by decide +kernel
theorem md_W_mixSeries_10 : decode prog_1_method_35_code 10 = .ok (.iload_n 3, 1) := by decide +kernel
theorem md_W_mixSeries_11 : decode prog_1_method_35_code 11 = .ok (.aaload, 1) := by decide +kernel
theorem md_W_mixSeries_12 : decode prog_1_method_35_code 12 = .ok (.astore 6, 2) := by decide +kernel
theorem md_W_mixSeries_14 : decode prog_1_method_35_code 14 = .ok (.iconst 0, 1) := by decide +kernel
theorem md_W_mixSeries_15 : decode prog_1_method_35_code 15 = .ok (.istore 7, 2) := by decide +kernel
theorem md_W_mixSeries_17 : decode prog_1_method_35_code 17 = .ok (.iload 7, 2) := by decide +kernel
theorem md_W_mixSeries_19 : decode prog_1_method_35_code 19 = .ok (.bipush 16, 2) := by decide +kernel
theorem md_W_mixSeries_21 : decode prog_1_method_35_code 21 = .ok (.if_icmp .ge 21, 3) := by decide +kernel
theorem md_W_mixSeries_42 : decode prog_1_method_35_code 42 = .ok (.iconst 0, 1) := by decide +kernel
theorem md_W_mixSeries_43 : decode prog_1_method_35_code 43 = .ok (.istore 7, 2) := by decide +kernel
theorem md_W_mixSeries_45 : decode prog_1_method_35_code 45 = .ok (.iconst 0, 1) := by decide +kernel
theorem md_W_mixSeries_46 : decode prog_1_method_35_code 46 = .ok (.istore 8, 2) := by decide +kernel
theorem md_W_mixSeries_48 : decode prog_1_method_35_code 48 = .ok (.iload 8, 2) := by decide +kernel
theorem md_W_mixSeries_50 : decode prog_1_method_35_code 50 = .ok (.bipush 7, 2) := by decide +kernel
theorem md_W_mixSeries_52 : decode prog_1_method_35_code 52 = .ok (.if_icmp .gt 80, 3) := by decide +kernel
theorem md_W_mixSeries_132 : decode prog_1_method_35_code 132 = .ok (.aload_n 0, 1) := by decide +kernel
theorem md_W_mixSeries_133 : decode prog_1_method_35_code 133 = .ok (.getfield 61, 3) := by decide +kernel
theorem md_W_mixSeries_136 : decode prog_1_method_35_code 136 = .ok (.aload 6, 2) := by decide +kernel
theorem md_W_mixSeries_138 : decode prog_1_method_35_code 138 = .ok (.bipush 16, 2) := by decide +kernel
theorem md_W_mixSeries_140 : decode prog_1_method_35_code 140 = .ok (.aload_n 0, 1) := by decide +kernel
theorem md_W_mixSeries_141 : decode prog_1_method_35_code 141 = .ok (.getfield 10, 3) := by decide +kernel
theorem md_W_mixSeries_144 : decode prog_1_method_35_code 144 = .ok (.getfield 83, 3) := by decide +kernel
theorem md_W_mixSeries_147 : decode prog_1_method_35_code 147 = .ok (.invokevirtual 211, 3) := by decide +kernel
theorem md_W_mixSeries_150 : decode prog_1_method_35_code 150 = .ok (.lload 4, 2) := by decide +kernel
theorem md_W_mixSeries_152 : decode prog_1_method_35_code 152 = .ok (.aload_n 0, 1) := by decide +kernel
theorem md_W_mixSeries_153 : decode prog_1_method_35_code 153 = .ok (.getfield 61, 3) := by decide +kernel
theorem md_W_mixSeries_156 : decode prog_1_method_35_code 156 = .ok (.getfield 214, 3) := by decide +kernel
theorem md_W_mixSeries_159 : decode prog_1_method_35_code 159 = .ok (.invokestatic 251, 3) := by decide +kernel
theorem md_W_mixSeries_162 : decode prog_1_method_35_code 162 = .ok (.lstore 4, 2) := by decide +kernel
theorem md_W_mixSeries_164 : decode prog_1_method_35_code 164 = .ok (.lload 4, 2) := by decide +kernel
theorem md_W_mixSeries_166 : decode prog_1_method_35_code 166 = .ok (.iload 7, 2) := by decide +kernel
theorem md_W_mixSeries_168 : decode prog_1_method_35_code 168 = .ok (.invokestatic 251, 3) := by decide +kernel
theorem md_W_mixSeries_171 : decode prog_1_method_35_code 171 = .ok (.lreturn, 1) := by decide +kernel
theorem md_W_mixSeries_55 : decode prog_1_method_35_code 55 = .ok (.aload_n 0, 1) := by decide +kernel
theorem md_W_mixSeries_56 : decode prog_1_method_35_code 56 = .ok (.iload_n 3, 1) := by decide +kernel
theorem md_W_mixSeries_57 : decode prog_1_method_35_code 57 = .ok (.iload 8, 2) := by decide +kernel
theorem md_W_mixSeries_59 : decode prog_1_method_35_code 59 = .ok (.bipush 7, 2) := by decide +kernel
theorem md_W_mixSeries_61 : decode prog_1_method_35_code 61 = .ok (.iload 8, 2) := by decide +kernel
theorem md_W_mixSeries_63 : decode prog_1_method_35_code 63 = .ok (.isub, 1) := by decide +kernel
theorem md_W_mixSeries_64 : decode prog_1_method_35_code 64 = .ok (.invokevirtual 153, 3) := by decide +kernel
theorem md_W_mixSeries_67 : decode prog_1_method_35_code 67 = .ok (.aload_n 0, 1) := by decide +kernel
theorem md_W_mixSeries_68 : decode prog_1_method_35_code 68 = .ok (.getfield 40, 3) := by decide +kernel
theorem md_W_mixSeries_71 : decode prog_1_method_35_code 71 = .ok (.aload 6, 2) := by decide +kernel
theorem md_W_mixSeries_73 : decode prog_1_method_35_code 73 = .ok (.aload_n 0, 1) := by decide +kernel
theorem md_W_mixSeries_74 : decode prog_1_method_35_code 74 = .ok (.getfield 10, 3) := by decide +kernel
theorem md_W_mixSeries_77 : decode prog_1_method_35_code 77 = .ok (.getfield 83, 3) := by decide +kernel
theorem md_W_mixSeries_80 : decode prog_1_method_35_code 80 = .ok (.invokevirtual 170, 3) := by decide +kernel
theorem md_W_mixSeries_83 : decode prog_1_method_35_code 83 = .ok (.istore 9, 2) := by decide +kernel
theorem md_W_mixSeries_85 : decode prog_1_method_35_code 85 = .ok (.lload 4, 2) := by decide +kernel
theorem md_W_mixSeries_87 : decode prog_1_method_35_code 87 = .ok (.iload 9, 2) := by decide +kernel
theorem md_W_mixSeries_89 : decode prog_1_method_35_code 89 = .ok (.invokestatic 251, 3) := by decide +kernel
theorem md_W_mixSeries_92 : decode prog_1_method_35_code 92 = .ok (.lstore 4, 2) := by decide +kernel
theorem md_W_mixSeries_94 : decode prog_1_method_35_code 94 = .ok (.lload 4, 2) := by decide +kernel
theorem md_W_mixSeries_96 : decode prog_1_method_35_code 96 = .ok (.aload_n 0, 1) := by decide +kernel
theorem md_W_mixSeries_97 : decode prog_1_method_35_code 97 = .ok (.getfield 40, 3) := by decide +kernel
theorem md_W_mixSeries_100 : decode prog_1_method_35_code 100 = .ok (.getfield 157, 3) := by decide +kernel
theorem md_W_mixSeries_103 : decode prog_1_method_35_code 103 = .ok (.getfield 160, 3) := by decide +kernel
theorem md_W_mixSeries_106 : decode prog_1_method_35_code 106 = .ok (.invokestatic 251, 3) := by decide +kernel
theorem md_W_mixSeries_109 : decode prog_1_method_35_code 109 = .ok (.lstore 4, 2) := by decide +kernel
theorem md_W_mixSeries_111 : decode prog_1_method_35_code 111 = .ok (.aload_n 0, 1) := by decide +kernel
theorem md_W_mixSeries_112 : decode prog_1_method_35_code 112 = .ok (.getfield 40, 3) := by decide +kernel
theorem md_W_mixSeries_115 : decode prog_1_method_35_code 115 = .ok (.iload 9, 2) := by decide +kernel
theorem md_W_mixSeries_117 : decode prog_1_method_35_code 117 = .ok (.invokevirtual 174, 3) := by decide +kernel
theorem md_W_mixSeries_120 : decode prog_1_method_35_code 120 = .ok (.ifCond .ne 6, 3) := by decide +kernel
theorem md_W_mixSeries_126 : decode prog_1_method_35_code 126 = .ok (.iinc 8 1, 3) := by decide +kernel
theorem md_W_mixSeries_129 : decode prog_1_method_35_code 129 = .ok (.goto (-81), 3) := by decide +kernel
theorem md_W_mixSeries_123 : decode prog_1_method_35_code 123 = .ok (.iinc 7 1, 3) := by decide +kernel
theorem md_W_mixSeries_24 : decode prog_1_method_35_code 24 = .ok (.lload 4, 2) := by decide +kernel
theorem md_W_mixSeries_26 : decode prog_1_method_35_code 26 = .ok (.aload 6, 2) := by decide +kernel
theorem md_W_mixSeries_28 : decode prog_1_method_35_code 28 = .ok (.iload 7, 2) := by decide +kernel
theorem md_W_mixSeries_30 : decode prog_1_method_35_code 30 = .ok (.iaload, 1) := by decide +kernel
theorem md_W_mixSeries_31 : decode prog_1_method_35_code 31 = .ok (.invokestatic 251, 3) := by decide +kernel
theorem md_W_mixSeries_34 : decode prog_1_method_35_code 34 = .ok (.lstore 4, 2) := by decide +kernel
theorem md_W_mixSeries_36 : decode prog_1_method_35_code 36 = .ok (.iinc 7 1, 3) := by decide +kernel
theorem md_W_mixSeries_39 : decode prog_1_method_35_code 39 = .ok (.goto (-22), 3) := by decide +kernel
def mb_W_mixSeries_48 (rc : Nat → Int → Int64 → Nat → Int → Int → pw_Sto → Option (Int64 × pw_Sto)) : Nat → Int → Int64 → Nat → Int → Int → pw_Sto → Option (Int64 × pw_Sto) := fun x0 x3 x4 x6 x7 x8 σ => pw_ck x8 (7 : Int) (if (7 : Int) < x8 then (pw_gr 9 x0 7 σ).bind (fun v4 => (pw_gr 9 x0 0 σ).bind (fun v5 => (pw_gi 7 v5 0 σ).bind (fun v6 => pw_bd (mf_B_fit v4 x6 (16 : Int) v6 σ) (fun _ s7 => (pw_gr 9 x0 7 s7).bind (fun v8 => (pw_gi 5 v8 3 s7).bind (fun v9 => pw_bd (mf_W_mix x4 v9 s7) (fun v11 s10 => pw_bd (mf_W_mix v11 x7 s10) (fun v13 s12 => some (v13, s12))))))))) else pw_bd (mf_W_approximate x0 x3 x8 ((7 : Int) - x8) σ) (fun _ s14 => (pw_gr 9 x0 4 s14).bind (fun v15 => (pw_gr 9 x0 0 s14).bind (fun v16 => (pw_gi 7 v16 0 s14).bind (fun v17 => pw_bd (mf_R_agreement v15 x6 v17 s14) (fun v19 s18 => pw_bd (mf_W_mix x4 v19 s18) (fun v21 s20 => (pw_gr 9 x0 4 s20).bind (fun v22 => (pw_gr 1 v22 0 s20).bind (fun v23 => (pw_gi 4 v23 1 s20).bind (fun v24 => pw_bd (mf_W_mix v21 v24 s20) (fun v26 s25 => (pw_gr 9 x0 4 s25).bind (fun v27 => pw_bd (mf_R_block v27 v19 s25) (fun v29 s28 => pw_ck v29 0 (if v29 = 0 then rc x0 x3 v26 x6 (x7 + 1) (x8 + 1) s28 else rc x0 x3 v26 x6 x7 (x8 + 1) s28))))))))))))))
def ml_W_mixSeries_48 : Nat → Nat → Int → Int64 → Nat → Int → Int → pw_Sto → Option (Int64 × pw_Sto) := pw_lp (fun _ _ _ _ _ _ _ => none) (mb_W_mixSeries_48)
def mb_W_mixSeries_17 (rc : Nat → Int → Int64 → Nat → Int → pw_Sto → Option (Int64 × pw_Sto)) : Nat → Int → Int64 → Nat → Int → pw_Sto → Option (Int64 × pw_Sto) := fun x0 x3 x4 x6 x7 σ => pw_ck x7 (16 : Int) (if (16 : Int) ≤ x7 then ml_W_mixSeries_48 1000 x0 x3 x4 x6 (0 : Int) (0 : Int) σ else (pw_ai x6 x7 σ).bind (fun v30 => pw_bd (mf_W_mix x4 v30 σ) (fun v32 s31 => rc x0 x3 v32 x6 (x7 + 1) s31)))
def ml_W_mixSeries_17 : Nat → Nat → Int → Int64 → Nat → Int → pw_Sto → Option (Int64 × pw_Sto) := pw_lp (fun _ _ _ _ _ _ => none) (mb_W_mixSeries_17)
def mf_W_mixSeries (x0 : Nat) (x1 : Int64) (x3 : Int) (σ : pw_Sto) : Option (Int64 × pw_Sto) := pw_gd 9 x0 σ ((pw_gr 9 x0 0 σ).bind (fun v1 => (pw_gr 7 v1 1 σ).bind (fun v2 => (pw_ar 13 v2 x3 σ).bind (fun v3 => ml_W_mixSeries_17 1000 x0 x3 x1 v3 (0 : Int) σ))))
set_option maxHeartbeats 4000000 in
set_option maxRecDepth 20000 in
theorem sl_W_mixSeries_48 {X : pw_X Int64} (hX : pw_Ok X prog_1_method_35_code "PadeWorkbench" mr_W_mixSeries 10) (hR : pw_RL X prog_1_method_35_code) : ∀ (n : Nat) (x0 : Nat) (x3 : Int) (x4 : Int64) (x6 : Nat) (x7 : Int) (x8 : Int) (σ : pw_Sto), pw_Sp X 0 0 48 [(0, Value.ref x0), (3, Value.int (iI x3)), (4, Value.long x4), (6, Value.ref x6), (7, Value.int (iI x7)), (8, Value.int (iI x8))] [] σ (ml_W_mixSeries_48 n x0 x3 x4 x6 x7 x8 σ) := by
  intro n
  induction n with
  | zero => intros; exact pw_none
  | succ n ih =>
    intro x0 x3 x4 x6 x7 x8 σ
    show pw_Sp X 0 0 48 _ _ σ (mb_W_mixSeries_48 (ml_W_mixSeries_48 n) x0 x3 x4 x6 x7 x8 σ)
    unfold mb_W_mixSeries_48
    refine sp_iload (pc := 48) (i := 8) hX 5 rfl md_W_mixSeries_48 ?_
    refine sp_bipush (pc := 50) hX (by decide) md_W_mixSeries_50 ?_
    refine sp_icmp_gt (pc := 52) hX 132 (by decide) md_W_mixSeries_52 (fun _ => ?_) (fun _ => ?_)
    · refine sp_aload_n (pc := 132) (k := 0) (i := 0) hX rfl 0 rfl md_W_mixSeries_132 ?_
      refine sp_getR (pc := 133) (ci := 9) (k := 7) (idx := 61) hX mcl_9 (by decide) mq_291 rfl md_W_mixSeries_133 (fun v4 => ?_)
      refine sp_aload (pc := 136) (i := 6) hX 3 rfl md_W_mixSeries_136 ?_
      refine sp_bipush (pc := 138) hX (by decide) md_W_mixSeries_138 ?_
      refine sp_aload_n (pc := 140) (k := 0) (i := 0) hX rfl 0 rfl md_W_mixSeries_140 ?_
      refine sp_getR (pc := 141) (ci := 9) (k := 0) (idx := 10) hX mcl_9 (by decide) mq_284 rfl md_W_mixSeries_141 (fun v5 => ?_)
      refine sp_getIN (pc := 144) (ci := 7) (k := 0) (idx := 83) hX mcl_7 (by decide) mn_101 rfl md_W_mixSeries_144 (fun v6 => ?_)
      refine sp_callVV (pc := 147) (y := my_B_fit) (ccy := prog_8_method_2_code) (nLy := 8) (ret := none) (rmy := mr_B_fit) (n := 3) (idx := 211) (As := [.ref x6, .int (iI (16 : Int)), .int (iI v6)]) (st := []) (o := v4) (cells' := 0) (slots' := 0) hX (fun _ h => mc_B_fit h) mk_B_fit mv_B_fit mcl_5 (fun _ h => pw_gd_of h) mq_686 ⟨(Nat.le_of_ble_eq_true rfl), (Nat.le_of_ble_eq_true rfl)⟩ rfl rfl (Nat.le_of_ble_eq_true rfl) ⟨(Nat.le_of_ble_eq_true rfl), (Nat.le_of_ble_eq_true rfl)⟩ rfl rfl md_W_mixSeries_147 (fun s7 => ?_)
      refine sp_lload (pc := 150) (i := 4) hX 2 rfl md_W_mixSeries_150 ?_
      refine sp_aload_n (pc := 152) (k := 0) (i := 0) hX rfl 0 rfl md_W_mixSeries_152 ?_
      refine sp_getR (pc := 153) (ci := 9) (k := 7) (idx := 61) hX mcl_9 (by decide) mq_291 rfl md_W_mixSeries_153 (fun v8 => ?_)
      refine sp_getIN (pc := 156) (ci := 5) (k := 3) (idx := 214) hX mcl_5 (by decide) mn_274 rfl md_W_mixSeries_156 (fun v9 => ?_)
      refine sp_callSL (pc := 159) (y := my_W_mix) (ccy := prog_1_method_34_code) (nLy := 3) (ret := (some .long)) (rmy := mr_W_mix) (n := 2) (idx := 251) (As := [.long x4, .int (iI v9)]) (st := []) (cells' := 0) (slots' := 0) hX (fun _ h => mc_W_mix h) mk_W_mix mq_782 mq_781 ⟨(Nat.le_of_ble_eq_true rfl), (Nat.le_of_ble_eq_true rfl)⟩ rfl rfl (Nat.le_of_ble_eq_true rfl) ⟨(Nat.le_of_ble_eq_true rfl), (Nat.le_of_ble_eq_true rfl)⟩ rfl rfl md_W_mixSeries_159 (fun v11 s10 => ?_)
      refine sp_lstore (pc := 162) (i := 4) (L' := [(4, Value.long v11), (0, Value.ref x0), (3, Value.int (iI x3)), (6, Value.ref x6), (7, Value.int (iI x7)), (8, Value.int (iI x8))]) hX (by decide) rfl md_W_mixSeries_162 ?_
      refine sp_lload (pc := 164) (i := 4) hX 0 rfl md_W_mixSeries_164 ?_
      refine sp_iload (pc := 166) (i := 7) hX 4 rfl md_W_mixSeries_166 ?_
      refine sp_callSL (pc := 168) (y := my_W_mix) (ccy := prog_1_method_34_code) (nLy := 3) (ret := (some .long)) (rmy := mr_W_mix) (n := 2) (idx := 251) (As := [.long v11, .int (iI x7)]) (st := []) (cells' := 0) (slots' := 0) hX (fun _ h => mc_W_mix h) mk_W_mix mq_782 mq_781 ⟨(Nat.le_of_ble_eq_true rfl), (Nat.le_of_ble_eq_true rfl)⟩ rfl rfl (Nat.le_of_ble_eq_true rfl) ⟨(Nat.le_of_ble_eq_true rfl), (Nat.le_of_ble_eq_true rfl)⟩ rfl rfl md_W_mixSeries_168 (fun v13 s12 => ?_)
      exact sp_lret (pc := 171) hX hR rfl (Nat.le_of_ble_eq_true rfl) md_W_mixSeries_171
    · refine sp_aload_n (pc := 55) (k := 0) (i := 0) hX rfl 0 rfl md_W_mixSeries_55 ?_
      refine sp_iload_n (pc := 56) (k := 3) (i := 3) hX rfl 1 rfl md_W_mixSeries_56 ?_
      refine sp_iload (pc := 57) (i := 8) hX 5 rfl md_W_mixSeries_57 ?_
      refine sp_bipush (pc := 59) hX (by decide) md_W_mixSeries_59 ?_
      refine sp_iload (pc := 61) (i := 8) hX 5 rfl md_W_mixSeries_61 ?_
      refine sp_isub (pc := 63) hX md_W_mixSeries_63 ?_
      refine sp_callVV (pc := 64) (y := my_W_approximate) (ccy := prog_1_method_47_code) (nLy := 4) (ret := none) (rmy := mr_W_approximate) (n := 3) (idx := 153) (As := [.int (iI x3), .int (iI x8), .int (iI ((7 : Int) - x8))]) (st := []) (o := x0) (cells' := 0) (slots' := 0) hX (fun _ h => mc_W_approximate h) mk_W_approximate mv_W_approximate mcl_9 (fun _ h => pw_gd_of h) mq_484 ⟨(Nat.le_of_ble_eq_true rfl), (Nat.le_of_ble_eq_true rfl)⟩ rfl rfl (Nat.le_of_ble_eq_true rfl) ⟨(Nat.le_of_ble_eq_true rfl), (Nat.le_of_ble_eq_true rfl)⟩ rfl rfl md_W_mixSeries_64 (fun s14 => ?_)
      refine sp_aload_n (pc := 67) (k := 0) (i := 0) hX rfl 0 rfl md_W_mixSeries_67 ?_
      refine sp_getR (pc := 68) (ci := 9) (k := 4) (idx := 40) hX mcl_9 (by decide) mq_288 rfl md_W_mixSeries_68 (fun v15 => ?_)
      refine sp_aload (pc := 71) (i := 6) hX 3 rfl md_W_mixSeries_71 ?_
      refine sp_aload_n (pc := 73) (k := 0) (i := 0) hX rfl 0 rfl md_W_mixSeries_73 ?_
      refine sp_getR (pc := 74) (ci := 9) (k := 0) (idx := 10) hX mcl_9 (by decide) mq_284 rfl md_W_mixSeries_74 (fun v16 => ?_)
      refine sp_getIN (pc := 77) (ci := 7) (k := 0) (idx := 83) hX mcl_7 (by decide) mn_101 rfl md_W_mixSeries_77 (fun v17 => ?_)
      refine sp_callVI (pc := 80) (y := my_R_agreement) (ccy := prog_4_method_5_code) (nLy := 6) (ret := (some .int)) (rmy := mr_R_agreement) (n := 2) (idx := 170) (As := [.ref x6, .int (iI v17)]) (st := []) (o := v15) (cells' := 0) (slots' := 0) hX (fun _ h => mc_R_agreement h) mk_R_agreement mv_R_agreement mcl_1 (fun _ h => pw_gd_of h) mq_587 ⟨(Nat.le_of_ble_eq_true rfl), (Nat.le_of_ble_eq_true rfl)⟩ rfl rfl (Nat.le_of_ble_eq_true rfl) ⟨(Nat.le_of_ble_eq_true rfl), (Nat.le_of_ble_eq_true rfl)⟩ rfl rfl md_W_mixSeries_80 (fun v19 s18 => ?_)
      refine sp_istore (pc := 83) (i := 9) (L' := [(9, Value.int (iI v19)), (0, Value.ref x0), (3, Value.int (iI x3)), (4, Value.long x4), (6, Value.ref x6), (7, Value.int (iI x7)), (8, Value.int (iI x8))]) hX (by decide) rfl md_W_mixSeries_83 ?_
      refine sp_lload (pc := 85) (i := 4) hX 3 rfl md_W_mixSeries_85 ?_
      refine sp_iload (pc := 87) (i := 9) hX 0 rfl md_W_mixSeries_87 ?_
      refine sp_callSL (pc := 89) (y := my_W_mix) (ccy := prog_1_method_34_code) (nLy := 3) (ret := (some .long)) (rmy := mr_W_mix) (n := 2) (idx := 251) (As := [.long x4, .int (iI v19)]) (st := []) (cells' := 0) (slots' := 0) hX (fun _ h => mc_W_mix h) mk_W_mix mq_782 mq_781 ⟨(Nat.le_of_ble_eq_true rfl), (Nat.le_of_ble_eq_true rfl)⟩ rfl rfl (Nat.le_of_ble_eq_true rfl) ⟨(Nat.le_of_ble_eq_true rfl), (Nat.le_of_ble_eq_true rfl)⟩ rfl rfl md_W_mixSeries_89 (fun v21 s20 => ?_)
      refine sp_lstore (pc := 92) (i := 4) (L' := [(4, Value.long v21), (9, Value.int (iI v19)), (0, Value.ref x0), (3, Value.int (iI x3)), (6, Value.ref x6), (7, Value.int (iI x7)), (8, Value.int (iI x8))]) hX (by decide) rfl md_W_mixSeries_92 ?_
      refine sp_lload (pc := 94) (i := 4) hX 0 rfl md_W_mixSeries_94 ?_
      refine sp_aload_n (pc := 96) (k := 0) (i := 0) hX rfl 2 rfl md_W_mixSeries_96 ?_
      refine sp_getR (pc := 97) (ci := 9) (k := 4) (idx := 40) hX mcl_9 (by decide) mq_288 rfl md_W_mixSeries_97 (fun v22 => ?_)
      refine sp_getRN (pc := 100) (ci := 1) (k := 0) (idx := 157) hX mcl_1 (by decide) mn_231 rfl md_W_mixSeries_100 (fun v23 => ?_)
      refine sp_getIN (pc := 103) (ci := 4) (k := 1) (idx := 160) hX mcl_4 (by decide) mn_194 rfl md_W_mixSeries_103 (fun v24 => ?_)
      refine sp_callSL (pc := 106) (y := my_W_mix) (ccy := prog_1_method_34_code) (nLy := 3) (ret := (some .long)) (rmy := mr_W_mix) (n := 2) (idx := 251) (As := [.long v21, .int (iI v24)]) (st := []) (cells' := 0) (slots' := 0) hX (fun _ h => mc_W_mix h) mk_W_mix mq_782 mq_781 ⟨(Nat.le_of_ble_eq_true rfl), (Nat.le_of_ble_eq_true rfl)⟩ rfl rfl (Nat.le_of_ble_eq_true rfl) ⟨(Nat.le_of_ble_eq_true rfl), (Nat.le_of_ble_eq_true rfl)⟩ rfl rfl md_W_mixSeries_106 (fun v26 s25 => ?_)
      refine sp_lstore (pc := 109) (i := 4) (L' := [(4, Value.long v26), (9, Value.int (iI v19)), (0, Value.ref x0), (3, Value.int (iI x3)), (6, Value.ref x6), (7, Value.int (iI x7)), (8, Value.int (iI x8))]) hX (by decide) rfl md_W_mixSeries_109 ?_
      refine sp_aload_n (pc := 111) (k := 0) (i := 0) hX rfl 2 rfl md_W_mixSeries_111 ?_
      refine sp_getR (pc := 112) (ci := 9) (k := 4) (idx := 40) hX mcl_9 (by decide) mq_288 rfl md_W_mixSeries_112 (fun v27 => ?_)
      refine sp_iload (pc := 115) (i := 9) hX 1 rfl md_W_mixSeries_115 ?_
      refine sp_callVI (pc := 117) (y := my_R_block) (ccy := prog_4_method_6_code) (nLy := 2) (ret := (some .int)) (rmy := mr_R_block) (n := 1) (idx := 174) (As := [.int (iI v19)]) (st := []) (o := v27) (cells' := 0) (slots' := 0) hX (fun _ h => mc_R_block h) mk_R_block mv_R_block mcl_1 (fun _ h => pw_gd_of h) mq_596 ⟨(Nat.le_of_ble_eq_true rfl), (Nat.le_of_ble_eq_true rfl)⟩ rfl rfl (Nat.le_of_ble_eq_true rfl) ⟨(Nat.le_of_ble_eq_true rfl), (Nat.le_of_ble_eq_true rfl)⟩ rfl rfl md_W_mixSeries_117 (fun v29 s28 => ?_)
      refine sp_if_ne (pc := 120) hX 126 (by decide) md_W_mixSeries_120 (fun _ => ?_) (fun _ => ?_)
      · refine sp_iinc (pc := 123) (i := 7) (L' := [(7, Value.int (iI (x7 + 1))), (4, Value.long v26), (9, Value.int (iI v19)), (0, Value.ref x0), (3, Value.int (iI x3)), (6, Value.ref x6), (8, Value.int (iI x8))]) hX 5 rfl (by decide) rfl md_W_mixSeries_123 ?_
        refine sp_iinc (pc := 126) (i := 8) (L' := [(8, Value.int (iI (x8 + 1))), (7, Value.int (iI (x7 + 1))), (4, Value.long v26), (9, Value.int (iI v19)), (0, Value.ref x0), (3, Value.int (iI x3)), (6, Value.ref x6)]) hX 6 rfl (by decide) rfl md_W_mixSeries_126 ?_
        refine sp_goto (pc := 129) hX 48 (by decide) md_W_mixSeries_129 ?_
        refine sp_sub [4, 5, 2, 6, 1, 0] (L' := [(0, Value.ref x0), (3, Value.int (iI x3)), (4, Value.long v26), (6, Value.ref x6), (7, Value.int (iI (x7 + 1))), (8, Value.int (iI (x8 + 1)))]) rfl ?_
        exact ih x0 x3 v26 x6 (x7 + 1) (x8 + 1) s28
      · refine sp_iinc (pc := 126) (i := 8) (L' := [(8, Value.int (iI (x8 + 1))), (4, Value.long v26), (9, Value.int (iI v19)), (0, Value.ref x0), (3, Value.int (iI x3)), (6, Value.ref x6), (7, Value.int (iI x7))]) hX 6 rfl (by decide) rfl md_W_mixSeries_126 ?_
        refine sp_goto (pc := 129) hX 48 (by decide) md_W_mixSeries_129 ?_
        refine sp_sub [3, 4, 1, 5, 6, 0] (L' := [(0, Value.ref x0), (3, Value.int (iI x3)), (4, Value.long v26), (6, Value.ref x6), (7, Value.int (iI x7)), (8, Value.int (iI (x8 + 1)))]) rfl ?_
        exact ih x0 x3 v26 x6 x7 (x8 + 1) s28
set_option maxHeartbeats 4000000 in
set_option maxRecDepth 20000 in
theorem sl_W_mixSeries_17 {X : pw_X Int64} (hX : pw_Ok X prog_1_method_35_code "PadeWorkbench" mr_W_mixSeries 10) (hR : pw_RL X prog_1_method_35_code) : ∀ (n : Nat) (x0 : Nat) (x3 : Int) (x4 : Int64) (x6 : Nat) (x7 : Int) (σ : pw_Sto), pw_Sp X 0 0 17 [(0, Value.ref x0), (3, Value.int (iI x3)), (4, Value.long x4), (6, Value.ref x6), (7, Value.int (iI x7))] [] σ (ml_W_mixSeries_17 n x0 x3 x4 x6 x7 σ) := by
  intro n
  induction n with
  | zero => intros; exact pw_none
  | succ n ih =>
    intro x0 x3 x4 x6 x7 σ
    show pw_Sp X 0 0 17 _ _ σ (mb_W_mixSeries_17 (ml_W_mixSeries_17 n) x0 x3 x4 x6 x7 σ)
    unfold mb_W_mixSeries_17
    refine sp_iload (pc := 17) (i := 7) hX 4 rfl md_W_mixSeries_17 ?_
    refine sp_bipush (pc := 19) hX (by decide) md_W_mixSeries_19 ?_
    refine sp_icmp_ge (pc := 21) hX 42 (by decide) md_W_mixSeries_21 (fun _ => ?_) (fun _ => ?_)
    · refine sp_iconst (pc := 42) hX md_W_mixSeries_42 ?_
      refine sp_istore (pc := 43) (i := 7) (L' := [(7, Value.int (iI (0 : Int))), (0, Value.ref x0), (3, Value.int (iI x3)), (4, Value.long x4), (6, Value.ref x6)]) hX (by decide) rfl md_W_mixSeries_43 ?_
      refine sp_iconst (pc := 45) hX md_W_mixSeries_45 ?_
      refine sp_istore (pc := 46) (i := 8) (L' := [(8, Value.int (iI (0 : Int))), (7, Value.int (iI (0 : Int))), (0, Value.ref x0), (3, Value.int (iI x3)), (4, Value.long x4), (6, Value.ref x6)]) hX (by decide) rfl md_W_mixSeries_46 ?_
      refine sp_sub [2, 3, 4, 5, 1, 0] (L' := [(0, Value.ref x0), (3, Value.int (iI x3)), (4, Value.long x4), (6, Value.ref x6), (7, Value.int (iI (0 : Int))), (8, Value.int (iI (0 : Int)))]) rfl ?_
      exact sl_W_mixSeries_48 hX hR 1000 x0 x3 x4 x6 (0 : Int) (0 : Int) σ
    · refine sp_lload (pc := 24) (i := 4) hX 2 rfl md_W_mixSeries_24 ?_
      refine sp_aload (pc := 26) (i := 6) hX 3 rfl md_W_mixSeries_26 ?_
      refine sp_iload (pc := 28) (i := 7) hX 4 rfl md_W_mixSeries_28 ?_
      refine sp_iaload (pc := 30) hX md_W_mixSeries_30 (fun v30 => ?_)
      refine sp_callSL (pc := 31) (y := my_W_mix) (ccy := prog_1_method_34_code) (nLy := 3) (ret := (some .long)) (rmy := mr_W_mix) (n := 2) (idx := 251) (As := [.long x4, .int (iI v30)]) (st := []) (cells' := 0) (slots' := 0) hX (fun _ h => mc_W_mix h) mk_W_mix mq_782 mq_781 ⟨(Nat.le_of_ble_eq_true rfl), (Nat.le_of_ble_eq_true rfl)⟩ rfl rfl (Nat.le_of_ble_eq_true rfl) ⟨(Nat.le_of_ble_eq_true rfl), (Nat.le_of_ble_eq_true rfl)⟩ rfl rfl md_W_mixSeries_31 (fun v32 s31 => ?_)
      refine sp_lstore (pc := 34) (i := 4) (L' := [(4, Value.long v32), (0, Value.ref x0), (3, Value.int (iI x3)), (6, Value.ref x6), (7, Value.int (iI x7))]) hX (by decide) rfl md_W_mixSeries_34 ?_
      refine sp_iinc (pc := 36) (i := 7) (L' := [(7, Value.int (iI (x7 + 1))), (4, Value.long v32), (0, Value.ref x0), (3, Value.int (iI x3)), (6, Value.ref x6)]) hX 4 rfl (by decide) rfl md_W_mixSeries_36 ?_
      refine sp_goto (pc := 39) hX 17 (by decide) md_W_mixSeries_39 ?_
      refine sp_sub [2, 3, 1, 4, 0] (L' := [(0, Value.ref x0), (3, Value.int (iI x3)), (4, Value.long v32), (6, Value.ref x6), (7, Value.int (iI (x7 + 1)))]) rfl ?_
      exact ih x0 x3 v32 x6 (x7 + 1) s31
set_option maxHeartbeats 4000000 in
set_option maxRecDepth 20000 in
theorem mc_W_mixSeries {l : Launch} {E : pw_E} {σ : pw_Sto} {x0 : Nat} {x1 : Int64} {x3 : Int} {out : Int64 × pw_Sto} (h : mf_W_mixSeries x0 x1 x3 σ = some out) : pw_CL l E my_W_mixSeries prog_1_method_35_code 10 (some .long) mr_W_mixSeries [.ref x0, .long x1, .int (iI x3)] σ out := by
  unfold mf_W_mixSeries at h
  refine pw_entryL (by decide) (Nat.le_of_ble_eq_true rfl) (pw_gd_val h) (fun X hX hR hI => ?_)
  change pw_Ok X prog_1_method_35_code "PadeWorkbench" mr_W_mixSeries 10 at hX
  show pw_Sp X 0 0 0 [(0, Value.ref x0), (1, Value.long x1), (3, Value.int (iI x3))] [] σ _
  refine sp_lload_n (pc := 0) (k := 1) (i := 1) hX rfl 1 rfl md_W_mixSeries_0 ?_
  refine sp_lstore (pc := 1) (i := 4) (L' := [(4, Value.long x1), (0, Value.ref x0), (1, Value.long x1), (3, Value.int (iI x3))]) hX (by decide) rfl md_W_mixSeries_1 ?_
  refine sp_aload_n (pc := 3) (k := 0) (i := 0) hX rfl 1 rfl md_W_mixSeries_3 ?_
  refine sp_getR (pc := 4) (ci := 9) (k := 0) (idx := 10) hX mcl_9 (by decide) mq_284 rfl md_W_mixSeries_4 (fun v1 => ?_)
  refine sp_getRN (pc := 7) (ci := 7) (k := 1) (idx := 104) hX mcl_7 (by decide) mn_104 rfl md_W_mixSeries_7 (fun v2 => ?_)
  refine sp_iload_n (pc := 10) (k := 3) (i := 3) hX rfl 3 rfl md_W_mixSeries_10 ?_
  refine sp_aaG (pc := 11) hX md_W_mixSeries_11 (fun v3 => ?_)
  refine sp_astore (pc := 12) (i := 6) (L' := [(6, Value.ref v3), (4, Value.long x1), (0, Value.ref x0), (1, Value.long x1), (3, Value.int (iI x3))]) hX (by decide) rfl md_W_mixSeries_12 ?_
  refine sp_iconst (pc := 14) hX md_W_mixSeries_14 ?_
  refine sp_istore (pc := 15) (i := 7) (L' := [(7, Value.int (iI (0 : Int))), (6, Value.ref v3), (4, Value.long x1), (0, Value.ref x0), (1, Value.long x1), (3, Value.int (iI x3))]) hX (by decide) rfl md_W_mixSeries_15 ?_
  refine sp_sub [3, 5, 2, 1, 0] (L' := [(0, Value.ref x0), (3, Value.int (iI x3)), (4, Value.long x1), (6, Value.ref v3), (7, Value.int (iI (0 : Int)))]) rfl ?_
  exact sl_W_mixSeries_17 hX hR 1000 x0 x3 x1 v3 (0 : Int) σ
/-! PadeWorkbench.mixPoints(J)J -/
theorem md_W_mixPoints_0 : decode prog_1_method_36_code 0 = .ok (.lload_n 1, 1) := by decide +kernel
theorem md_W_mixPoints_1 : decode prog_1_method_36_code 1 = .ok (.aload_n 0, 1) := by decide +kernel
theorem md_W_mixPoints_2 : decode prog_1_method_36_code 2 = .ok (.getfield 10, 3) := by decide +kernel
theorem md_W_mixPoints_5 : decode prog_1_method_36_code 5 = .ok (.getfield 226, 3) := by decide +kernel
theorem md_W_mixPoints_8 : decode prog_1_method_36_code 8 = .ok (.invokestatic 251, 3) := by decide +kernel
theorem md_W_mixPoints_11 : decode prog_1_method_36_code 11 = .ok (.lstore_n 3, 1) := by decide +kernel
theorem md_W_mixPoints_12 : decode prog_1_method_36_code 12 = .ok (.iconst 0, 1) := by decide +kernel
theorem md_W_mixPoints_13 : decode prog_1_method_36_code 13 = .ok (.istore 5, 2) := by decide +kernel
theorem md_W_mixPoints_15 : decode prog_1_method_36_code 15 = .ok (.iload 5, 2) := by decide +kernel
theorem md_W_mixPoints_17 : decode prog_1_method_36_code 17 = .ok (.aload_n 0, 1) := by decide +kernel
theorem md_W_mixPoints_18 : decode prog_1_method_36_code 18 = .ok (.getfield 10, 3) := by decide +kernel
theorem md_W_mixPoints_21 : decode prog_1_method_36_code 21 = .ok (.getfield 226, 3) := by decide +kernel
theorem md_W_mixPoints_24 : decode prog_1_method_36_code 24 = .ok (.if_icmp .ge 46, 3) := by decide +kernel
theorem md_W_mixPoints_70 : decode prog_1_method_36_code 70 = .ok (.iconst 0, 1) := by decide +kernel
theorem md_W_mixPoints_71 : decode prog_1_method_36_code 71 = .ok (.istore 5, 2) := by decide +kernel
theorem md_W_mixPoints_73 : decode prog_1_method_36_code 73 = .ok (.iload 5, 2) := by decide +kernel
theorem md_W_mixPoints_75 : decode prog_1_method_36_code 75 = .ok (.aload_n 0, 1) := by decide +kernel
theorem md_W_mixPoints_76 : decode prog_1_method_36_code 76 = .ok (.getfield 10, 3) := by decide +kernel
theorem md_W_mixPoints_79 : decode prog_1_method_36_code 79 = .ok (.getfield 226, 3) := by decide +kernel
theorem md_W_mixPoints_82 : decode prog_1_method_36_code 82 = .ok (.if_icmp .ge 31, 3) := by decide +kernel
theorem md_W_mixPoints_113 : decode prog_1_method_36_code 113 = .ok (.lload_n 3, 1) := by decide +kernel
theorem md_W_mixPoints_114 : decode prog_1_method_36_code 114 = .ok (.lreturn, 1) := by decide +kernel
theorem md_W_mixPoints_85 : decode prog_1_method_36_code 85 = .ok (.iload 5, 2) := by decide +kernel
theorem md_W_mixPoints_87 : decode prog_1_method_36_code 87 = .ok (.bipush 10, 2) := by decide +kernel
theorem md_W_mixPoints_89 : decode prog_1_method_36_code 89 = .ok (.if_icmp .ge 24, 3) := by decide +kernel
theorem md_W_mixPoints_92 : decode prog_1_method_36_code 92 = .ok (.aload_n 0, 1) := by decide +kernel
theorem md_W_mixPoints_93 : decode prog_1_method_36_code 93 = .ok (.iload 5, 2) := by decide +kernel
theorem md_W_mixPoints_95 : decode prog_1_method_36_code 95 = .ok (.invokevirtual 236, 3) := by decide +kernel
theorem md_W_mixPoints_98 : decode prog_1_method_36_code 98 = .ok (.lload_n 3, 1) := by decide +kernel
theorem md_W_mixPoints_99 : decode prog_1_method_36_code 99 = .ok (.aload_n 0, 1) := by decide +kernel
theorem md_W_mixPoints_100 : decode prog_1_method_36_code 100 = .ok (.invokevirtual 239, 3) := by decide +kernel
theorem md_W_mixPoints_103 : decode prog_1_method_36_code 103 = .ok (.invokestatic 251, 3) := by decide +kernel
theorem md_W_mixPoints_106 : decode prog_1_method_36_code 106 = .ok (.lstore_n 3, 1) := by decide +kernel
theorem md_W_mixPoints_107 : decode prog_1_method_36_code 107 = .ok (.iinc 5 1, 3) := by decide +kernel
theorem md_W_mixPoints_110 : decode prog_1_method_36_code 110 = .ok (.goto (-37), 3) := by decide +kernel
theorem md_W_mixPoints_27 : decode prog_1_method_36_code 27 = .ok (.iload 5, 2) := by decide +kernel
theorem md_W_mixPoints_29 : decode prog_1_method_36_code 29 = .ok (.bipush 10, 2) := by decide +kernel
theorem md_W_mixPoints_31 : decode prog_1_method_36_code 31 = .ok (.if_icmp .ge 39, 3) := by decide +kernel
theorem md_W_mixPoints_34 : decode prog_1_method_36_code 34 = .ok (.lload_n 3, 1) := by decide +kernel
theorem md_W_mixPoints_35 : decode prog_1_method_36_code 35 = .ok (.aload_n 0, 1) := by decide +kernel
theorem md_W_mixPoints_36 : decode prog_1_method_36_code 36 = .ok (.getfield 10, 3) := by decide +kernel
theorem md_W_mixPoints_39 : decode prog_1_method_36_code 39 = .ok (.getfield 264, 3) := by decide +kernel
theorem md_W_mixPoints_42 : decode prog_1_method_36_code 42 = .ok (.iload 5, 2) := by decide +kernel
theorem md_W_mixPoints_44 : decode prog_1_method_36_code 44 = .ok (.iaload, 1) := by decide +kernel
theorem md_W_mixPoints_45 : decode prog_1_method_36_code 45 = .ok (.invokestatic 251, 3) := by decide +kernel
theorem md_W_mixPoints_48 : decode prog_1_method_36_code 48 = .ok (.lstore_n 3, 1) := by decide +kernel
theorem md_W_mixPoints_49 : decode prog_1_method_36_code 49 = .ok (.lload_n 3, 1) := by decide +kernel
theorem md_W_mixPoints_50 : decode prog_1_method_36_code 50 = .ok (.aload_n 0, 1) := by decide +kernel
theorem md_W_mixPoints_51 : decode prog_1_method_36_code 51 = .ok (.getfield 10, 3) := by decide +kernel
theorem md_W_mixPoints_54 : decode prog_1_method_36_code 54 = .ok (.getfield 267, 3) := by decide +kernel
theorem md_W_mixPoints_57 : decode prog_1_method_36_code 57 = .ok (.iload 5, 2) := by decide +kernel
theorem md_W_mixPoints_59 : decode prog_1_method_36_code 59 = .ok (.iaload, 1) := by decide +kernel
theorem md_W_mixPoints_60 : decode prog_1_method_36_code 60 = .ok (.invokestatic 251, 3) := by decide +kernel
theorem md_W_mixPoints_63 : decode prog_1_method_36_code 63 = .ok (.lstore_n 3, 1) := by decide +kernel
theorem md_W_mixPoints_64 : decode prog_1_method_36_code 64 = .ok (.iinc 5 1, 3) := by decide +kernel
theorem md_W_mixPoints_67 : decode prog_1_method_36_code 67 = .ok (.goto (-52), 3) := by decide +kernel
def mb_W_mixPoints_73 (rc : Nat → Int64 → Int → pw_Sto → Option (Int64 × pw_Sto)) : Nat → Int64 → Int → pw_Sto → Option (Int64 × pw_Sto) := fun x0 x3 x5 σ => (pw_gr 9 x0 0 σ).bind (fun v7 => (pw_gi 7 v7 2 σ).bind (fun v8 => pw_ck x5 v8 (if v8 ≤ x5 then some (x3, σ) else pw_ck x5 (10 : Int) (if (10 : Int) ≤ x5 then some (x3, σ) else pw_bd (mf_W_interpolate x0 x5 σ) (fun _ s9 => pw_bd (mf_W_missedPoints x0 s9) (fun v11 s10 => pw_bd (mf_W_mix x3 v11 s10) (fun v13 s12 => rc x0 v13 (x5 + 1) s12)))))))
def ml_W_mixPoints_73 : Nat → Nat → Int64 → Int → pw_Sto → Option (Int64 × pw_Sto) := pw_lp (fun _ _ _ _ => none) (mb_W_mixPoints_73)
def mb_W_mixPoints_15 (rc : Nat → Int64 → Int → pw_Sto → Option (Int64 × pw_Sto)) : Nat → Int64 → Int → pw_Sto → Option (Int64 × pw_Sto) := fun x0 x3 x5 σ => (pw_gr 9 x0 0 σ).bind (fun v5 => (pw_gi 7 v5 2 σ).bind (fun v6 => pw_ck x5 v6 (if v6 ≤ x5 then ml_W_mixPoints_73 1000 x0 x3 (0 : Int) σ else pw_ck x5 (10 : Int) (if (10 : Int) ≤ x5 then ml_W_mixPoints_73 1000 x0 x3 (0 : Int) σ else (pw_gr 9 x0 0 σ).bind (fun v14 => (pw_gr 7 v14 3 σ).bind (fun v15 => (pw_ai v15 x5 σ).bind (fun v16 => pw_bd (mf_W_mix x3 v16 σ) (fun v18 s17 => (pw_gr 9 x0 0 s17).bind (fun v19 => (pw_gr 7 v19 4 s17).bind (fun v20 => (pw_ai v20 x5 s17).bind (fun v21 => pw_bd (mf_W_mix v18 v21 s17) (fun v23 s22 => rc x0 v23 (x5 + 1) s22))))))))))))
def ml_W_mixPoints_15 : Nat → Nat → Int64 → Int → pw_Sto → Option (Int64 × pw_Sto) := pw_lp (fun _ _ _ _ => none) (mb_W_mixPoints_15)
def mf_W_mixPoints (x0 : Nat) (x1 : Int64) (σ : pw_Sto) : Option (Int64 × pw_Sto) := pw_gd 9 x0 σ ((pw_gr 9 x0 0 σ).bind (fun v1 => (pw_gi 7 v1 2 σ).bind (fun v2 => pw_bd (mf_W_mix x1 v2 σ) (fun v4 s3 => ml_W_mixPoints_15 1000 x0 v4 (0 : Int) s3))))
set_option maxHeartbeats 4000000 in
set_option maxRecDepth 20000 in
theorem sl_W_mixPoints_73 {X : pw_X Int64} (hX : pw_Ok X prog_1_method_36_code "PadeWorkbench" mr_W_mixPoints 6) (hR : pw_RL X prog_1_method_36_code) : ∀ (n : Nat) (x0 : Nat) (x3 : Int64) (x5 : Int) (σ : pw_Sto), pw_Sp X 0 0 73 [(0, Value.ref x0), (3, Value.long x3), (5, Value.int (iI x5))] [] σ (ml_W_mixPoints_73 n x0 x3 x5 σ) := by
  intro n
  induction n with
  | zero => intros; exact pw_none
  | succ n ih =>
    intro x0 x3 x5 σ
    show pw_Sp X 0 0 73 _ _ σ (mb_W_mixPoints_73 (ml_W_mixPoints_73 n) x0 x3 x5 σ)
    unfold mb_W_mixPoints_73
    refine sp_iload (pc := 73) (i := 5) hX 2 rfl md_W_mixPoints_73 ?_
    refine sp_aload_n (pc := 75) (k := 0) (i := 0) hX rfl 0 rfl md_W_mixPoints_75 ?_
    refine sp_getR (pc := 76) (ci := 9) (k := 0) (idx := 10) hX mcl_9 (by decide) mq_284 rfl md_W_mixPoints_76 (fun v7 => ?_)
    refine sp_getIN (pc := 79) (ci := 7) (k := 2) (idx := 226) hX mcl_7 (by decide) mn_107 rfl md_W_mixPoints_79 (fun v8 => ?_)
    refine sp_icmp_ge (pc := 82) hX 113 (by decide) md_W_mixPoints_82 (fun _ => ?_) (fun _ => ?_)
    · refine sp_lload_n (pc := 113) (k := 3) (i := 3) hX rfl 1 rfl md_W_mixPoints_113 ?_
      exact sp_lret (pc := 114) hX hR rfl (Nat.le_of_ble_eq_true rfl) md_W_mixPoints_114
    · refine sp_iload (pc := 85) (i := 5) hX 2 rfl md_W_mixPoints_85 ?_
      refine sp_bipush (pc := 87) hX (by decide) md_W_mixPoints_87 ?_
      refine sp_icmp_ge (pc := 89) hX 113 (by decide) md_W_mixPoints_89 (fun _ => ?_) (fun _ => ?_)
      · refine sp_lload_n (pc := 113) (k := 3) (i := 3) hX rfl 1 rfl md_W_mixPoints_113 ?_
        exact sp_lret (pc := 114) hX hR rfl (Nat.le_of_ble_eq_true rfl) md_W_mixPoints_114
      · refine sp_aload_n (pc := 92) (k := 0) (i := 0) hX rfl 0 rfl md_W_mixPoints_92 ?_
        refine sp_iload (pc := 93) (i := 5) hX 2 rfl md_W_mixPoints_93 ?_
        refine sp_callVV (pc := 95) (y := my_W_interpolate) (ccy := prog_1_method_48_code) (nLy := 3) (ret := none) (rmy := mr_W_interpolate) (n := 1) (idx := 236) (As := [.int (iI x5)]) (st := []) (o := x0) (cells' := 0) (slots' := 0) hX (fun _ h => mc_W_interpolate h) mk_W_interpolate mv_W_interpolate mcl_9 (fun _ h => pw_gd_of h) mq_735 ⟨(Nat.le_of_ble_eq_true rfl), (Nat.le_of_ble_eq_true rfl)⟩ rfl rfl (Nat.le_of_ble_eq_true rfl) ⟨(Nat.le_of_ble_eq_true rfl), (Nat.le_of_ble_eq_true rfl)⟩ rfl rfl md_W_mixPoints_95 (fun s9 => ?_)
        refine sp_lload_n (pc := 98) (k := 3) (i := 3) hX rfl 1 rfl md_W_mixPoints_98 ?_
        refine sp_aload_n (pc := 99) (k := 0) (i := 0) hX rfl 0 rfl md_W_mixPoints_99 ?_
        refine sp_callVI (pc := 100) (y := my_W_missedPoints) (ccy := prog_1_method_49_code) (nLy := 3) (ret := (some .int)) (rmy := mr_W_missedPoints) (n := 0) (idx := 239) (As := []) (st := [.long x3]) (o := x0) (cells' := 0) (slots' := 0) hX (fun _ h => mc_W_missedPoints h) mk_W_missedPoints mv_W_missedPoints mcl_9 (fun _ h => pw_gd_of h) mq_755 ⟨(Nat.le_of_ble_eq_true rfl), (Nat.le_of_ble_eq_true rfl)⟩ rfl rfl (Nat.le_of_ble_eq_true rfl) ⟨(Nat.le_of_ble_eq_true rfl), (Nat.le_of_ble_eq_true rfl)⟩ rfl rfl md_W_mixPoints_100 (fun v11 s10 => ?_)
        refine sp_callSL (pc := 103) (y := my_W_mix) (ccy := prog_1_method_34_code) (nLy := 3) (ret := (some .long)) (rmy := mr_W_mix) (n := 2) (idx := 251) (As := [.long x3, .int (iI v11)]) (st := []) (cells' := 0) (slots' := 0) hX (fun _ h => mc_W_mix h) mk_W_mix mq_782 mq_781 ⟨(Nat.le_of_ble_eq_true rfl), (Nat.le_of_ble_eq_true rfl)⟩ rfl rfl (Nat.le_of_ble_eq_true rfl) ⟨(Nat.le_of_ble_eq_true rfl), (Nat.le_of_ble_eq_true rfl)⟩ rfl rfl md_W_mixPoints_103 (fun v13 s12 => ?_)
        refine sp_lstore_n (pc := 106) (k := 3) (i := 3) (L' := [(3, Value.long v13), (0, Value.ref x0), (5, Value.int (iI x5))]) hX rfl (by decide) rfl md_W_mixPoints_106 ?_
        refine sp_iinc (pc := 107) (i := 5) (L' := [(5, Value.int (iI (x5 + 1))), (3, Value.long v13), (0, Value.ref x0)]) hX 2 rfl (by decide) rfl md_W_mixPoints_107 ?_
        refine sp_goto (pc := 110) hX 73 (by decide) md_W_mixPoints_110 ?_
        refine sp_sub [2, 1, 0] (L' := [(0, Value.ref x0), (3, Value.long v13), (5, Value.int (iI (x5 + 1)))]) rfl ?_
        exact ih x0 v13 (x5 + 1) s12
set_option maxHeartbeats 4000000 in
set_option maxRecDepth 20000 in
theorem sl_W_mixPoints_15 {X : pw_X Int64} (hX : pw_Ok X prog_1_method_36_code "PadeWorkbench" mr_W_mixPoints 6) (hR : pw_RL X prog_1_method_36_code) : ∀ (n : Nat) (x0 : Nat) (x3 : Int64) (x5 : Int) (σ : pw_Sto), pw_Sp X 0 0 15 [(0, Value.ref x0), (3, Value.long x3), (5, Value.int (iI x5))] [] σ (ml_W_mixPoints_15 n x0 x3 x5 σ) := by
  intro n
  induction n with
  | zero => intros; exact pw_none
  | succ n ih =>
    intro x0 x3 x5 σ
    show pw_Sp X 0 0 15 _ _ σ (mb_W_mixPoints_15 (ml_W_mixPoints_15 n) x0 x3 x5 σ)
    unfold mb_W_mixPoints_15
    refine sp_iload (pc := 15) (i := 5) hX 2 rfl md_W_mixPoints_15 ?_
    refine sp_aload_n (pc := 17) (k := 0) (i := 0) hX rfl 0 rfl md_W_mixPoints_17 ?_
    refine sp_getR (pc := 18) (ci := 9) (k := 0) (idx := 10) hX mcl_9 (by decide) mq_284 rfl md_W_mixPoints_18 (fun v5 => ?_)
    refine sp_getIN (pc := 21) (ci := 7) (k := 2) (idx := 226) hX mcl_7 (by decide) mn_107 rfl md_W_mixPoints_21 (fun v6 => ?_)
    refine sp_icmp_ge (pc := 24) hX 70 (by decide) md_W_mixPoints_24 (fun _ => ?_) (fun _ => ?_)
    · refine sp_iconst (pc := 70) hX md_W_mixPoints_70 ?_
      refine sp_istore (pc := 71) (i := 5) (L' := [(5, Value.int (iI (0 : Int))), (0, Value.ref x0), (3, Value.long x3)]) hX (by decide) rfl md_W_mixPoints_71 ?_
      refine sp_sub [1, 2, 0] (L' := [(0, Value.ref x0), (3, Value.long x3), (5, Value.int (iI (0 : Int)))]) rfl ?_
      exact sl_W_mixPoints_73 hX hR 1000 x0 x3 (0 : Int) σ
    · refine sp_iload (pc := 27) (i := 5) hX 2 rfl md_W_mixPoints_27 ?_
      refine sp_bipush (pc := 29) hX (by decide) md_W_mixPoints_29 ?_
      refine sp_icmp_ge (pc := 31) hX 70 (by decide) md_W_mixPoints_31 (fun _ => ?_) (fun _ => ?_)
      · refine sp_iconst (pc := 70) hX md_W_mixPoints_70 ?_
        refine sp_istore (pc := 71) (i := 5) (L' := [(5, Value.int (iI (0 : Int))), (0, Value.ref x0), (3, Value.long x3)]) hX (by decide) rfl md_W_mixPoints_71 ?_
        refine sp_sub [1, 2, 0] (L' := [(0, Value.ref x0), (3, Value.long x3), (5, Value.int (iI (0 : Int)))]) rfl ?_
        exact sl_W_mixPoints_73 hX hR 1000 x0 x3 (0 : Int) σ
      · refine sp_lload_n (pc := 34) (k := 3) (i := 3) hX rfl 1 rfl md_W_mixPoints_34 ?_
        refine sp_aload_n (pc := 35) (k := 0) (i := 0) hX rfl 0 rfl md_W_mixPoints_35 ?_
        refine sp_getR (pc := 36) (ci := 9) (k := 0) (idx := 10) hX mcl_9 (by decide) mq_284 rfl md_W_mixPoints_36 (fun v14 => ?_)
        refine sp_getRN (pc := 39) (ci := 7) (k := 3) (idx := 264) hX mcl_7 (by decide) mn_110 rfl md_W_mixPoints_39 (fun v15 => ?_)
        refine sp_iload (pc := 42) (i := 5) hX 2 rfl md_W_mixPoints_42 ?_
        refine sp_iaload (pc := 44) hX md_W_mixPoints_44 (fun v16 => ?_)
        refine sp_callSL (pc := 45) (y := my_W_mix) (ccy := prog_1_method_34_code) (nLy := 3) (ret := (some .long)) (rmy := mr_W_mix) (n := 2) (idx := 251) (As := [.long x3, .int (iI v16)]) (st := []) (cells' := 0) (slots' := 0) hX (fun _ h => mc_W_mix h) mk_W_mix mq_782 mq_781 ⟨(Nat.le_of_ble_eq_true rfl), (Nat.le_of_ble_eq_true rfl)⟩ rfl rfl (Nat.le_of_ble_eq_true rfl) ⟨(Nat.le_of_ble_eq_true rfl), (Nat.le_of_ble_eq_true rfl)⟩ rfl rfl md_W_mixPoints_45 (fun v18 s17 => ?_)
        refine sp_lstore_n (pc := 48) (k := 3) (i := 3) (L' := [(3, Value.long v18), (0, Value.ref x0), (5, Value.int (iI x5))]) hX rfl (by decide) rfl md_W_mixPoints_48 ?_
        refine sp_lload_n (pc := 49) (k := 3) (i := 3) hX rfl 0 rfl md_W_mixPoints_49 ?_
        refine sp_aload_n (pc := 50) (k := 0) (i := 0) hX rfl 1 rfl md_W_mixPoints_50 ?_
        refine sp_getR (pc := 51) (ci := 9) (k := 0) (idx := 10) hX mcl_9 (by decide) mq_284 rfl md_W_mixPoints_51 (fun v19 => ?_)
        refine sp_getRN (pc := 54) (ci := 7) (k := 4) (idx := 267) hX mcl_7 (by decide) mn_113 rfl md_W_mixPoints_54 (fun v20 => ?_)
        refine sp_iload (pc := 57) (i := 5) hX 2 rfl md_W_mixPoints_57 ?_
        refine sp_iaload (pc := 59) hX md_W_mixPoints_59 (fun v21 => ?_)
        refine sp_callSL (pc := 60) (y := my_W_mix) (ccy := prog_1_method_34_code) (nLy := 3) (ret := (some .long)) (rmy := mr_W_mix) (n := 2) (idx := 251) (As := [.long v18, .int (iI v21)]) (st := []) (cells' := 0) (slots' := 0) hX (fun _ h => mc_W_mix h) mk_W_mix mq_782 mq_781 ⟨(Nat.le_of_ble_eq_true rfl), (Nat.le_of_ble_eq_true rfl)⟩ rfl rfl (Nat.le_of_ble_eq_true rfl) ⟨(Nat.le_of_ble_eq_true rfl), (Nat.le_of_ble_eq_true rfl)⟩ rfl rfl md_W_mixPoints_60 (fun v23 s22 => ?_)
        refine sp_lstore_n (pc := 63) (k := 3) (i := 3) (L' := [(3, Value.long v23), (0, Value.ref x0), (5, Value.int (iI x5))]) hX rfl (by decide) rfl md_W_mixPoints_63 ?_
        refine sp_iinc (pc := 64) (i := 5) (L' := [(5, Value.int (iI (x5 + 1))), (3, Value.long v23), (0, Value.ref x0)]) hX 2 rfl (by decide) rfl md_W_mixPoints_64 ?_
        refine sp_goto (pc := 67) hX 15 (by decide) md_W_mixPoints_67 ?_
        refine sp_sub [2, 1, 0] (L' := [(0, Value.ref x0), (3, Value.long v23), (5, Value.int (iI (x5 + 1)))]) rfl ?_
        exact ih x0 v23 (x5 + 1) s22
set_option maxHeartbeats 4000000 in
set_option maxRecDepth 20000 in
theorem mc_W_mixPoints {l : Launch} {E : pw_E} {σ : pw_Sto} {x0 : Nat} {x1 : Int64} {out : Int64 × pw_Sto} (h : mf_W_mixPoints x0 x1 σ = some out) : pw_CL l E my_W_mixPoints prog_1_method_36_code 6 (some .long) mr_W_mixPoints [.ref x0, .long x1] σ out := by
  unfold mf_W_mixPoints at h
  refine pw_entryL (by decide) (Nat.le_of_ble_eq_true rfl) (pw_gd_val h) (fun X hX hR hI => ?_)
  change pw_Ok X prog_1_method_36_code "PadeWorkbench" mr_W_mixPoints 6 at hX
  show pw_Sp X 0 0 0 [(0, Value.ref x0), (1, Value.long x1)] [] σ _
  refine sp_lload_n (pc := 0) (k := 1) (i := 1) hX rfl 1 rfl md_W_mixPoints_0 ?_
  refine sp_aload_n (pc := 1) (k := 0) (i := 0) hX rfl 0 rfl md_W_mixPoints_1 ?_
  refine sp_getR (pc := 2) (ci := 9) (k := 0) (idx := 10) hX mcl_9 (by decide) mq_284 rfl md_W_mixPoints_2 (fun v1 => ?_)
  refine sp_getIN (pc := 5) (ci := 7) (k := 2) (idx := 226) hX mcl_7 (by decide) mn_107 rfl md_W_mixPoints_5 (fun v2 => ?_)
  refine sp_callSL (pc := 8) (y := my_W_mix) (ccy := prog_1_method_34_code) (nLy := 3) (ret := (some .long)) (rmy := mr_W_mix) (n := 2) (idx := 251) (As := [.long x1, .int (iI v2)]) (st := []) (cells' := 0) (slots' := 0) hX (fun _ h => mc_W_mix h) mk_W_mix mq_782 mq_781 ⟨(Nat.le_of_ble_eq_true rfl), (Nat.le_of_ble_eq_true rfl)⟩ rfl rfl (Nat.le_of_ble_eq_true rfl) ⟨(Nat.le_of_ble_eq_true rfl), (Nat.le_of_ble_eq_true rfl)⟩ rfl rfl md_W_mixPoints_8 (fun v4 s3 => ?_)
  refine sp_lstore_n (pc := 11) (k := 3) (i := 3) (L' := [(3, Value.long v4), (0, Value.ref x0), (1, Value.long x1)]) hX rfl (by decide) rfl md_W_mixPoints_11 ?_
  refine sp_iconst (pc := 12) hX md_W_mixPoints_12 ?_
  refine sp_istore (pc := 13) (i := 5) (L' := [(5, Value.int (iI (0 : Int))), (3, Value.long v4), (0, Value.ref x0), (1, Value.long x1)]) hX (by decide) rfl md_W_mixPoints_13 ?_
  refine sp_sub [2, 1, 0] (L' := [(0, Value.ref x0), (3, Value.long v4), (5, Value.int (iI (0 : Int)))]) rfl ?_
  exact sl_W_mixPoints_15 hX hR 1000 x0 v4 (0 : Int) s3
/-! PadeWorkbench.digest()J -/
theorem md_W_digest_0 : decode prog_1_method_33_code 0 = .ok (.ldc2_w 249, 3) := by decide +kernel
theorem md_W_digest_3 : decode prog_1_method_33_code 3 = .ok (.lstore_n 1, 1) := by decide +kernel
theorem md_W_digest_4 : decode prog_1_method_33_code 4 = .ok (.iconst 0, 1) := by decide +kernel
theorem md_W_digest_5 : decode prog_1_method_33_code 5 = .ok (.istore_n 3, 1) := by decide +kernel
theorem md_W_digest_6 : decode prog_1_method_33_code 6 = .ok (.iload_n 3, 1) := by decide +kernel
theorem md_W_digest_7 : decode prog_1_method_33_code 7 = .ok (.iconst 3, 1) := by decide +kernel
theorem md_W_digest_8 : decode prog_1_method_33_code 8 = .ok (.if_icmp .ge 20, 3) := by decide +kernel
theorem md_W_digest_28 : decode prog_1_method_33_code 28 = .ok (.lload_n 1, 1) := by decide +kernel
theorem md_W_digest_29 : decode prog_1_method_33_code 29 = .ok (.aload_n 0, 1) := by decide +kernel
theorem md_W_digest_30 : decode prog_1_method_33_code 30 = .ok (.getfield 26, 3) := by decide +kernel
theorem md_W_digest_33 : decode prog_1_method_33_code 33 = .ok (.getfield 131, 3) := by decide +kernel
theorem md_W_digest_36 : decode prog_1_method_33_code 36 = .ok (.invokestatic 251, 3) := by decide +kernel
theorem md_W_digest_39 : decode prog_1_method_33_code 39 = .ok (.lstore_n 1, 1) := by decide +kernel
theorem md_W_digest_40 : decode prog_1_method_33_code 40 = .ok (.lload_n 1, 1) := by decide +kernel
theorem md_W_digest_41 : decode prog_1_method_33_code 41 = .ok (.aload_n 0, 1) := by decide +kernel
theorem md_W_digest_42 : decode prog_1_method_33_code 42 = .ok (.getfield 19, 3) := by decide +kernel
theorem md_W_digest_45 : decode prog_1_method_33_code 45 = .ok (.getfield 243, 3) := by decide +kernel
theorem md_W_digest_48 : decode prog_1_method_33_code 48 = .ok (.invokestatic 251, 3) := by decide +kernel
theorem md_W_digest_51 : decode prog_1_method_33_code 51 = .ok (.lstore_n 1, 1) := by decide +kernel
theorem md_W_digest_52 : decode prog_1_method_33_code 52 = .ok (.lload_n 1, 1) := by decide +kernel
theorem md_W_digest_53 : decode prog_1_method_33_code 53 = .ok (.aload_n 0, 1) := by decide +kernel
theorem md_W_digest_54 : decode prog_1_method_33_code 54 = .ok (.getfield 10, 3) := by decide +kernel
theorem md_W_digest_57 : decode prog_1_method_33_code 57 = .ok (.getfield 83, 3) := by decide +kernel
theorem md_W_digest_60 : decode prog_1_method_33_code 60 = .ok (.invokestatic 251, 3) := by decide +kernel
theorem md_W_digest_63 : decode prog_1_method_33_code 63 = .ok (.lstore_n 1, 1) := by decide +kernel
theorem md_W_digest_64 : decode prog_1_method_33_code 64 = .ok (.iconst 0, 1) := by decide +kernel
theorem md_W_digest_65 : decode prog_1_method_33_code 65 = .ok (.istore_n 3, 1) := by decide +kernel
theorem md_W_digest_66 : decode prog_1_method_33_code 66 = .ok (.iload_n 3, 1) := by decide +kernel
theorem md_W_digest_67 : decode prog_1_method_33_code 67 = .ok (.iconst 4, 1) := by decide +kernel
theorem md_W_digest_68 : decode prog_1_method_33_code 68 = .ok (.if_icmp .ge 16, 3) := by decide +kernel
theorem md_W_digest_84 : decode prog_1_method_33_code 84 = .ok (.aload_n 0, 1) := by decide +kernel
theorem md_W_digest_85 : decode prog_1_method_33_code 85 = .ok (.lload_n 1, 1) := by decide +kernel
theorem md_W_digest_86 : decode prog_1_method_33_code 86 = .ok (.invokevirtual 258, 3) := by decide +kernel
theorem md_W_digest_89 : decode prog_1_method_33_code 89 = .ok (.lreturn, 1) := by decide +kernel
theorem md_W_digest_71 : decode prog_1_method_33_code 71 = .ok (.aload_n 0, 1) := by decide +kernel
theorem md_W_digest_72 : decode prog_1_method_33_code 72 = .ok (.lload_n 1, 1) := by decide +kernel
theorem md_W_digest_73 : decode prog_1_method_33_code 73 = .ok (.iload_n 3, 1) := by decide +kernel
theorem md_W_digest_74 : decode prog_1_method_33_code 74 = .ok (.invokevirtual 255, 3) := by decide +kernel
theorem md_W_digest_77 : decode prog_1_method_33_code 77 = .ok (.lstore_n 1, 1) := by decide +kernel
theorem md_W_digest_78 : decode prog_1_method_33_code 78 = .ok (.iinc 3 1, 3) := by decide +kernel
theorem md_W_digest_81 : decode prog_1_method_33_code 81 = .ok (.goto (-15), 3) := by decide +kernel
theorem md_W_digest_11 : decode prog_1_method_33_code 11 = .ok (.lload_n 1, 1) := by decide +kernel
theorem md_W_digest_12 : decode prog_1_method_33_code 12 = .ok (.aload_n 0, 1) := by decide +kernel
theorem md_W_digest_13 : decode prog_1_method_33_code 13 = .ok (.getfield 72, 3) := by decide +kernel
theorem md_W_digest_16 : decode prog_1_method_33_code 16 = .ok (.iload_n 3, 1) := by decide +kernel
theorem md_W_digest_17 : decode prog_1_method_33_code 17 = .ok (.iaload, 1) := by decide +kernel
theorem md_W_digest_18 : decode prog_1_method_33_code 18 = .ok (.invokestatic 251, 3) := by decide +kernel
theorem md_W_digest_21 : decode prog_1_method_33_code 21 = .ok (.lstore_n 1, 1) := by decide +kernel
theorem md_W_digest_22 : decode prog_1_method_33_code 22 = .ok (.iinc 3 1, 3) := by decide +kernel
theorem md_W_digest_25 : decode prog_1_method_33_code 25 = .ok (.goto (-19), 3) := by decide +kernel
def mb_W_digest_66 (rc : Nat → Int64 → Int → pw_Sto → Option (Int64 × pw_Sto)) : Nat → Int64 → Int → pw_Sto → Option (Int64 × pw_Sto) := fun x0 x1 x3 σ => pw_ck x3 (4 : Int) (if (4 : Int) ≤ x3 then pw_bd (mf_W_mixPoints x0 x1 σ) (fun v14 s13 => some (v14, s13)) else pw_bd (mf_W_mixSeries x0 x1 x3 σ) (fun v16 s15 => rc x0 v16 (x3 + 1) s15))
def ml_W_digest_66 : Nat → Nat → Int64 → Int → pw_Sto → Option (Int64 × pw_Sto) := pw_lp (fun _ _ _ _ => none) (mb_W_digest_66)
def mb_W_digest_6 (rc : Nat → Int64 → Int → pw_Sto → Option (Int64 × pw_Sto)) : Nat → Int64 → Int → pw_Sto → Option (Int64 × pw_Sto) := fun x0 x1 x3 σ => pw_ck x3 (3 : Int) (if (3 : Int) ≤ x3 then (pw_gr 9 x0 2 σ).bind (fun v1 => (pw_gi 2 v1 1 σ).bind (fun v2 => pw_bd (mf_W_mix x1 v2 σ) (fun v4 s3 => (pw_gr 9 x0 1 s3).bind (fun v5 => (pw_gi 3 v5 2 s3).bind (fun v6 => pw_bd (mf_W_mix v4 v6 s3) (fun v8 s7 => (pw_gr 9 x0 0 s7).bind (fun v9 => (pw_gi 7 v9 0 s7).bind (fun v10 => pw_bd (mf_W_mix v8 v10 s7) (fun v12 s11 => ml_W_digest_66 1000 x0 v12 (0 : Int) s11))))))))) else (pw_gr 9 x0 10 σ).bind (fun v17 => (pw_ai v17 x3 σ).bind (fun v18 => pw_bd (mf_W_mix x1 v18 σ) (fun v20 s19 => rc x0 v20 (x3 + 1) s19))))
def ml_W_digest_6 : Nat → Nat → Int64 → Int → pw_Sto → Option (Int64 × pw_Sto) := pw_lp (fun _ _ _ _ => none) (mb_W_digest_6)
def mf_W_digest (x0 : Nat) (σ : pw_Sto) : Option (Int64 × pw_Sto) := pw_gd 9 x0 σ (ml_W_digest_6 1000 x0 (12475 : Int64) (0 : Int) σ)
set_option maxHeartbeats 4000000 in
set_option maxRecDepth 20000 in
theorem sl_W_digest_66 {X : pw_X Int64} (hX : pw_Ok X prog_1_method_33_code "PadeWorkbench" mr_W_digest 4) (hR : pw_RL X prog_1_method_33_code) : ∀ (n : Nat) (x0 : Nat) (x1 : Int64) (x3 : Int) (σ : pw_Sto), pw_Sp X 0 0 66 [(0, Value.ref x0), (1, Value.long x1), (3, Value.int (iI x3))] [] σ (ml_W_digest_66 n x0 x1 x3 σ) := by
  intro n
  induction n with
  | zero => intros; exact pw_none
  | succ n ih =>
    intro x0 x1 x3 σ
    show pw_Sp X 0 0 66 _ _ σ (mb_W_digest_66 (ml_W_digest_66 n) x0 x1 x3 σ)
    unfold mb_W_digest_66
    refine sp_iload_n (pc := 66) (k := 3) (i := 3) hX rfl 2 rfl md_W_digest_66 ?_
    refine sp_iconst (pc := 67) hX md_W_digest_67 ?_
    refine sp_icmp_ge (pc := 68) hX 84 (by decide) md_W_digest_68 (fun _ => ?_) (fun _ => ?_)
    · refine sp_aload_n (pc := 84) (k := 0) (i := 0) hX rfl 0 rfl md_W_digest_84 ?_
      refine sp_lload_n (pc := 85) (k := 1) (i := 1) hX rfl 1 rfl md_W_digest_85 ?_
      refine sp_callVL (pc := 86) (y := my_W_mixPoints) (ccy := prog_1_method_36_code) (nLy := 6) (ret := (some .long)) (rmy := mr_W_mixPoints) (n := 1) (idx := 258) (As := [.long x1]) (st := []) (o := x0) (cells' := 0) (slots' := 0) hX (fun _ h => mc_W_mixPoints h) mk_W_mixPoints mv_W_mixPoints mcl_9 (fun _ h => pw_gd_of h) mq_789 ⟨(Nat.le_of_ble_eq_true rfl), (Nat.le_of_ble_eq_true rfl)⟩ rfl rfl (Nat.le_of_ble_eq_true rfl) ⟨(Nat.le_of_ble_eq_true rfl), (Nat.le_of_ble_eq_true rfl)⟩ rfl rfl md_W_digest_86 (fun v14 s13 => ?_)
      exact sp_lret (pc := 89) hX hR rfl (Nat.le_of_ble_eq_true rfl) md_W_digest_89
    · refine sp_aload_n (pc := 71) (k := 0) (i := 0) hX rfl 0 rfl md_W_digest_71 ?_
      refine sp_lload_n (pc := 72) (k := 1) (i := 1) hX rfl 1 rfl md_W_digest_72 ?_
      refine sp_iload_n (pc := 73) (k := 3) (i := 3) hX rfl 2 rfl md_W_digest_73 ?_
      refine sp_callVL (pc := 74) (y := my_W_mixSeries) (ccy := prog_1_method_35_code) (nLy := 10) (ret := (some .long)) (rmy := mr_W_mixSeries) (n := 2) (idx := 255) (As := [.long x1, .int (iI x3)]) (st := []) (o := x0) (cells' := 0) (slots' := 0) hX (fun _ h => mc_W_mixSeries h) mk_W_mixSeries mv_W_mixSeries mcl_9 (fun _ h => pw_gd_of h) mq_785 ⟨(Nat.le_of_ble_eq_true rfl), (Nat.le_of_ble_eq_true rfl)⟩ rfl rfl (Nat.le_of_ble_eq_true rfl) ⟨(Nat.le_of_ble_eq_true rfl), (Nat.le_of_ble_eq_true rfl)⟩ rfl rfl md_W_digest_74 (fun v16 s15 => ?_)
      refine sp_lstore_n (pc := 77) (k := 1) (i := 1) (L' := [(1, Value.long v16), (0, Value.ref x0), (3, Value.int (iI x3))]) hX rfl (by decide) rfl md_W_digest_77 ?_
      refine sp_iinc (pc := 78) (i := 3) (L' := [(3, Value.int (iI (x3 + 1))), (1, Value.long v16), (0, Value.ref x0)]) hX 2 rfl (by decide) rfl md_W_digest_78 ?_
      refine sp_goto (pc := 81) hX 66 (by decide) md_W_digest_81 ?_
      refine sp_sub [2, 1, 0] (L' := [(0, Value.ref x0), (1, Value.long v16), (3, Value.int (iI (x3 + 1)))]) rfl ?_
      exact ih x0 v16 (x3 + 1) s15
set_option maxHeartbeats 4000000 in
set_option maxRecDepth 20000 in
theorem sl_W_digest_6 {X : pw_X Int64} (hX : pw_Ok X prog_1_method_33_code "PadeWorkbench" mr_W_digest 4) (hR : pw_RL X prog_1_method_33_code) : ∀ (n : Nat) (x0 : Nat) (x1 : Int64) (x3 : Int) (σ : pw_Sto), pw_Sp X 0 0 6 [(0, Value.ref x0), (1, Value.long x1), (3, Value.int (iI x3))] [] σ (ml_W_digest_6 n x0 x1 x3 σ) := by
  intro n
  induction n with
  | zero => intros; exact pw_none
  | succ n ih =>
    intro x0 x1 x3 σ
    show pw_Sp X 0 0 6 _ _ σ (mb_W_digest_6 (ml_W_digest_6 n) x0 x1 x3 σ)
    unfold mb_W_digest_6
    refine sp_iload_n (pc := 6) (k := 3) (i := 3) hX rfl 2 rfl md_W_digest_6 ?_
    refine sp_iconst (pc := 7) hX md_W_digest_7 ?_
    refine sp_icmp_ge (pc := 8) hX 28 (by decide) md_W_digest_8 (fun _ => ?_) (fun _ => ?_)
    · refine sp_lload_n (pc := 28) (k := 1) (i := 1) hX rfl 1 rfl md_W_digest_28 ?_
      refine sp_aload_n (pc := 29) (k := 0) (i := 0) hX rfl 0 rfl md_W_digest_29 ?_
      refine sp_getR (pc := 30) (ci := 9) (k := 2) (idx := 26) hX mcl_9 (by decide) mq_286 rfl md_W_digest_30 (fun v1 => ?_)
      refine sp_getIN (pc := 33) (ci := 2) (k := 1) (idx := 131) hX mcl_2 (by decide) mn_154 rfl md_W_digest_33 (fun v2 => ?_)
      refine sp_callSL (pc := 36) (y := my_W_mix) (ccy := prog_1_method_34_code) (nLy := 3) (ret := (some .long)) (rmy := mr_W_mix) (n := 2) (idx := 251) (As := [.long x1, .int (iI v2)]) (st := []) (cells' := 0) (slots' := 0) hX (fun _ h => mc_W_mix h) mk_W_mix mq_782 mq_781 ⟨(Nat.le_of_ble_eq_true rfl), (Nat.le_of_ble_eq_true rfl)⟩ rfl rfl (Nat.le_of_ble_eq_true rfl) ⟨(Nat.le_of_ble_eq_true rfl), (Nat.le_of_ble_eq_true rfl)⟩ rfl rfl md_W_digest_36 (fun v4 s3 => ?_)
      refine sp_lstore_n (pc := 39) (k := 1) (i := 1) (L' := [(1, Value.long v4), (0, Value.ref x0), (3, Value.int (iI x3))]) hX rfl (by decide) rfl md_W_digest_39 ?_
      refine sp_lload_n (pc := 40) (k := 1) (i := 1) hX rfl 0 rfl md_W_digest_40 ?_
      refine sp_aload_n (pc := 41) (k := 0) (i := 0) hX rfl 1 rfl md_W_digest_41 ?_
      refine sp_getR (pc := 42) (ci := 9) (k := 1) (idx := 19) hX mcl_9 (by decide) mq_285 rfl md_W_digest_42 (fun v5 => ?_)
      refine sp_getIN (pc := 45) (ci := 3) (k := 2) (idx := 243) hX mcl_3 (by decide) mn_138 rfl md_W_digest_45 (fun v6 => ?_)
      refine sp_callSL (pc := 48) (y := my_W_mix) (ccy := prog_1_method_34_code) (nLy := 3) (ret := (some .long)) (rmy := mr_W_mix) (n := 2) (idx := 251) (As := [.long v4, .int (iI v6)]) (st := []) (cells' := 0) (slots' := 0) hX (fun _ h => mc_W_mix h) mk_W_mix mq_782 mq_781 ⟨(Nat.le_of_ble_eq_true rfl), (Nat.le_of_ble_eq_true rfl)⟩ rfl rfl (Nat.le_of_ble_eq_true rfl) ⟨(Nat.le_of_ble_eq_true rfl), (Nat.le_of_ble_eq_true rfl)⟩ rfl rfl md_W_digest_48 (fun v8 s7 => ?_)
      refine sp_lstore_n (pc := 51) (k := 1) (i := 1) (L' := [(1, Value.long v8), (0, Value.ref x0), (3, Value.int (iI x3))]) hX rfl (by decide) rfl md_W_digest_51 ?_
      refine sp_lload_n (pc := 52) (k := 1) (i := 1) hX rfl 0 rfl md_W_digest_52 ?_
      refine sp_aload_n (pc := 53) (k := 0) (i := 0) hX rfl 1 rfl md_W_digest_53 ?_
      refine sp_getR (pc := 54) (ci := 9) (k := 0) (idx := 10) hX mcl_9 (by decide) mq_284 rfl md_W_digest_54 (fun v9 => ?_)
      refine sp_getIN (pc := 57) (ci := 7) (k := 0) (idx := 83) hX mcl_7 (by decide) mn_101 rfl md_W_digest_57 (fun v10 => ?_)
      refine sp_callSL (pc := 60) (y := my_W_mix) (ccy := prog_1_method_34_code) (nLy := 3) (ret := (some .long)) (rmy := mr_W_mix) (n := 2) (idx := 251) (As := [.long v8, .int (iI v10)]) (st := []) (cells' := 0) (slots' := 0) hX (fun _ h => mc_W_mix h) mk_W_mix mq_782 mq_781 ⟨(Nat.le_of_ble_eq_true rfl), (Nat.le_of_ble_eq_true rfl)⟩ rfl rfl (Nat.le_of_ble_eq_true rfl) ⟨(Nat.le_of_ble_eq_true rfl), (Nat.le_of_ble_eq_true rfl)⟩ rfl rfl md_W_digest_60 (fun v12 s11 => ?_)
      refine sp_lstore_n (pc := 63) (k := 1) (i := 1) (L' := [(1, Value.long v12), (0, Value.ref x0), (3, Value.int (iI x3))]) hX rfl (by decide) rfl md_W_digest_63 ?_
      refine sp_iconst (pc := 64) hX md_W_digest_64 ?_
      refine sp_istore_n (pc := 65) (k := 3) (i := 3) (L' := [(3, Value.int (iI (0 : Int))), (1, Value.long v12), (0, Value.ref x0)]) hX rfl (by decide) rfl md_W_digest_65 ?_
      refine sp_sub [2, 1, 0] (L' := [(0, Value.ref x0), (1, Value.long v12), (3, Value.int (iI (0 : Int)))]) rfl ?_
      exact sl_W_digest_66 hX hR 1000 x0 v12 (0 : Int) s11
    · refine sp_lload_n (pc := 11) (k := 1) (i := 1) hX rfl 1 rfl md_W_digest_11 ?_
      refine sp_aload_n (pc := 12) (k := 0) (i := 0) hX rfl 0 rfl md_W_digest_12 ?_
      refine sp_getR (pc := 13) (ci := 9) (k := 10) (idx := 72) hX mcl_9 (by decide) mq_294 rfl md_W_digest_13 (fun v17 => ?_)
      refine sp_iload_n (pc := 16) (k := 3) (i := 3) hX rfl 2 rfl md_W_digest_16 ?_
      refine sp_iaload (pc := 17) hX md_W_digest_17 (fun v18 => ?_)
      refine sp_callSL (pc := 18) (y := my_W_mix) (ccy := prog_1_method_34_code) (nLy := 3) (ret := (some .long)) (rmy := mr_W_mix) (n := 2) (idx := 251) (As := [.long x1, .int (iI v18)]) (st := []) (cells' := 0) (slots' := 0) hX (fun _ h => mc_W_mix h) mk_W_mix mq_782 mq_781 ⟨(Nat.le_of_ble_eq_true rfl), (Nat.le_of_ble_eq_true rfl)⟩ rfl rfl (Nat.le_of_ble_eq_true rfl) ⟨(Nat.le_of_ble_eq_true rfl), (Nat.le_of_ble_eq_true rfl)⟩ rfl rfl md_W_digest_18 (fun v20 s19 => ?_)
      refine sp_lstore_n (pc := 21) (k := 1) (i := 1) (L' := [(1, Value.long v20), (0, Value.ref x0), (3, Value.int (iI x3))]) hX rfl (by decide) rfl md_W_digest_21 ?_
      refine sp_iinc (pc := 22) (i := 3) (L' := [(3, Value.int (iI (x3 + 1))), (1, Value.long v20), (0, Value.ref x0)]) hX 2 rfl (by decide) rfl md_W_digest_22 ?_
      refine sp_goto (pc := 25) hX 6 (by decide) md_W_digest_25 ?_
      refine sp_sub [2, 1, 0] (L' := [(0, Value.ref x0), (1, Value.long v20), (3, Value.int (iI (x3 + 1)))]) rfl ?_
      exact ih x0 v20 (x3 + 1) s19
set_option maxHeartbeats 4000000 in
set_option maxRecDepth 20000 in
theorem mc_W_digest {l : Launch} {E : pw_E} {σ : pw_Sto} {x0 : Nat} {out : Int64 × pw_Sto} (h : mf_W_digest x0 σ = some out) : pw_CL l E my_W_digest prog_1_method_33_code 4 (some .long) mr_W_digest [.ref x0] σ out := by
  unfold mf_W_digest at h
  refine pw_entryL (by decide) (Nat.le_of_ble_eq_true rfl) (pw_gd_val h) (fun X hX hR hI => ?_)
  change pw_Ok X prog_1_method_33_code "PadeWorkbench" mr_W_digest 4 at hX
  show pw_Sp X 0 0 0 [(0, Value.ref x0)] [] σ _
  refine sp_ldc2 (pc := 0) hX (12475 : Int64) mq_780 md_W_digest_0 ?_
  refine sp_lstore_n (pc := 3) (k := 1) (i := 1) (L' := [(1, Value.long (12475 : Int64)), (0, Value.ref x0)]) hX rfl (by decide) rfl md_W_digest_3 ?_
  refine sp_iconst (pc := 4) hX md_W_digest_4 ?_
  refine sp_istore_n (pc := 5) (k := 3) (i := 3) (L' := [(3, Value.int (iI (0 : Int))), (1, Value.long (12475 : Int64)), (0, Value.ref x0)]) hX rfl (by decide) rfl md_W_digest_5 ?_
  refine sp_sub [2, 1, 0] (L' := [(0, Value.ref x0), (1, Value.long (12475 : Int64)), (3, Value.int (iI (0 : Int)))]) rfl ?_
  exact sl_W_digest_6 hX hR 1000 x0 (12475 : Int64) (0 : Int) σ
