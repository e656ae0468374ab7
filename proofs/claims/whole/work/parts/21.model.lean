/-! PadeWorkbenchModel.multiply(III)I -/
theorem md_M_multiply_0 : decode prog_14_method_20_code 0 = .ok (.iload_n 1, 1) := by decide +kernel
theorem md_M_multiply_1 : decode prog_14_method_20_code 1 = .ok (.invokestatic 84, 3) := by decide +kernel
theorem md_M_multiply_4 : decode prog_14_method_20_code 4 = .ok (.ifCond .eq 17, 3) := by decide +kernel
theorem md_M_multiply_21 : decode prog_14_method_20_code 21 = .ok (.aload_n 0, 1) := by decide +kernel
theorem md_M_multiply_22 : decode prog_14_method_20_code 22 = .ok (.bipush (-2), 2) := by decide +kernel
theorem md_M_multiply_24 : decode prog_14_method_20_code 24 = .ok (.invokevirtual 77, 3) := by decide +kernel
theorem md_M_multiply_27 : decode prog_14_method_20_code 27 = .ok (.ireturn, 1) := by decide +kernel
theorem md_M_multiply_7 : decode prog_14_method_20_code 7 = .ok (.iload_n 2, 1) := by decide +kernel
theorem md_M_multiply_8 : decode prog_14_method_20_code 8 = .ok (.invokestatic 84, 3) := by decide +kernel
theorem md_M_multiply_11 : decode prog_14_method_20_code 11 = .ok (.ifCond .eq 10, 3) := by decide +kernel
theorem md_M_multiply_14 : decode prog_14_method_20_code 14 = .ok (.iload_n 3, 1) := by decide +kernel
theorem md_M_multiply_15 : decode prog_14_method_20_code 15 = .ok (.invokestatic 84, 3) := by decide +kernel
theorem md_M_multiply_18 : decode prog_14_method_20_code 18 = .ok (.ifCond .ne 10, 3) := by decide +kernel
theorem md_M_multiply_28 : decode prog_14_method_20_code 28 = .ok (.aload_n 0, 1) := by decide +kernel
theorem md_M_multiply_29 : decode prog_14_method_20_code 29 = .ok (.iload_n 1, 1) := by decide +kernel
theorem md_M_multiply_30 : decode prog_14_method_20_code 30 = .ok (.aload_n 0, 1) := by decide +kernel
theorem md_M_multiply_31 : decode prog_14_method_20_code 31 = .ok (.getfield 25, 3) := by decide +kernel
theorem md_M_multiply_34 : decode prog_14_method_20_code 34 = .ok (.invokevirtual 100, 3) := by decide +kernel
theorem md_M_multiply_37 : decode prog_14_method_20_code 37 = .ok (.aload_n 0, 1) := by decide +kernel
theorem md_M_multiply_38 : decode prog_14_method_20_code 38 = .ok (.iload_n 2, 1) := by decide +kernel
theorem md_M_multiply_39 : decode prog_14_method_20_code 39 = .ok (.aload_n 0, 1) := by decide +kernel
theorem md_M_multiply_40 : decode prog_14_method_20_code 40 = .ok (.getfield 28, 3) := by decide +kernel
theorem md_M_multiply_43 : decode prog_14_method_20_code 43 = .ok (.invokevirtual 100, 3) := by decide +kernel
theorem md_M_multiply_46 : decode prog_14_method_20_code 46 = .ok (.aload_n 0, 1) := by decide +kernel
theorem md_M_multiply_47 : decode prog_14_method_20_code 47 = .ok (.invokevirtual 104, 3) := by decide +kernel
theorem md_M_multiply_50 : decode prog_14_method_20_code 50 = .ok (.aload_n 0, 1) := by decide +kernel
theorem md_M_multiply_51 : decode prog_14_method_20_code 51 = .ok (.iload_n 3, 1) := by decide +kernel
theorem md_M_multiply_52 : decode prog_14_method_20_code 52 = .ok (.invokevirtual 97, 3) := by decide +kernel
theorem md_M_multiply_55 : decode prog_14_method_20_code 55 = .ok (.ireturn, 1) := by decide +kernel
def mj_M_multiply_21 (x0 : Nat) (σ : pw_Sto) : Option (Int × pw_Sto) := pw_bd (mf_M_fail x0 (-2 : Int) σ) (fun v4 s3 => some (v4, s3))
def mf_M_multiply (x0 : Nat) (x1 : Int) (x2 : Int) (x3 : Int) (σ : pw_Sto) : Option (Int × pw_Sto) := pw_gd 10 x0 σ (pw_bd (mf_M_isSlot x1 σ) (fun v2 s1 => pw_ck v2 0 (if v2 = 0 then mj_M_multiply_21 x0 s1 else pw_bd (mf_M_isSlot x2 s1) (fun v6 s5 => pw_ck v6 0 (if v6 = 0 then mj_M_multiply_21 x0 s5 else pw_bd (mf_M_isSlot x3 s5) (fun v8 s7 => pw_ck v8 0 (if v8 = 0 then mj_M_multiply_21 x0 s7 else (pw_gr 10 x0 7 s7).bind (fun v9 => pw_bd (mf_M_take x0 x1 v9 s7) (fun _ s10 => (pw_gr 10 x0 8 s10).bind (fun v11 => pw_bd (mf_M_take x0 x2 v11 s10) (fun _ s12 => pw_bd (mf_M_makeProduct x0 s12) (fun _ s13 => pw_bd (mf_M_store x0 x3 s13) (fun v15 s14 => some (v15, s14))))))))))))))
set_option maxHeartbeats 4000000 in
set_option maxRecDepth 20000 in
theorem sj_M_multiply_21 {X : pw_X Int} (hX : pw_Ok X prog_14_method_20_code "PadeWorkbenchModel" mr_M_multiply 4) (hR : pw_RI X prog_14_method_20_code) (x0 : Nat) (σ : pw_Sto) : pw_Sp X 0 0 21 [(0, Value.ref x0)] [] σ (mj_M_multiply_21 x0 σ) := by
  unfold mj_M_multiply_21
  refine sp_aload_n (pc := 21) (k := 0) (i := 0) hX rfl 0 rfl md_M_multiply_21 ?_
  refine sp_bipush (pc := 22) hX (by decide) md_M_multiply_22 ?_
  refine sp_callVI (pc := 24) (y := my_M_fail) (ccy := prog_14_method_3_code) (nLy := 2) (ret := (some .int)) (rmy := mr_M_fail) (n := 1) (idx := 77) (As := [.int (iI (-2 : Int))]) (st := []) (o := x0) (cells' := 0) (slots' := 0) hX (fun _ h => mc_M_fail h) mk_M_fail mv_M_fail mcl_10 (fun _ h => pw_gd_of h) mq_870 ⟨(Nat.le_of_ble_eq_true rfl), (Nat.le_of_ble_eq_true rfl)⟩ rfl rfl (Nat.le_of_ble_eq_true rfl) ⟨(Nat.le_of_ble_eq_true rfl), (Nat.le_of_ble_eq_true rfl)⟩ rfl rfl md_M_multiply_24 (fun v4 s3 => ?_)
  exact sp_iret (pc := 27) hX hR rfl (Nat.le_of_ble_eq_true rfl) md_M_multiply_27
set_option maxHeartbeats 4000000 in
set_option maxRecDepth 20000 in
theorem mc_M_multiply {l : Launch} {E : pw_E} {σ : pw_Sto} {x0 : Nat} {x1 : Int} {x2 : Int} {x3 : Int} {out : Int × pw_Sto} (h : mf_M_multiply x0 x1 x2 x3 σ = some out) : pw_CI l E my_M_multiply prog_14_method_20_code 4 (some .int) mr_M_multiply [.ref x0, .int (iI x1), .int (iI x2), .int (iI x3)] σ out := by
  unfold mf_M_multiply at h
  refine pw_entryI (by decide) (Nat.le_of_ble_eq_true rfl) (pw_gd_val h) (fun X hX hR hI => ?_)
  change pw_Ok X prog_14_method_20_code "PadeWorkbenchModel" mr_M_multiply 4 at hX
  show pw_Sp X 0 0 0 [(0, Value.ref x0), (1, Value.int (iI x1)), (2, Value.int (iI x2)), (3, Value.int (iI x3))] [] σ _
  refine sp_iload_n (pc := 0) (k := 1) (i := 1) hX rfl 1 rfl md_M_multiply_0 ?_
  refine sp_callSI (pc := 1) (y := my_M_isSlot) (ccy := prog_14_method_8_code) (nLy := 1) (ret := (some .boolean)) (rmy := mr_M_isSlot) (n := 1) (idx := 84) (As := [.int (iI x1)]) (st := []) (cells' := 0) (slots' := 0) hX (fun _ h => mc_M_isSlot h) mk_M_isSlot mq_887 mq_886 ⟨(Nat.le_of_ble_eq_true rfl), (Nat.le_of_ble_eq_true rfl)⟩ rfl rfl (Nat.le_of_ble_eq_true rfl) ⟨(Nat.le_of_ble_eq_true rfl), (Nat.le_of_ble_eq_true rfl)⟩ rfl rfl md_M_multiply_1 (fun v2 s1 => ?_)
  refine sp_if_eq (pc := 4) hX 21 (by decide) md_M_multiply_4 (fun _ => ?_) (fun _ => ?_)
  · refine sp_sub [0] (L' := [(0, Value.ref x0)]) rfl ?_
    exact sj_M_multiply_21 hX hR x0 s1
  · refine sp_iload_n (pc := 7) (k := 2) (i := 2) hX rfl 2 rfl md_M_multiply_7 ?_
    refine sp_callSI (pc := 8) (y := my_M_isSlot) (ccy := prog_14_method_8_code) (nLy := 1) (ret := (some .boolean)) (rmy := mr_M_isSlot) (n := 1) (idx := 84) (As := [.int (iI x2)]) (st := []) (cells' := 0) (slots' := 0) hX (fun _ h => mc_M_isSlot h) mk_M_isSlot mq_887 mq_886 ⟨(Nat.le_of_ble_eq_true rfl), (Nat.le_of_ble_eq_true rfl)⟩ rfl rfl (Nat.le_of_ble_eq_true rfl) ⟨(Nat.le_of_ble_eq_true rfl), (Nat.le_of_ble_eq_true rfl)⟩ rfl rfl md_M_multiply_8 (fun v6 s5 => ?_)
    refine sp_if_eq (pc := 11) hX 21 (by decide) md_M_multiply_11 (fun _ => ?_) (fun _ => ?_)
    · refine sp_sub [0] (L' := [(0, Value.ref x0)]) rfl ?_
      exact sj_M_multiply_21 hX hR x0 s5
    · refine sp_iload_n (pc := 14) (k := 3) (i := 3) hX rfl 3 rfl md_M_multiply_14 ?_
      refine sp_callSI (pc := 15) (y := my_M_isSlot) (ccy := prog_14_method_8_code) (nLy := 1) (ret := (some .boolean)) (rmy := mr_M_isSlot) (n := 1) (idx := 84) (As := [.int (iI x3)]) (st := []) (cells' := 0) (slots' := 0) hX (fun _ h => mc_M_isSlot h) mk_M_isSlot mq_887 mq_886 ⟨(Nat.le_of_ble_eq_true rfl), (Nat.le_of_ble_eq_true rfl)⟩ rfl rfl (Nat.le_of_ble_eq_true rfl) ⟨(Nat.le_of_ble_eq_true rfl), (Nat.le_of_ble_eq_true rfl)⟩ rfl rfl md_M_multiply_15 (fun v8 s7 => ?_)
      refine sp_if_ne (pc := 18) hX 28 (by decide) md_M_multiply_18 (fun _ => ?_) (fun _ => ?_)
      · refine sp_sub [0] (L' := [(0, Value.ref x0)]) rfl ?_
        exact sj_M_multiply_21 hX hR x0 s7
      · refine sp_aload_n (pc := 28) (k := 0) (i := 0) hX rfl 0 rfl md_M_multiply_28 ?_
        refine sp_iload_n (pc := 29) (k := 1) (i := 1) hX rfl 1 rfl md_M_multiply_29 ?_
        refine sp_aload_n (pc := 30) (k := 0) (i := 0) hX rfl 0 rfl md_M_multiply_30 ?_
        refine sp_getR (pc := 31) (ci := 10) (k := 7) (idx := 25) hX mcl_10 (by decide) mq_806 rfl md_M_multiply_31 (fun v9 => ?_)
        refine sp_callVV (pc := 34) (y := my_M_take) (ccy := prog_14_method_14_code) (nLy := 4) (ret := none) (rmy := mr_M_take) (n := 2) (idx := 100) (As := [.int (iI x1), .ref v9]) (st := []) (o := x0) (cells' := 0) (slots' := 0) hX (fun _ h => mc_M_take h) mk_M_take mv_M_take mcl_10 (fun _ h => pw_gd_of h) mq_913 ⟨(Nat.le_of_ble_eq_true rfl), (Nat.le_of_ble_eq_true rfl)⟩ rfl rfl (Nat.le_of_ble_eq_true rfl) ⟨(Nat.le_of_ble_eq_true rfl), (Nat.le_of_ble_eq_true rfl)⟩ rfl rfl md_M_multiply_34 (fun s10 => ?_)
        refine sp_aload_n (pc := 37) (k := 0) (i := 0) hX rfl 0 rfl md_M_multiply_37 ?_
        refine sp_iload_n (pc := 38) (k := 2) (i := 2) hX rfl 2 rfl md_M_multiply_38 ?_
        refine sp_aload_n (pc := 39) (k := 0) (i := 0) hX rfl 0 rfl md_M_multiply_39 ?_
        refine sp_getR (pc := 40) (ci := 10) (k := 8) (idx := 28) hX mcl_10 (by decide) mq_807 rfl md_M_multiply_40 (fun v11 => ?_)
        refine sp_callVV (pc := 43) (y := my_M_take) (ccy := prog_14_method_14_code) (nLy := 4) (ret := none) (rmy := mr_M_take) (n := 2) (idx := 100) (As := [.int (iI x2), .ref v11]) (st := []) (o := x0) (cells' := 0) (slots' := 0) hX (fun _ h => mc_M_take h) mk_M_take mv_M_take mcl_10 (fun _ h => pw_gd_of h) mq_913 ⟨(Nat.le_of_ble_eq_true rfl), (Nat.le_of_ble_eq_true rfl)⟩ rfl rfl (Nat.le_of_ble_eq_true rfl) ⟨(Nat.le_of_ble_eq_true rfl), (Nat.le_of_ble_eq_true rfl)⟩ rfl rfl md_M_multiply_43 (fun s12 => ?_)
        refine sp_aload_n (pc := 46) (k := 0) (i := 0) hX rfl 0 rfl md_M_multiply_46 ?_
        refine sp_callVV (pc := 47) (y := my_M_makeProduct) (ccy := prog_14_method_17_code) (nLy := 4) (ret := none) (rmy := mr_M_makeProduct) (n := 0) (idx := 104) (As := []) (st := []) (o := x0) (cells' := 0) (slots' := 0) hX (fun _ h => mc_M_makeProduct h) mk_M_makeProduct mv_M_makeProduct mcl_10 (fun _ h => pw_gd_of h) mq_917 ⟨(Nat.le_of_ble_eq_true rfl), (Nat.le_of_ble_eq_true rfl)⟩ rfl rfl (Nat.le_of_ble_eq_true rfl) ⟨(Nat.le_of_ble_eq_true rfl), (Nat.le_of_ble_eq_true rfl)⟩ rfl rfl md_M_multiply_47 (fun s13 => ?_)
        refine sp_aload_n (pc := 50) (k := 0) (i := 0) hX rfl 0 rfl md_M_multiply_50 ?_
        refine sp_iload_n (pc := 51) (k := 3) (i := 3) hX rfl 3 rfl md_M_multiply_51 ?_
        refine sp_callVI (pc := 52) (y := my_M_store) (ccy := prog_14_method_16_code) (nLy := 4) (ret := (some .int)) (rmy := mr_M_store) (n := 1) (idx := 97) (As := [.int (iI x3)]) (st := []) (o := x0) (cells' := 0) (slots' := 0) hX (fun _ h => mc_M_store h) mk_M_store mv_M_store mcl_10 (fun _ h => pw_gd_of h) mq_905 ⟨(Nat.le_of_ble_eq_true rfl), (Nat.le_of_ble_eq_true rfl)⟩ rfl rfl (Nat.le_of_ble_eq_true rfl) ⟨(Nat.le_of_ble_eq_true rfl), (Nat.le_of_ble_eq_true rfl)⟩ rfl rfl md_M_multiply_52 (fun v15 s14 => ?_)
        exact sp_iret (pc := 55) hX hR rfl (Nat.le_of_ble_eq_true rfl) md_M_multiply_55
/-! PadeWorkbenchModel.invert(II)I -/
theorem md_M_invert_0 : decode prog_14_method_21_code 0 = .ok (.iload_n 1, 1) := by decide +kernel
theorem md_M_invert_1 : decode prog_14_method_21_code 1 = .ok (.invokestatic 84, 3) := by decide +kernel
theorem md_M_invert_4 : decode prog_14_method_21_code 4 = .ok (.ifCond .eq 10, 3) := by decide +kernel
theorem md_M_invert_14 : decode prog_14_method_21_code 14 = .ok (.aload_n 0, 1) := by decide +kernel
theorem md_M_invert_15 : decode prog_14_method_21_code 15 = .ok (.bipush (-2), 2) := by decide +kernel
theorem md_M_invert_17 : decode prog_14_method_21_code 17 = .ok (.invokevirtual 77, 3) := by decide +kernel
theorem md_M_invert_20 : decode prog_14_method_21_code 20 = .ok (.ireturn, 1) := by decide +kernel
theorem md_M_invert_7 : decode prog_14_method_21_code 7 = .ok (.iload_n 2, 1) := by decide +kernel
theorem md_M_invert_8 : decode prog_14_method_21_code 8 = .ok (.invokestatic 84, 3) := by decide +kernel
theorem md_M_invert_11 : decode prog_14_method_21_code 11 = .ok (.ifCond .ne 10, 3) := by decide +kernel
theorem md_M_invert_21 : decode prog_14_method_21_code 21 = .ok (.aload_n 0, 1) := by decide +kernel
theorem md_M_invert_22 : decode prog_14_method_21_code 22 = .ok (.iload_n 1, 1) := by decide +kernel
theorem md_M_invert_23 : decode prog_14_method_21_code 23 = .ok (.iconst 0, 1) := by decide +kernel
theorem md_M_invert_24 : decode prog_14_method_21_code 24 = .ok (.invokevirtual 87, 3) := by decide +kernel
theorem md_M_invert_27 : decode prog_14_method_21_code 27 = .ok (.ifCond .ne 10, 3) := by decide +kernel
theorem md_M_invert_37 : decode prog_14_method_21_code 37 = .ok (.aload_n 0, 1) := by decide +kernel
theorem md_M_invert_38 : decode prog_14_method_21_code 38 = .ok (.getfield 25, 3) := by decide +kernel
theorem md_M_invert_41 : decode prog_14_method_21_code 41 = .ok (.invokestatic 107, 3) := by decide +kernel
theorem md_M_invert_44 : decode prog_14_method_21_code 44 = .ok (.aload_n 0, 1) := by decide +kernel
theorem md_M_invert_45 : decode prog_14_method_21_code 45 = .ok (.getfield 25, 3) := by decide +kernel
theorem md_M_invert_48 : decode prog_14_method_21_code 48 = .ok (.iconst 0, 1) := by decide +kernel
theorem md_M_invert_49 : decode prog_14_method_21_code 49 = .ok (.iconst 1, 1) := by decide +kernel
theorem md_M_invert_50 : decode prog_14_method_21_code 50 = .ok (.aload_n 0, 1) := by decide +kernel
theorem md_M_invert_51 : decode prog_14_method_21_code 51 = .ok (.invokevirtual 61, 3) := by decide +kernel
theorem md_M_invert_54 : decode prog_14_method_21_code 54 = .ok (.irem, 1) := by decide +kernel
theorem md_M_invert_55 : decode prog_14_method_21_code 55 = .ok (.iastore, 1) := by decide +kernel
theorem md_M_invert_56 : decode prog_14_method_21_code 56 = .ok (.aload_n 0, 1) := by decide +kernel
theorem md_M_invert_57 : decode prog_14_method_21_code 57 = .ok (.iload_n 1, 1) := by decide +kernel
theorem md_M_invert_58 : decode prog_14_method_21_code 58 = .ok (.aload_n 0, 1) := by decide +kernel
theorem md_M_invert_59 : decode prog_14_method_21_code 59 = .ok (.getfield 28, 3) := by decide +kernel
theorem md_M_invert_62 : decode prog_14_method_21_code 62 = .ok (.invokevirtual 100, 3) := by decide +kernel
theorem md_M_invert_65 : decode prog_14_method_21_code 65 = .ok (.aload_n 0, 1) := by decide +kernel
theorem md_M_invert_66 : decode prog_14_method_21_code 66 = .ok (.invokevirtual 111, 3) := by decide +kernel
theorem md_M_invert_69 : decode prog_14_method_21_code 69 = .ok (.aload_n 0, 1) := by decide +kernel
theorem md_M_invert_70 : decode prog_14_method_21_code 70 = .ok (.iload_n 2, 1) := by decide +kernel
theorem md_M_invert_71 : decode prog_14_method_21_code 71 = .ok (.invokevirtual 97, 3) := by decide +kernel
theorem md_M_invert_74 : decode prog_14_method_21_code 74 = .ok (.ireturn, 1) := by decide +kernel
theorem md_M_invert_30 : decode prog_14_method_21_code 30 = .ok (.aload_n 0, 1) := by decide +kernel
theorem md_M_invert_31 : decode prog_14_method_21_code 31 = .ok (.bipush (-3), 2) := by decide +kernel
theorem md_M_invert_33 : decode prog_14_method_21_code 33 = .ok (.invokevirtual 77, 3) := by decide +kernel
theorem md_M_invert_36 : decode prog_14_method_21_code 36 = .ok (.ireturn, 1) := by decide +kernel
def mj_M_invert_14 (x0 : Nat) (σ : pw_Sto) : Option (Int × pw_Sto) := pw_bd (mf_M_fail x0 (-2 : Int) σ) (fun v4 s3 => some (v4, s3))
def mf_M_invert (x0 : Nat) (x1 : Int) (x2 : Int) (σ : pw_Sto) : Option (Int × pw_Sto) := pw_gd 10 x0 σ (pw_bd (mf_M_isSlot x1 σ) (fun v2 s1 => pw_ck v2 0 (if v2 = 0 then mj_M_invert_14 x0 s1 else pw_bd (mf_M_isSlot x2 s1) (fun v6 s5 => pw_ck v6 0 (if v6 = 0 then mj_M_invert_14 x0 s5 else pw_bd (mf_M_term x0 x1 (0 : Int) s5) (fun v8 s7 => pw_ck v8 0 (if v8 = 0 then pw_bd (mf_M_fail x0 (-3 : Int) s7) (fun v22 s21 => some (v22, s21)) else (pw_gr 10 x0 7 s7).bind (fun v9 => pw_bd (mf_M_clear v9 s7) (fun _ s10 => (pw_gr 10 x0 7 s10).bind (fun v11 => pw_bd (mf_M_prime x0 s10) (fun v13 s12 => (pw_rem (1 : Int) v13).bind (fun v14 => (pw_si v11 (0 : Int) v14 s12).bind (fun s15 => (pw_gr 10 x0 8 s15).bind (fun v16 => pw_bd (mf_M_take x0 x1 v16 s15) (fun _ s17 => pw_bd (mf_M_makeQuotient x0 s17) (fun _ s18 => pw_bd (mf_M_store x0 x2 s18) (fun v20 s19 => some (v20, s19))))))))))))))))))
set_option maxHeartbeats 4000000 in
set_option maxRecDepth 20000 in
theorem sj_M_invert_14 {X : pw_X Int} (hX : pw_Ok X prog_14_method_21_code "PadeWorkbenchModel" mr_M_invert 3) (hR : pw_RI X prog_14_method_21_code) (x0 : Nat) (σ : pw_Sto) : pw_Sp X 0 0 14 [(0, Value.ref x0)] [] σ (mj_M_invert_14 x0 σ) := by
  unfold mj_M_invert_14
  refine sp_aload_n (pc := 14) (k := 0) (i := 0) hX rfl 0 rfl md_M_invert_14 ?_
  refine sp_bipush (pc := 15) hX (by decide) md_M_invert_15 ?_
  refine sp_callVI (pc := 17) (y := my_M_fail) (ccy := prog_14_method_3_code) (nLy := 2) (ret := (some .int)) (rmy := mr_M_fail) (n := 1) (idx := 77) (As := [.int (iI (-2 : Int))]) (st := []) (o := x0) (cells' := 0) (slots' := 0) hX (fun _ h => mc_M_fail h) mk_M_fail mv_M_fail mcl_10 (fun _ h => pw_gd_of h) mq_870 ⟨(Nat.le_of_ble_eq_true rfl), (Nat.le_of_ble_eq_true rfl)⟩ rfl rfl (Nat.le_of_ble_eq_true rfl) ⟨(Nat.le_of_ble_eq_true rfl), (Nat.le_of_ble_eq_true rfl)⟩ rfl rfl md_M_invert_17 (fun v4 s3 => ?_)
  exact sp_iret (pc := 20) hX hR rfl (Nat.le_of_ble_eq_true rfl) md_M_invert_20
set_option maxHeartbeats 4000000 in
set_option maxRecDepth 20000 in
theorem mc_M_invert {l : Launch} {E : pw_E} {σ : pw_Sto} {x0 : Nat} {x1 : Int} {x2 : Int} {out : Int × pw_Sto} (h : mf_M_invert x0 x1 x2 σ = some out) : pw_CI l E my_M_invert prog_14_method_21_code 3 (some .int) mr_M_invert [.ref x0, .int (iI x1), .int (iI x2)] σ out := by
  unfold mf_M_invert at h
  refine pw_entryI (by decide) (Nat.le_of_ble_eq_true rfl) (pw_gd_val h) (fun X hX hR hI => ?_)
  change pw_Ok X prog_14_method_21_code "PadeWorkbenchModel" mr_M_invert 3 at hX
  show pw_Sp X 0 0 0 [(0, Value.ref x0), (1, Value.int (iI x1)), (2, Value.int (iI x2))] [] σ _
  refine sp_iload_n (pc := 0) (k := 1) (i := 1) hX rfl 1 rfl md_M_invert_0 ?_
  refine sp_callSI (pc := 1) (y := my_M_isSlot) (ccy := prog_14_method_8_code) (nLy := 1) (ret := (some .boolean)) (rmy := mr_M_isSlot) (n := 1) (idx := 84) (As := [.int (iI x1)]) (st := []) (cells' := 0) (slots' := 0) hX (fun _ h => mc_M_isSlot h) mk_M_isSlot mq_887 mq_886 ⟨(Nat.le_of_ble_eq_true rfl), (Nat.le_of_ble_eq_true rfl)⟩ rfl rfl (Nat.le_of_ble_eq_true rfl) ⟨(Nat.le_of_ble_eq_true rfl), (Nat.le_of_ble_eq_true rfl)⟩ rfl rfl md_M_invert_1 (fun v2 s1 => ?_)
  refine sp_if_eq (pc := 4) hX 14 (by decide) md_M_invert_4 (fun _ => ?_) (fun _ => ?_)
  · refine sp_sub [0] (L' := [(0, Value.ref x0)]) rfl ?_
    exact sj_M_invert_14 hX hR x0 s1
  · refine sp_iload_n (pc := 7) (k := 2) (i := 2) hX rfl 2 rfl md_M_invert_7 ?_
    refine sp_callSI (pc := 8) (y := my_M_isSlot) (ccy := prog_14_method_8_code) (nLy := 1) (ret := (some .boolean)) (rmy := mr_M_isSlot) (n := 1) (idx := 84) (As := [.int (iI x2)]) (st := []) (cells' := 0) (slots' := 0) hX (fun _ h => mc_M_isSlot h) mk_M_isSlot mq_887 mq_886 ⟨(Nat.le_of_ble_eq_true rfl), (Nat.le_of_ble_eq_true rfl)⟩ rfl rfl (Nat.le_of_ble_eq_true rfl) ⟨(Nat.le_of_ble_eq_true rfl), (Nat.le_of_ble_eq_true rfl)⟩ rfl rfl md_M_invert_8 (fun v6 s5 => ?_)
    refine sp_if_ne (pc := 11) hX 21 (by decide) md_M_invert_11 (fun _ => ?_) (fun _ => ?_)
    · refine sp_sub [0] (L' := [(0, Value.ref x0)]) rfl ?_
      exact sj_M_invert_14 hX hR x0 s5
    · refine sp_aload_n (pc := 21) (k := 0) (i := 0) hX rfl 0 rfl md_M_invert_21 ?_
      refine sp_iload_n (pc := 22) (k := 1) (i := 1) hX rfl 1 rfl md_M_invert_22 ?_
      refine sp_iconst (pc := 23) hX md_M_invert_23 ?_
      refine sp_callVI (pc := 24) (y := my_M_term) (ccy := prog_14_method_9_code) (nLy := 3) (ret := (some .int)) (rmy := mr_M_term) (n := 2) (idx := 87) (As := [.int (iI x1), .int (iI (0 : Int))]) (st := []) (o := x0) (cells' := 0) (slots' := 0) hX (fun _ h => mc_M_term h) mk_M_term mv_M_term mcl_10 (fun _ h => pw_gd_of h) mq_889 ⟨(Nat.le_of_ble_eq_true rfl), (Nat.le_of_ble_eq_true rfl)⟩ rfl rfl (Nat.le_of_ble_eq_true rfl) ⟨(Nat.le_of_ble_eq_true rfl), (Nat.le_of_ble_eq_true rfl)⟩ rfl rfl md_M_invert_24 (fun v8 s7 => ?_)
      refine sp_if_ne (pc := 27) hX 37 (by decide) md_M_invert_27 (fun _ => ?_) (fun _ => ?_)
      · refine sp_aload_n (pc := 30) (k := 0) (i := 0) hX rfl 0 rfl md_M_invert_30 ?_
        refine sp_bipush (pc := 31) hX (by decide) md_M_invert_31 ?_
        refine sp_callVI (pc := 33) (y := my_M_fail) (ccy := prog_14_method_3_code) (nLy := 2) (ret := (some .int)) (rmy := mr_M_fail) (n := 1) (idx := 77) (As := [.int (iI (-3 : Int))]) (st := []) (o := x0) (cells' := 0) (slots' := 0) hX (fun _ h => mc_M_fail h) mk_M_fail mv_M_fail mcl_10 (fun _ h => pw_gd_of h) mq_870 ⟨(Nat.le_of_ble_eq_true rfl), (Nat.le_of_ble_eq_true rfl)⟩ rfl rfl (Nat.le_of_ble_eq_true rfl) ⟨(Nat.le_of_ble_eq_true rfl), (Nat.le_of_ble_eq_true rfl)⟩ rfl rfl md_M_invert_33 (fun v22 s21 => ?_)
        exact sp_iret (pc := 36) hX hR rfl (Nat.le_of_ble_eq_true rfl) md_M_invert_36
      · refine sp_aload_n (pc := 37) (k := 0) (i := 0) hX rfl 0 rfl md_M_invert_37 ?_
        refine sp_getR (pc := 38) (ci := 10) (k := 7) (idx := 25) hX mcl_10 (by decide) mq_806 rfl md_M_invert_38 (fun v9 => ?_)
        refine sp_callSV (pc := 41) (y := my_M_clear) (ccy := prog_14_method_15_code) (nLy := 2) (ret := none) (rmy := mr_M_clear) (n := 1) (idx := 107) (As := [.ref v9]) (st := []) (cells' := 0) (slots' := 0) hX (fun _ h => mc_M_clear h) mk_M_clear mq_926 mq_925 ⟨(Nat.le_of_ble_eq_true rfl), (Nat.le_of_ble_eq_true rfl)⟩ rfl rfl (Nat.le_of_ble_eq_true rfl) ⟨(Nat.le_of_ble_eq_true rfl), (Nat.le_of_ble_eq_true rfl)⟩ rfl rfl md_M_invert_41 (fun s10 => ?_)
        refine sp_aload_n (pc := 44) (k := 0) (i := 0) hX rfl 0 rfl md_M_invert_44 ?_
        refine sp_getR (pc := 45) (ci := 10) (k := 7) (idx := 25) hX mcl_10 (by decide) mq_806 rfl md_M_invert_45 (fun v11 => ?_)
        refine sp_iconst (pc := 48) hX md_M_invert_48 ?_
        refine sp_iconst (pc := 49) hX md_M_invert_49 ?_
        refine sp_aload_n (pc := 50) (k := 0) (i := 0) hX rfl 0 rfl md_M_invert_50 ?_
        refine sp_callVI (pc := 51) (y := my_M_prime) (ccy := prog_14_method_4_code) (nLy := 1) (ret := (some .int)) (rmy := mr_M_prime) (n := 0) (idx := 61) (As := []) (st := [.int (iI (1 : Int)), .int (iI (0 : Int)), .ref v11]) (o := x0) (cells' := 0) (slots' := 0) hX (fun _ h => mc_M_prime h) mk_M_prime mv_M_prime mcl_10 (fun _ h => pw_gd_of h) mq_878 ⟨(Nat.le_of_ble_eq_true rfl), (Nat.le_of_ble_eq_true rfl)⟩ rfl rfl (Nat.le_of_ble_eq_true rfl) ⟨(Nat.le_of_ble_eq_true rfl), (Nat.le_of_ble_eq_true rfl)⟩ rfl rfl md_M_invert_51 (fun v13 s12 => ?_)
        refine sp_irem (pc := 54) hX md_M_invert_54 (fun v14 => ?_)
        refine sp_iastore (pc := 55) hX md_M_invert_55 (fun s15 => ?_)
        refine sp_aload_n (pc := 56) (k := 0) (i := 0) hX rfl 0 rfl md_M_invert_56 ?_
        refine sp_iload_n (pc := 57) (k := 1) (i := 1) hX rfl 1 rfl md_M_invert_57 ?_
        refine sp_aload_n (pc := 58) (k := 0) (i := 0) hX rfl 0 rfl md_M_invert_58 ?_
        refine sp_getR (pc := 59) (ci := 10) (k := 8) (idx := 28) hX mcl_10 (by decide) mq_807 rfl md_M_invert_59 (fun v16 => ?_)
        refine sp_callVV (pc := 62) (y := my_M_take) (ccy := prog_14_method_14_code) (nLy := 4) (ret := none) (rmy := mr_M_take) (n := 2) (idx := 100) (As := [.int (iI x1), .ref v16]) (st := []) (o := x0) (cells' := 0) (slots' := 0) hX (fun _ h => mc_M_take h) mk_M_take mv_M_take mcl_10 (fun _ h => pw_gd_of h) mq_913 ⟨(Nat.le_of_ble_eq_true rfl), (Nat.le_of_ble_eq_true rfl)⟩ rfl rfl (Nat.le_of_ble_eq_true rfl) ⟨(Nat.le_of_ble_eq_true rfl), (Nat.le_of_ble_eq_true rfl)⟩ rfl rfl md_M_invert_62 (fun s17 => ?_)
        refine sp_aload_n (pc := 65) (k := 0) (i := 0) hX rfl 0 rfl md_M_invert_65 ?_
        refine sp_callVV (pc := 66) (y := my_M_makeQuotient) (ccy := prog_14_method_18_code) (nLy := 5) (ret := none) (rmy := mr_M_makeQuotient) (n := 0) (idx := 111) (As := []) (st := []) (o := x0) (cells' := 0) (slots' := 0) hX (fun _ h => mc_M_makeQuotient h) mk_M_makeQuotient mv_M_makeQuotient mcl_10 (fun _ h => pw_gd_of h) mq_928 ⟨(Nat.le_of_ble_eq_true rfl), (Nat.le_of_ble_eq_true rfl)⟩ rfl rfl (Nat.le_of_ble_eq_true rfl) ⟨(Nat.le_of_ble_eq_true rfl), (Nat.le_of_ble_eq_true rfl)⟩ rfl rfl md_M_invert_66 (fun s18 => ?_)
        refine sp_aload_n (pc := 69) (k := 0) (i := 0) hX rfl 0 rfl md_M_invert_69 ?_
        refine sp_iload_n (pc := 70) (k := 2) (i := 2) hX rfl 2 rfl md_M_invert_70 ?_
        refine sp_callVI (pc := 71) (y := my_M_store) (ccy := prog_14_method_16_code) (nLy := 4) (ret := (some .int)) (rmy := mr_M_store) (n := 1) (idx := 97) (As := [.int (iI x2)]) (st := []) (o := x0) (cells' := 0) (slots' := 0) hX (fun _ h => mc_M_store h) mk_M_store mv_M_store mcl_10 (fun _ h => pw_gd_of h) mq_905 ⟨(Nat.le_of_ble_eq_true rfl), (Nat.le_of_ble_eq_true rfl)⟩ rfl rfl (Nat.le_of_ble_eq_true rfl) ⟨(Nat.le_of_ble_eq_true rfl), (Nat.le_of_ble_eq_true rfl)⟩ rfl rfl md_M_invert_71 (fun v20 s19 => ?_)
        exact sp_iret (pc := 74) hX hR rfl (Nat.le_of_ble_eq_true rfl) md_M_invert_74
/-! PadeWorkbenchModel.substitute(III)I -/
theorem md_M_substitute_0 : decode prog_14_method_22_code 0 = .ok (.iload_n 1, 1) := by decide +kernel
theorem md_M_substitute_1 : decode prog_14_method_22_code 1 = .ok (.invokestatic 84, 3) := by decide +kernel
theorem md_M_substitute_4 : decode prog_14_method_22_code 4 = .ok (.ifCond .eq 17, 3) := by decide +kernel
theorem md_M_substitute_21 : decode prog_14_method_22_code 21 = .ok (.aload_n 0, 1) := by decide +kernel
theorem md_M_substitute_22 : decode prog_14_method_22_code 22 = .ok (.bipush (-2), 2) := by decide +kernel
theorem md_M_substitute_24 : decode prog_14_method_22_code 24 = .ok (.invokevirtual 77, 3) := by decide +kernel
theorem md_M_substitute_27 : decode prog_14_method_22_code 27 = .ok (.ireturn, 1) := by decide +kernel
theorem md_M_substitute_7 : decode prog_14_method_22_code 7 = .ok (.iload_n 2, 1) := by decide +kernel
theorem md_M_substitute_8 : decode prog_14_method_22_code 8 = .ok (.invokestatic 84, 3) := by decide +kernel
theorem md_M_substitute_11 : decode prog_14_method_22_code 11 = .ok (.ifCond .eq 10, 3) := by decide +kernel
theorem md_M_substitute_14 : decode prog_14_method_22_code 14 = .ok (.iload_n 3, 1) := by decide +kernel
theorem md_M_substitute_15 : decode prog_14_method_22_code 15 = .ok (.invokestatic 84, 3) := by decide +kernel
theorem md_M_substitute_18 : decode prog_14_method_22_code 18 = .ok (.ifCond .ne 10, 3) := by decide +kernel
theorem md_M_substitute_28 : decode prog_14_method_22_code 28 = .ok (.aload_n 0, 1) := by decide +kernel
theorem md_M_substitute_29 : decode prog_14_method_22_code 29 = .ok (.iload_n 2, 1) := by decide +kernel
theorem md_M_substitute_30 : decode prog_14_method_22_code 30 = .ok (.iconst 0, 1) := by decide +kernel
theorem md_M_substitute_31 : decode prog_14_method_22_code 31 = .ok (.invokevirtual 87, 3) := by decide +kernel
theorem md_M_substitute_34 : decode prog_14_method_22_code 34 = .ok (.ifCond .eq 10, 3) := by decide +kernel
theorem md_M_substitute_44 : decode prog_14_method_22_code 44 = .ok (.aload_n 0, 1) := by decide +kernel
theorem md_M_substitute_45 : decode prog_14_method_22_code 45 = .ok (.getfield 22, 3) := by decide +kernel
theorem md_M_substitute_48 : decode prog_14_method_22_code 48 = .ok (.invokestatic 107, 3) := by decide +kernel
theorem md_M_substitute_51 : decode prog_14_method_22_code 51 = .ok (.aload_n 0, 1) := by decide +kernel
theorem md_M_substitute_52 : decode prog_14_method_22_code 52 = .ok (.iload_n 2, 1) := by decide +kernel
theorem md_M_substitute_53 : decode prog_14_method_22_code 53 = .ok (.aload_n 0, 1) := by decide +kernel
theorem md_M_substitute_54 : decode prog_14_method_22_code 54 = .ok (.getfield 28, 3) := by decide +kernel
theorem md_M_substitute_57 : decode prog_14_method_22_code 57 = .ok (.invokevirtual 100, 3) := by decide +kernel
theorem md_M_substitute_60 : decode prog_14_method_22_code 60 = .ok (.bipush 15, 2) := by decide +kernel
theorem md_M_substitute_62 : decode prog_14_method_22_code 62 = .ok (.istore 4, 2) := by decide +kernel
theorem md_M_substitute_64 : decode prog_14_method_22_code 64 = .ok (.iload 4, 2) := by decide +kernel
theorem md_M_substitute_66 : decode prog_14_method_22_code 66 = .ok (.ifCond .lt 67, 3) := by decide +kernel
theorem md_M_substitute_133 : decode prog_14_method_22_code 133 = .ok (.aload_n 0, 1) := by decide +kernel
theorem md_M_substitute_134 : decode prog_14_method_22_code 134 = .ok (.iload_n 3, 1) := by decide +kernel
theorem md_M_substitute_135 : decode prog_14_method_22_code 135 = .ok (.invokevirtual 97, 3) := by decide +kernel
theorem md_M_substitute_138 : decode prog_14_method_22_code 138 = .ok (.ireturn, 1) := by decide +kernel
theorem md_M_substitute_69 : decode prog_14_method_22_code 69 = .ok (.iconst 0, 1) := by decide +kernel
theorem md_M_substitute_70 : decode prog_14_method_22_code 70 = .ok (.istore 5, 2) := by decide +kernel
theorem md_M_substitute_72 : decode prog_14_method_22_code 72 = .ok (.iload 5, 2) := by decide +kernel
theorem md_M_substitute_74 : decode prog_14_method_22_code 74 = .ok (.bipush 16, 2) := by decide +kernel
theorem md_M_substitute_76 : decode prog_14_method_22_code 76 = .ok (.if_icmp .ge 23, 3) := by decide +kernel
theorem md_M_substitute_99 : decode prog_14_method_22_code 99 = .ok (.aload_n 0, 1) := by decide +kernel
theorem md_M_substitute_100 : decode prog_14_method_22_code 100 = .ok (.invokevirtual 104, 3) := by decide +kernel
theorem md_M_substitute_103 : decode prog_14_method_22_code 103 = .ok (.aload_n 0, 1) := by decide +kernel
theorem md_M_substitute_104 : decode prog_14_method_22_code 104 = .ok (.getfield 22, 3) := by decide +kernel
theorem md_M_substitute_107 : decode prog_14_method_22_code 107 = .ok (.iconst 0, 1) := by decide +kernel
theorem md_M_substitute_108 : decode prog_14_method_22_code 108 = .ok (.aload_n 0, 1) := by decide +kernel
theorem md_M_substitute_109 : decode prog_14_method_22_code 109 = .ok (.aload_n 0, 1) := by decide +kernel
theorem md_M_substitute_110 : decode prog_14_method_22_code 110 = .ok (.getfield 22, 3) := by decide +kernel
theorem md_M_substitute_113 : decode prog_14_method_22_code 113 = .ok (.iconst 0, 1) := by decide +kernel
theorem md_M_substitute_114 : decode prog_14_method_22_code 114 = .ok (.iaload, 1) := by decide +kernel
theorem md_M_substitute_115 : decode prog_14_method_22_code 115 = .ok (.aload_n 0, 1) := by decide +kernel
theorem md_M_substitute_116 : decode prog_14_method_22_code 116 = .ok (.iload_n 1, 1) := by decide +kernel
theorem md_M_substitute_117 : decode prog_14_method_22_code 117 = .ok (.iload 4, 2) := by decide +kernel
theorem md_M_substitute_119 : decode prog_14_method_22_code 119 = .ok (.invokevirtual 87, 3) := by decide +kernel
theorem md_M_substitute_122 : decode prog_14_method_22_code 122 = .ok (.iadd, 1) := by decide +kernel
theorem md_M_substitute_123 : decode prog_14_method_22_code 123 = .ok (.invokevirtual 91, 3) := by decide +kernel
theorem md_M_substitute_126 : decode prog_14_method_22_code 126 = .ok (.iastore, 1) := by decide +kernel
theorem md_M_substitute_127 : decode prog_14_method_22_code 127 = .ok (.iinc 4 (-1), 3) := by decide +kernel
theorem md_M_substitute_130 : decode prog_14_method_22_code 130 = .ok (.goto (-66), 3) := by decide +kernel
theorem md_M_substitute_79 : decode prog_14_method_22_code 79 = .ok (.aload_n 0, 1) := by decide +kernel
theorem md_M_substitute_80 : decode prog_14_method_22_code 80 = .ok (.getfield 25, 3) := by decide +kernel
theorem md_M_substitute_83 : decode prog_14_method_22_code 83 = .ok (.iload 5, 2) := by decide +kernel
theorem md_M_substitute_85 : decode prog_14_method_22_code 85 = .ok (.aload_n 0, 1) := by decide +kernel
theorem md_M_substitute_86 : decode prog_14_method_22_code 86 = .ok (.getfield 22, 3) := by decide +kernel
theorem md_M_substitute_89 : decode prog_14_method_22_code 89 = .ok (.iload 5, 2) := by decide +kernel
theorem md_M_substitute_91 : decode prog_14_method_22_code 91 = .ok (.iaload, 1) := by decide +kernel
theorem md_M_substitute_92 : decode prog_14_method_22_code 92 = .ok (.iastore, 1) := by decide +kernel
theorem md_M_substitute_93 : decode prog_14_method_22_code 93 = .ok (.iinc 5 1, 3) := by decide +kernel
theorem md_M_substitute_96 : decode prog_14_method_22_code 96 = .ok (.goto (-24), 3) := by decide +kernel
theorem md_M_substitute_37 : decode prog_14_method_22_code 37 = .ok (.aload_n 0, 1) := by decide +kernel
theorem md_M_substitute_38 : decode prog_14_method_22_code 38 = .ok (.bipush (-3), 2) := by decide +kernel
theorem md_M_substitute_40 : decode prog_14_method_22_code 40 = .ok (.invokevirtual 77, 3) := by decide +kernel
theorem md_M_substitute_43 : decode prog_14_method_22_code 43 = .ok (.ireturn, 1) := by decide +kernel
def mj_M_substitute_21 (x0 : Nat) (σ : pw_Sto) : Option (Int × pw_Sto) := pw_bd (mf_M_fail x0 (-2 : Int) σ) (fun v4 s3 => some (v4, s3))
def mb_M_substitute_72 (r64 : Nat → Int → Int → Int → pw_Sto → Option (Int × pw_Sto)) (rc : Nat → Int → Int → Int → Int → pw_Sto → Option (Int × pw_Sto)) : Nat → Int → Int → Int → Int → pw_Sto → Option (Int × pw_Sto) := fun x0 x1 x3 x4 x5 σ => pw_ck x5 (16 : Int) (if (16 : Int) ≤ x5 then pw_bd (mf_M_makeProduct x0 σ) (fun _ s17 => (pw_gr 10 x0 6 s17).bind (fun v18 => (pw_gr 10 x0 6 s17).bind (fun v19 => (pw_ai v19 (0 : Int) s17).bind (fun v20 => pw_bd (mf_M_term x0 x1 x4 s17) (fun v22 s21 => pw_bd (mf_M_mod x0 (v20 + v22) s21) (fun v24 s23 => (pw_si v18 (0 : Int) v24 s23).bind (fun s25 => r64 x0 x1 x3 (x4 + (-1)) s25))))))) else (pw_gr 10 x0 7 σ).bind (fun v26 => (pw_gr 10 x0 6 σ).bind (fun v27 => (pw_ai v27 x5 σ).bind (fun v28 => (pw_si v26 x5 v28 σ).bind (fun s29 => rc x0 x1 x3 x4 (x5 + 1) s29)))))
def ml_M_substitute_72 (r64 : Nat → Int → Int → Int → pw_Sto → Option (Int × pw_Sto)) : Nat → Nat → Int → Int → Int → Int → pw_Sto → Option (Int × pw_Sto) := pw_lp (fun _ _ _ _ _ _ => none) (mb_M_substitute_72 r64)
def mb_M_substitute_64 (rc : Nat → Int → Int → Int → pw_Sto → Option (Int × pw_Sto)) : Nat → Int → Int → Int → pw_Sto → Option (Int × pw_Sto) := fun x0 x1 x3 x4 σ => pw_ck x4 0 (if x4 < 0 then pw_bd (mf_M_store x0 x3 σ) (fun v16 s15 => some (v16, s15)) else ml_M_substitute_72 rc 1000 x0 x1 x3 x4 (0 : Int) σ)
def ml_M_substitute_64 : Nat → Nat → Int → Int → Int → pw_Sto → Option (Int × pw_Sto) := pw_lp (fun _ _ _ _ _ => none) (mb_M_substitute_64)
def mf_M_substitute (x0 : Nat) (x1 : Int) (x2 : Int) (x3 : Int) (σ : pw_Sto) : Option (Int × pw_Sto) := pw_gd 10 x0 σ (pw_bd (mf_M_isSlot x1 σ) (fun v2 s1 => pw_ck v2 0 (if v2 = 0 then mj_M_substitute_21 x0 s1 else pw_bd (mf_M_isSlot x2 s1) (fun v6 s5 => pw_ck v6 0 (if v6 = 0 then mj_M_substitute_21 x0 s5 else pw_bd (mf_M_isSlot x3 s5) (fun v8 s7 => pw_ck v8 0 (if v8 = 0 then mj_M_substitute_21 x0 s7 else pw_bd (mf_M_term x0 x2 (0 : Int) s7) (fun v10 s9 => pw_ck v10 0 (if v10 = 0 then (pw_gr 10 x0 6 s9).bind (fun v11 => pw_bd (mf_M_clear v11 s9) (fun _ s12 => (pw_gr 10 x0 8 s12).bind (fun v13 => pw_bd (mf_M_take x0 x2 v13 s12) (fun _ s14 => ml_M_substitute_64 1000 x0 x1 x3 (15 : Int) s14)))) else pw_bd (mf_M_fail x0 (-3 : Int) s9) (fun v31 s30 => some (v31, s30)))))))))))
set_option maxHeartbeats 4000000 in
set_option maxRecDepth 20000 in
theorem sj_M_substitute_21 {X : pw_X Int} (hX : pw_Ok X prog_14_method_22_code "PadeWorkbenchModel" mr_M_substitute 6) (hR : pw_RI X prog_14_method_22_code) (x0 : Nat) (σ : pw_Sto) : pw_Sp X 0 0 21 [(0, Value.ref x0)] [] σ (mj_M_substitute_21 x0 σ) := by
  unfold mj_M_substitute_21
  refine sp_aload_n (pc := 21) (k := 0) (i := 0) hX rfl 0 rfl md_M_substitute_21 ?_
  refine sp_bipush (pc := 22) hX (by decide) md_M_substitute_22 ?_
  refine sp_callVI (pc := 24) (y := my_M_fail) (ccy := prog_14_method_3_code) (nLy := 2) (ret := (some .int)) (rmy := mr_M_fail) (n := 1) (idx := 77) (As := [.int (iI (-2 : Int))]) (st := []) (o := x0) (cells' := 0) (slots' := 0) hX (fun _ h => mc_M_fail h) mk_M_fail mv_M_fail mcl_10 (fun _ h => pw_gd_of h) mq_870 ⟨(Nat.le_of_ble_eq_true rfl), (Nat.le_of_ble_eq_true rfl)⟩ rfl rfl (Nat.le_of_ble_eq_true rfl) ⟨(Nat.le_of_ble_eq_true rfl), (Nat.le_of_ble_eq_true rfl)⟩ rfl rfl md_M_substitute_24 (fun v4 s3 => ?_)
  exact sp_iret (pc := 27) hX hR rfl (Nat.le_of_ble_eq_true rfl) md_M_substitute_27
set_option maxHeartbeats 4000000 in
set_option maxRecDepth 20000 in
theorem sl_M_substitute_72 {X : pw_X Int} (hX : pw_Ok X prog_14_method_22_code "PadeWorkbenchModel" mr_M_substitute 6) (hR : pw_RI X prog_14_method_22_code) {r64 : Nat → Int → Int → Int → pw_Sto → Option (Int × pw_Sto)} (h64 : ∀ (z0 : Nat) (z1 : Int) (z2 : Int) (z3 : Int) (σ : pw_Sto), pw_Sp X 0 0 64 [(0, Value.ref z0), (1, Value.int (iI z1)), (3, Value.int (iI z2)), (4, Value.int (iI z3))] [] σ (r64 z0 z1 z2 z3 σ)) : ∀ (n : Nat) (x0 : Nat) (x1 : Int) (x3 : Int) (x4 : Int) (x5 : Int) (σ : pw_Sto), pw_Sp X 0 0 72 [(0, Value.ref x0), (1, Value.int (iI x1)), (3, Value.int (iI x3)), (4, Value.int (iI x4)), (5, Value.int (iI x5))] [] σ (ml_M_substitute_72 r64 n x0 x1 x3 x4 x5 σ) := by
  intro n
  induction n with
  | zero => intros; exact pw_none
  | succ n ih =>
    intro x0 x1 x3 x4 x5 σ
    show pw_Sp X 0 0 72 _ _ σ (mb_M_substitute_72 r64 (ml_M_substitute_72 r64 n) x0 x1 x3 x4 x5 σ)
    unfold mb_M_substitute_72
    refine sp_iload (pc := 72) (i := 5) hX 4 rfl md_M_substitute_72 ?_
    refine sp_bipush (pc := 74) hX (by decide) md_M_substitute_74 ?_
    refine sp_icmp_ge (pc := 76) hX 99 (by decide) md_M_substitute_76 (fun _ => ?_) (fun _ => ?_)
    · refine sp_aload_n (pc := 99) (k := 0) (i := 0) hX rfl 0 rfl md_M_substitute_99 ?_
      refine sp_callVV (pc := 100) (y := my_M_makeProduct) (ccy := prog_14_method_17_code) (nLy := 4) (ret := none) (rmy := mr_M_makeProduct) (n := 0) (idx := 104) (As := []) (st := []) (o := x0) (cells' := 0) (slots' := 0) hX (fun _ h => mc_M_makeProduct h) mk_M_makeProduct mv_M_makeProduct mcl_10 (fun _ h => pw_gd_of h) mq_917 ⟨(Nat.le_of_ble_eq_true rfl), (Nat.le_of_ble_eq_true rfl)⟩ rfl rfl (Nat.le_of_ble_eq_true rfl) ⟨(Nat.le_of_ble_eq_true rfl), (Nat.le_of_ble_eq_true rfl)⟩ rfl rfl md_M_substitute_100 (fun s17 => ?_)
      refine sp_aload_n (pc := 103) (k := 0) (i := 0) hX rfl 0 rfl md_M_substitute_103 ?_
      refine sp_getR (pc := 104) (ci := 10) (k := 6) (idx := 22) hX mcl_10 (by decide) mq_805 rfl md_M_substitute_104 (fun v18 => ?_)
      refine sp_iconst (pc := 107) hX md_M_substitute_107 ?_
      refine sp_aload_n (pc := 108) (k := 0) (i := 0) hX rfl 0 rfl md_M_substitute_108 ?_
      refine sp_aload_n (pc := 109) (k := 0) (i := 0) hX rfl 0 rfl md_M_substitute_109 ?_
      refine sp_getR (pc := 110) (ci := 10) (k := 6) (idx := 22) hX mcl_10 (by decide) mq_805 rfl md_M_substitute_110 (fun v19 => ?_)
      refine sp_iconst (pc := 113) hX md_M_substitute_113 ?_
      refine sp_iaload (pc := 114) hX md_M_substitute_114 (fun v20 => ?_)
      refine sp_aload_n (pc := 115) (k := 0) (i := 0) hX rfl 0 rfl md_M_substitute_115 ?_
      refine sp_iload_n (pc := 116) (k := 1) (i := 1) hX rfl 1 rfl md_M_substitute_116 ?_
      refine sp_iload (pc := 117) (i := 4) hX 3 rfl md_M_substitute_117 ?_
      refine sp_callVI (pc := 119) (y := my_M_term) (ccy := prog_14_method_9_code) (nLy := 3) (ret := (some .int)) (rmy := mr_M_term) (n := 2) (idx := 87) (As := [.int (iI x1), .int (iI x4)]) (st := [.int (iI v20), .ref x0, .int (iI (0 : Int)), .ref v18]) (o := x0) (cells' := 0) (slots' := 0) hX (fun _ h => mc_M_term h) mk_M_term mv_M_term mcl_10 (fun _ h => pw_gd_of h) mq_889 ⟨(Nat.le_of_ble_eq_true rfl), (Nat.le_of_ble_eq_true rfl)⟩ rfl rfl (Nat.le_of_ble_eq_true rfl) ⟨(Nat.le_of_ble_eq_true rfl), (Nat.le_of_ble_eq_true rfl)⟩ rfl rfl md_M_substitute_119 (fun v22 s21 => ?_)
      refine sp_iadd (pc := 122) hX md_M_substitute_122 ?_
      refine sp_callVI (pc := 123) (y := my_M_mod) (ccy := prog_14_method_5_code) (nLy := 3) (ret := (some .int)) (rmy := mr_M_mod) (n := 1) (idx := 91) (As := [.int (iI (v20 + v22))]) (st := [.int (iI (0 : Int)), .ref v18]) (o := x0) (cells' := 0) (slots' := 0) hX (fun _ h => mc_M_mod h) mk_M_mod mv_M_mod mcl_10 (fun _ h => pw_gd_of h) mq_901 ⟨(Nat.le_of_ble_eq_true rfl), (Nat.le_of_ble_eq_true rfl)⟩ rfl rfl (Nat.le_of_ble_eq_true rfl) ⟨(Nat.le_of_ble_eq_true rfl), (Nat.le_of_ble_eq_true rfl)⟩ rfl rfl md_M_substitute_123 (fun v24 s23 => ?_)
      refine sp_iastore (pc := 126) hX md_M_substitute_126 (fun s25 => ?_)
      refine sp_iinc (pc := 127) (i := 4) (L' := [(4, Value.int (iI (x4 + (-1)))), (0, Value.ref x0), (1, Value.int (iI x1)), (3, Value.int (iI x3)), (5, Value.int (iI x5))]) hX 3 rfl (by decide) rfl md_M_substitute_127 ?_
      refine sp_goto (pc := 130) hX 64 (by decide) md_M_substitute_130 ?_
      refine sp_sub [1, 2, 3, 0] (L' := [(0, Value.ref x0), (1, Value.int (iI x1)), (3, Value.int (iI x3)), (4, Value.int (iI (x4 + (-1))))]) rfl ?_
      exact h64 x0 x1 x3 (x4 + (-1)) s25
    · refine sp_aload_n (pc := 79) (k := 0) (i := 0) hX rfl 0 rfl md_M_substitute_79 ?_
      refine sp_getR (pc := 80) (ci := 10) (k := 7) (idx := 25) hX mcl_10 (by decide) mq_806 rfl md_M_substitute_80 (fun v26 => ?_)
      refine sp_iload (pc := 83) (i := 5) hX 4 rfl md_M_substitute_83 ?_
      refine sp_aload_n (pc := 85) (k := 0) (i := 0) hX rfl 0 rfl md_M_substitute_85 ?_
      refine sp_getR (pc := 86) (ci := 10) (k := 6) (idx := 22) hX mcl_10 (by decide) mq_805 rfl md_M_substitute_86 (fun v27 => ?_)
      refine sp_iload (pc := 89) (i := 5) hX 4 rfl md_M_substitute_89 ?_
      refine sp_iaload (pc := 91) hX md_M_substitute_91 (fun v28 => ?_)
      refine sp_iastore (pc := 92) hX md_M_substitute_92 (fun s29 => ?_)
      refine sp_iinc (pc := 93) (i := 5) (L' := [(5, Value.int (iI (x5 + 1))), (0, Value.ref x0), (1, Value.int (iI x1)), (3, Value.int (iI x3)), (4, Value.int (iI x4))]) hX 4 rfl (by decide) rfl md_M_substitute_93 ?_
      refine sp_goto (pc := 96) hX 72 (by decide) md_M_substitute_96 ?_
      refine sp_sub [1, 2, 3, 4, 0] (L' := [(0, Value.ref x0), (1, Value.int (iI x1)), (3, Value.int (iI x3)), (4, Value.int (iI x4)), (5, Value.int (iI (x5 + 1)))]) rfl ?_
      exact ih x0 x1 x3 x4 (x5 + 1) s29
set_option maxHeartbeats 4000000 in
set_option maxRecDepth 20000 in
theorem sl_M_substitute_64 {X : pw_X Int} (hX : pw_Ok X prog_14_method_22_code "PadeWorkbenchModel" mr_M_substitute 6) (hR : pw_RI X prog_14_method_22_code) : ∀ (n : Nat) (x0 : Nat) (x1 : Int) (x3 : Int) (x4 : Int) (σ : pw_Sto), pw_Sp X 0 0 64 [(0, Value.ref x0), (1, Value.int (iI x1)), (3, Value.int (iI x3)), (4, Value.int (iI x4))] [] σ (ml_M_substitute_64 n x0 x1 x3 x4 σ) := by
  intro n
  induction n with
  | zero => intros; exact pw_none
  | succ n ih =>
    intro x0 x1 x3 x4 σ
    show pw_Sp X 0 0 64 _ _ σ (mb_M_substitute_64 (ml_M_substitute_64 n) x0 x1 x3 x4 σ)
    unfold mb_M_substitute_64
    refine sp_iload (pc := 64) (i := 4) hX 3 rfl md_M_substitute_64 ?_
    refine sp_if_lt (pc := 66) hX 133 (by decide) md_M_substitute_66 (fun _ => ?_) (fun _ => ?_)
    · refine sp_aload_n (pc := 133) (k := 0) (i := 0) hX rfl 0 rfl md_M_substitute_133 ?_
      refine sp_iload_n (pc := 134) (k := 3) (i := 3) hX rfl 2 rfl md_M_substitute_134 ?_
      refine sp_callVI (pc := 135) (y := my_M_store) (ccy := prog_14_method_16_code) (nLy := 4) (ret := (some .int)) (rmy := mr_M_store) (n := 1) (idx := 97) (As := [.int (iI x3)]) (st := []) (o := x0) (cells' := 0) (slots' := 0) hX (fun _ h => mc_M_store h) mk_M_store mv_M_store mcl_10 (fun _ h => pw_gd_of h) mq_905 ⟨(Nat.le_of_ble_eq_true rfl), (Nat.le_of_ble_eq_true rfl)⟩ rfl rfl (Nat.le_of_ble_eq_true rfl) ⟨(Nat.le_of_ble_eq_true rfl), (Nat.le_of_ble_eq_true rfl)⟩ rfl rfl md_M_substitute_135 (fun v16 s15 => ?_)
      exact sp_iret (pc := 138) hX hR rfl (Nat.le_of_ble_eq_true rfl) md_M_substitute_138
    · refine sp_iconst (pc := 69) hX md_M_substitute_69 ?_
      refine sp_istore (pc := 70) (i := 5) (L' := [(5, Value.int (iI (0 : Int))), (0, Value.ref x0), (1, Value.int (iI x1)), (3, Value.int (iI x3)), (4, Value.int (iI x4))]) hX (by decide) rfl md_M_substitute_70 ?_
      refine sp_sub [1, 2, 3, 4, 0] (L' := [(0, Value.ref x0), (1, Value.int (iI x1)), (3, Value.int (iI x3)), (4, Value.int (iI x4)), (5, Value.int (iI (0 : Int)))]) rfl ?_
      exact sl_M_substitute_72 hX hR ih 1000 x0 x1 x3 x4 (0 : Int) σ
set_option maxHeartbeats 4000000 in
set_option maxRecDepth 20000 in
theorem mc_M_substitute {l : Launch} {E : pw_E} {σ : pw_Sto} {x0 : Nat} {x1 : Int} {x2 : Int} {x3 : Int} {out : Int × pw_Sto} (h : mf_M_substitute x0 x1 x2 x3 σ = some out) : pw_CI l E my_M_substitute prog_14_method_22_code 6 (some .int) mr_M_substitute [.ref x0, .int (iI x1), .int (iI x2), .int (iI x3)] σ out := by
  unfold mf_M_substitute at h
  refine pw_entryI (by decide) (Nat.le_of_ble_eq_true rfl) (pw_gd_val h) (fun X hX hR hI => ?_)
  change pw_Ok X prog_14_method_22_code "PadeWorkbenchModel" mr_M_substitute 6 at hX
  show pw_Sp X 0 0 0 [(0, Value.ref x0), (1, Value.int (iI x1)), (2, Value.int (iI x2)), (3, Value.int (iI x3))] [] σ _
  refine sp_iload_n (pc := 0) (k := 1) (i := 1) hX rfl 1 rfl md_M_substitute_0 ?_
  refine sp_callSI (pc := 1) (y := my_M_isSlot) (ccy := prog_14_method_8_code) (nLy := 1) (ret := (some .boolean)) (rmy := mr_M_isSlot) (n := 1) (idx := 84) (As := [.int (iI x1)]) (st := []) (cells' := 0) (slots' := 0) hX (fun _ h => mc_M_isSlot h) mk_M_isSlot mq_887 mq_886 ⟨(Nat.le_of_ble_eq_true rfl), (Nat.le_of_ble_eq_true rfl)⟩ rfl rfl (Nat.le_of_ble_eq_true rfl) ⟨(Nat.le_of_ble_eq_true rfl), (Nat.le_of_ble_eq_true rfl)⟩ rfl rfl md_M_substitute_1 (fun v2 s1 => ?_)
  refine sp_if_eq (pc := 4) hX 21 (by decide) md_M_substitute_4 (fun _ => ?_) (fun _ => ?_)
  · refine sp_sub [0] (L' := [(0, Value.ref x0)]) rfl ?_
    exact sj_M_substitute_21 hX hR x0 s1
  · refine sp_iload_n (pc := 7) (k := 2) (i := 2) hX rfl 2 rfl md_M_substitute_7 ?_
    refine sp_callSI (pc := 8) (y := my_M_isSlot) (ccy := prog_14_method_8_code) (nLy := 1) (ret := (some .boolean)) (rmy := mr_M_isSlot) (n := 1) (idx := 84) (As := [.int (iI x2)]) (st := []) (cells' := 0) (slots' := 0) hX (fun _ h => mc_M_isSlot h) mk_M_isSlot mq_887 mq_886 ⟨(Nat.le_of_ble_eq_true rfl), (Nat.le_of_ble_eq_true rfl)⟩ rfl rfl (Nat.le_of_ble_eq_true rfl) ⟨(Nat.le_of_ble_eq_true rfl), (Nat.le_of_ble_eq_true rfl)⟩ rfl rfl md_M_substitute_8 (fun v6 s5 => ?_)
    refine sp_if_eq (pc := 11) hX 21 (by decide) md_M_substitute_11 (fun _ => ?_) (fun _ => ?_)
    · refine sp_sub [0] (L' := [(0, Value.ref x0)]) rfl ?_
      exact sj_M_substitute_21 hX hR x0 s5
    · refine sp_iload_n (pc := 14) (k := 3) (i := 3) hX rfl 3 rfl md_M_substitute_14 ?_
      refine sp_callSI (pc := 15) (y := my_M_isSlot) (ccy := prog_14_method_8_code) (nLy := 1) (ret := (some .boolean)) (rmy := mr_M_isSlot) (n := 1) (idx := 84) (As := [.int (iI x3)]) (st := []) (cells' := 0) (slots' := 0) hX (fun _ h => mc_M_isSlot h) mk_M_isSlot mq_887 mq_886 ⟨(Nat.le_of_ble_eq_true rfl), (Nat.le_of_ble_eq_true rfl)⟩ rfl rfl (Nat.le_of_ble_eq_true rfl) ⟨(Nat.le_of_ble_eq_true rfl), (Nat.le_of_ble_eq_true rfl)⟩ rfl rfl md_M_substitute_15 (fun v8 s7 => ?_)
      refine sp_if_ne (pc := 18) hX 28 (by decide) md_M_substitute_18 (fun _ => ?_) (fun _ => ?_)
      · refine sp_sub [0] (L' := [(0, Value.ref x0)]) rfl ?_
        exact sj_M_substitute_21 hX hR x0 s7
      · refine sp_aload_n (pc := 28) (k := 0) (i := 0) hX rfl 0 rfl md_M_substitute_28 ?_
        refine sp_iload_n (pc := 29) (k := 2) (i := 2) hX rfl 2 rfl md_M_substitute_29 ?_
        refine sp_iconst (pc := 30) hX md_M_substitute_30 ?_
        refine sp_callVI (pc := 31) (y := my_M_term) (ccy := prog_14_method_9_code) (nLy := 3) (ret := (some .int)) (rmy := mr_M_term) (n := 2) (idx := 87) (As := [.int (iI x2), .int (iI (0 : Int))]) (st := []) (o := x0) (cells' := 0) (slots' := 0) hX (fun _ h => mc_M_term h) mk_M_term mv_M_term mcl_10 (fun _ h => pw_gd_of h) mq_889 ⟨(Nat.le_of_ble_eq_true rfl), (Nat.le_of_ble_eq_true rfl)⟩ rfl rfl (Nat.le_of_ble_eq_true rfl) ⟨(Nat.le_of_ble_eq_true rfl), (Nat.le_of_ble_eq_true rfl)⟩ rfl rfl md_M_substitute_31 (fun v10 s9 => ?_)
        refine sp_if_eq (pc := 34) hX 44 (by decide) md_M_substitute_34 (fun _ => ?_) (fun _ => ?_)
        · refine sp_aload_n (pc := 44) (k := 0) (i := 0) hX rfl 0 rfl md_M_substitute_44 ?_
          refine sp_getR (pc := 45) (ci := 10) (k := 6) (idx := 22) hX mcl_10 (by decide) mq_805 rfl md_M_substitute_45 (fun v11 => ?_)
          refine sp_callSV (pc := 48) (y := my_M_clear) (ccy := prog_14_method_15_code) (nLy := 2) (ret := none) (rmy := mr_M_clear) (n := 1) (idx := 107) (As := [.ref v11]) (st := []) (cells' := 0) (slots' := 0) hX (fun _ h => mc_M_clear h) mk_M_clear mq_926 mq_925 ⟨(Nat.le_of_ble_eq_true rfl), (Nat.le_of_ble_eq_true rfl)⟩ rfl rfl (Nat.le_of_ble_eq_true rfl) ⟨(Nat.le_of_ble_eq_true rfl), (Nat.le_of_ble_eq_true rfl)⟩ rfl rfl md_M_substitute_48 (fun s12 => ?_)
          refine sp_aload_n (pc := 51) (k := 0) (i := 0) hX rfl 0 rfl md_M_substitute_51 ?_
          refine sp_iload_n (pc := 52) (k := 2) (i := 2) hX rfl 2 rfl md_M_substitute_52 ?_
          refine sp_aload_n (pc := 53) (k := 0) (i := 0) hX rfl 0 rfl md_M_substitute_53 ?_
          refine sp_getR (pc := 54) (ci := 10) (k := 8) (idx := 28) hX mcl_10 (by decide) mq_807 rfl md_M_substitute_54 (fun v13 => ?_)
          refine sp_callVV (pc := 57) (y := my_M_take) (ccy := prog_14_method_14_code) (nLy := 4) (ret := none) (rmy := mr_M_take) (n := 2) (idx := 100) (As := [.int (iI x2), .ref v13]) (st := []) (o := x0) (cells' := 0) (slots' := 0) hX (fun _ h => mc_M_take h) mk_M_take mv_M_take mcl_10 (fun _ h => pw_gd_of h) mq_913 ⟨(Nat.le_of_ble_eq_true rfl), (Nat.le_of_ble_eq_true rfl)⟩ rfl rfl (Nat.le_of_ble_eq_true rfl) ⟨(Nat.le_of_ble_eq_true rfl), (Nat.le_of_ble_eq_true rfl)⟩ rfl rfl md_M_substitute_57 (fun s14 => ?_)
          refine sp_bipush (pc := 60) hX (by decide) md_M_substitute_60 ?_
          refine sp_istore (pc := 62) (i := 4) (L' := [(4, Value.int (iI (15 : Int))), (0, Value.ref x0), (1, Value.int (iI x1)), (2, Value.int (iI x2)), (3, Value.int (iI x3))]) hX (by decide) rfl md_M_substitute_62 ?_
          refine sp_sub [1, 2, 4, 0] (L' := [(0, Value.ref x0), (1, Value.int (iI x1)), (3, Value.int (iI x3)), (4, Value.int (iI (15 : Int)))]) rfl ?_
          exact sl_M_substitute_64 hX hR 1000 x0 x1 x3 (15 : Int) s14
        · refine sp_aload_n (pc := 37) (k := 0) (i := 0) hX rfl 0 rfl md_M_substitute_37 ?_
          refine sp_bipush (pc := 38) hX (by decide) md_M_substitute_38 ?_
          refine sp_callVI (pc := 40) (y := my_M_fail) (ccy := prog_14_method_3_code) (nLy := 2) (ret := (some .int)) (rmy := mr_M_fail) (n := 1) (idx := 77) (As := [.int (iI (-3 : Int))]) (st := []) (o := x0) (cells' := 0) (slots' := 0) hX (fun _ h => mc_M_fail h) mk_M_fail mv_M_fail mcl_10 (fun _ h => pw_gd_of h) mq_870 ⟨(Nat.le_of_ble_eq_true rfl), (Nat.le_of_ble_eq_true rfl)⟩ rfl rfl (Nat.le_of_ble_eq_true rfl) ⟨(Nat.le_of_ble_eq_true rfl), (Nat.le_of_ble_eq_true rfl)⟩ rfl rfl md_M_substitute_40 (fun v31 s30 => ?_)
          exact sp_iret (pc := 43) hX hR rfl (Nat.le_of_ble_eq_true rfl) md_M_substitute_43
/-! PadeWorkbenchModel.derivative(II)I -/
theorem md_M_derivative_0 : decode prog_14_method_23_code 0 = .ok (.iload_n 1, 1) := by decide +kernel
theorem md_M_derivative_1 : decode prog_14_method_23_code 1 = .ok (.invokestatic 84, 3) := by decide +kernel
theorem md_M_derivative_4 : decode prog_14_method_23_code 4 = .ok (.ifCond .eq 10, 3) := by decide +kernel
theorem md_M_derivative_14 : decode prog_14_method_23_code 14 = .ok (.aload_n 0, 1) := by decide +kernel
theorem md_M_derivative_15 : decode prog_14_method_23_code 15 = .ok (.bipush (-2), 2) := by decide +kernel
theorem md_M_derivative_17 : decode prog_14_method_23_code 17 = .ok (.invokevirtual 77, 3) := by decide +kernel
theorem md_M_derivative_20 : decode prog_14_method_23_code 20 = .ok (.ireturn, 1) := by decide +kernel
theorem md_M_derivative_7 : decode prog_14_method_23_code 7 = .ok (.iload_n 2, 1) := by decide +kernel
theorem md_M_derivative_8 : decode prog_14_method_23_code 8 = .ok (.invokestatic 84, 3) := by decide +kernel
theorem md_M_derivative_11 : decode prog_14_method_23_code 11 = .ok (.ifCond .ne 10, 3) := by decide +kernel
theorem md_M_derivative_21 : decode prog_14_method_23_code 21 = .ok (.iconst 0, 1) := by decide +kernel
theorem md_M_derivative_22 : decode prog_14_method_23_code 22 = .ok (.istore_n 3, 1) := by decide +kernel
theorem md_M_derivative_23 : decode prog_14_method_23_code 23 = .ok (.iload_n 3, 1) := by decide +kernel
theorem md_M_derivative_24 : decode prog_14_method_23_code 24 = .ok (.bipush 16, 2) := by decide +kernel
theorem md_M_derivative_26 : decode prog_14_method_23_code 26 = .ok (.if_icmp .ge 41, 3) := by decide +kernel
theorem md_M_derivative_67 : decode prog_14_method_23_code 67 = .ok (.aload_n 0, 1) := by decide +kernel
theorem md_M_derivative_68 : decode prog_14_method_23_code 68 = .ok (.iload_n 2, 1) := by decide +kernel
theorem md_M_derivative_69 : decode prog_14_method_23_code 69 = .ok (.invokevirtual 97, 3) := by decide +kernel
theorem md_M_derivative_72 : decode prog_14_method_23_code 72 = .ok (.ireturn, 1) := by decide +kernel
theorem md_M_derivative_29 : decode prog_14_method_23_code 29 = .ok (.aload_n 0, 1) := by decide +kernel
theorem md_M_derivative_30 : decode prog_14_method_23_code 30 = .ok (.getfield 22, 3) := by decide +kernel
theorem md_M_derivative_33 : decode prog_14_method_23_code 33 = .ok (.iload_n 3, 1) := by decide +kernel
theorem md_M_derivative_34 : decode prog_14_method_23_code 34 = .ok (.iload_n 3, 1) := by decide +kernel
theorem md_M_derivative_35 : decode prog_14_method_23_code 35 = .ok (.bipush 15, 2) := by decide +kernel
theorem md_M_derivative_37 : decode prog_14_method_23_code 37 = .ok (.if_icmp .ne 7, 3) := by decide +kernel
theorem md_M_derivative_44 : decode prog_14_method_23_code 44 = .ok (.aload_n 0, 1) := by decide +kernel
theorem md_M_derivative_45 : decode prog_14_method_23_code 45 = .ok (.iload_n 3, 1) := by decide +kernel
theorem md_M_derivative_46 : decode prog_14_method_23_code 46 = .ok (.iconst 1, 1) := by decide +kernel
theorem md_M_derivative_47 : decode prog_14_method_23_code 47 = .ok (.iadd, 1) := by decide +kernel
theorem md_M_derivative_48 : decode prog_14_method_23_code 48 = .ok (.aload_n 0, 1) := by decide +kernel
theorem md_M_derivative_49 : decode prog_14_method_23_code 49 = .ok (.iload_n 1, 1) := by decide +kernel
theorem md_M_derivative_50 : decode prog_14_method_23_code 50 = .ok (.iload_n 3, 1) := by decide +kernel
theorem md_M_derivative_51 : decode prog_14_method_23_code 51 = .ok (.iconst 1, 1) := by decide +kernel
theorem md_M_derivative_52 : decode prog_14_method_23_code 52 = .ok (.iadd, 1) := by decide +kernel
theorem md_M_derivative_53 : decode prog_14_method_23_code 53 = .ok (.invokevirtual 87, 3) := by decide +kernel
theorem md_M_derivative_56 : decode prog_14_method_23_code 56 = .ok (.imul, 1) := by decide +kernel
theorem md_M_derivative_57 : decode prog_14_method_23_code 57 = .ok (.invokevirtual 91, 3) := by decide +kernel
theorem md_M_derivative_60 : decode prog_14_method_23_code 60 = .ok (.iastore, 1) := by decide +kernel
theorem md_M_derivative_61 : decode prog_14_method_23_code 61 = .ok (.iinc 3 1, 3) := by decide +kernel
theorem md_M_derivative_64 : decode prog_14_method_23_code 64 = .ok (.goto (-41), 3) := by decide +kernel
theorem md_M_derivative_40 : decode prog_14_method_23_code 40 = .ok (.iconst 0, 1) := by decide +kernel
theorem md_M_derivative_41 : decode prog_14_method_23_code 41 = .ok (.goto 19, 3) := by decide +kernel
def mj_M_derivative_14 (x0 : Nat) (σ : pw_Sto) : Option (Int × pw_Sto) := pw_bd (mf_M_fail x0 (-2 : Int) σ) (fun v4 s3 => some (v4, s3))
def mb_M_derivative_23 (rc : Nat → Int → Int → Int → pw_Sto → Option (Int × pw_Sto)) : Nat → Int → Int → Int → pw_Sto → Option (Int × pw_Sto) := fun x0 x1 x2 x3 σ => pw_ck x3 (16 : Int) (if (16 : Int) ≤ x3 then pw_bd (mf_M_store x0 x2 σ) (fun v8 s7 => some (v8, s7)) else (pw_gr 10 x0 6 σ).bind (fun v9 => pw_ck x3 (15 : Int) (if x3 = (15 : Int) then (pw_si v9 x3 (0 : Int) σ).bind (fun s15 => rc x0 x1 x2 (x3 + 1) s15) else pw_bd (mf_M_term x0 x1 (x3 + (1 : Int)) σ) (fun v11 s10 => pw_bd (mf_M_mod x0 ((x3 + (1 : Int)) * v11) s10) (fun v13 s12 => (pw_si v9 x3 v13 s12).bind (fun s14 => rc x0 x1 x2 (x3 + 1) s14))))))
def ml_M_derivative_23 : Nat → Nat → Int → Int → Int → pw_Sto → Option (Int × pw_Sto) := pw_lp (fun _ _ _ _ _ => none) (mb_M_derivative_23)
def mf_M_derivative (x0 : Nat) (x1 : Int) (x2 : Int) (σ : pw_Sto) : Option (Int × pw_Sto) := pw_gd 10 x0 σ (pw_bd (mf_M_isSlot x1 σ) (fun v2 s1 => pw_ck v2 0 (if v2 = 0 then mj_M_derivative_14 x0 s1 else pw_bd (mf_M_isSlot x2 s1) (fun v6 s5 => pw_ck v6 0 (if v6 = 0 then mj_M_derivative_14 x0 s5 else ml_M_derivative_23 1000 x0 x1 x2 (0 : Int) s5)))))
set_option maxHeartbeats 4000000 in
set_option maxRecDepth 20000 in
theorem sj_M_derivative_14 {X : pw_X Int} (hX : pw_Ok X prog_14_method_23_code "PadeWorkbenchModel" mr_M_derivative 4) (hR : pw_RI X prog_14_method_23_code) (x0 : Nat) (σ : pw_Sto) : pw_Sp X 0 0 14 [(0, Value.ref x0)] [] σ (mj_M_derivative_14 x0 σ) := by
  unfold mj_M_derivative_14
  refine sp_aload_n (pc := 14) (k := 0) (i := 0) hX rfl 0 rfl md_M_derivative_14 ?_
  refine sp_bipush (pc := 15) hX (by decide) md_M_derivative_15 ?_
  refine sp_callVI (pc := 17) (y := my_M_fail) (ccy := prog_14_method_3_code) (nLy := 2) (ret := (some .int)) (rmy := mr_M_fail) (n := 1) (idx := 77) (As := [.int (iI (-2 : Int))]) (st := []) (o := x0) (cells' := 0) (slots' := 0) hX (fun _ h => mc_M_fail h) mk_M_fail mv_M_fail mcl_10 (fun _ h => pw_gd_of h) mq_870 ⟨(Nat.le_of_ble_eq_true rfl), (Nat.le_of_ble_eq_true rfl)⟩ rfl rfl (Nat.le_of_ble_eq_true rfl) ⟨(Nat.le_of_ble_eq_true rfl), (Nat.le_of_ble_eq_true rfl)⟩ rfl rfl md_M_derivative_17 (fun v4 s3 => ?_)
  exact sp_iret (pc := 20) hX hR rfl (Nat.le_of_ble_eq_true rfl) md_M_derivative_20
set_option maxHeartbeats 4000000 in
set_option maxRecDepth 20000 in
theorem sl_M_derivative_23 {X : pw_X Int} (hX : pw_Ok X prog_14_method_23_code "PadeWorkbenchModel" mr_M_derivative 4) (hR : pw_RI X prog_14_method_23_code) : ∀ (n : Nat) (x0 : Nat) (x1 : Int) (x2 : Int) (x3 : Int) (σ : pw_Sto), pw_Sp X 0 0 23 [(0, Value.ref x0), (1, Value.int (iI x1)), (2, Value.int (iI x2)), (3, Value.int (iI x3))] [] σ (ml_M_derivative_23 n x0 x1 x2 x3 σ) := by
  intro n
  induction n with
  | zero => intros; exact pw_none
  | succ n ih =>
    intro x0 x1 x2 x3 σ
    show pw_Sp X 0 0 23 _ _ σ (mb_M_derivative_23 (ml_M_derivative_23 n) x0 x1 x2 x3 σ)
    unfold mb_M_derivative_23
    refine sp_iload_n (pc := 23) (k := 3) (i := 3) hX rfl 3 rfl md_M_derivative_23 ?_
    refine sp_bipush (pc := 24) hX (by decide) md_M_derivative_24 ?_
    refine sp_icmp_ge (pc := 26) hX 67 (by decide) md_M_derivative_26 (fun _ => ?_) (fun _ => ?_)
    · refine sp_aload_n (pc := 67) (k := 0) (i := 0) hX rfl 0 rfl md_M_derivative_67 ?_
      refine sp_iload_n (pc := 68) (k := 2) (i := 2) hX rfl 2 rfl md_M_derivative_68 ?_
      refine sp_callVI (pc := 69) (y := my_M_store) (ccy := prog_14_method_16_code) (nLy := 4) (ret := (some .int)) (rmy := mr_M_store) (n := 1) (idx := 97) (As := [.int (iI x2)]) (st := []) (o := x0) (cells' := 0) (slots' := 0) hX (fun _ h => mc_M_store h) mk_M_store mv_M_store mcl_10 (fun _ h => pw_gd_of h) mq_905 ⟨(Nat.le_of_ble_eq_true rfl), (Nat.le_of_ble_eq_true rfl)⟩ rfl rfl (Nat.le_of_ble_eq_true rfl) ⟨(Nat.le_of_ble_eq_true rfl), (Nat.le_of_ble_eq_true rfl)⟩ rfl rfl md_M_derivative_69 (fun v8 s7 => ?_)
      exact sp_iret (pc := 72) hX hR rfl (Nat.le_of_ble_eq_true rfl) md_M_derivative_72
    · refine sp_aload_n (pc := 29) (k := 0) (i := 0) hX rfl 0 rfl md_M_derivative_29 ?_
      refine sp_getR (pc := 30) (ci := 10) (k := 6) (idx := 22) hX mcl_10 (by decide) mq_805 rfl md_M_derivative_30 (fun v9 => ?_)
      refine sp_iload_n (pc := 33) (k := 3) (i := 3) hX rfl 3 rfl md_M_derivative_33 ?_
      refine sp_iload_n (pc := 34) (k := 3) (i := 3) hX rfl 3 rfl md_M_derivative_34 ?_
      refine sp_bipush (pc := 35) hX (by decide) md_M_derivative_35 ?_
      refine sp_icmp_ne (pc := 37) hX 44 (by decide) md_M_derivative_37 (fun _ => ?_) (fun _ => ?_)
      · refine sp_iconst (pc := 40) hX md_M_derivative_40 ?_
        refine sp_goto (pc := 41) hX 60 (by decide) md_M_derivative_41 ?_
        refine sp_iastore (pc := 60) hX md_M_derivative_60 (fun s15 => ?_)
        refine sp_iinc (pc := 61) (i := 3) (L' := [(3, Value.int (iI (x3 + 1))), (0, Value.ref x0), (1, Value.int (iI x1)), (2, Value.int (iI x2))]) hX 3 rfl (by decide) rfl md_M_derivative_61 ?_
        refine sp_goto (pc := 64) hX 23 (by decide) md_M_derivative_64 ?_
        refine sp_sub [1, 2, 3, 0] (L' := [(0, Value.ref x0), (1, Value.int (iI x1)), (2, Value.int (iI x2)), (3, Value.int (iI (x3 + 1)))]) rfl ?_
        exact ih x0 x1 x2 (x3 + 1) s15
      · refine sp_aload_n (pc := 44) (k := 0) (i := 0) hX rfl 0 rfl md_M_derivative_44 ?_
        refine sp_iload_n (pc := 45) (k := 3) (i := 3) hX rfl 3 rfl md_M_derivative_45 ?_
        refine sp_iconst (pc := 46) hX md_M_derivative_46 ?_
        refine sp_iadd (pc := 47) hX md_M_derivative_47 ?_
        refine sp_aload_n (pc := 48) (k := 0) (i := 0) hX rfl 0 rfl md_M_derivative_48 ?_
        refine sp_iload_n (pc := 49) (k := 1) (i := 1) hX rfl 1 rfl md_M_derivative_49 ?_
        refine sp_iload_n (pc := 50) (k := 3) (i := 3) hX rfl 3 rfl md_M_derivative_50 ?_
        refine sp_iconst (pc := 51) hX md_M_derivative_51 ?_
        refine sp_iadd (pc := 52) hX md_M_derivative_52 ?_
        refine sp_callVI (pc := 53) (y := my_M_term) (ccy := prog_14_method_9_code) (nLy := 3) (ret := (some .int)) (rmy := mr_M_term) (n := 2) (idx := 87) (As := [.int (iI x1), .int (iI (x3 + (1 : Int)))]) (st := [.int (iI (x3 + (1 : Int))), .ref x0, .int (iI x3), .ref v9]) (o := x0) (cells' := 0) (slots' := 0) hX (fun _ h => mc_M_term h) mk_M_term mv_M_term mcl_10 (fun _ h => pw_gd_of h) mq_889 ⟨(Nat.le_of_ble_eq_true rfl), (Nat.le_of_ble_eq_true rfl)⟩ rfl rfl (Nat.le_of_ble_eq_true rfl) ⟨(Nat.le_of_ble_eq_true rfl), (Nat.le_of_ble_eq_true rfl)⟩ rfl rfl md_M_derivative_53 (fun v11 s10 => ?_)
        refine sp_imul (pc := 56) hX md_M_derivative_56 ?_
        refine sp_callVI (pc := 57) (y := my_M_mod) (ccy := prog_14_method_5_code) (nLy := 3) (ret := (some .int)) (rmy := mr_M_mod) (n := 1) (idx := 91) (As := [.int (iI ((x3 + (1 : Int)) * v11))]) (st := [.int (iI x3), .ref v9]) (o := x0) (cells' := 0) (slots' := 0) hX (fun _ h => mc_M_mod h) mk_M_mod mv_M_mod mcl_10 (fun _ h => pw_gd_of h) mq_901 ⟨(Nat.le_of_ble_eq_true rfl), (Nat.le_of_ble_eq_true rfl)⟩ rfl rfl (Nat.le_of_ble_eq_true rfl) ⟨(Nat.le_of_ble_eq_true rfl), (Nat.le_of_ble_eq_true rfl)⟩ rfl rfl md_M_derivative_57 (fun v13 s12 => ?_)
        refine sp_iastore (pc := 60) hX md_M_derivative_60 (fun s14 => ?_)
        refine sp_iinc (pc := 61) (i := 3) (L' := [(3, Value.int (iI (x3 + 1))), (0, Value.ref x0), (1, Value.int (iI x1)), (2, Value.int (iI x2))]) hX 3 rfl (by decide) rfl md_M_derivative_61 ?_
        refine sp_goto (pc := 64) hX 23 (by decide) md_M_derivative_64 ?_
        refine sp_sub [1, 2, 3, 0] (L' := [(0, Value.ref x0), (1, Value.int (iI x1)), (2, Value.int (iI x2)), (3, Value.int (iI (x3 + 1)))]) rfl ?_
        exact ih x0 x1 x2 (x3 + 1) s14
set_option maxHeartbeats 4000000 in
set_option maxRecDepth 20000 in
theorem mc_M_derivative {l : Launch} {E : pw_E} {σ : pw_Sto} {x0 : Nat} {x1 : Int} {x2 : Int} {out : Int × pw_Sto} (h : mf_M_derivative x0 x1 x2 σ = some out) : pw_CI l E my_M_derivative prog_14_method_23_code 4 (some .int) mr_M_derivative [.ref x0, .int (iI x1), .int (iI x2)] σ out := by
  unfold mf_M_derivative at h
  refine pw_entryI (by decide) (Nat.le_of_ble_eq_true rfl) (pw_gd_val h) (fun X hX hR hI => ?_)
  change pw_Ok X prog_14_method_23_code "PadeWorkbenchModel" mr_M_derivative 4 at hX
  show pw_Sp X 0 0 0 [(0, Value.ref x0), (1, Value.int (iI x1)), (2, Value.int (iI x2))] [] σ _
  refine sp_iload_n (pc := 0) (k := 1) (i := 1) hX rfl 1 rfl md_M_derivative_0 ?_
  refine sp_callSI (pc := 1) (y := my_M_isSlot) (ccy := prog_14_method_8_code) (nLy := 1) (ret := (some .boolean)) (rmy := mr_M_isSlot) (n := 1) (idx := 84) (As := [.int (iI x1)]) (st := []) (cells' := 0) (slots' := 0) hX (fun _ h => mc_M_isSlot h) mk_M_isSlot mq_887 mq_886 ⟨(Nat.le_of_ble_eq_true rfl), (Nat.le_of_ble_eq_true rfl)⟩ rfl rfl (Nat.le_of_ble_eq_true rfl) ⟨(Nat.le_of_ble_eq_true rfl), (Nat.le_of_ble_eq_true rfl)⟩ rfl rfl md_M_derivative_1 (fun v2 s1 => ?_)
  refine sp_if_eq (pc := 4) hX 14 (by decide) md_M_derivative_4 (fun _ => ?_) (fun _ => ?_)
  · refine sp_sub [0] (L' := [(0, Value.ref x0)]) rfl ?_
    exact sj_M_derivative_14 hX hR x0 s1
  · refine sp_iload_n (pc := 7) (k := 2) (i := 2) hX rfl 2 rfl md_M_derivative_7 ?_
    refine sp_callSI (pc := 8) (y := my_M_isSlot) (ccy := prog_14_method_8_code) (nLy := 1) (ret := (some .boolean)) (rmy := mr_M_isSlot) (n := 1) (idx := 84) (As := [.int (iI x2)]) (st := []) (cells' := 0) (slots' := 0) hX (fun _ h => mc_M_isSlot h) mk_M_isSlot mq_887 mq_886 ⟨(Nat.le_of_ble_eq_true rfl), (Nat.le_of_ble_eq_true rfl)⟩ rfl rfl (Nat.le_of_ble_eq_true rfl) ⟨(Nat.le_of_ble_eq_true rfl), (Nat.le_of_ble_eq_true rfl)⟩ rfl rfl md_M_derivative_8 (fun v6 s5 => ?_)
    refine sp_if_ne (pc := 11) hX 21 (by decide) md_M_derivative_11 (fun _ => ?_) (fun _ => ?_)
    · refine sp_sub [0] (L' := [(0, Value.ref x0)]) rfl ?_
      exact sj_M_derivative_14 hX hR x0 s5
    · refine sp_iconst (pc := 21) hX md_M_derivative_21 ?_
      refine sp_istore_n (pc := 22) (k := 3) (i := 3) (L' := [(3, Value.int (iI (0 : Int))), (0, Value.ref x0), (1, Value.int (iI x1)), (2, Value.int (iI x2))]) hX rfl (by decide) rfl md_M_derivative_22 ?_
      refine sp_sub [1, 2, 3, 0] (L' := [(0, Value.ref x0), (1, Value.int (iI x1)), (2, Value.int (iI x2)), (3, Value.int (iI (0 : Int)))]) rfl ?_
      exact sl_M_derivative_23 hX hR 1000 x0 x1 x2 (0 : Int) s5
/-! PadeWorkbenchModel.append(I)I -/
theorem md_M_append_0 : decode prog_14_method_24_code 0 = .ok (.iload_n 1, 1) := by decide +kernel
theorem md_M_append_1 : decode prog_14_method_24_code 1 = .ok (.iconst 0, 1) := by decide +kernel
theorem md_M_append_2 : decode prog_14_method_24_code 2 = .ok (.bipush 127, 2) := by decide +kernel
theorem md_M_append_4 : decode prog_14_method_24_code 4 = .ok (.invokestatic 65, 3) := by decide +kernel
theorem md_M_append_7 : decode prog_14_method_24_code 7 = .ok (.ifCond .ne 10, 3) := by decide +kernel
theorem md_M_append_17 : decode prog_14_method_24_code 17 = .ok (.aload_n 0, 1) := by decide +kernel
theorem md_M_append_18 : decode prog_14_method_24_code 18 = .ok (.getfield 114, 3) := by decide +kernel
theorem md_M_append_21 : decode prog_14_method_24_code 21 = .ok (.bipush 80, 2) := by decide +kernel
theorem md_M_append_23 : decode prog_14_method_24_code 23 = .ok (.if_icmp .ne 10, 3) := by decide +kernel
theorem md_M_append_33 : decode prog_14_method_24_code 33 = .ok (.aload_n 0, 1) := by decide +kernel
theorem md_M_append_34 : decode prog_14_method_24_code 34 = .ok (.getfield 19, 3) := by decide +kernel
theorem md_M_append_37 : decode prog_14_method_24_code 37 = .ok (.aload_n 0, 1) := by decide +kernel
theorem md_M_append_38 : decode prog_14_method_24_code 38 = .ok (.getfield 114, 3) := by decide +kernel
theorem md_M_append_41 : decode prog_14_method_24_code 41 = .ok (.iload_n 1, 1) := by decide +kernel
theorem md_M_append_42 : decode prog_14_method_24_code 42 = .ok (.iastore, 1) := by decide +kernel
theorem md_M_append_43 : decode prog_14_method_24_code 43 = .ok (.aload_n 0, 1) := by decide +kernel
theorem md_M_append_44 : decode prog_14_method_24_code 44 = .ok (.dup, 1) := by decide +kernel
theorem md_M_append_45 : decode prog_14_method_24_code 45 = .ok (.getfield 114, 3) := by decide +kernel
theorem md_M_append_48 : decode prog_14_method_24_code 48 = .ok (.iconst 1, 1) := by decide +kernel
theorem md_M_append_49 : decode prog_14_method_24_code 49 = .ok (.iadd, 1) := by decide +kernel
theorem md_M_append_50 : decode prog_14_method_24_code 50 = .ok (.putfield 114, 3) := by decide +kernel
theorem md_M_append_53 : decode prog_14_method_24_code 53 = .ok (.aload_n 0, 1) := by decide +kernel
theorem md_M_append_54 : decode prog_14_method_24_code 54 = .ok (.getfield 114, 3) := by decide +kernel
theorem md_M_append_57 : decode prog_14_method_24_code 57 = .ok (.ireturn, 1) := by decide +kernel
theorem md_M_append_26 : decode prog_14_method_24_code 26 = .ok (.aload_n 0, 1) := by decide +kernel
theorem md_M_append_27 : decode prog_14_method_24_code 27 = .ok (.bipush (-4), 2) := by decide +kernel
theorem md_M_append_29 : decode prog_14_method_24_code 29 = .ok (.invokevirtual 77, 3) := by decide +kernel
theorem md_M_append_32 : decode prog_14_method_24_code 32 = .ok (.ireturn, 1) := by decide +kernel
theorem md_M_append_10 : decode prog_14_method_24_code 10 = .ok (.aload_n 0, 1) := by decide +kernel
theorem md_M_append_11 : decode prog_14_method_24_code 11 = .ok (.bipush (-2), 2) := by decide +kernel
theorem md_M_append_13 : decode prog_14_method_24_code 13 = .ok (.invokevirtual 77, 3) := by decide +kernel
theorem md_M_append_16 : decode prog_14_method_24_code 16 = .ok (.ireturn, 1) := by decide +kernel
def mf_M_append (x0 : Nat) (x1 : Int) (σ : pw_Sto) : Option (Int × pw_Sto) := pw_gd 10 x0 σ (pw_bd (mf_M_in x1 (0 : Int) (127 : Int) σ) (fun v2 s1 => pw_ck v2 0 (if v2 = 0 then pw_bd (mf_M_fail x0 (-2 : Int) s1) (fun v13 s12 => some (v13, s12)) else (pw_gi 10 x0 5 s1).bind (fun v3 => pw_ck v3 (80 : Int) (if v3 = (80 : Int) then pw_bd (mf_M_fail x0 (-4 : Int) s1) (fun v11 s10 => some (v11, s10)) else (pw_gr 10 x0 4 s1).bind (fun v4 => (pw_gi 10 x0 5 s1).bind (fun v5 => (pw_si v4 v5 x1 s1).bind (fun s6 => (pw_gi 10 x0 5 s6).bind (fun v7 => (pw_pi 10 x0 5 (v7 + (1 : Int)) s6).bind (fun s8 => (pw_gi 10 x0 5 s8).bind (fun v9 => some (v9, s8))))))))))))
set_option maxHeartbeats 4000000 in
set_option maxRecDepth 20000 in
theorem mc_M_append {l : Launch} {E : pw_E} {σ : pw_Sto} {x0 : Nat} {x1 : Int} {out : Int × pw_Sto} (h : mf_M_append x0 x1 σ = some out) : pw_CI l E my_M_append prog_14_method_24_code 2 (some .int) mr_M_append [.ref x0, .int (iI x1)] σ out := by
  unfold mf_M_append at h
  refine pw_entryI (by decide) (Nat.le_of_ble_eq_true rfl) (pw_gd_val h) (fun X hX hR hI => ?_)
  change pw_Ok X prog_14_method_24_code "PadeWorkbenchModel" mr_M_append 2 at hX
  show pw_Sp X 0 0 0 [(0, Value.ref x0), (1, Value.int (iI x1))] [] σ _
  refine sp_iload_n (pc := 0) (k := 1) (i := 1) hX rfl 1 rfl md_M_append_0 ?_
  refine sp_iconst (pc := 1) hX md_M_append_1 ?_
  refine sp_bipush (pc := 2) hX (by decide) md_M_append_2 ?_
  refine sp_callSI (pc := 4) (y := my_M_in) (ccy := prog_14_method_2_code) (nLy := 3) (ret := (some .boolean)) (rmy := mr_M_in) (n := 3) (idx := 65) (As := [.int (iI x1), .int (iI (0 : Int)), .int (iI (127 : Int))]) (st := []) (cells' := 0) (slots' := 0) hX (fun _ h => mc_M_in h) mk_M_in mq_868 mq_867 ⟨(Nat.le_of_ble_eq_true rfl), (Nat.le_of_ble_eq_true rfl)⟩ rfl rfl (Nat.le_of_ble_eq_true rfl) ⟨(Nat.le_of_ble_eq_true rfl), (Nat.le_of_ble_eq_true rfl)⟩ rfl rfl md_M_append_4 (fun v2 s1 => ?_)
  refine sp_if_ne (pc := 7) hX 17 (by decide) md_M_append_7 (fun _ => ?_) (fun _ => ?_)
  · refine sp_aload_n (pc := 10) (k := 0) (i := 0) hX rfl 0 rfl md_M_append_10 ?_
    refine sp_bipush (pc := 11) hX (by decide) md_M_append_11 ?_
    refine sp_callVI (pc := 13) (y := my_M_fail) (ccy := prog_14_method_3_code) (nLy := 2) (ret := (some .int)) (rmy := mr_M_fail) (n := 1) (idx := 77) (As := [.int (iI (-2 : Int))]) (st := []) (o := x0) (cells' := 0) (slots' := 0) hX (fun _ h => mc_M_fail h) mk_M_fail mv_M_fail mcl_10 (fun _ h => pw_gd_of h) mq_870 ⟨(Nat.le_of_ble_eq_true rfl), (Nat.le_of_ble_eq_true rfl)⟩ rfl rfl (Nat.le_of_ble_eq_true rfl) ⟨(Nat.le_of_ble_eq_true rfl), (Nat.le_of_ble_eq_true rfl)⟩ rfl rfl md_M_append_13 (fun v13 s12 => ?_)
    exact sp_iret (pc := 16) hX hR rfl (Nat.le_of_ble_eq_true rfl) md_M_append_16
  · refine sp_aload_n (pc := 17) (k := 0) (i := 0) hX rfl 0 rfl md_M_append_17 ?_
    refine sp_getI (pc := 18) (ci := 10) (k := 5) (idx := 114) hX mcl_10 (by decide) mq_804 rfl md_M_append_18 (fun v3 => ?_)
    refine sp_bipush (pc := 21) hX (by decide) md_M_append_21 ?_
    refine sp_icmp_ne (pc := 23) hX 33 (by decide) md_M_append_23 (fun _ => ?_) (fun _ => ?_)
    · refine sp_aload_n (pc := 26) (k := 0) (i := 0) hX rfl 0 rfl md_M_append_26 ?_
      refine sp_bipush (pc := 27) hX (by decide) md_M_append_27 ?_
      refine sp_callVI (pc := 29) (y := my_M_fail) (ccy := prog_14_method_3_code) (nLy := 2) (ret := (some .int)) (rmy := mr_M_fail) (n := 1) (idx := 77) (As := [.int (iI (-4 : Int))]) (st := []) (o := x0) (cells' := 0) (slots' := 0) hX (fun _ h => mc_M_fail h) mk_M_fail mv_M_fail mcl_10 (fun _ h => pw_gd_of h) mq_870 ⟨(Nat.le_of_ble_eq_true rfl), (Nat.le_of_ble_eq_true rfl)⟩ rfl rfl (Nat.le_of_ble_eq_true rfl) ⟨(Nat.le_of_ble_eq_true rfl), (Nat.le_of_ble_eq_true rfl)⟩ rfl rfl md_M_append_29 (fun v11 s10 => ?_)
      exact sp_iret (pc := 32) hX hR rfl (Nat.le_of_ble_eq_true rfl) md_M_append_32
    · refine sp_aload_n (pc := 33) (k := 0) (i := 0) hX rfl 0 rfl md_M_append_33 ?_
      refine sp_getR (pc := 34) (ci := 10) (k := 4) (idx := 19) hX mcl_10 (by decide) mq_803 rfl md_M_append_34 (fun v4 => ?_)
      refine sp_aload_n (pc := 37) (k := 0) (i := 0) hX rfl 0 rfl md_M_append_37 ?_
      refine sp_getI (pc := 38) (ci := 10) (k := 5) (idx := 114) hX mcl_10 (by decide) mq_804 rfl md_M_append_38 (fun v5 => ?_)
      refine sp_iload_n (pc := 41) (k := 1) (i := 1) hX rfl 1 rfl md_M_append_41 ?_
      refine sp_iastore (pc := 42) hX md_M_append_42 (fun s6 => ?_)
      refine sp_aload_n (pc := 43) (k := 0) (i := 0) hX rfl 0 rfl md_M_append_43 ?_
      refine sp_dup (pc := 44) hX rfl md_M_append_44 ?_
      refine sp_getI (pc := 45) (ci := 10) (k := 5) (idx := 114) hX mcl_10 (by decide) mq_804 rfl md_M_append_45 (fun v7 => ?_)
      refine sp_iconst (pc := 48) hX md_M_append_48 ?_
      refine sp_iadd (pc := 49) hX md_M_append_49 ?_
      refine sp_putI (pc := 50) (ci := 10) (k := 5) (idx := 114) hX mcl_10 (by decide) mq_804 rfl rfl rfl md_M_append_50 (fun s8 => ?_)
      refine sp_aload_n (pc := 53) (k := 0) (i := 0) hX rfl 0 rfl md_M_append_53 ?_
      refine sp_getI (pc := 54) (ci := 10) (k := 5) (idx := 114) hX mcl_10 (by decide) mq_804 rfl md_M_append_54 (fun v9 => ?_)
      exact sp_iret (pc := 57) hX hR rfl (Nat.le_of_ble_eq_true rfl) md_M_append_57
/-! PadeWorkbenchModel.clearText()I -/
theorem md_M_clearText_0 : decode prog_14_method_25_code 0 = .ok (.aload_n 0, 1) := by decide +kernel
theorem md_M_clearText_1 : decode prog_14_method_25_code 1 = .ok (.getfield 114, 3) := by decide +kernel
theorem md_M_clearText_4 : decode prog_14_method_25_code 4 = .ok (.istore_n 1, 1) := by decide +kernel
theorem md_M_clearText_5 : decode prog_14_method_25_code 5 = .ok (.aload_n 0, 1) := by decide +kernel
theorem md_M_clearText_6 : decode prog_14_method_25_code 6 = .ok (.iconst 0, 1) := by decide +kernel
theorem md_M_clearText_7 : decode prog_14_method_25_code 7 = .ok (.putfield 114, 3) := by decide +kernel
theorem md_M_clearText_10 : decode prog_14_method_25_code 10 = .ok (.iload_n 1, 1) := by decide +kernel
theorem md_M_clearText_11 : decode prog_14_method_25_code 11 = .ok (.ireturn, 1) := by decide +kernel
def mf_M_clearText (x0 : Nat) (σ : pw_Sto) : Option (Int × pw_Sto) := pw_gd 10 x0 σ ((pw_gi 10 x0 5 σ).bind (fun v1 => (pw_pi 10 x0 5 (0 : Int) σ).bind (fun s2 => some (v1, s2))))
set_option maxHeartbeats 4000000 in
set_option maxRecDepth 20000 in
theorem mc_M_clearText {l : Launch} {E : pw_E} {σ : pw_Sto} {x0 : Nat} {out : Int × pw_Sto} (h : mf_M_clearText x0 σ = some out) : pw_CI l E my_M_clearText prog_14_method_25_code 2 (some .int) mr_M_clearText [.ref x0] σ out := by
  unfold mf_M_clearText at h
  refine pw_entryI (by decide) (Nat.le_of_ble_eq_true rfl) (pw_gd_val h) (fun X hX hR hI => ?_)
  change pw_Ok X prog_14_method_25_code "PadeWorkbenchModel" mr_M_clearText 2 at hX
  show pw_Sp X 0 0 0 [(0, Value.ref x0)] [] σ _
  refine sp_aload_n (pc := 0) (k := 0) (i := 0) hX rfl 0 rfl md_M_clearText_0 ?_
  refine sp_getI (pc := 1) (ci := 10) (k := 5) (idx := 114) hX mcl_10 (by decide) mq_804 rfl md_M_clearText_1 (fun v1 => ?_)
  refine sp_istore_n (pc := 4) (k := 1) (i := 1) (L' := [(1, Value.int (iI v1)), (0, Value.ref x0)]) hX rfl (by decide) rfl md_M_clearText_4 ?_
  refine sp_aload_n (pc := 5) (k := 0) (i := 0) hX rfl 1 rfl md_M_clearText_5 ?_
  refine sp_iconst (pc := 6) hX md_M_clearText_6 ?_
  refine sp_putI (pc := 7) (ci := 10) (k := 5) (idx := 114) hX mcl_10 (by decide) mq_804 rfl rfl rfl md_M_clearText_7 (fun s2 => ?_)
  refine sp_iload_n (pc := 10) (k := 1) (i := 1) hX rfl 0 rfl md_M_clearText_10 ?_
  exact sp_iret (pc := 11) hX hR rfl (Nat.le_of_ble_eq_true rfl) md_M_clearText_11
/-! PadeWorkbenchModel.here()I -/
theorem md_M_here_0 : decode prog_14_method_26_code 0 = .ok (.aload_n 0, 1) := by decide +kernel
theorem md_M_here_1 : decode prog_14_method_26_code 1 = .ok (.getfield 117, 3) := by decide +kernel
theorem md_M_here_4 : decode prog_14_method_26_code 4 = .ok (.aload_n 0, 1) := by decide +kernel
theorem md_M_here_5 : decode prog_14_method_26_code 5 = .ok (.getfield 114, 3) := by decide +kernel
theorem md_M_here_8 : decode prog_14_method_26_code 8 = .ok (.if_icmp .ge 15, 3) := by decide +kernel
theorem md_M_here_23 : decode prog_14_method_26_code 23 = .ok (.iconst (-1), 1) := by decide +kernel
theorem md_M_here_24 : decode prog_14_method_26_code 24 = .ok (.ireturn, 1) := by decide +kernel
theorem md_M_here_11 : decode prog_14_method_26_code 11 = .ok (.aload_n 0, 1) := by decide +kernel
theorem md_M_here_12 : decode prog_14_method_26_code 12 = .ok (.getfield 19, 3) := by decide +kernel
theorem md_M_here_15 : decode prog_14_method_26_code 15 = .ok (.aload_n 0, 1) := by decide +kernel
theorem md_M_here_16 : decode prog_14_method_26_code 16 = .ok (.getfield 117, 3) := by decide +kernel
theorem md_M_here_19 : decode prog_14_method_26_code 19 = .ok (.iaload, 1) := by decide +kernel
theorem md_M_here_20 : decode prog_14_method_26_code 20 = .ok (.goto 4, 3) := by decide +kernel
def mf_M_here (x0 : Nat) (σ : pw_Sto) : Option (Int × pw_Sto) := pw_gd 10 x0 σ ((pw_gi 10 x0 9 σ).bind (fun v1 => (pw_gi 10 x0 5 σ).bind (fun v2 => pw_ck v1 v2 (if v2 ≤ v1 then some ((-1 : Int), σ) else (pw_gr 10 x0 4 σ).bind (fun v3 => (pw_gi 10 x0 9 σ).bind (fun v4 => (pw_ai v3 v4 σ).bind (fun v5 => some (v5, σ))))))))
set_option maxHeartbeats 4000000 in
set_option maxRecDepth 20000 in
theorem mc_M_here {l : Launch} {E : pw_E} {σ : pw_Sto} {x0 : Nat} {out : Int × pw_Sto} (h : mf_M_here x0 σ = some out) : pw_CI l E my_M_here prog_14_method_26_code 1 (some .int) mr_M_here [.ref x0] σ out := by
  unfold mf_M_here at h
  refine pw_entryI (by decide) (Nat.le_of_ble_eq_true rfl) (pw_gd_val h) (fun X hX hR hI => ?_)
  change pw_Ok X prog_14_method_26_code "PadeWorkbenchModel" mr_M_here 1 at hX
  show pw_Sp X 0 0 0 [(0, Value.ref x0)] [] σ _
  refine sp_aload_n (pc := 0) (k := 0) (i := 0) hX rfl 0 rfl md_M_here_0 ?_
  refine sp_getI (pc := 1) (ci := 10) (k := 9) (idx := 117) hX mcl_10 (by decide) mq_808 rfl md_M_here_1 (fun v1 => ?_)
  refine sp_aload_n (pc := 4) (k := 0) (i := 0) hX rfl 0 rfl md_M_here_4 ?_
  refine sp_getI (pc := 5) (ci := 10) (k := 5) (idx := 114) hX mcl_10 (by decide) mq_804 rfl md_M_here_5 (fun v2 => ?_)
  refine sp_icmp_ge (pc := 8) hX 23 (by decide) md_M_here_8 (fun _ => ?_) (fun _ => ?_)
  · refine sp_iconst (pc := 23) hX md_M_here_23 ?_
    exact sp_iret (pc := 24) hX hR rfl (Nat.le_of_ble_eq_true rfl) md_M_here_24
  · refine sp_aload_n (pc := 11) (k := 0) (i := 0) hX rfl 0 rfl md_M_here_11 ?_
    refine sp_getR (pc := 12) (ci := 10) (k := 4) (idx := 19) hX mcl_10 (by decide) mq_803 rfl md_M_here_12 (fun v3 => ?_)
    refine sp_aload_n (pc := 15) (k := 0) (i := 0) hX rfl 0 rfl md_M_here_15 ?_
    refine sp_getI (pc := 16) (ci := 10) (k := 9) (idx := 117) hX mcl_10 (by decide) mq_808 rfl md_M_here_16 (fun v4 => ?_)
    refine sp_iaload (pc := 19) hX md_M_here_19 (fun v5 => ?_)
    refine sp_goto (pc := 20) hX 24 (by decide) md_M_here_20 ?_
    exact sp_iret (pc := 24) hX hR rfl (Nat.le_of_ble_eq_true rfl) md_M_here_24
/-! PadeWorkbenchModel.isDigit()Z -/
theorem md_M_isDigit_0 : decode prog_14_method_27_code 0 = .ok (.aload_n 0, 1) := by decide +kernel
theorem md_M_isDigit_1 : decode prog_14_method_27_code 1 = .ok (.invokevirtual 120, 3) := by decide +kernel
theorem md_M_isDigit_4 : decode prog_14_method_27_code 4 = .ok (.bipush 48, 2) := by decide +kernel
theorem md_M_isDigit_6 : decode prog_14_method_27_code 6 = .ok (.bipush 57, 2) := by decide +kernel
theorem md_M_isDigit_8 : decode prog_14_method_27_code 8 = .ok (.invokestatic 65, 3) := by decide +kernel
theorem md_M_isDigit_11 : decode prog_14_method_27_code 11 = .ok (.ireturn, 1) := by decide +kernel
def mf_M_isDigit (x0 : Nat) (σ : pw_Sto) : Option (Int × pw_Sto) := pw_gd 10 x0 σ (pw_bd (mf_M_here x0 σ) (fun v2 s1 => pw_bd (mf_M_in v2 (48 : Int) (57 : Int) s1) (fun v4 s3 => pw_z v4 s3)))
set_option maxHeartbeats 4000000 in
set_option maxRecDepth 20000 in
theorem mc_M_isDigit {l : Launch} {E : pw_E} {σ : pw_Sto} {x0 : Nat} {out : Int × pw_Sto} (h : mf_M_isDigit x0 σ = some out) : pw_CI l E my_M_isDigit prog_14_method_27_code 1 (some .boolean) mr_M_isDigit [.ref x0] σ out := by
  unfold mf_M_isDigit at h
  refine pw_entryZ (by decide) (Nat.le_of_ble_eq_true rfl) (pw_gd_val h) (fun X hX hR hI => ?_)
  change pw_Ok X prog_14_method_27_code "PadeWorkbenchModel" mr_M_isDigit 1 at hX
  show pw_Sp X 0 0 0 [(0, Value.ref x0)] [] σ _
  refine sp_aload_n (pc := 0) (k := 0) (i := 0) hX rfl 0 rfl md_M_isDigit_0 ?_
  refine sp_callVI (pc := 1) (y := my_M_here) (ccy := prog_14_method_26_code) (nLy := 1) (ret := (some .int)) (rmy := mr_M_here) (n := 0) (idx := 120) (As := []) (st := []) (o := x0) (cells' := 0) (slots' := 0) hX (fun _ h => mc_M_here h) mk_M_here mv_M_here mcl_10 (fun _ h => pw_gd_of h) mq_968 ⟨(Nat.le_of_ble_eq_true rfl), (Nat.le_of_ble_eq_true rfl)⟩ rfl rfl (Nat.le_of_ble_eq_true rfl) ⟨(Nat.le_of_ble_eq_true rfl), (Nat.le_of_ble_eq_true rfl)⟩ rfl rfl md_M_isDigit_1 (fun v2 s1 => ?_)
  refine sp_bipush (pc := 4) hX (by decide) md_M_isDigit_4 ?_
  refine sp_bipush (pc := 6) hX (by decide) md_M_isDigit_6 ?_
  refine sp_callSI (pc := 8) (y := my_M_in) (ccy := prog_14_method_2_code) (nLy := 3) (ret := (some .boolean)) (rmy := mr_M_in) (n := 3) (idx := 65) (As := [.int (iI v2), .int (iI (48 : Int)), .int (iI (57 : Int))]) (st := []) (cells' := 0) (slots' := 0) hX (fun _ h => mc_M_in h) mk_M_in mq_868 mq_867 ⟨(Nat.le_of_ble_eq_true rfl), (Nat.le_of_ble_eq_true rfl)⟩ rfl rfl (Nat.le_of_ble_eq_true rfl) ⟨(Nat.le_of_ble_eq_true rfl), (Nat.le_of_ble_eq_true rfl)⟩ rfl rfl md_M_isDigit_8 (fun v4 s3 => ?_)
  exact sp_zretg (pc := 11) hX hR rfl (Nat.le_of_ble_eq_true rfl) md_M_isDigit_11
/-! PadeWorkbenchModel.skip()V -/
theorem md_M_skip_0 : decode prog_14_method_28_code 0 = .ok (.aload_n 0, 1) := by decide +kernel
theorem md_M_skip_1 : decode prog_14_method_28_code 1 = .ok (.invokevirtual 120, 3) := by decide +kernel
theorem md_M_skip_4 : decode prog_14_method_28_code 4 = .ok (.bipush 32, 2) := by decide +kernel
theorem md_M_skip_6 : decode prog_14_method_28_code 6 = .ok (.if_icmp .ne 16, 3) := by decide +kernel
theorem md_M_skip_22 : decode prog_14_method_28_code 22 = .ok (.return_, 1) := by decide +kernel
theorem md_M_skip_9 : decode prog_14_method_28_code 9 = .ok (.aload_n 0, 1) := by decide +kernel
theorem md_M_skip_10 : decode prog_14_method_28_code 10 = .ok (.dup, 1) := by decide +kernel
theorem md_M_skip_11 : decode prog_14_method_28_code 11 = .ok (.getfield 117, 3) := by decide +kernel
theorem md_M_skip_14 : decode prog_14_method_28_code 14 = .ok (.iconst 1, 1) := by decide +kernel
theorem md_M_skip_15 : decode prog_14_method_28_code 15 = .ok (.iadd, 1) := by decide +kernel
theorem md_M_skip_16 : decode prog_14_method_28_code 16 = .ok (.putfield 117, 3) := by decide +kernel
theorem md_M_skip_19 : decode prog_14_method_28_code 19 = .ok (.goto (-19), 3) := by decide +kernel
def mb_M_skip_0 (rc : Nat → pw_Sto → Option (Unit × pw_Sto)) : Nat → pw_Sto → Option (Unit × pw_Sto) := fun x0 σ => pw_bd (mf_M_here x0 σ) (fun v2 s1 => pw_ck v2 (32 : Int) (if v2 = (32 : Int) then (pw_gi 10 x0 9 s1).bind (fun v3 => (pw_pi 10 x0 9 (v3 + (1 : Int)) s1).bind (fun s4 => rc x0 s4)) else some ((), s1)))
def ml_M_skip_0 : Nat → Nat → pw_Sto → Option (Unit × pw_Sto) := pw_lp (fun _ _ => none) (mb_M_skip_0)
def mf_M_skip (x0 : Nat) (σ : pw_Sto) : Option (Unit × pw_Sto) := pw_gd 10 x0 σ (ml_M_skip_0 1000 x0 σ)
set_option maxHeartbeats 4000000 in
set_option maxRecDepth 20000 in
theorem sl_M_skip_0 {X : pw_X Unit} (hX : pw_Ok X prog_14_method_28_code "PadeWorkbenchModel" mr_M_skip 1) (hR : pw_RV X prog_14_method_28_code) : ∀ (n : Nat) (x0 : Nat) (σ : pw_Sto), pw_Sp X 0 0 0 [(0, Value.ref x0)] [] σ (ml_M_skip_0 n x0 σ) := by
  intro n
  induction n with
  | zero => intros; exact pw_none
  | succ n ih =>
    intro x0 σ
    show pw_Sp X 0 0 0 _ _ σ (mb_M_skip_0 (ml_M_skip_0 n) x0 σ)
    unfold mb_M_skip_0
    refine sp_aload_n (pc := 0) (k := 0) (i := 0) hX rfl 0 rfl md_M_skip_0 ?_
    refine sp_callVI (pc := 1) (y := my_M_here) (ccy := prog_14_method_26_code) (nLy := 1) (ret := (some .int)) (rmy := mr_M_here) (n := 0) (idx := 120) (As := []) (st := []) (o := x0) (cells' := 0) (slots' := 0) hX (fun _ h => mc_M_here h) mk_M_here mv_M_here mcl_10 (fun _ h => pw_gd_of h) mq_968 ⟨(Nat.le_of_ble_eq_true rfl), (Nat.le_of_ble_eq_true rfl)⟩ rfl rfl (Nat.le_of_ble_eq_true rfl) ⟨(Nat.le_of_ble_eq_true rfl), (Nat.le_of_ble_eq_true rfl)⟩ rfl rfl md_M_skip_1 (fun v2 s1 => ?_)
    refine sp_bipush (pc := 4) hX (by decide) md_M_skip_4 ?_
    refine sp_icmp_ne (pc := 6) hX 22 (by decide) md_M_skip_6 (fun _ => ?_) (fun _ => ?_)
    · refine sp_aload_n (pc := 9) (k := 0) (i := 0) hX rfl 0 rfl md_M_skip_9 ?_
      refine sp_dup (pc := 10) hX rfl md_M_skip_10 ?_
      refine sp_getI (pc := 11) (ci := 10) (k := 9) (idx := 117) hX mcl_10 (by decide) mq_808 rfl md_M_skip_11 (fun v3 => ?_)
      refine sp_iconst (pc := 14) hX md_M_skip_14 ?_
      refine sp_iadd (pc := 15) hX md_M_skip_15 ?_
      refine sp_putI (pc := 16) (ci := 10) (k := 9) (idx := 117) hX mcl_10 (by decide) mq_808 rfl rfl rfl md_M_skip_16 (fun s4 => ?_)
      refine sp_goto (pc := 19) hX 0 (by decide) md_M_skip_19 ?_
      exact ih x0 s4
    · exact sp_vret (pc := 22) hX hR rfl (Nat.le_of_ble_eq_true rfl) md_M_skip_22
set_option maxHeartbeats 4000000 in
set_option maxRecDepth 20000 in
theorem mc_M_skip {l : Launch} {E : pw_E} {σ : pw_Sto} {x0 : Nat} {out : Unit × pw_Sto} (h : mf_M_skip x0 σ = some out) : pw_CV l E my_M_skip prog_14_method_28_code 1 none mr_M_skip [.ref x0] σ out := by
  unfold mf_M_skip at h
  refine pw_entryV (by decide) (Nat.le_of_ble_eq_true rfl) (pw_gd_val h) (fun X hX hR hI => ?_)
  change pw_Ok X prog_14_method_28_code "PadeWorkbenchModel" mr_M_skip 1 at hX
  show pw_Sp X 0 0 0 [(0, Value.ref x0)] [] σ _
  exact sl_M_skip_0 hX hR 1000 x0 σ
/-! PadeWorkbenchModel.readExponent()I -/
theorem md_M_readExponent_0 : decode prog_14_method_29_code 0 = .ok (.aload_n 0, 1) := by decide +kernel
theorem md_M_readExponent_1 : decode prog_14_method_29_code 1 = .ok (.invokevirtual 123, 3) := by decide +kernel
theorem md_M_readExponent_4 : decode prog_14_method_29_code 4 = .ok (.aload_n 0, 1) := by decide +kernel
theorem md_M_readExponent_5 : decode prog_14_method_29_code 5 = .ok (.invokevirtual 126, 3) := by decide +kernel
theorem md_M_readExponent_8 : decode prog_14_method_29_code 8 = .ok (.ifCond .ne 5, 3) := by decide +kernel
theorem md_M_readExponent_13 : decode prog_14_method_29_code 13 = .ok (.aload_n 0, 1) := by decide +kernel
theorem md_M_readExponent_14 : decode prog_14_method_29_code 14 = .ok (.getfield 117, 3) := by decide +kernel
theorem md_M_readExponent_17 : decode prog_14_method_29_code 17 = .ok (.istore_n 1, 1) := by decide +kernel
theorem md_M_readExponent_18 : decode prog_14_method_29_code 18 = .ok (.aload_n 0, 1) := by decide +kernel
theorem md_M_readExponent_19 : decode prog_14_method_29_code 19 = .ok (.invokevirtual 120, 3) := by decide +kernel
theorem md_M_readExponent_22 : decode prog_14_method_29_code 22 = .ok (.bipush 48, 2) := by decide +kernel
theorem md_M_readExponent_24 : decode prog_14_method_29_code 24 = .ok (.isub, 1) := by decide +kernel
theorem md_M_readExponent_25 : decode prog_14_method_29_code 25 = .ok (.istore_n 2, 1) := by decide +kernel
theorem md_M_readExponent_26 : decode prog_14_method_29_code 26 = .ok (.aload_n 0, 1) := by decide +kernel
theorem md_M_readExponent_27 : decode prog_14_method_29_code 27 = .ok (.dup, 1) := by decide +kernel
theorem md_M_readExponent_28 : decode prog_14_method_29_code 28 = .ok (.getfield 117, 3) := by decide +kernel
theorem md_M_readExponent_31 : decode prog_14_method_29_code 31 = .ok (.iconst 1, 1) := by decide +kernel
theorem md_M_readExponent_32 : decode prog_14_method_29_code 32 = .ok (.iadd, 1) := by decide +kernel
theorem md_M_readExponent_33 : decode prog_14_method_29_code 33 = .ok (.putfield 117, 3) := by decide +kernel
theorem md_M_readExponent_36 : decode prog_14_method_29_code 36 = .ok (.aload_n 0, 1) := by decide +kernel
theorem md_M_readExponent_37 : decode prog_14_method_29_code 37 = .ok (.invokevirtual 126, 3) := by decide +kernel
theorem md_M_readExponent_40 : decode prog_14_method_29_code 40 = .ok (.ifCond .eq 26, 3) := by decide +kernel
theorem md_M_readExponent_66 : decode prog_14_method_29_code 66 = .ok (.aload_n 0, 1) := by decide +kernel
theorem md_M_readExponent_67 : decode prog_14_method_29_code 67 = .ok (.invokevirtual 126, 3) := by decide +kernel
theorem md_M_readExponent_70 : decode prog_14_method_29_code 70 = .ok (.ifCond .eq 5, 3) := by decide +kernel
theorem md_M_readExponent_75 : decode prog_14_method_29_code 75 = .ok (.aload_n 0, 1) := by decide +kernel
theorem md_M_readExponent_76 : decode prog_14_method_29_code 76 = .ok (.iload_n 2, 1) := by decide +kernel
theorem md_M_readExponent_77 : decode prog_14_method_29_code 77 = .ok (.bipush 15, 2) := by decide +kernel
theorem md_M_readExponent_79 : decode prog_14_method_29_code 79 = .ok (.if_icmp .le 7, 3) := by decide +kernel
theorem md_M_readExponent_86 : decode prog_14_method_29_code 86 = .ok (.aload_n 0, 1) := by decide +kernel
theorem md_M_readExponent_87 : decode prog_14_method_29_code 87 = .ok (.getfield 117, 3) := by decide +kernel
theorem md_M_readExponent_90 : decode prog_14_method_29_code 90 = .ok (.putfield 117, 3) := by decide +kernel
theorem md_M_readExponent_93 : decode prog_14_method_29_code 93 = .ok (.iload_n 2, 1) := by decide +kernel
theorem md_M_readExponent_94 : decode prog_14_method_29_code 94 = .ok (.bipush 15, 2) := by decide +kernel
theorem md_M_readExponent_96 : decode prog_14_method_29_code 96 = .ok (.if_icmp .le 7, 3) := by decide +kernel
theorem md_M_readExponent_103 : decode prog_14_method_29_code 103 = .ok (.iload_n 2, 1) := by decide +kernel
theorem md_M_readExponent_104 : decode prog_14_method_29_code 104 = .ok (.ireturn, 1) := by decide +kernel
theorem md_M_readExponent_99 : decode prog_14_method_29_code 99 = .ok (.iconst (-1), 1) := by decide +kernel
theorem md_M_readExponent_100 : decode prog_14_method_29_code 100 = .ok (.goto 4, 3) := by decide +kernel
theorem md_M_readExponent_82 : decode prog_14_method_29_code 82 = .ok (.iload_n 1, 1) := by decide +kernel
theorem md_M_readExponent_83 : decode prog_14_method_29_code 83 = .ok (.goto 7, 3) := by decide +kernel
theorem md_M_readExponent_73 : decode prog_14_method_29_code 73 = .ok (.iconst (-1), 1) := by decide +kernel
theorem md_M_readExponent_74 : decode prog_14_method_29_code 74 = .ok (.ireturn, 1) := by decide +kernel
theorem md_M_readExponent_43 : decode prog_14_method_29_code 43 = .ok (.bipush 10, 2) := by decide +kernel
theorem md_M_readExponent_45 : decode prog_14_method_29_code 45 = .ok (.iload_n 2, 1) := by decide +kernel
theorem md_M_readExponent_46 : decode prog_14_method_29_code 46 = .ok (.imul, 1) := by decide +kernel
theorem md_M_readExponent_47 : decode prog_14_method_29_code 47 = .ok (.aload_n 0, 1) := by decide +kernel
theorem md_M_readExponent_48 : decode prog_14_method_29_code 48 = .ok (.invokevirtual 120, 3) := by decide +kernel
theorem md_M_readExponent_51 : decode prog_14_method_29_code 51 = .ok (.iadd, 1) := by decide +kernel
theorem md_M_readExponent_52 : decode prog_14_method_29_code 52 = .ok (.bipush 48, 2) := by decide +kernel
theorem md_M_readExponent_54 : decode prog_14_method_29_code 54 = .ok (.isub, 1) := by decide +kernel
theorem md_M_readExponent_55 : decode prog_14_method_29_code 55 = .ok (.istore_n 2, 1) := by decide +kernel
theorem md_M_readExponent_56 : decode prog_14_method_29_code 56 = .ok (.aload_n 0, 1) := by decide +kernel
theorem md_M_readExponent_57 : decode prog_14_method_29_code 57 = .ok (.dup, 1) := by decide +kernel
theorem md_M_readExponent_58 : decode prog_14_method_29_code 58 = .ok (.getfield 117, 3) := by decide +kernel
theorem md_M_readExponent_61 : decode prog_14_method_29_code 61 = .ok (.iconst 1, 1) := by decide +kernel
theorem md_M_readExponent_62 : decode prog_14_method_29_code 62 = .ok (.iadd, 1) := by decide +kernel
theorem md_M_readExponent_63 : decode prog_14_method_29_code 63 = .ok (.putfield 117, 3) := by decide +kernel
theorem md_M_readExponent_11 : decode prog_14_method_29_code 11 = .ok (.iconst (-1), 1) := by decide +kernel
theorem md_M_readExponent_12 : decode prog_14_method_29_code 12 = .ok (.ireturn, 1) := by decide +kernel
def mj_M_readExponent_90 (x2 : Int) (y0 : Int) (y1 : Nat) (σ : pw_Sto) : Option (Int × pw_Sto) := (pw_pi 10 y1 9 y0 σ).bind (fun s14 => pw_ck x2 (15 : Int) (if x2 ≤ (15 : Int) then some (x2, s14) else some ((-1 : Int), s14)))
def mj_M_readExponent_66 (x0 : Nat) (x1 : Int) (x2 : Int) (σ : pw_Sto) : Option (Int × pw_Sto) := pw_bd (mf_M_isDigit x0 σ) (fun v12 s11 => pw_ck v12 0 (if v12 = 0 then pw_ck x2 (15 : Int) (if x2 ≤ (15 : Int) then (pw_gi 10 x0 9 s11).bind (fun v13 => mj_M_readExponent_90 x2 v13 x0 s11) else mj_M_readExponent_90 x2 x1 x0 s11) else some ((-1 : Int), s11)))
def mf_M_readExponent (x0 : Nat) (σ : pw_Sto) : Option (Int × pw_Sto) := pw_gd 10 x0 σ (pw_bd (mf_M_skip x0 σ) (fun _ s1 => pw_bd (mf_M_isDigit x0 s1) (fun v3 s2 => pw_ck v3 0 (if v3 = 0 then some ((-1 : Int), s2) else (pw_gi 10 x0 9 s2).bind (fun v4 => pw_bd (mf_M_here x0 s2) (fun v6 s5 => (pw_gi 10 x0 9 s5).bind (fun v7 => (pw_pi 10 x0 9 (v7 + (1 : Int)) s5).bind (fun s8 => pw_bd (mf_M_isDigit x0 s8) (fun v10 s9 => pw_ck v10 0 (if v10 = 0 then mj_M_readExponent_66 x0 v4 (v6 - (48 : Int)) s9 else pw_bd (mf_M_here x0 s9) (fun v16 s15 => (pw_gi 10 x0 9 s15).bind (fun v17 => (pw_pi 10 x0 9 (v17 + (1 : Int)) s15).bind (fun s18 => mj_M_readExponent_66 x0 v4 ((((10 : Int) * (v6 - (48 : Int))) + v16) - (48 : Int)) s18)))))))))))))
set_option maxHeartbeats 4000000 in
set_option maxRecDepth 20000 in
theorem sj_M_readExponent_90 {X : pw_X Int} (hX : pw_Ok X prog_14_method_29_code "PadeWorkbenchModel" mr_M_readExponent 3) (hR : pw_RI X prog_14_method_29_code) (x2 : Int) (y0 : Int) (y1 : Nat) (σ : pw_Sto) : pw_Sp X 0 0 90 [(2, Value.int (iI x2))] [Value.int (iI y0), Value.ref y1] σ (mj_M_readExponent_90 x2 y0 y1 σ) := by
  unfold mj_M_readExponent_90
  refine sp_putI (pc := 90) (ci := 10) (k := 9) (idx := 117) hX mcl_10 (by decide) mq_808 rfl rfl rfl md_M_readExponent_90 (fun s14 => ?_)
  refine sp_iload_n (pc := 93) (k := 2) (i := 2) hX rfl 0 rfl md_M_readExponent_93 ?_
  refine sp_bipush (pc := 94) hX (by decide) md_M_readExponent_94 ?_
  refine sp_icmp_le (pc := 96) hX 103 (by decide) md_M_readExponent_96 (fun _ => ?_) (fun _ => ?_)
  · refine sp_iload_n (pc := 103) (k := 2) (i := 2) hX rfl 0 rfl md_M_readExponent_103 ?_
    exact sp_iret (pc := 104) hX hR rfl (Nat.le_of_ble_eq_true rfl) md_M_readExponent_104
  · refine sp_iconst (pc := 99) hX md_M_readExponent_99 ?_
    refine sp_goto (pc := 100) hX 104 (by decide) md_M_readExponent_100 ?_
    exact sp_iret (pc := 104) hX hR rfl (Nat.le_of_ble_eq_true rfl) md_M_readExponent_104
set_option maxHeartbeats 4000000 in
set_option maxRecDepth 20000 in
theorem sj_M_readExponent_66 {X : pw_X Int} (hX : pw_Ok X prog_14_method_29_code "PadeWorkbenchModel" mr_M_readExponent 3) (hR : pw_RI X prog_14_method_29_code) (x0 : Nat) (x1 : Int) (x2 : Int) (σ : pw_Sto) : pw_Sp X 0 0 66 [(0, Value.ref x0), (1, Value.int (iI x1)), (2, Value.int (iI x2))] [] σ (mj_M_readExponent_66 x0 x1 x2 σ) := by
  unfold mj_M_readExponent_66
  refine sp_aload_n (pc := 66) (k := 0) (i := 0) hX rfl 0 rfl md_M_readExponent_66 ?_
  refine sp_callVI (pc := 67) (y := my_M_isDigit) (ccy := prog_14_method_27_code) (nLy := 1) (ret := (some .boolean)) (rmy := mr_M_isDigit) (n := 0) (idx := 126) (As := []) (st := []) (o := x0) (cells' := 0) (slots' := 0) hX (fun _ h => mc_M_isDigit h) mk_M_isDigit mv_M_isDigit mcl_10 (fun _ h => pw_gd_of h) mq_976 ⟨(Nat.le_of_ble_eq_true rfl), (Nat.le_of_ble_eq_true rfl)⟩ rfl rfl (Nat.le_of_ble_eq_true rfl) ⟨(Nat.le_of_ble_eq_true rfl), (Nat.le_of_ble_eq_true rfl)⟩ rfl rfl md_M_readExponent_67 (fun v12 s11 => ?_)
  refine sp_if_eq (pc := 70) hX 75 (by decide) md_M_readExponent_70 (fun _ => ?_) (fun _ => ?_)
  · refine sp_aload_n (pc := 75) (k := 0) (i := 0) hX rfl 0 rfl md_M_readExponent_75 ?_
    refine sp_iload_n (pc := 76) (k := 2) (i := 2) hX rfl 2 rfl md_M_readExponent_76 ?_
    refine sp_bipush (pc := 77) hX (by decide) md_M_readExponent_77 ?_
    refine sp_icmp_le (pc := 79) hX 86 (by decide) md_M_readExponent_79 (fun _ => ?_) (fun _ => ?_)
    · refine sp_aload_n (pc := 86) (k := 0) (i := 0) hX rfl 0 rfl md_M_readExponent_86 ?_
      refine sp_getI (pc := 87) (ci := 10) (k := 9) (idx := 117) hX mcl_10 (by decide) mq_808 rfl md_M_readExponent_87 (fun v13 => ?_)
      refine sp_sub [2] (L' := [(2, Value.int (iI x2))]) rfl ?_
      exact sj_M_readExponent_90 hX hR x2 v13 x0 s11
    · refine sp_iload_n (pc := 82) (k := 1) (i := 1) hX rfl 1 rfl md_M_readExponent_82 ?_
      refine sp_goto (pc := 83) hX 90 (by decide) md_M_readExponent_83 ?_
      refine sp_sub [2] (L' := [(2, Value.int (iI x2))]) rfl ?_
      exact sj_M_readExponent_90 hX hR x2 x1 x0 s11
  · refine sp_iconst (pc := 73) hX md_M_readExponent_73 ?_
    exact sp_iret (pc := 74) hX hR rfl (Nat.le_of_ble_eq_true rfl) md_M_readExponent_74
set_option maxHeartbeats 4000000 in
set_option maxRecDepth 20000 in
theorem mc_M_readExponent {l : Launch} {E : pw_E} {σ : pw_Sto} {x0 : Nat} {out : Int × pw_Sto} (h : mf_M_readExponent x0 σ = some out) : pw_CI l E my_M_readExponent prog_14_method_29_code 3 (some .int) mr_M_readExponent [.ref x0] σ out := by
  unfold mf_M_readExponent at h
  refine pw_entryI (by decide) (Nat.le_of_ble_eq_true rfl) (pw_gd_val h) (fun X hX hR hI => ?_)
  change pw_Ok X prog_14_method_29_code "PadeWorkbenchModel" mr_M_readExponent 3 at hX
  show pw_Sp X 0 0 0 [(0, Value.ref x0)] [] σ _
  refine sp_aload_n (pc := 0) (k := 0) (i := 0) hX rfl 0 rfl md_M_readExponent_0 ?_
  refine sp_callVV (pc := 1) (y := my_M_skip) (ccy := prog_14_method_28_code) (nLy := 1) (ret := none) (rmy := mr_M_skip) (n := 0) (idx := 123) (As := []) (st := []) (o := x0) (cells' := 0) (slots' := 0) hX (fun _ h => mc_M_skip h) mk_M_skip mv_M_skip mcl_10 (fun _ h => pw_gd_of h) mq_964 ⟨(Nat.le_of_ble_eq_true rfl), (Nat.le_of_ble_eq_true rfl)⟩ rfl rfl (Nat.le_of_ble_eq_true rfl) ⟨(Nat.le_of_ble_eq_true rfl), (Nat.le_of_ble_eq_true rfl)⟩ rfl rfl md_M_readExponent_1 (fun s1 => ?_)
  refine sp_aload_n (pc := 4) (k := 0) (i := 0) hX rfl 0 rfl md_M_readExponent_4 ?_
  refine sp_callVI (pc := 5) (y := my_M_isDigit) (ccy := prog_14_method_27_code) (nLy := 1) (ret := (some .boolean)) (rmy := mr_M_isDigit) (n := 0) (idx := 126) (As := []) (st := []) (o := x0) (cells' := 0) (slots' := 0) hX (fun _ h => mc_M_isDigit h) mk_M_isDigit mv_M_isDigit mcl_10 (fun _ h => pw_gd_of h) mq_976 ⟨(Nat.le_of_ble_eq_true rfl), (Nat.le_of_ble_eq_true rfl)⟩ rfl rfl (Nat.le_of_ble_eq_true rfl) ⟨(Nat.le_of_ble_eq_true rfl), (Nat.le_of_ble_eq_true rfl)⟩ rfl rfl md_M_readExponent_5 (fun v3 s2 => ?_)
  refine sp_if_ne (pc := 8) hX 13 (by decide) md_M_readExponent_8 (fun _ => ?_) (fun _ => ?_)
  · refine sp_iconst (pc := 11) hX md_M_readExponent_11 ?_
    exact sp_iret (pc := 12) hX hR rfl (Nat.le_of_ble_eq_true rfl) md_M_readExponent_12
  · refine sp_aload_n (pc := 13) (k := 0) (i := 0) hX rfl 0 rfl md_M_readExponent_13 ?_
    refine sp_getI (pc := 14) (ci := 10) (k := 9) (idx := 117) hX mcl_10 (by decide) mq_808 rfl md_M_readExponent_14 (fun v4 => ?_)
    refine sp_istore_n (pc := 17) (k := 1) (i := 1) (L' := [(1, Value.int (iI v4)), (0, Value.ref x0)]) hX rfl (by decide) rfl md_M_readExponent_17 ?_
    refine sp_aload_n (pc := 18) (k := 0) (i := 0) hX rfl 1 rfl md_M_readExponent_18 ?_
    refine sp_callVI (pc := 19) (y := my_M_here) (ccy := prog_14_method_26_code) (nLy := 1) (ret := (some .int)) (rmy := mr_M_here) (n := 0) (idx := 120) (As := []) (st := []) (o := x0) (cells' := 0) (slots' := 0) hX (fun _ h => mc_M_here h) mk_M_here mv_M_here mcl_10 (fun _ h => pw_gd_of h) mq_968 ⟨(Nat.le_of_ble_eq_true rfl), (Nat.le_of_ble_eq_true rfl)⟩ rfl rfl (Nat.le_of_ble_eq_true rfl) ⟨(Nat.le_of_ble_eq_true rfl), (Nat.le_of_ble_eq_true rfl)⟩ rfl rfl md_M_readExponent_19 (fun v6 s5 => ?_)
    refine sp_bipush (pc := 22) hX (by decide) md_M_readExponent_22 ?_
    refine sp_isub (pc := 24) hX md_M_readExponent_24 ?_
    refine sp_istore_n (pc := 25) (k := 2) (i := 2) (L' := [(2, Value.int (iI (v6 - (48 : Int)))), (1, Value.int (iI v4)), (0, Value.ref x0)]) hX rfl (by decide) rfl md_M_readExponent_25 ?_
    refine sp_aload_n (pc := 26) (k := 0) (i := 0) hX rfl 2 rfl md_M_readExponent_26 ?_
    refine sp_dup (pc := 27) hX rfl md_M_readExponent_27 ?_
    refine sp_getI (pc := 28) (ci := 10) (k := 9) (idx := 117) hX mcl_10 (by decide) mq_808 rfl md_M_readExponent_28 (fun v7 => ?_)
    refine sp_iconst (pc := 31) hX md_M_readExponent_31 ?_
    refine sp_iadd (pc := 32) hX md_M_readExponent_32 ?_
    refine sp_putI (pc := 33) (ci := 10) (k := 9) (idx := 117) hX mcl_10 (by decide) mq_808 rfl rfl rfl md_M_readExponent_33 (fun s8 => ?_)
    refine sp_aload_n (pc := 36) (k := 0) (i := 0) hX rfl 2 rfl md_M_readExponent_36 ?_
    refine sp_callVI (pc := 37) (y := my_M_isDigit) (ccy := prog_14_method_27_code) (nLy := 1) (ret := (some .boolean)) (rmy := mr_M_isDigit) (n := 0) (idx := 126) (As := []) (st := []) (o := x0) (cells' := 0) (slots' := 0) hX (fun _ h => mc_M_isDigit h) mk_M_isDigit mv_M_isDigit mcl_10 (fun _ h => pw_gd_of h) mq_976 ⟨(Nat.le_of_ble_eq_true rfl), (Nat.le_of_ble_eq_true rfl)⟩ rfl rfl (Nat.le_of_ble_eq_true rfl) ⟨(Nat.le_of_ble_eq_true rfl), (Nat.le_of_ble_eq_true rfl)⟩ rfl rfl md_M_readExponent_37 (fun v10 s9 => ?_)
    refine sp_if_eq (pc := 40) hX 66 (by decide) md_M_readExponent_40 (fun _ => ?_) (fun _ => ?_)
    · refine sp_sub [2, 1, 0] (L' := [(0, Value.ref x0), (1, Value.int (iI v4)), (2, Value.int (iI (v6 - (48 : Int))))]) rfl ?_
      exact sj_M_readExponent_66 hX hR x0 v4 (v6 - (48 : Int)) s9
    · refine sp_bipush (pc := 43) hX (by decide) md_M_readExponent_43 ?_
      refine sp_iload_n (pc := 45) (k := 2) (i := 2) hX rfl 0 rfl md_M_readExponent_45 ?_
      refine sp_imul (pc := 46) hX md_M_readExponent_46 ?_
      refine sp_aload_n (pc := 47) (k := 0) (i := 0) hX rfl 2 rfl md_M_readExponent_47 ?_
      refine sp_callVI (pc := 48) (y := my_M_here) (ccy := prog_14_method_26_code) (nLy := 1) (ret := (some .int)) (rmy := mr_M_here) (n := 0) (idx := 120) (As := []) (st := [.int (iI ((10 : Int) * (v6 - (48 : Int))))]) (o := x0) (cells' := 0) (slots' := 0) hX (fun _ h => mc_M_here h) mk_M_here mv_M_here mcl_10 (fun _ h => pw_gd_of h) mq_968 ⟨(Nat.le_of_ble_eq_true rfl), (Nat.le_of_ble_eq_true rfl)⟩ rfl rfl (Nat.le_of_ble_eq_true rfl) ⟨(Nat.le_of_ble_eq_true rfl), (Nat.le_of_ble_eq_true rfl)⟩ rfl rfl md_M_readExponent_48 (fun v16 s15 => ?_)
      refine sp_iadd (pc := 51) hX md_M_readExponent_51 ?_
      refine sp_bipush (pc := 52) hX (by decide) md_M_readExponent_52 ?_
      refine sp_isub (pc := 54) hX md_M_readExponent_54 ?_
      refine sp_istore_n (pc := 55) (k := 2) (i := 2) (L' := [(2, Value.int (iI ((((10 : Int) * (v6 - (48 : Int))) + v16) - (48 : Int)))), (1, Value.int (iI v4)), (0, Value.ref x0)]) hX rfl (by decide) rfl md_M_readExponent_55 ?_
      refine sp_aload_n (pc := 56) (k := 0) (i := 0) hX rfl 2 rfl md_M_readExponent_56 ?_
      refine sp_dup (pc := 57) hX rfl md_M_readExponent_57 ?_
      refine sp_getI (pc := 58) (ci := 10) (k := 9) (idx := 117) hX mcl_10 (by decide) mq_808 rfl md_M_readExponent_58 (fun v17 => ?_)
      refine sp_iconst (pc := 61) hX md_M_readExponent_61 ?_
      refine sp_iadd (pc := 62) hX md_M_readExponent_62 ?_
      refine sp_putI (pc := 63) (ci := 10) (k := 9) (idx := 117) hX mcl_10 (by decide) mq_808 rfl rfl rfl md_M_readExponent_63 (fun s18 => ?_)
      refine sp_sub [2, 1, 0] (L' := [(0, Value.ref x0), (1, Value.int (iI v4)), (2, Value.int (iI ((((10 : Int) * (v6 - (48 : Int))) + v16) - (48 : Int))))]) rfl ?_
      exact sj_M_readExponent_66 hX hR x0 v4 ((((10 : Int) * (v6 - (48 : Int))) + v16) - (48 : Int)) s18
/-! PadeWorkbenchModel.readTerm([II)Z -/
theorem md_M_readTerm_0 : decode prog_14_method_30_code 0 = .ok (.aload_n 0, 1) := by decide +kernel
theorem md_M_readTerm_1 : decode prog_14_method_30_code 1 = .ok (.invokevirtual 123, 3) := by decide +kernel
theorem md_M_readTerm_4 : decode prog_14_method_30_code 4 = .ok (.iconst 0, 1) := by decide +kernel
theorem md_M_readTerm_5 : decode prog_14_method_30_code 5 = .ok (.istore_n 3, 1) := by decide +kernel
theorem md_M_readTerm_6 : decode prog_14_method_30_code 6 = .ok (.iconst 0, 1) := by decide +kernel
theorem md_M_readTerm_7 : decode prog_14_method_30_code 7 = .ok (.istore 4, 2) := by decide +kernel
theorem md_M_readTerm_9 : decode prog_14_method_30_code 9 = .ok (.aload_n 0, 1) := by decide +kernel
theorem md_M_readTerm_10 : decode prog_14_method_30_code 10 = .ok (.invokevirtual 126, 3) := by decide +kernel
theorem md_M_readTerm_13 : decode prog_14_method_30_code 13 = .ok (.ifCond .eq 38, 3) := by decide +kernel
theorem md_M_readTerm_51 : decode prog_14_method_30_code 51 = .ok (.aload_n 0, 1) := by decide +kernel
theorem md_M_readTerm_52 : decode prog_14_method_30_code 52 = .ok (.invokevirtual 126, 3) := by decide +kernel
theorem md_M_readTerm_55 : decode prog_14_method_30_code 55 = .ok (.ifCond .eq 5, 3) := by decide +kernel
theorem md_M_readTerm_60 : decode prog_14_method_30_code 60 = .ok (.aload_n 0, 1) := by decide +kernel
theorem md_M_readTerm_61 : decode prog_14_method_30_code 61 = .ok (.invokevirtual 123, 3) := by decide +kernel
theorem md_M_readTerm_64 : decode prog_14_method_30_code 64 = .ok (.iconst 0, 1) := by decide +kernel
theorem md_M_readTerm_65 : decode prog_14_method_30_code 65 = .ok (.istore 5, 2) := by decide +kernel
theorem md_M_readTerm_67 : decode prog_14_method_30_code 67 = .ok (.aload_n 0, 1) := by decide +kernel
theorem md_M_readTerm_68 : decode prog_14_method_30_code 68 = .ok (.invokevirtual 120, 3) := by decide +kernel
theorem md_M_readTerm_71 : decode prog_14_method_30_code 71 = .ok (.bipush 120, 2) := by decide +kernel
theorem md_M_readTerm_73 : decode prog_14_method_30_code 73 = .ok (.if_icmp .ne 59, 3) := by decide +kernel
theorem md_M_readTerm_132 : decode prog_14_method_30_code 132 = .ok (.iload 5, 2) := by decide +kernel
theorem md_M_readTerm_134 : decode prog_14_method_30_code 134 = .ok (.ifCond .lt 8, 3) := by decide +kernel
theorem md_M_readTerm_142 : decode prog_14_method_30_code 142 = .ok (.iconst 0, 1) := by decide +kernel
theorem md_M_readTerm_143 : decode prog_14_method_30_code 143 = .ok (.ireturn, 1) := by decide +kernel
theorem md_M_readTerm_137 : decode prog_14_method_30_code 137 = .ok (.iload 4, 2) := by decide +kernel
theorem md_M_readTerm_139 : decode prog_14_method_30_code 139 = .ok (.ifCond .ne 5, 3) := by decide +kernel
theorem md_M_readTerm_144 : decode prog_14_method_30_code 144 = .ok (.aload_n 1, 1) := by decide +kernel
theorem md_M_readTerm_145 : decode prog_14_method_30_code 145 = .ok (.iload 5, 2) := by decide +kernel
theorem md_M_readTerm_147 : decode prog_14_method_30_code 147 = .ok (.aload_n 0, 1) := by decide +kernel
theorem md_M_readTerm_148 : decode prog_14_method_30_code 148 = .ok (.aload_n 1, 1) := by decide +kernel
theorem md_M_readTerm_149 : decode prog_14_method_30_code 149 = .ok (.iload 5, 2) := by decide +kernel
theorem md_M_readTerm_151 : decode prog_14_method_30_code 151 = .ok (.iaload, 1) := by decide +kernel
theorem md_M_readTerm_152 : decode prog_14_method_30_code 152 = .ok (.iload_n 2, 1) := by decide +kernel
theorem md_M_readTerm_153 : decode prog_14_method_30_code 153 = .ok (.aload_n 0, 1) := by decide +kernel
theorem md_M_readTerm_154 : decode prog_14_method_30_code 154 = .ok (.iload_n 3, 1) := by decide +kernel
theorem md_M_readTerm_155 : decode prog_14_method_30_code 155 = .ok (.invokevirtual 91, 3) := by decide +kernel
theorem md_M_readTerm_158 : decode prog_14_method_30_code 158 = .ok (.imul, 1) := by decide +kernel
theorem md_M_readTerm_159 : decode prog_14_method_30_code 159 = .ok (.iadd, 1) := by decide +kernel
theorem md_M_readTerm_160 : decode prog_14_method_30_code 160 = .ok (.invokevirtual 91, 3) := by decide +kernel
theorem md_M_readTerm_163 : decode prog_14_method_30_code 163 = .ok (.iastore, 1) := by decide +kernel
theorem md_M_readTerm_164 : decode prog_14_method_30_code 164 = .ok (.iconst 1, 1) := by decide +kernel
theorem md_M_readTerm_165 : decode prog_14_method_30_code 165 = .ok (.ireturn, 1) := by decide +kernel
theorem md_M_readTerm_76 : decode prog_14_method_30_code 76 = .ok (.aload_n 0, 1) := by decide +kernel
theorem md_M_readTerm_77 : decode prog_14_method_30_code 77 = .ok (.dup, 1) := by decide +kernel
theorem md_M_readTerm_78 : decode prog_14_method_30_code 78 = .ok (.getfield 117, 3) := by decide +kernel
theorem md_M_readTerm_81 : decode prog_14_method_30_code 81 = .ok (.iconst 1, 1) := by decide +kernel
theorem md_M_readTerm_82 : decode prog_14_method_30_code 82 = .ok (.iadd, 1) := by decide +kernel
theorem md_M_readTerm_83 : decode prog_14_method_30_code 83 = .ok (.putfield 117, 3) := by decide +kernel
theorem md_M_readTerm_86 : decode prog_14_method_30_code 86 = .ok (.aload_n 0, 1) := by decide +kernel
theorem md_M_readTerm_87 : decode prog_14_method_30_code 87 = .ok (.invokevirtual 123, 3) := by decide +kernel
theorem md_M_readTerm_90 : decode prog_14_method_30_code 90 = .ok (.iconst 1, 1) := by decide +kernel
theorem md_M_readTerm_91 : decode prog_14_method_30_code 91 = .ok (.istore 5, 2) := by decide +kernel
theorem md_M_readTerm_93 : decode prog_14_method_30_code 93 = .ok (.aload_n 0, 1) := by decide +kernel
theorem md_M_readTerm_94 : decode prog_14_method_30_code 94 = .ok (.invokevirtual 120, 3) := by decide +kernel
theorem md_M_readTerm_97 : decode prog_14_method_30_code 97 = .ok (.bipush 94, 2) := by decide +kernel
theorem md_M_readTerm_99 : decode prog_14_method_30_code 99 = .ok (.if_icmp .ne 19, 3) := by decide +kernel
theorem md_M_readTerm_118 : decode prog_14_method_30_code 118 = .ok (.iload 4, 2) := by decide +kernel
theorem md_M_readTerm_120 : decode prog_14_method_30_code 120 = .ok (.ifCond .ne 7, 3) := by decide +kernel
theorem md_M_readTerm_127 : decode prog_14_method_30_code 127 = .ok (.iload_n 3, 1) := by decide +kernel
theorem md_M_readTerm_128 : decode prog_14_method_30_code 128 = .ok (.istore_n 3, 1) := by decide +kernel
theorem md_M_readTerm_129 : decode prog_14_method_30_code 129 = .ok (.iinc 4 1, 3) := by decide +kernel
theorem md_M_readTerm_123 : decode prog_14_method_30_code 123 = .ok (.iconst 1, 1) := by decide +kernel
theorem md_M_readTerm_124 : decode prog_14_method_30_code 124 = .ok (.goto 4, 3) := by decide +kernel
theorem md_M_readTerm_102 : decode prog_14_method_30_code 102 = .ok (.aload_n 0, 1) := by decide +kernel
theorem md_M_readTerm_103 : decode prog_14_method_30_code 103 = .ok (.dup, 1) := by decide +kernel
theorem md_M_readTerm_104 : decode prog_14_method_30_code 104 = .ok (.getfield 117, 3) := by decide +kernel
theorem md_M_readTerm_107 : decode prog_14_method_30_code 107 = .ok (.iconst 1, 1) := by decide +kernel
theorem md_M_readTerm_108 : decode prog_14_method_30_code 108 = .ok (.iadd, 1) := by decide +kernel
theorem md_M_readTerm_109 : decode prog_14_method_30_code 109 = .ok (.putfield 117, 3) := by decide +kernel
theorem md_M_readTerm_112 : decode prog_14_method_30_code 112 = .ok (.aload_n 0, 1) := by decide +kernel
theorem md_M_readTerm_113 : decode prog_14_method_30_code 113 = .ok (.invokevirtual 130, 3) := by decide +kernel
theorem md_M_readTerm_116 : decode prog_14_method_30_code 116 = .ok (.istore 5, 2) := by decide +kernel
theorem md_M_readTerm_58 : decode prog_14_method_30_code 58 = .ok (.iconst 0, 1) := by decide +kernel
theorem md_M_readTerm_59 : decode prog_14_method_30_code 59 = .ok (.ireturn, 1) := by decide +kernel
theorem md_M_readTerm_16 : decode prog_14_method_30_code 16 = .ok (.iload 4, 2) := by decide +kernel
theorem md_M_readTerm_18 : decode prog_14_method_30_code 18 = .ok (.iconst 4, 1) := by decide +kernel
theorem md_M_readTerm_19 : decode prog_14_method_30_code 19 = .ok (.if_icmp .ge 32, 3) := by decide +kernel
theorem md_M_readTerm_22 : decode prog_14_method_30_code 22 = .ok (.bipush 10, 2) := by decide +kernel
theorem md_M_readTerm_24 : decode prog_14_method_30_code 24 = .ok (.iload_n 3, 1) := by decide +kernel
theorem md_M_readTerm_25 : decode prog_14_method_30_code 25 = .ok (.imul, 1) := by decide +kernel
theorem md_M_readTerm_26 : decode prog_14_method_30_code 26 = .ok (.aload_n 0, 1) := by decide +kernel
theorem md_M_readTerm_27 : decode prog_14_method_30_code 27 = .ok (.invokevirtual 120, 3) := by decide +kernel
theorem md_M_readTerm_30 : decode prog_14_method_30_code 30 = .ok (.iadd, 1) := by decide +kernel
theorem md_M_readTerm_31 : decode prog_14_method_30_code 31 = .ok (.bipush 48, 2) := by decide +kernel
theorem md_M_readTerm_33 : decode prog_14_method_30_code 33 = .ok (.isub, 1) := by decide +kernel
theorem md_M_readTerm_34 : decode prog_14_method_30_code 34 = .ok (.istore_n 3, 1) := by decide +kernel
theorem md_M_readTerm_35 : decode prog_14_method_30_code 35 = .ok (.iinc 4 1, 3) := by decide +kernel
theorem md_M_readTerm_38 : decode prog_14_method_30_code 38 = .ok (.aload_n 0, 1) := by decide +kernel
theorem md_M_readTerm_39 : decode prog_14_method_30_code 39 = .ok (.dup, 1) := by decide +kernel
theorem md_M_readTerm_40 : decode prog_14_method_30_code 40 = .ok (.getfield 117, 3) := by decide +kernel
theorem md_M_readTerm_43 : decode prog_14_method_30_code 43 = .ok (.iconst 1, 1) := by decide +kernel
theorem md_M_readTerm_44 : decode prog_14_method_30_code 44 = .ok (.iadd, 1) := by decide +kernel
theorem md_M_readTerm_45 : decode prog_14_method_30_code 45 = .ok (.putfield 117, 3) := by decide +kernel
theorem md_M_readTerm_48 : decode prog_14_method_30_code 48 = .ok (.goto (-39), 3) := by decide +kernel
def mj_M_readTerm_132 (x0 : Nat) (x1 : Nat) (x2 : Int) (x3 : Int) (x4 : Int) (x5 : Int) (σ : pw_Sto) : Option (Int × pw_Sto) := pw_ck x5 0 (if x5 < 0 then some ((0 : Int), σ) else pw_ck x4 0 (if x4 = 0 then some ((0 : Int), σ) else (pw_ai x1 x5 σ).bind (fun v9 => pw_bd (mf_M_mod x0 x3 σ) (fun v11 s10 => pw_bd (mf_M_mod x0 (v9 + (x2 * v11)) s10) (fun v13 s12 => (pw_si x1 x5 v13 s12).bind (fun s14 => some ((1 : Int), s14)))))))
def mj_M_readTerm_128 (x0 : Nat) (x1 : Nat) (x2 : Int) (x4 : Int) (x5 : Int) (y0 : Int) (σ : pw_Sto) : Option (Int × pw_Sto) := mj_M_readTerm_132 x0 x1 x2 y0 (x4 + 1) x5 σ
def mj_M_readTerm_118 (x0 : Nat) (x1 : Nat) (x2 : Int) (x3 : Int) (x4 : Int) (x5 : Int) (σ : pw_Sto) : Option (Int × pw_Sto) := pw_ck x4 0 (if x4 = 0 then mj_M_readTerm_128 x0 x1 x2 x4 x5 (1 : Int) σ else mj_M_readTerm_128 x0 x1 x2 x4 x5 x3 σ)
def mj_M_readTerm_51 (x0 : Nat) (x1 : Nat) (x2 : Int) (x3 : Int) (x4 : Int) (σ : pw_Sto) : Option (Int × pw_Sto) := pw_bd (mf_M_isDigit x0 σ) (fun v5 s4 => pw_ck v5 0 (if v5 = 0 then pw_bd (mf_M_skip x0 s4) (fun _ s6 => pw_bd (mf_M_here x0 s6) (fun v8 s7 => pw_ck v8 (120 : Int) (if v8 = (120 : Int) then (pw_gi 10 x0 9 s7).bind (fun v15 => (pw_pi 10 x0 9 (v15 + (1 : Int)) s7).bind (fun s16 => pw_bd (mf_M_skip x0 s16) (fun _ s17 => pw_bd (mf_M_here x0 s17) (fun v19 s18 => pw_ck v19 (94 : Int) (if v19 = (94 : Int) then (pw_gi 10 x0 9 s18).bind (fun v20 => (pw_pi 10 x0 9 (v20 + (1 : Int)) s18).bind (fun s21 => pw_bd (mf_M_readExponent x0 s21) (fun v23 s22 => mj_M_readTerm_118 x0 x1 x2 x3 x4 v23 s22))) else mj_M_readTerm_118 x0 x1 x2 x3 x4 (1 : Int) s18))))) else mj_M_readTerm_132 x0 x1 x2 x3 x4 (0 : Int) s7))) else some ((0 : Int), s4)))
def mb_M_readTerm_9 (rc : Nat → Nat → Int → Int → Int → pw_Sto → Option (Int × pw_Sto)) : Nat → Nat → Int → Int → Int → pw_Sto → Option (Int × pw_Sto) := fun x0 x1 x2 x3 x4 σ => pw_bd (mf_M_isDigit x0 σ) (fun v3 s2 => pw_ck v3 0 (if v3 = 0 then mj_M_readTerm_51 x0 x1 x2 x3 x4 s2 else pw_ck x4 (4 : Int) (if (4 : Int) ≤ x4 then mj_M_readTerm_51 x0 x1 x2 x3 x4 s2 else pw_bd (mf_M_here x0 s2) (fun v25 s24 => (pw_gi 10 x0 9 s24).bind (fun v26 => (pw_pi 10 x0 9 (v26 + (1 : Int)) s24).bind (fun s27 => rc x0 x1 x2 ((((10 : Int) * x3) + v25) - (48 : Int)) (x4 + 1) s27))))))
def ml_M_readTerm_9 : Nat → Nat → Nat → Int → Int → Int → pw_Sto → Option (Int × pw_Sto) := pw_lp (fun _ _ _ _ _ _ => none) (mb_M_readTerm_9)
def mf_M_readTerm (x0 : Nat) (x1 : Nat) (x2 : Int) (σ : pw_Sto) : Option (Int × pw_Sto) := pw_gd 10 x0 σ (pw_bd (mf_M_skip x0 σ) (fun _ s1 => ml_M_readTerm_9 1000 x0 x1 x2 (0 : Int) (0 : Int) s1))
set_option maxHeartbeats 4000000 in
set_option maxRecDepth 20000 in
theorem sj_M_readTerm_132 {X : pw_X Int} (hX : pw_Ok X prog_14_method_30_code "PadeWorkbenchModel" mr_M_readTerm 6) (hR : pw_RZ X prog_14_method_30_code) (x0 : Nat) (x1 : Nat) (x2 : Int) (x3 : Int) (x4 : Int) (x5 : Int) (σ : pw_Sto) : pw_Sp X 0 0 132 [(0, Value.ref x0), (1, Value.ref x1), (2, Value.int (iI x2)), (3, Value.int (iI x3)), (4, Value.int (iI x4)), (5, Value.int (iI x5))] [] σ (mj_M_readTerm_132 x0 x1 x2 x3 x4 x5 σ) := by
  unfold mj_M_readTerm_132
  refine sp_iload (pc := 132) (i := 5) hX 5 rfl md_M_readTerm_132 ?_
  refine sp_if_lt (pc := 134) hX 142 (by decide) md_M_readTerm_134 (fun _ => ?_) (fun _ => ?_)
  · refine sp_iconst (pc := 142) hX md_M_readTerm_142 ?_
    exact sp_zret (pc := 143) hX hR (by decide) rfl (Nat.le_of_ble_eq_true rfl) md_M_readTerm_143
  · refine sp_iload (pc := 137) (i := 4) hX 4 rfl md_M_readTerm_137 ?_
    refine sp_if_ne (pc := 139) hX 144 (by decide) md_M_readTerm_139 (fun _ => ?_) (fun _ => ?_)
    · refine sp_iconst (pc := 142) hX md_M_readTerm_142 ?_
      exact sp_zret (pc := 143) hX hR (by decide) rfl (Nat.le_of_ble_eq_true rfl) md_M_readTerm_143
    · refine sp_aload_n (pc := 144) (k := 1) (i := 1) hX rfl 1 rfl md_M_readTerm_144 ?_
      refine sp_iload (pc := 145) (i := 5) hX 5 rfl md_M_readTerm_145 ?_
      refine sp_aload_n (pc := 147) (k := 0) (i := 0) hX rfl 0 rfl md_M_readTerm_147 ?_
      refine sp_aload_n (pc := 148) (k := 1) (i := 1) hX rfl 1 rfl md_M_readTerm_148 ?_
      refine sp_iload (pc := 149) (i := 5) hX 5 rfl md_M_readTerm_149 ?_
      refine sp_iaload (pc := 151) hX md_M_readTerm_151 (fun v9 => ?_)
      refine sp_iload_n (pc := 152) (k := 2) (i := 2) hX rfl 2 rfl md_M_readTerm_152 ?_
      refine sp_aload_n (pc := 153) (k := 0) (i := 0) hX rfl 0 rfl md_M_readTerm_153 ?_
      refine sp_iload_n (pc := 154) (k := 3) (i := 3) hX rfl 3 rfl md_M_readTerm_154 ?_
      refine sp_callVI (pc := 155) (y := my_M_mod) (ccy := prog_14_method_5_code) (nLy := 3) (ret := (some .int)) (rmy := mr_M_mod) (n := 1) (idx := 91) (As := [.int (iI x3)]) (st := [.int (iI x2), .int (iI v9), .ref x0, .int (iI x5), .ref x1]) (o := x0) (cells' := 0) (slots' := 0) hX (fun _ h => mc_M_mod h) mk_M_mod mv_M_mod mcl_10 (fun _ h => pw_gd_of h) mq_901 ⟨(Nat.le_of_ble_eq_true rfl), (Nat.le_of_ble_eq_true rfl)⟩ rfl rfl (Nat.le_of_ble_eq_true rfl) ⟨(Nat.le_of_ble_eq_true rfl), (Nat.le_of_ble_eq_true rfl)⟩ rfl rfl md_M_readTerm_155 (fun v11 s10 => ?_)
      refine sp_imul (pc := 158) hX md_M_readTerm_158 ?_
      refine sp_iadd (pc := 159) hX md_M_readTerm_159 ?_
      refine sp_callVI (pc := 160) (y := my_M_mod) (ccy := prog_14_method_5_code) (nLy := 3) (ret := (some .int)) (rmy := mr_M_mod) (n := 1) (idx := 91) (As := [.int (iI (v9 + (x2 * v11)))]) (st := [.int (iI x5), .ref x1]) (o := x0) (cells' := 0) (slots' := 0) hX (fun _ h => mc_M_mod h) mk_M_mod mv_M_mod mcl_10 (fun _ h => pw_gd_of h) mq_901 ⟨(Nat.le_of_ble_eq_true rfl), (Nat.le_of_ble_eq_true rfl)⟩ rfl rfl (Nat.le_of_ble_eq_true rfl) ⟨(Nat.le_of_ble_eq_true rfl), (Nat.le_of_ble_eq_true rfl)⟩ rfl rfl md_M_readTerm_160 (fun v13 s12 => ?_)
      refine sp_iastore (pc := 163) hX md_M_readTerm_163 (fun s14 => ?_)
      refine sp_iconst (pc := 164) hX md_M_readTerm_164 ?_
      exact sp_zret (pc := 165) hX hR (by decide) rfl (Nat.le_of_ble_eq_true rfl) md_M_readTerm_165
set_option maxHeartbeats 4000000 in
set_option maxRecDepth 20000 in
theorem sj_M_readTerm_128 {X : pw_X Int} (hX : pw_Ok X prog_14_method_30_code "PadeWorkbenchModel" mr_M_readTerm 6) (hR : pw_RZ X prog_14_method_30_code) (x0 : Nat) (x1 : Nat) (x2 : Int) (x4 : Int) (x5 : Int) (y0 : Int) (σ : pw_Sto) : pw_Sp X 0 0 128 [(0, Value.ref x0), (1, Value.ref x1), (2, Value.int (iI x2)), (4, Value.int (iI x4)), (5, Value.int (iI x5))] [Value.int (iI y0)] σ (mj_M_readTerm_128 x0 x1 x2 x4 x5 y0 σ) := by
  unfold mj_M_readTerm_128
  refine sp_istore_n (pc := 128) (k := 3) (i := 3) (L' := [(3, Value.int (iI y0)), (0, Value.ref x0), (1, Value.ref x1), (2, Value.int (iI x2)), (4, Value.int (iI x4)), (5, Value.int (iI x5))]) hX rfl (by decide) rfl md_M_readTerm_128 ?_
  refine sp_iinc (pc := 129) (i := 4) (L' := [(4, Value.int (iI (x4 + 1))), (3, Value.int (iI y0)), (0, Value.ref x0), (1, Value.ref x1), (2, Value.int (iI x2)), (5, Value.int (iI x5))]) hX 4 rfl (by decide) rfl md_M_readTerm_129 ?_
  refine sp_sub [2, 3, 4, 1, 0, 5] (L' := [(0, Value.ref x0), (1, Value.ref x1), (2, Value.int (iI x2)), (3, Value.int (iI y0)), (4, Value.int (iI (x4 + 1))), (5, Value.int (iI x5))]) rfl ?_
  exact sj_M_readTerm_132 hX hR x0 x1 x2 y0 (x4 + 1) x5 σ
set_option maxHeartbeats 4000000 in
set_option maxRecDepth 20000 in
theorem sj_M_readTerm_118 {X : pw_X Int} (hX : pw_Ok X prog_14_method_30_code "PadeWorkbenchModel" mr_M_readTerm 6) (hR : pw_RZ X prog_14_method_30_code) (x0 : Nat) (x1 : Nat) (x2 : Int) (x3 : Int) (x4 : Int) (x5 : Int) (σ : pw_Sto) : pw_Sp X 0 0 118 [(0, Value.ref x0), (1, Value.ref x1), (2, Value.int (iI x2)), (3, Value.int (iI x3)), (4, Value.int (iI x4)), (5, Value.int (iI x5))] [] σ (mj_M_readTerm_118 x0 x1 x2 x3 x4 x5 σ) := by
  unfold mj_M_readTerm_118
  refine sp_iload (pc := 118) (i := 4) hX 4 rfl md_M_readTerm_118 ?_
  refine sp_if_ne (pc := 120) hX 127 (by decide) md_M_readTerm_120 (fun _ => ?_) (fun _ => ?_)
  · refine sp_iconst (pc := 123) hX md_M_readTerm_123 ?_
    refine sp_goto (pc := 124) hX 128 (by decide) md_M_readTerm_124 ?_
    refine sp_sub [0, 1, 2, 4, 5] (L' := [(0, Value.ref x0), (1, Value.ref x1), (2, Value.int (iI x2)), (4, Value.int (iI x4)), (5, Value.int (iI x5))]) rfl ?_
    exact sj_M_readTerm_128 hX hR x0 x1 x2 x4 x5 (1 : Int) σ
  · refine sp_iload_n (pc := 127) (k := 3) (i := 3) hX rfl 3 rfl md_M_readTerm_127 ?_
    refine sp_sub [0, 1, 2, 4, 5] (L' := [(0, Value.ref x0), (1, Value.ref x1), (2, Value.int (iI x2)), (4, Value.int (iI x4)), (5, Value.int (iI x5))]) rfl ?_
    exact sj_M_readTerm_128 hX hR x0 x1 x2 x4 x5 x3 σ
set_option maxHeartbeats 4000000 in
set_option maxRecDepth 20000 in
theorem sj_M_readTerm_51 {X : pw_X Int} (hX : pw_Ok X prog_14_method_30_code "PadeWorkbenchModel" mr_M_readTerm 6) (hR : pw_RZ X prog_14_method_30_code) (x0 : Nat) (x1 : Nat) (x2 : Int) (x3 : Int) (x4 : Int) (σ : pw_Sto) : pw_Sp X 0 0 51 [(0, Value.ref x0), (1, Value.ref x1), (2, Value.int (iI x2)), (3, Value.int (iI x3)), (4, Value.int (iI x4))] [] σ (mj_M_readTerm_51 x0 x1 x2 x3 x4 σ) := by
  unfold mj_M_readTerm_51
  refine sp_aload_n (pc := 51) (k := 0) (i := 0) hX rfl 0 rfl md_M_readTerm_51 ?_
  refine sp_callVI (pc := 52) (y := my_M_isDigit) (ccy := prog_14_method_27_code) (nLy := 1) (ret := (some .boolean)) (rmy := mr_M_isDigit) (n := 0) (idx := 126) (As := []) (st := []) (o := x0) (cells' := 0) (slots' := 0) hX (fun _ h => mc_M_isDigit h) mk_M_isDigit mv_M_isDigit mcl_10 (fun _ h => pw_gd_of h) mq_976 ⟨(Nat.le_of_ble_eq_true rfl), (Nat.le_of_ble_eq_true rfl)⟩ rfl rfl (Nat.le_of_ble_eq_true rfl) ⟨(Nat.le_of_ble_eq_true rfl), (Nat.le_of_ble_eq_true rfl)⟩ rfl rfl md_M_readTerm_52 (fun v5 s4 => ?_)
  refine sp_if_eq (pc := 55) hX 60 (by decide) md_M_readTerm_55 (fun _ => ?_) (fun _ => ?_)
  · refine sp_aload_n (pc := 60) (k := 0) (i := 0) hX rfl 0 rfl md_M_readTerm_60 ?_
    refine sp_callVV (pc := 61) (y := my_M_skip) (ccy := prog_14_method_28_code) (nLy := 1) (ret := none) (rmy := mr_M_skip) (n := 0) (idx := 123) (As := []) (st := []) (o := x0) (cells' := 0) (slots' := 0) hX (fun _ h => mc_M_skip h) mk_M_skip mv_M_skip mcl_10 (fun _ h => pw_gd_of h) mq_964 ⟨(Nat.le_of_ble_eq_true rfl), (Nat.le_of_ble_eq_true rfl)⟩ rfl rfl (Nat.le_of_ble_eq_true rfl) ⟨(Nat.le_of_ble_eq_true rfl), (Nat.le_of_ble_eq_true rfl)⟩ rfl rfl md_M_readTerm_61 (fun s6 => ?_)
    refine sp_iconst (pc := 64) hX md_M_readTerm_64 ?_
    refine sp_istore (pc := 65) (i := 5) (L' := [(5, Value.int (iI (0 : Int))), (0, Value.ref x0), (1, Value.ref x1), (2, Value.int (iI x2)), (3, Value.int (iI x3)), (4, Value.int (iI x4))]) hX (by decide) rfl md_M_readTerm_65 ?_
    refine sp_aload_n (pc := 67) (k := 0) (i := 0) hX rfl 1 rfl md_M_readTerm_67 ?_
    refine sp_callVI (pc := 68) (y := my_M_here) (ccy := prog_14_method_26_code) (nLy := 1) (ret := (some .int)) (rmy := mr_M_here) (n := 0) (idx := 120) (As := []) (st := []) (o := x0) (cells' := 0) (slots' := 0) hX (fun _ h => mc_M_here h) mk_M_here mv_M_here mcl_10 (fun _ h => pw_gd_of h) mq_968 ⟨(Nat.le_of_ble_eq_true rfl), (Nat.le_of_ble_eq_true rfl)⟩ rfl rfl (Nat.le_of_ble_eq_true rfl) ⟨(Nat.le_of_ble_eq_true rfl), (Nat.le_of_ble_eq_true rfl)⟩ rfl rfl md_M_readTerm_68 (fun v8 s7 => ?_)
    refine sp_bipush (pc := 71) hX (by decide) md_M_readTerm_71 ?_
    refine sp_icmp_ne (pc := 73) hX 132 (by decide) md_M_readTerm_73 (fun _ => ?_) (fun _ => ?_)
    · refine sp_aload_n (pc := 76) (k := 0) (i := 0) hX rfl 1 rfl md_M_readTerm_76 ?_
      refine sp_dup (pc := 77) hX rfl md_M_readTerm_77 ?_
      refine sp_getI (pc := 78) (ci := 10) (k := 9) (idx := 117) hX mcl_10 (by decide) mq_808 rfl md_M_readTerm_78 (fun v15 => ?_)
      refine sp_iconst (pc := 81) hX md_M_readTerm_81 ?_
      refine sp_iadd (pc := 82) hX md_M_readTerm_82 ?_
      refine sp_putI (pc := 83) (ci := 10) (k := 9) (idx := 117) hX mcl_10 (by decide) mq_808 rfl rfl rfl md_M_readTerm_83 (fun s16 => ?_)
      refine sp_aload_n (pc := 86) (k := 0) (i := 0) hX rfl 1 rfl md_M_readTerm_86 ?_
      refine sp_callVV (pc := 87) (y := my_M_skip) (ccy := prog_14_method_28_code) (nLy := 1) (ret := none) (rmy := mr_M_skip) (n := 0) (idx := 123) (As := []) (st := []) (o := x0) (cells' := 0) (slots' := 0) hX (fun _ h => mc_M_skip h) mk_M_skip mv_M_skip mcl_10 (fun _ h => pw_gd_of h) mq_964 ⟨(Nat.le_of_ble_eq_true rfl), (Nat.le_of_ble_eq_true rfl)⟩ rfl rfl (Nat.le_of_ble_eq_true rfl) ⟨(Nat.le_of_ble_eq_true rfl), (Nat.le_of_ble_eq_true rfl)⟩ rfl rfl md_M_readTerm_87 (fun s17 => ?_)
      refine sp_iconst (pc := 90) hX md_M_readTerm_90 ?_
      refine sp_istore (pc := 91) (i := 5) (L' := [(5, Value.int (iI (1 : Int))), (0, Value.ref x0), (1, Value.ref x1), (2, Value.int (iI x2)), (3, Value.int (iI x3)), (4, Value.int (iI x4))]) hX (by decide) rfl md_M_readTerm_91 ?_
      refine sp_aload_n (pc := 93) (k := 0) (i := 0) hX rfl 1 rfl md_M_readTerm_93 ?_
      refine sp_callVI (pc := 94) (y := my_M_here) (ccy := prog_14_method_26_code) (nLy := 1) (ret := (some .int)) (rmy := mr_M_here) (n := 0) (idx := 120) (As := []) (st := []) (o := x0) (cells' := 0) (slots' := 0) hX (fun _ h => mc_M_here h) mk_M_here mv_M_here mcl_10 (fun _ h => pw_gd_of h) mq_968 ⟨(Nat.le_of_ble_eq_true rfl), (Nat.le_of_ble_eq_true rfl)⟩ rfl rfl (Nat.le_of_ble_eq_true rfl) ⟨(Nat.le_of_ble_eq_true rfl), (Nat.le_of_ble_eq_true rfl)⟩ rfl rfl md_M_readTerm_94 (fun v19 s18 => ?_)
      refine sp_bipush (pc := 97) hX (by decide) md_M_readTerm_97 ?_
      refine sp_icmp_ne (pc := 99) hX 118 (by decide) md_M_readTerm_99 (fun _ => ?_) (fun _ => ?_)
      · refine sp_aload_n (pc := 102) (k := 0) (i := 0) hX rfl 1 rfl md_M_readTerm_102 ?_
        refine sp_dup (pc := 103) hX rfl md_M_readTerm_103 ?_
        refine sp_getI (pc := 104) (ci := 10) (k := 9) (idx := 117) hX mcl_10 (by decide) mq_808 rfl md_M_readTerm_104 (fun v20 => ?_)
        refine sp_iconst (pc := 107) hX md_M_readTerm_107 ?_
        refine sp_iadd (pc := 108) hX md_M_readTerm_108 ?_
        refine sp_putI (pc := 109) (ci := 10) (k := 9) (idx := 117) hX mcl_10 (by decide) mq_808 rfl rfl rfl md_M_readTerm_109 (fun s21 => ?_)
        refine sp_aload_n (pc := 112) (k := 0) (i := 0) hX rfl 1 rfl md_M_readTerm_112 ?_
        refine sp_callVI (pc := 113) (y := my_M_readExponent) (ccy := prog_14_method_29_code) (nLy := 3) (ret := (some .int)) (rmy := mr_M_readExponent) (n := 0) (idx := 130) (As := []) (st := []) (o := x0) (cells' := 0) (slots' := 0) hX (fun _ h => mc_M_readExponent h) mk_M_readExponent mv_M_readExponent mcl_10 (fun _ h => pw_gd_of h) mq_980 ⟨(Nat.le_of_ble_eq_true rfl), (Nat.le_of_ble_eq_true rfl)⟩ rfl rfl (Nat.le_of_ble_eq_true rfl) ⟨(Nat.le_of_ble_eq_true rfl), (Nat.le_of_ble_eq_true rfl)⟩ rfl rfl md_M_readTerm_113 (fun v23 s22 => ?_)
        refine sp_istore (pc := 116) (i := 5) (L' := [(5, Value.int (iI v23)), (0, Value.ref x0), (1, Value.ref x1), (2, Value.int (iI x2)), (3, Value.int (iI x3)), (4, Value.int (iI x4))]) hX (by decide) rfl md_M_readTerm_116 ?_
        refine sp_sub [1, 2, 3, 4, 5, 0] (L' := [(0, Value.ref x0), (1, Value.ref x1), (2, Value.int (iI x2)), (3, Value.int (iI x3)), (4, Value.int (iI x4)), (5, Value.int (iI v23))]) rfl ?_
        exact sj_M_readTerm_118 hX hR x0 x1 x2 x3 x4 v23 s22
      · refine sp_sub [1, 2, 3, 4, 5, 0] (L' := [(0, Value.ref x0), (1, Value.ref x1), (2, Value.int (iI x2)), (3, Value.int (iI x3)), (4, Value.int (iI x4)), (5, Value.int (iI (1 : Int)))]) rfl ?_
        exact sj_M_readTerm_118 hX hR x0 x1 x2 x3 x4 (1 : Int) s18
    · refine sp_sub [1, 2, 3, 4, 5, 0] (L' := [(0, Value.ref x0), (1, Value.ref x1), (2, Value.int (iI x2)), (3, Value.int (iI x3)), (4, Value.int (iI x4)), (5, Value.int (iI (0 : Int)))]) rfl ?_
      exact sj_M_readTerm_132 hX hR x0 x1 x2 x3 x4 (0 : Int) s7
  · refine sp_iconst (pc := 58) hX md_M_readTerm_58 ?_
    exact sp_zret (pc := 59) hX hR (by decide) rfl (Nat.le_of_ble_eq_true rfl) md_M_readTerm_59
set_option maxHeartbeats 4000000 in
set_option maxRecDepth 20000 in
theorem sl_M_readTerm_9 {X : pw_X Int} (hX : pw_Ok X prog_14_method_30_code "PadeWorkbenchModel" mr_M_readTerm 6) (hR : pw_RZ X prog_14_method_30_code) : ∀ (n : Nat) (x0 : Nat) (x1 : Nat) (x2 : Int) (x3 : Int) (x4 : Int) (σ : pw_Sto), pw_Sp X 0 0 9 [(0, Value.ref x0), (1, Value.ref x1), (2, Value.int (iI x2)), (3, Value.int (iI x3)), (4, Value.int (iI x4))] [] σ (ml_M_readTerm_9 n x0 x1 x2 x3 x4 σ) := by
  intro n
  induction n with
  | zero => intros; exact pw_none
  | succ n ih =>
    intro x0 x1 x2 x3 x4 σ
    show pw_Sp X 0 0 9 _ _ σ (mb_M_readTerm_9 (ml_M_readTerm_9 n) x0 x1 x2 x3 x4 σ)
    unfold mb_M_readTerm_9
    refine sp_aload_n (pc := 9) (k := 0) (i := 0) hX rfl 0 rfl md_M_readTerm_9 ?_
    refine sp_callVI (pc := 10) (y := my_M_isDigit) (ccy := prog_14_method_27_code) (nLy := 1) (ret := (some .boolean)) (rmy := mr_M_isDigit) (n := 0) (idx := 126) (As := []) (st := []) (o := x0) (cells' := 0) (slots' := 0) hX (fun _ h => mc_M_isDigit h) mk_M_isDigit mv_M_isDigit mcl_10 (fun _ h => pw_gd_of h) mq_976 ⟨(Nat.le_of_ble_eq_true rfl), (Nat.le_of_ble_eq_true rfl)⟩ rfl rfl (Nat.le_of_ble_eq_true rfl) ⟨(Nat.le_of_ble_eq_true rfl), (Nat.le_of_ble_eq_true rfl)⟩ rfl rfl md_M_readTerm_10 (fun v3 s2 => ?_)
    refine sp_if_eq (pc := 13) hX 51 (by decide) md_M_readTerm_13 (fun _ => ?_) (fun _ => ?_)
    · exact sj_M_readTerm_51 hX hR x0 x1 x2 x3 x4 s2
    · refine sp_iload (pc := 16) (i := 4) hX 4 rfl md_M_readTerm_16 ?_
      refine sp_iconst (pc := 18) hX md_M_readTerm_18 ?_
      refine sp_icmp_ge (pc := 19) hX 51 (by decide) md_M_readTerm_19 (fun _ => ?_) (fun _ => ?_)
      · exact sj_M_readTerm_51 hX hR x0 x1 x2 x3 x4 s2
      · refine sp_bipush (pc := 22) hX (by decide) md_M_readTerm_22 ?_
        refine sp_iload_n (pc := 24) (k := 3) (i := 3) hX rfl 3 rfl md_M_readTerm_24 ?_
        refine sp_imul (pc := 25) hX md_M_readTerm_25 ?_
        refine sp_aload_n (pc := 26) (k := 0) (i := 0) hX rfl 0 rfl md_M_readTerm_26 ?_
        refine sp_callVI (pc := 27) (y := my_M_here) (ccy := prog_14_method_26_code) (nLy := 1) (ret := (some .int)) (rmy := mr_M_here) (n := 0) (idx := 120) (As := []) (st := [.int (iI ((10 : Int) * x3))]) (o := x0) (cells' := 0) (slots' := 0) hX (fun _ h => mc_M_here h) mk_M_here mv_M_here mcl_10 (fun _ h => pw_gd_of h) mq_968 ⟨(Nat.le_of_ble_eq_true rfl), (Nat.le_of_ble_eq_true rfl)⟩ rfl rfl (Nat.le_of_ble_eq_true rfl) ⟨(Nat.le_of_ble_eq_true rfl), (Nat.le_of_ble_eq_true rfl)⟩ rfl rfl md_M_readTerm_27 (fun v25 s24 => ?_)
        refine sp_iadd (pc := 30) hX md_M_readTerm_30 ?_
        refine sp_bipush (pc := 31) hX (by decide) md_M_readTerm_31 ?_
        refine sp_isub (pc := 33) hX md_M_readTerm_33 ?_
        refine sp_istore_n (pc := 34) (k := 3) (i := 3) (L' := [(3, Value.int (iI ((((10 : Int) * x3) + v25) - (48 : Int)))), (0, Value.ref x0), (1, Value.ref x1), (2, Value.int (iI x2)), (4, Value.int (iI x4))]) hX rfl (by decide) rfl md_M_readTerm_34 ?_
        refine sp_iinc (pc := 35) (i := 4) (L' := [(4, Value.int (iI (x4 + 1))), (3, Value.int (iI ((((10 : Int) * x3) + v25) - (48 : Int)))), (0, Value.ref x0), (1, Value.ref x1), (2, Value.int (iI x2))]) hX 4 rfl (by decide) rfl md_M_readTerm_35 ?_
        refine sp_aload_n (pc := 38) (k := 0) (i := 0) hX rfl 2 rfl md_M_readTerm_38 ?_
        refine sp_dup (pc := 39) hX rfl md_M_readTerm_39 ?_
        refine sp_getI (pc := 40) (ci := 10) (k := 9) (idx := 117) hX mcl_10 (by decide) mq_808 rfl md_M_readTerm_40 (fun v26 => ?_)
        refine sp_iconst (pc := 43) hX md_M_readTerm_43 ?_
        refine sp_iadd (pc := 44) hX md_M_readTerm_44 ?_
        refine sp_putI (pc := 45) (ci := 10) (k := 9) (idx := 117) hX mcl_10 (by decide) mq_808 rfl rfl rfl md_M_readTerm_45 (fun s27 => ?_)
        refine sp_goto (pc := 48) hX 9 (by decide) md_M_readTerm_48 ?_
        refine sp_sub [2, 3, 4, 1, 0] (L' := [(0, Value.ref x0), (1, Value.ref x1), (2, Value.int (iI x2)), (3, Value.int (iI ((((10 : Int) * x3) + v25) - (48 : Int)))), (4, Value.int (iI (x4 + 1)))]) rfl ?_
        exact ih x0 x1 x2 ((((10 : Int) * x3) + v25) - (48 : Int)) (x4 + 1) s27
set_option maxHeartbeats 4000000 in
set_option maxRecDepth 20000 in
theorem mc_M_readTerm {l : Launch} {E : pw_E} {σ : pw_Sto} {x0 : Nat} {x1 : Nat} {x2 : Int} {out : Int × pw_Sto} (h : mf_M_readTerm x0 x1 x2 σ = some out) : pw_CI l E my_M_readTerm prog_14_method_30_code 6 (some .boolean) mr_M_readTerm [.ref x0, .ref x1, .int (iI x2)] σ out := by
  unfold mf_M_readTerm at h
  refine pw_entryZ (by decide) (Nat.le_of_ble_eq_true rfl) (pw_gd_val h) (fun X hX hR hI => ?_)
  change pw_Ok X prog_14_method_30_code "PadeWorkbenchModel" mr_M_readTerm 6 at hX
  show pw_Sp X 0 0 0 [(0, Value.ref x0), (1, Value.ref x1), (2, Value.int (iI x2))] [] σ _
  refine sp_aload_n (pc := 0) (k := 0) (i := 0) hX rfl 0 rfl md_M_readTerm_0 ?_
  refine sp_callVV (pc := 1) (y := my_M_skip) (ccy := prog_14_method_28_code) (nLy := 1) (ret := none) (rmy := mr_M_skip) (n := 0) (idx := 123) (As := []) (st := []) (o := x0) (cells' := 0) (slots' := 0) hX (fun _ h => mc_M_skip h) mk_M_skip mv_M_skip mcl_10 (fun _ h => pw_gd_of h) mq_964 ⟨(Nat.le_of_ble_eq_true rfl), (Nat.le_of_ble_eq_true rfl)⟩ rfl rfl (Nat.le_of_ble_eq_true rfl) ⟨(Nat.le_of_ble_eq_true rfl), (Nat.le_of_ble_eq_true rfl)⟩ rfl rfl md_M_readTerm_1 (fun s1 => ?_)
  refine sp_iconst (pc := 4) hX md_M_readTerm_4 ?_
  refine sp_istore_n (pc := 5) (k := 3) (i := 3) (L' := [(3, Value.int (iI (0 : Int))), (0, Value.ref x0), (1, Value.ref x1), (2, Value.int (iI x2))]) hX rfl (by decide) rfl md_M_readTerm_5 ?_
  refine sp_iconst (pc := 6) hX md_M_readTerm_6 ?_
  refine sp_istore (pc := 7) (i := 4) (L' := [(4, Value.int (iI (0 : Int))), (3, Value.int (iI (0 : Int))), (0, Value.ref x0), (1, Value.ref x1), (2, Value.int (iI x2))]) hX (by decide) rfl md_M_readTerm_7 ?_
  refine sp_sub [2, 3, 4, 1, 0] (L' := [(0, Value.ref x0), (1, Value.ref x1), (2, Value.int (iI x2)), (3, Value.int (iI (0 : Int))), (4, Value.int (iI (0 : Int)))]) rfl ?_
  exact sl_M_readTerm_9 hX hR 1000 x0 x1 x2 (0 : Int) (0 : Int) s1
/-! PadeWorkbenchModel.readPolynomial([I)Z -/
theorem md_M_readPolynomial_0 : decode prog_14_method_31_code 0 = .ok (.aload_n 1, 1) := by decide +kernel
theorem md_M_readPolynomial_1 : decode prog_14_method_31_code 1 = .ok (.invokestatic 107, 3) := by decide +kernel
theorem md_M_readPolynomial_4 : decode prog_14_method_31_code 4 = .ok (.aload_n 0, 1) := by decide +kernel
theorem md_M_readPolynomial_5 : decode prog_14_method_31_code 5 = .ok (.invokevirtual 123, 3) := by decide +kernel
theorem md_M_readPolynomial_8 : decode prog_14_method_31_code 8 = .ok (.iconst 1, 1) := by decide +kernel
theorem md_M_readPolynomial_9 : decode prog_14_method_31_code 9 = .ok (.istore_n 2, 1) := by decide +kernel
theorem md_M_readPolynomial_10 : decode prog_14_method_31_code 10 = .ok (.aload_n 0, 1) := by decide +kernel
theorem md_M_readPolynomial_11 : decode prog_14_method_31_code 11 = .ok (.invokevirtual 120, 3) := by decide +kernel
theorem md_M_readPolynomial_14 : decode prog_14_method_31_code 14 = .ok (.bipush 45, 2) := by decide +kernel
theorem md_M_readPolynomial_16 : decode prog_14_method_31_code 16 = .ok (.if_icmp .ne 15, 3) := by decide +kernel
theorem md_M_readPolynomial_31 : decode prog_14_method_31_code 31 = .ok (.iconst 1, 1) := by decide +kernel
theorem md_M_readPolynomial_32 : decode prog_14_method_31_code 32 = .ok (.istore_n 3, 1) := by decide +kernel
theorem md_M_readPolynomial_33 : decode prog_14_method_31_code 33 = .ok (.iload_n 3, 1) := by decide +kernel
theorem md_M_readPolynomial_34 : decode prog_14_method_31_code 34 = .ok (.ifCond .eq 78, 3) := by decide +kernel
theorem md_M_readPolynomial_112 : decode prog_14_method_31_code 112 = .ok (.iconst 1, 1) := by decide +kernel
theorem md_M_readPolynomial_113 : decode prog_14_method_31_code 113 = .ok (.ireturn, 1) := by decide +kernel
theorem md_M_readPolynomial_37 : decode prog_14_method_31_code 37 = .ok (.aload_n 0, 1) := by decide +kernel
theorem md_M_readPolynomial_38 : decode prog_14_method_31_code 38 = .ok (.aload_n 1, 1) := by decide +kernel
theorem md_M_readPolynomial_39 : decode prog_14_method_31_code 39 = .ok (.iload_n 2, 1) := by decide +kernel
theorem md_M_readPolynomial_40 : decode prog_14_method_31_code 40 = .ok (.invokevirtual 133, 3) := by decide +kernel
theorem md_M_readPolynomial_43 : decode prog_14_method_31_code 43 = .ok (.ifCond .ne 5, 3) := by decide +kernel
theorem md_M_readPolynomial_48 : decode prog_14_method_31_code 48 = .ok (.aload_n 0, 1) := by decide +kernel
theorem md_M_readPolynomial_49 : decode prog_14_method_31_code 49 = .ok (.invokevirtual 123, 3) := by decide +kernel
theorem md_M_readPolynomial_52 : decode prog_14_method_31_code 52 = .ok (.aload_n 0, 1) := by decide +kernel
theorem md_M_readPolynomial_53 : decode prog_14_method_31_code 53 = .ok (.invokevirtual 120, 3) := by decide +kernel
theorem md_M_readPolynomial_56 : decode prog_14_method_31_code 56 = .ok (.bipush 43, 2) := by decide +kernel
theorem md_M_readPolynomial_58 : decode prog_14_method_31_code 58 = .ok (.if_icmp .eq 12, 3) := by decide +kernel
theorem md_M_readPolynomial_70 : decode prog_14_method_31_code 70 = .ok (.iconst 1, 1) := by decide +kernel
theorem md_M_readPolynomial_71 : decode prog_14_method_31_code 71 = .ok (.goto 4, 3) := by decide +kernel
theorem md_M_readPolynomial_75 : decode prog_14_method_31_code 75 = .ok (.istore_n 3, 1) := by decide +kernel
theorem md_M_readPolynomial_76 : decode prog_14_method_31_code 76 = .ok (.aload_n 0, 1) := by decide +kernel
theorem md_M_readPolynomial_77 : decode prog_14_method_31_code 77 = .ok (.invokevirtual 120, 3) := by decide +kernel
theorem md_M_readPolynomial_80 : decode prog_14_method_31_code 80 = .ok (.bipush 45, 2) := by decide +kernel
theorem md_M_readPolynomial_82 : decode prog_14_method_31_code 82 = .ok (.if_icmp .ne 7, 3) := by decide +kernel
theorem md_M_readPolynomial_89 : decode prog_14_method_31_code 89 = .ok (.iconst 1, 1) := by decide +kernel
theorem md_M_readPolynomial_90 : decode prog_14_method_31_code 90 = .ok (.istore_n 2, 1) := by decide +kernel
theorem md_M_readPolynomial_91 : decode prog_14_method_31_code 91 = .ok (.aload_n 0, 1) := by decide +kernel
theorem md_M_readPolynomial_92 : decode prog_14_method_31_code 92 = .ok (.dup, 1) := by decide +kernel
theorem md_M_readPolynomial_93 : decode prog_14_method_31_code 93 = .ok (.getfield 117, 3) := by decide +kernel
theorem md_M_readPolynomial_96 : decode prog_14_method_31_code 96 = .ok (.iload_n 3, 1) := by decide +kernel
theorem md_M_readPolynomial_97 : decode prog_14_method_31_code 97 = .ok (.ifCond .eq 7, 3) := by decide +kernel
theorem md_M_readPolynomial_104 : decode prog_14_method_31_code 104 = .ok (.iconst 0, 1) := by decide +kernel
theorem md_M_readPolynomial_105 : decode prog_14_method_31_code 105 = .ok (.iadd, 1) := by decide +kernel
theorem md_M_readPolynomial_106 : decode prog_14_method_31_code 106 = .ok (.putfield 117, 3) := by decide +kernel
theorem md_M_readPolynomial_109 : decode prog_14_method_31_code 109 = .ok (.goto (-76), 3) := by decide +kernel
theorem md_M_readPolynomial_100 : decode prog_14_method_31_code 100 = .ok (.iconst 1, 1) := by decide +kernel
theorem md_M_readPolynomial_101 : decode prog_14_method_31_code 101 = .ok (.goto 4, 3) := by decide +kernel
theorem md_M_readPolynomial_85 : decode prog_14_method_31_code 85 = .ok (.iconst (-1), 1) := by decide +kernel
theorem md_M_readPolynomial_86 : decode prog_14_method_31_code 86 = .ok (.goto 4, 3) := by decide +kernel
theorem md_M_readPolynomial_61 : decode prog_14_method_31_code 61 = .ok (.aload_n 0, 1) := by decide +kernel
theorem md_M_readPolynomial_62 : decode prog_14_method_31_code 62 = .ok (.invokevirtual 120, 3) := by decide +kernel
theorem md_M_readPolynomial_65 : decode prog_14_method_31_code 65 = .ok (.bipush 45, 2) := by decide +kernel
theorem md_M_readPolynomial_67 : decode prog_14_method_31_code 67 = .ok (.if_icmp .ne 7, 3) := by decide +kernel
theorem md_M_readPolynomial_74 : decode prog_14_method_31_code 74 = .ok (.iconst 0, 1) := by decide +kernel
theorem md_M_readPolynomial_46 : decode prog_14_method_31_code 46 = .ok (.iconst 0, 1) := by decide +kernel
theorem md_M_readPolynomial_47 : decode prog_14_method_31_code 47 = .ok (.ireturn, 1) := by decide +kernel
theorem md_M_readPolynomial_19 : decode prog_14_method_31_code 19 = .ok (.iconst (-1), 1) := by decide +kernel
theorem md_M_readPolynomial_20 : decode prog_14_method_31_code 20 = .ok (.istore_n 2, 1) := by decide +kernel
theorem md_M_readPolynomial_21 : decode prog_14_method_31_code 21 = .ok (.aload_n 0, 1) := by decide +kernel
theorem md_M_readPolynomial_22 : decode prog_14_method_31_code 22 = .ok (.dup, 1) := by decide +kernel
theorem md_M_readPolynomial_23 : decode prog_14_method_31_code 23 = .ok (.getfield 117, 3) := by decide +kernel
theorem md_M_readPolynomial_26 : decode prog_14_method_31_code 26 = .ok (.iconst 1, 1) := by decide +kernel
theorem md_M_readPolynomial_27 : decode prog_14_method_31_code 27 = .ok (.iadd, 1) := by decide +kernel
theorem md_M_readPolynomial_28 : decode prog_14_method_31_code 28 = .ok (.putfield 117, 3) := by decide +kernel
def mj_M_readPolynomial_90 (r33 : Nat → Nat → Int → Int → pw_Sto → Option (Int × pw_Sto)) (x0 : Nat) (x1 : Nat) (x3 : Int) (y0 : Int) (σ : pw_Sto) : Option (Int × pw_Sto) := (pw_gi 10 x0 9 σ).bind (fun v12 => pw_ck x3 0 (if x3 = 0 then (pw_pi 10 x0 9 (v12 + (0 : Int)) σ).bind (fun s13 => r33 x0 x1 y0 x3 s13) else (pw_pi 10 x0 9 (v12 + (1 : Int)) σ).bind (fun s14 => r33 x0 x1 y0 x3 s14)))
def mj_M_readPolynomial_75 (r33 : Nat → Nat → Int → Int → pw_Sto → Option (Int × pw_Sto)) (x0 : Nat) (x1 : Nat) (y0 : Int) (σ : pw_Sto) : Option (Int × pw_Sto) := pw_bd (mf_M_here x0 σ) (fun v11 s10 => pw_ck v11 (45 : Int) (if v11 = (45 : Int) then mj_M_readPolynomial_90 r33 x0 x1 y0 (-1 : Int) s10 else mj_M_readPolynomial_90 r33 x0 x1 y0 (1 : Int) s10))
def mj_M_readPolynomial_70 (r33 : Nat → Nat → Int → Int → pw_Sto → Option (Int × pw_Sto)) (x0 : Nat) (x1 : Nat) (σ : pw_Sto) : Option (Int × pw_Sto) := mj_M_readPolynomial_75 r33 x0 x1 (1 : Int) σ
def mb_M_readPolynomial_33 (rc : Nat → Nat → Int → Int → pw_Sto → Option (Int × pw_Sto)) : Nat → Nat → Int → Int → pw_Sto → Option (Int × pw_Sto) := fun x0 x1 x2 x3 σ => pw_ck x3 0 (if x3 = 0 then some ((1 : Int), σ) else pw_bd (mf_M_readTerm x0 x1 x2 σ) (fun v6 s5 => pw_ck v6 0 (if v6 = 0 then some ((0 : Int), s5) else pw_bd (mf_M_skip x0 s5) (fun _ s7 => pw_bd (mf_M_here x0 s7) (fun v9 s8 => pw_ck v9 (43 : Int) (if v9 = (43 : Int) then mj_M_readPolynomial_70 rc x0 x1 s8 else pw_bd (mf_M_here x0 s8) (fun v16 s15 => pw_ck v16 (45 : Int) (if v16 = (45 : Int) then mj_M_readPolynomial_70 rc x0 x1 s15 else mj_M_readPolynomial_75 rc x0 x1 (0 : Int) s15))))))))
def ml_M_readPolynomial_33 : Nat → Nat → Nat → Int → Int → pw_Sto → Option (Int × pw_Sto) := pw_lp (fun _ _ _ _ _ => none) (mb_M_readPolynomial_33)
def mf_M_readPolynomial (x0 : Nat) (x1 : Nat) (σ : pw_Sto) : Option (Int × pw_Sto) := pw_gd 10 x0 σ (pw_bd (mf_M_clear x1 σ) (fun _ s1 => pw_bd (mf_M_skip x0 s1) (fun _ s2 => pw_bd (mf_M_here x0 s2) (fun v4 s3 => pw_ck v4 (45 : Int) (if v4 = (45 : Int) then (pw_gi 10 x0 9 s3).bind (fun v17 => (pw_pi 10 x0 9 (v17 + (1 : Int)) s3).bind (fun s18 => ml_M_readPolynomial_33 1000 x0 x1 (-1 : Int) (1 : Int) s18)) else ml_M_readPolynomial_33 1000 x0 x1 (1 : Int) (1 : Int) s3)))))
set_option maxHeartbeats 4000000 in
set_option maxRecDepth 20000 in
theorem sj_M_readPolynomial_90 {X : pw_X Int} (hX : pw_Ok X prog_14_method_31_code "PadeWorkbenchModel" mr_M_readPolynomial 4) (hR : pw_RZ X prog_14_method_31_code) {r33 : Nat → Nat → Int → Int → pw_Sto → Option (Int × pw_Sto)} (h33 : ∀ (z0 : Nat) (z1 : Nat) (z2 : Int) (z3 : Int) (σ : pw_Sto), pw_Sp X 0 0 33 [(0, Value.ref z0), (1, Value.ref z1), (2, Value.int (iI z2)), (3, Value.int (iI z3))] [] σ (r33 z0 z1 z2 z3 σ)) (x0 : Nat) (x1 : Nat) (x3 : Int) (y0 : Int) (σ : pw_Sto) : pw_Sp X 0 0 90 [(0, Value.ref x0), (1, Value.ref x1), (3, Value.int (iI x3))] [Value.int (iI y0)] σ (mj_M_readPolynomial_90 r33 x0 x1 x3 y0 σ) := by
  unfold mj_M_readPolynomial_90
  refine sp_istore_n (pc := 90) (k := 2) (i := 2) (L' := [(2, Value.int (iI y0)), (0, Value.ref x0), (1, Value.ref x1), (3, Value.int (iI x3))]) hX rfl (by decide) rfl md_M_readPolynomial_90 ?_
  refine sp_aload_n (pc := 91) (k := 0) (i := 0) hX rfl 1 rfl md_M_readPolynomial_91 ?_
  refine sp_dup (pc := 92) hX rfl md_M_readPolynomial_92 ?_
  refine sp_getI (pc := 93) (ci := 10) (k := 9) (idx := 117) hX mcl_10 (by decide) mq_808 rfl md_M_readPolynomial_93 (fun v12 => ?_)
  refine sp_iload_n (pc := 96) (k := 3) (i := 3) hX rfl 3 rfl md_M_readPolynomial_96 ?_
  refine sp_if_eq (pc := 97) hX 104 (by decide) md_M_readPolynomial_97 (fun _ => ?_) (fun _ => ?_)
  · refine sp_iconst (pc := 104) hX md_M_readPolynomial_104 ?_
    refine sp_iadd (pc := 105) hX md_M_readPolynomial_105 ?_
    refine sp_putI (pc := 106) (ci := 10) (k := 9) (idx := 117) hX mcl_10 (by decide) mq_808 rfl rfl rfl md_M_readPolynomial_106 (fun s13 => ?_)
    refine sp_goto (pc := 109) hX 33 (by decide) md_M_readPolynomial_109 ?_
    refine sp_sub [1, 2, 0, 3] (L' := [(0, Value.ref x0), (1, Value.ref x1), (2, Value.int (iI y0)), (3, Value.int (iI x3))]) rfl ?_
    exact h33 x0 x1 y0 x3 s13
  · refine sp_iconst (pc := 100) hX md_M_readPolynomial_100 ?_
    refine sp_goto (pc := 101) hX 105 (by decide) md_M_readPolynomial_101 ?_
    refine sp_iadd (pc := 105) hX md_M_readPolynomial_105 ?_
    refine sp_putI (pc := 106) (ci := 10) (k := 9) (idx := 117) hX mcl_10 (by decide) mq_808 rfl rfl rfl md_M_readPolynomial_106 (fun s14 => ?_)
    refine sp_goto (pc := 109) hX 33 (by decide) md_M_readPolynomial_109 ?_
    refine sp_sub [1, 2, 0, 3] (L' := [(0, Value.ref x0), (1, Value.ref x1), (2, Value.int (iI y0)), (3, Value.int (iI x3))]) rfl ?_
    exact h33 x0 x1 y0 x3 s14
set_option maxHeartbeats 4000000 in
set_option maxRecDepth 20000 in
theorem sj_M_readPolynomial_75 {X : pw_X Int} (hX : pw_Ok X prog_14_method_31_code "PadeWorkbenchModel" mr_M_readPolynomial 4) (hR : pw_RZ X prog_14_method_31_code) {r33 : Nat → Nat → Int → Int → pw_Sto → Option (Int × pw_Sto)} (h33 : ∀ (z0 : Nat) (z1 : Nat) (z2 : Int) (z3 : Int) (σ : pw_Sto), pw_Sp X 0 0 33 [(0, Value.ref z0), (1, Value.ref z1), (2, Value.int (iI z2)), (3, Value.int (iI z3))] [] σ (r33 z0 z1 z2 z3 σ)) (x0 : Nat) (x1 : Nat) (y0 : Int) (σ : pw_Sto) : pw_Sp X 0 0 75 [(0, Value.ref x0), (1, Value.ref x1)] [Value.int (iI y0)] σ (mj_M_readPolynomial_75 r33 x0 x1 y0 σ) := by
  unfold mj_M_readPolynomial_75
  refine sp_istore_n (pc := 75) (k := 3) (i := 3) (L' := [(3, Value.int (iI y0)), (0, Value.ref x0), (1, Value.ref x1)]) hX rfl (by decide) rfl md_M_readPolynomial_75 ?_
  refine sp_aload_n (pc := 76) (k := 0) (i := 0) hX rfl 1 rfl md_M_readPolynomial_76 ?_
  refine sp_callVI (pc := 77) (y := my_M_here) (ccy := prog_14_method_26_code) (nLy := 1) (ret := (some .int)) (rmy := mr_M_here) (n := 0) (idx := 120) (As := []) (st := []) (o := x0) (cells' := 0) (slots' := 0) hX (fun _ h => mc_M_here h) mk_M_here mv_M_here mcl_10 (fun _ h => pw_gd_of h) mq_968 ⟨(Nat.le_of_ble_eq_true rfl), (Nat.le_of_ble_eq_true rfl)⟩ rfl rfl (Nat.le_of_ble_eq_true rfl) ⟨(Nat.le_of_ble_eq_true rfl), (Nat.le_of_ble_eq_true rfl)⟩ rfl rfl md_M_readPolynomial_77 (fun v11 s10 => ?_)
  refine sp_bipush (pc := 80) hX (by decide) md_M_readPolynomial_80 ?_
  refine sp_icmp_ne (pc := 82) hX 89 (by decide) md_M_readPolynomial_82 (fun _ => ?_) (fun _ => ?_)
  · refine sp_iconst (pc := 85) hX md_M_readPolynomial_85 ?_
    refine sp_goto (pc := 86) hX 90 (by decide) md_M_readPolynomial_86 ?_
    refine sp_sub [1, 2, 0] (L' := [(0, Value.ref x0), (1, Value.ref x1), (3, Value.int (iI y0))]) rfl ?_
    exact sj_M_readPolynomial_90 hX hR h33 x0 x1 y0 (-1 : Int) s10
  · refine sp_iconst (pc := 89) hX md_M_readPolynomial_89 ?_
    refine sp_sub [1, 2, 0] (L' := [(0, Value.ref x0), (1, Value.ref x1), (3, Value.int (iI y0))]) rfl ?_
    exact sj_M_readPolynomial_90 hX hR h33 x0 x1 y0 (1 : Int) s10
set_option maxHeartbeats 4000000 in
set_option maxRecDepth 20000 in
theorem sj_M_readPolynomial_70 {X : pw_X Int} (hX : pw_Ok X prog_14_method_31_code "PadeWorkbenchModel" mr_M_readPolynomial 4) (hR : pw_RZ X prog_14_method_31_code) {r33 : Nat → Nat → Int → Int → pw_Sto → Option (Int × pw_Sto)} (h33 : ∀ (z0 : Nat) (z1 : Nat) (z2 : Int) (z3 : Int) (σ : pw_Sto), pw_Sp X 0 0 33 [(0, Value.ref z0), (1, Value.ref z1), (2, Value.int (iI z2)), (3, Value.int (iI z3))] [] σ (r33 z0 z1 z2 z3 σ)) (x0 : Nat) (x1 : Nat) (σ : pw_Sto) : pw_Sp X 0 0 70 [(0, Value.ref x0), (1, Value.ref x1)] [] σ (mj_M_readPolynomial_70 r33 x0 x1 σ) := by
  unfold mj_M_readPolynomial_70
  refine sp_iconst (pc := 70) hX md_M_readPolynomial_70 ?_
  refine sp_goto (pc := 71) hX 75 (by decide) md_M_readPolynomial_71 ?_
  exact sj_M_readPolynomial_75 hX hR h33 x0 x1 (1 : Int) σ
set_option maxHeartbeats 4000000 in
set_option maxRecDepth 20000 in
theorem sl_M_readPolynomial_33 {X : pw_X Int} (hX : pw_Ok X prog_14_method_31_code "PadeWorkbenchModel" mr_M_readPolynomial 4) (hR : pw_RZ X prog_14_method_31_code) : ∀ (n : Nat) (x0 : Nat) (x1 : Nat) (x2 : Int) (x3 : Int) (σ : pw_Sto), pw_Sp X 0 0 33 [(0, Value.ref x0), (1, Value.ref x1), (2, Value.int (iI x2)), (3, Value.int (iI x3))] [] σ (ml_M_readPolynomial_33 n x0 x1 x2 x3 σ) := by
  intro n
  induction n with
  | zero => intros; exact pw_none
  | succ n ih =>
    intro x0 x1 x2 x3 σ
    show pw_Sp X 0 0 33 _ _ σ (mb_M_readPolynomial_33 (ml_M_readPolynomial_33 n) x0 x1 x2 x3 σ)
    unfold mb_M_readPolynomial_33
    refine sp_iload_n (pc := 33) (k := 3) (i := 3) hX rfl 3 rfl md_M_readPolynomial_33 ?_
    refine sp_if_eq (pc := 34) hX 112 (by decide) md_M_readPolynomial_34 (fun _ => ?_) (fun _ => ?_)
    · refine sp_iconst (pc := 112) hX md_M_readPolynomial_112 ?_
      exact sp_zret (pc := 113) hX hR (by decide) rfl (Nat.le_of_ble_eq_true rfl) md_M_readPolynomial_113
    · refine sp_aload_n (pc := 37) (k := 0) (i := 0) hX rfl 0 rfl md_M_readPolynomial_37 ?_
      refine sp_aload_n (pc := 38) (k := 1) (i := 1) hX rfl 1 rfl md_M_readPolynomial_38 ?_
      refine sp_iload_n (pc := 39) (k := 2) (i := 2) hX rfl 2 rfl md_M_readPolynomial_39 ?_
      refine sp_callVI (pc := 40) (y := my_M_readTerm) (ccy := prog_14_method_30_code) (nLy := 6) (ret := (some .boolean)) (rmy := mr_M_readTerm) (n := 2) (idx := 133) (As := [.ref x1, .int (iI x2)]) (st := []) (o := x0) (cells' := 0) (slots' := 0) hX (fun _ h => mc_M_readTerm h) mk_M_readTerm mv_M_readTerm mcl_10 (fun _ h => pw_gd_of h) mq_972 ⟨(Nat.le_of_ble_eq_true rfl), (Nat.le_of_ble_eq_true rfl)⟩ rfl rfl (Nat.le_of_ble_eq_true rfl) ⟨(Nat.le_of_ble_eq_true rfl), (Nat.le_of_ble_eq_true rfl)⟩ rfl rfl md_M_readPolynomial_40 (fun v6 s5 => ?_)
      refine sp_if_ne (pc := 43) hX 48 (by decide) md_M_readPolynomial_43 (fun _ => ?_) (fun _ => ?_)
      · refine sp_iconst (pc := 46) hX md_M_readPolynomial_46 ?_
        exact sp_zret (pc := 47) hX hR (by decide) rfl (Nat.le_of_ble_eq_true rfl) md_M_readPolynomial_47
      · refine sp_aload_n (pc := 48) (k := 0) (i := 0) hX rfl 0 rfl md_M_readPolynomial_48 ?_
        refine sp_callVV (pc := 49) (y := my_M_skip) (ccy := prog_14_method_28_code) (nLy := 1) (ret := none) (rmy := mr_M_skip) (n := 0) (idx := 123) (As := []) (st := []) (o := x0) (cells' := 0) (slots' := 0) hX (fun _ h => mc_M_skip h) mk_M_skip mv_M_skip mcl_10 (fun _ h => pw_gd_of h) mq_964 ⟨(Nat.le_of_ble_eq_true rfl), (Nat.le_of_ble_eq_true rfl)⟩ rfl rfl (Nat.le_of_ble_eq_true rfl) ⟨(Nat.le_of_ble_eq_true rfl), (Nat.le_of_ble_eq_true rfl)⟩ rfl rfl md_M_readPolynomial_49 (fun s7 => ?_)
        refine sp_aload_n (pc := 52) (k := 0) (i := 0) hX rfl 0 rfl md_M_readPolynomial_52 ?_
        refine sp_callVI (pc := 53) (y := my_M_here) (ccy := prog_14_method_26_code) (nLy := 1) (ret := (some .int)) (rmy := mr_M_here) (n := 0) (idx := 120) (As := []) (st := []) (o := x0) (cells' := 0) (slots' := 0) hX (fun _ h => mc_M_here h) mk_M_here mv_M_here mcl_10 (fun _ h => pw_gd_of h) mq_968 ⟨(Nat.le_of_ble_eq_true rfl), (Nat.le_of_ble_eq_true rfl)⟩ rfl rfl (Nat.le_of_ble_eq_true rfl) ⟨(Nat.le_of_ble_eq_true rfl), (Nat.le_of_ble_eq_true rfl)⟩ rfl rfl md_M_readPolynomial_53 (fun v9 s8 => ?_)
        refine sp_bipush (pc := 56) hX (by decide) md_M_readPolynomial_56 ?_
        refine sp_icmp_eq (pc := 58) hX 70 (by decide) md_M_readPolynomial_58 (fun _ => ?_) (fun _ => ?_)
        · refine sp_sub [0, 1] (L' := [(0, Value.ref x0), (1, Value.ref x1)]) rfl ?_
          exact sj_M_readPolynomial_70 hX hR ih x0 x1 s8
        · refine sp_aload_n (pc := 61) (k := 0) (i := 0) hX rfl 0 rfl md_M_readPolynomial_61 ?_
          refine sp_callVI (pc := 62) (y := my_M_here) (ccy := prog_14_method_26_code) (nLy := 1) (ret := (some .int)) (rmy := mr_M_here) (n := 0) (idx := 120) (As := []) (st := []) (o := x0) (cells' := 0) (slots' := 0) hX (fun _ h => mc_M_here h) mk_M_here mv_M_here mcl_10 (fun _ h => pw_gd_of h) mq_968 ⟨(Nat.le_of_ble_eq_true rfl), (Nat.le_of_ble_eq_true rfl)⟩ rfl rfl (Nat.le_of_ble_eq_true rfl) ⟨(Nat.le_of_ble_eq_true rfl), (Nat.le_of_ble_eq_true rfl)⟩ rfl rfl md_M_readPolynomial_62 (fun v16 s15 => ?_)
          refine sp_bipush (pc := 65) hX (by decide) md_M_readPolynomial_65 ?_
          refine sp_icmp_ne (pc := 67) hX 74 (by decide) md_M_readPolynomial_67 (fun _ => ?_) (fun _ => ?_)
          · refine sp_sub [0, 1] (L' := [(0, Value.ref x0), (1, Value.ref x1)]) rfl ?_
            exact sj_M_readPolynomial_70 hX hR ih x0 x1 s15
          · refine sp_iconst (pc := 74) hX md_M_readPolynomial_74 ?_
            refine sp_sub [0, 1] (L' := [(0, Value.ref x0), (1, Value.ref x1)]) rfl ?_
            exact sj_M_readPolynomial_75 hX hR ih x0 x1 (0 : Int) s15
set_option maxHeartbeats 4000000 in
set_option maxRecDepth 20000 in
theorem mc_M_readPolynomial {l : Launch} {E : pw_E} {σ : pw_Sto} {x0 : Nat} {x1 : Nat} {out : Int × pw_Sto} (h : mf_M_readPolynomial x0 x1 σ = some out) : pw_CI l E my_M_readPolynomial prog_14_method_31_code 4 (some .boolean) mr_M_readPolynomial [.ref x0, .ref x1] σ out := by
  unfold mf_M_readPolynomial at h
  refine pw_entryZ (by decide) (Nat.le_of_ble_eq_true rfl) (pw_gd_val h) (fun X hX hR hI => ?_)
  change pw_Ok X prog_14_method_31_code "PadeWorkbenchModel" mr_M_readPolynomial 4 at hX
  show pw_Sp X 0 0 0 [(0, Value.ref x0), (1, Value.ref x1)] [] σ _
  refine sp_aload_n (pc := 0) (k := 1) (i := 1) hX rfl 1 rfl md_M_readPolynomial_0 ?_
  refine sp_callSV (pc := 1) (y := my_M_clear) (ccy := prog_14_method_15_code) (nLy := 2) (ret := none) (rmy := mr_M_clear) (n := 1) (idx := 107) (As := [.ref x1]) (st := []) (cells' := 0) (slots' := 0) hX (fun _ h => mc_M_clear h) mk_M_clear mq_926 mq_925 ⟨(Nat.le_of_ble_eq_true rfl), (Nat.le_of_ble_eq_true rfl)⟩ rfl rfl (Nat.le_of_ble_eq_true rfl) ⟨(Nat.le_of_ble_eq_true rfl), (Nat.le_of_ble_eq_true rfl)⟩ rfl rfl md_M_readPolynomial_1 (fun s1 => ?_)
  refine sp_aload_n (pc := 4) (k := 0) (i := 0) hX rfl 0 rfl md_M_readPolynomial_4 ?_
  refine sp_callVV (pc := 5) (y := my_M_skip) (ccy := prog_14_method_28_code) (nLy := 1) (ret := none) (rmy := mr_M_skip) (n := 0) (idx := 123) (As := []) (st := []) (o := x0) (cells' := 0) (slots' := 0) hX (fun _ h => mc_M_skip h) mk_M_skip mv_M_skip mcl_10 (fun _ h => pw_gd_of h) mq_964 ⟨(Nat.le_of_ble_eq_true rfl), (Nat.le_of_ble_eq_true rfl)⟩ rfl rfl (Nat.le_of_ble_eq_true rfl) ⟨(Nat.le_of_ble_eq_true rfl), (Nat.le_of_ble_eq_true rfl)⟩ rfl rfl md_M_readPolynomial_5 (fun s2 => ?_)
  refine sp_iconst (pc := 8) hX md_M_readPolynomial_8 ?_
  refine sp_istore_n (pc := 9) (k := 2) (i := 2) (L' := [(2, Value.int (iI (1 : Int))), (0, Value.ref x0), (1, Value.ref x1)]) hX rfl (by decide) rfl md_M_readPolynomial_9 ?_
  refine sp_aload_n (pc := 10) (k := 0) (i := 0) hX rfl 1 rfl md_M_readPolynomial_10 ?_
  refine sp_callVI (pc := 11) (y := my_M_here) (ccy := prog_14_method_26_code) (nLy := 1) (ret := (some .int)) (rmy := mr_M_here) (n := 0) (idx := 120) (As := []) (st := []) (o := x0) (cells' := 0) (slots' := 0) hX (fun _ h => mc_M_here h) mk_M_here mv_M_here mcl_10 (fun _ h => pw_gd_of h) mq_968 ⟨(Nat.le_of_ble_eq_true rfl), (Nat.le_of_ble_eq_true rfl)⟩ rfl rfl (Nat.le_of_ble_eq_true rfl) ⟨(Nat.le_of_ble_eq_true rfl), (Nat.le_of_ble_eq_true rfl)⟩ rfl rfl md_M_readPolynomial_11 (fun v4 s3 => ?_)
  refine sp_bipush (pc := 14) hX (by decide) md_M_readPolynomial_14 ?_
  refine sp_icmp_ne (pc := 16) hX 31 (by decide) md_M_readPolynomial_16 (fun _ => ?_) (fun _ => ?_)
  · refine sp_iconst (pc := 19) hX md_M_readPolynomial_19 ?_
    refine sp_istore_n (pc := 20) (k := 2) (i := 2) (L' := [(2, Value.int (iI (-1 : Int))), (0, Value.ref x0), (1, Value.ref x1)]) hX rfl (by decide) rfl md_M_readPolynomial_20 ?_
    refine sp_aload_n (pc := 21) (k := 0) (i := 0) hX rfl 1 rfl md_M_readPolynomial_21 ?_
    refine sp_dup (pc := 22) hX rfl md_M_readPolynomial_22 ?_
    refine sp_getI (pc := 23) (ci := 10) (k := 9) (idx := 117) hX mcl_10 (by decide) mq_808 rfl md_M_readPolynomial_23 (fun v17 => ?_)
    refine sp_iconst (pc := 26) hX md_M_readPolynomial_26 ?_
    refine sp_iadd (pc := 27) hX md_M_readPolynomial_27 ?_
    refine sp_putI (pc := 28) (ci := 10) (k := 9) (idx := 117) hX mcl_10 (by decide) mq_808 rfl rfl rfl md_M_readPolynomial_28 (fun s18 => ?_)
    refine sp_iconst (pc := 31) hX md_M_readPolynomial_31 ?_
    refine sp_istore_n (pc := 32) (k := 3) (i := 3) (L' := [(3, Value.int (iI (1 : Int))), (2, Value.int (iI (-1 : Int))), (0, Value.ref x0), (1, Value.ref x1)]) hX rfl (by decide) rfl md_M_readPolynomial_32 ?_
    refine sp_sub [2, 3, 1, 0] (L' := [(0, Value.ref x0), (1, Value.ref x1), (2, Value.int (iI (-1 : Int))), (3, Value.int (iI (1 : Int)))]) rfl ?_
    exact sl_M_readPolynomial_33 hX hR 1000 x0 x1 (-1 : Int) (1 : Int) s18
  · refine sp_iconst (pc := 31) hX md_M_readPolynomial_31 ?_
    refine sp_istore_n (pc := 32) (k := 3) (i := 3) (L' := [(3, Value.int (iI (1 : Int))), (2, Value.int (iI (1 : Int))), (0, Value.ref x0), (1, Value.ref x1)]) hX rfl (by decide) rfl md_M_readPolynomial_32 ?_
    refine sp_sub [2, 3, 1, 0] (L' := [(0, Value.ref x0), (1, Value.ref x1), (2, Value.int (iI (1 : Int))), (3, Value.int (iI (1 : Int)))]) rfl ?_
    exact sl_M_readPolynomial_33 hX hR 1000 x0 x1 (1 : Int) (1 : Int) s3
/-! PadeWorkbenchModel.readFraction()Z -/
theorem md_M_readFraction_0 : decode prog_14_method_32_code 0 = .ok (.aload_n 0, 1) := by decide +kernel
theorem md_M_readFraction_1 : decode prog_14_method_32_code 1 = .ok (.iconst 0, 1) := by decide +kernel
theorem md_M_readFraction_2 : decode prog_14_method_32_code 2 = .ok (.putfield 117, 3) := by decide +kernel
theorem md_M_readFraction_5 : decode prog_14_method_32_code 5 = .ok (.aload_n 0, 1) := by decide +kernel
theorem md_M_readFraction_6 : decode prog_14_method_32_code 6 = .ok (.getfield 28, 3) := by decide +kernel
theorem md_M_readFraction_9 : decode prog_14_method_32_code 9 = .ok (.invokestatic 107, 3) := by decide +kernel
theorem md_M_readFraction_12 : decode prog_14_method_32_code 12 = .ok (.aload_n 0, 1) := by decide +kernel
theorem md_M_readFraction_13 : decode prog_14_method_32_code 13 = .ok (.getfield 28, 3) := by decide +kernel
theorem md_M_readFraction_16 : decode prog_14_method_32_code 16 = .ok (.iconst 0, 1) := by decide +kernel
theorem md_M_readFraction_17 : decode prog_14_method_32_code 17 = .ok (.iconst 1, 1) := by decide +kernel
theorem md_M_readFraction_18 : decode prog_14_method_32_code 18 = .ok (.iastore, 1) := by decide +kernel
theorem md_M_readFraction_19 : decode prog_14_method_32_code 19 = .ok (.aload_n 0, 1) := by decide +kernel
theorem md_M_readFraction_20 : decode prog_14_method_32_code 20 = .ok (.aload_n 0, 1) := by decide +kernel
theorem md_M_readFraction_21 : decode prog_14_method_32_code 21 = .ok (.getfield 25, 3) := by decide +kernel
theorem md_M_readFraction_24 : decode prog_14_method_32_code 24 = .ok (.invokevirtual 137, 3) := by decide +kernel
theorem md_M_readFraction_27 : decode prog_14_method_32_code 27 = .ok (.ifCond .ne 5, 3) := by decide +kernel
theorem md_M_readFraction_32 : decode prog_14_method_32_code 32 = .ok (.aload_n 0, 1) := by decide +kernel
theorem md_M_readFraction_33 : decode prog_14_method_32_code 33 = .ok (.invokevirtual 120, 3) := by decide +kernel
theorem md_M_readFraction_36 : decode prog_14_method_32_code 36 = .ok (.bipush 47, 2) := by decide +kernel
theorem md_M_readFraction_38 : decode prog_14_method_32_code 38 = .ok (.if_icmp .ne 26, 3) := by decide +kernel
theorem md_M_readFraction_64 : decode prog_14_method_32_code 64 = .ok (.aload_n 0, 1) := by decide +kernel
theorem md_M_readFraction_65 : decode prog_14_method_32_code 65 = .ok (.getfield 117, 3) := by decide +kernel
theorem md_M_readFraction_68 : decode prog_14_method_32_code 68 = .ok (.aload_n 0, 1) := by decide +kernel
theorem md_M_readFraction_69 : decode prog_14_method_32_code 69 = .ok (.getfield 114, 3) := by decide +kernel
theorem md_M_readFraction_72 : decode prog_14_method_32_code 72 = .ok (.if_icmp .ne 7, 3) := by decide +kernel
theorem md_M_readFraction_79 : decode prog_14_method_32_code 79 = .ok (.iconst 0, 1) := by decide +kernel
theorem md_M_readFraction_80 : decode prog_14_method_32_code 80 = .ok (.ireturn, 1) := by decide +kernel
theorem md_M_readFraction_75 : decode prog_14_method_32_code 75 = .ok (.iconst 1, 1) := by decide +kernel
theorem md_M_readFraction_76 : decode prog_14_method_32_code 76 = .ok (.goto 4, 3) := by decide +kernel
theorem md_M_readFraction_41 : decode prog_14_method_32_code 41 = .ok (.aload_n 0, 1) := by decide +kernel
theorem md_M_readFraction_42 : decode prog_14_method_32_code 42 = .ok (.dup, 1) := by decide +kernel
theorem md_M_readFraction_43 : decode prog_14_method_32_code 43 = .ok (.getfield 117, 3) := by decide +kernel
theorem md_M_readFraction_46 : decode prog_14_method_32_code 46 = .ok (.iconst 1, 1) := by decide +kernel
theorem md_M_readFraction_47 : decode prog_14_method_32_code 47 = .ok (.iadd, 1) := by decide +kernel
theorem md_M_readFraction_48 : decode prog_14_method_32_code 48 = .ok (.putfield 117, 3) := by decide +kernel
theorem md_M_readFraction_51 : decode prog_14_method_32_code 51 = .ok (.aload_n 0, 1) := by decide +kernel
theorem md_M_readFraction_52 : decode prog_14_method_32_code 52 = .ok (.aload_n 0, 1) := by decide +kernel
theorem md_M_readFraction_53 : decode prog_14_method_32_code 53 = .ok (.getfield 28, 3) := by decide +kernel
theorem md_M_readFraction_56 : decode prog_14_method_32_code 56 = .ok (.invokevirtual 137, 3) := by decide +kernel
theorem md_M_readFraction_59 : decode prog_14_method_32_code 59 = .ok (.ifCond .ne 5, 3) := by decide +kernel
theorem md_M_readFraction_62 : decode prog_14_method_32_code 62 = .ok (.iconst 0, 1) := by decide +kernel
theorem md_M_readFraction_63 : decode prog_14_method_32_code 63 = .ok (.ireturn, 1) := by decide +kernel
theorem md_M_readFraction_30 : decode prog_14_method_32_code 30 = .ok (.iconst 0, 1) := by decide +kernel
theorem md_M_readFraction_31 : decode prog_14_method_32_code 31 = .ok (.ireturn, 1) := by decide +kernel
def mj_M_readFraction_64 (x0 : Nat) (σ : pw_Sto) : Option (Int × pw_Sto) := (pw_gi 10 x0 9 σ).bind (fun v11 => (pw_gi 10 x0 5 σ).bind (fun v12 => pw_ck v11 v12 (if v11 = v12 then some ((1 : Int), σ) else some ((0 : Int), σ))))
def mf_M_readFraction (x0 : Nat) (σ : pw_Sto) : Option (Int × pw_Sto) := pw_gd 10 x0 σ ((pw_pi 10 x0 9 (0 : Int) σ).bind (fun s1 => (pw_gr 10 x0 8 s1).bind (fun v2 => pw_bd (mf_M_clear v2 s1) (fun _ s3 => (pw_gr 10 x0 8 s3).bind (fun v4 => (pw_si v4 (0 : Int) (1 : Int) s3).bind (fun s5 => (pw_gr 10 x0 7 s5).bind (fun v6 => pw_bd (mf_M_readPolynomial x0 v6 s5) (fun v8 s7 => pw_ck v8 0 (if v8 = 0 then some ((0 : Int), s7) else pw_bd (mf_M_here x0 s7) (fun v10 s9 => pw_ck v10 (47 : Int) (if v10 = (47 : Int) then (pw_gi 10 x0 9 s9).bind (fun v13 => (pw_pi 10 x0 9 (v13 + (1 : Int)) s9).bind (fun s14 => (pw_gr 10 x0 8 s14).bind (fun v15 => pw_bd (mf_M_readPolynomial x0 v15 s14) (fun v17 s16 => pw_ck v17 0 (if v17 = 0 then some ((0 : Int), s16) else mj_M_readFraction_64 x0 s16))))) else mj_M_readFraction_64 x0 s9)))))))))))
set_option maxHeartbeats 4000000 in
set_option maxRecDepth 20000 in
theorem sj_M_readFraction_64 {X : pw_X Int} (hX : pw_Ok X prog_14_method_32_code "PadeWorkbenchModel" mr_M_readFraction 1) (hR : pw_RZ X prog_14_method_32_code) (x0 : Nat) (σ : pw_Sto) : pw_Sp X 0 0 64 [(0, Value.ref x0)] [] σ (mj_M_readFraction_64 x0 σ) := by
  unfold mj_M_readFraction_64
  refine sp_aload_n (pc := 64) (k := 0) (i := 0) hX rfl 0 rfl md_M_readFraction_64 ?_
  refine sp_getI (pc := 65) (ci := 10) (k := 9) (idx := 117) hX mcl_10 (by decide) mq_808 rfl md_M_readFraction_65 (fun v11 => ?_)
  refine sp_aload_n (pc := 68) (k := 0) (i := 0) hX rfl 0 rfl md_M_readFraction_68 ?_
  refine sp_getI (pc := 69) (ci := 10) (k := 5) (idx := 114) hX mcl_10 (by decide) mq_804 rfl md_M_readFraction_69 (fun v12 => ?_)
  refine sp_icmp_ne (pc := 72) hX 79 (by decide) md_M_readFraction_72 (fun _ => ?_) (fun _ => ?_)
  · refine sp_iconst (pc := 75) hX md_M_readFraction_75 ?_
    refine sp_goto (pc := 76) hX 80 (by decide) md_M_readFraction_76 ?_
    exact sp_zret (pc := 80) hX hR (by decide) rfl (Nat.le_of_ble_eq_true rfl) md_M_readFraction_80
  · refine sp_iconst (pc := 79) hX md_M_readFraction_79 ?_
    exact sp_zret (pc := 80) hX hR (by decide) rfl (Nat.le_of_ble_eq_true rfl) md_M_readFraction_80
set_option maxHeartbeats 4000000 in
set_option maxRecDepth 20000 in
theorem mc_M_readFraction {l : Launch} {E : pw_E} {σ : pw_Sto} {x0 : Nat} {out : Int × pw_Sto} (h : mf_M_readFraction x0 σ = some out) : pw_CI l E my_M_readFraction prog_14_method_32_code 1 (some .boolean) mr_M_readFraction [.ref x0] σ out := by
  unfold mf_M_readFraction at h
  refine pw_entryZ (by decide) (Nat.le_of_ble_eq_true rfl) (pw_gd_val h) (fun X hX hR hI => ?_)
  change pw_Ok X prog_14_method_32_code "PadeWorkbenchModel" mr_M_readFraction 1 at hX
  show pw_Sp X 0 0 0 [(0, Value.ref x0)] [] σ _
  refine sp_aload_n (pc := 0) (k := 0) (i := 0) hX rfl 0 rfl md_M_readFraction_0 ?_
  refine sp_iconst (pc := 1) hX md_M_readFraction_1 ?_
  refine sp_putI (pc := 2) (ci := 10) (k := 9) (idx := 117) hX mcl_10 (by decide) mq_808 rfl rfl rfl md_M_readFraction_2 (fun s1 => ?_)
  refine sp_aload_n (pc := 5) (k := 0) (i := 0) hX rfl 0 rfl md_M_readFraction_5 ?_
  refine sp_getR (pc := 6) (ci := 10) (k := 8) (idx := 28) hX mcl_10 (by decide) mq_807 rfl md_M_readFraction_6 (fun v2 => ?_)
  refine sp_callSV (pc := 9) (y := my_M_clear) (ccy := prog_14_method_15_code) (nLy := 2) (ret := none) (rmy := mr_M_clear) (n := 1) (idx := 107) (As := [.ref v2]) (st := []) (cells' := 0) (slots' := 0) hX (fun _ h => mc_M_clear h) mk_M_clear mq_926 mq_925 ⟨(Nat.le_of_ble_eq_true rfl), (Nat.le_of_ble_eq_true rfl)⟩ rfl rfl (Nat.le_of_ble_eq_true rfl) ⟨(Nat.le_of_ble_eq_true rfl), (Nat.le_of_ble_eq_true rfl)⟩ rfl rfl md_M_readFraction_9 (fun s3 => ?_)
  refine sp_aload_n (pc := 12) (k := 0) (i := 0) hX rfl 0 rfl md_M_readFraction_12 ?_
  refine sp_getR (pc := 13) (ci := 10) (k := 8) (idx := 28) hX mcl_10 (by decide) mq_807 rfl md_M_readFraction_13 (fun v4 => ?_)
  refine sp_iconst (pc := 16) hX md_M_readFraction_16 ?_
  refine sp_iconst (pc := 17) hX md_M_readFraction_17 ?_
  refine sp_iastore (pc := 18) hX md_M_readFraction_18 (fun s5 => ?_)
  refine sp_aload_n (pc := 19) (k := 0) (i := 0) hX rfl 0 rfl md_M_readFraction_19 ?_
  refine sp_aload_n (pc := 20) (k := 0) (i := 0) hX rfl 0 rfl md_M_readFraction_20 ?_
  refine sp_getR (pc := 21) (ci := 10) (k := 7) (idx := 25) hX mcl_10 (by decide) mq_806 rfl md_M_readFraction_21 (fun v6 => ?_)
  refine sp_callVI (pc := 24) (y := my_M_readPolynomial) (ccy := prog_14_method_31_code) (nLy := 4) (ret := (some .boolean)) (rmy := mr_M_readPolynomial) (n := 1) (idx := 137) (As := [.ref v6]) (st := []) (o := x0) (cells' := 0) (slots' := 0) hX (fun _ h => mc_M_readPolynomial h) mk_M_readPolynomial mv_M_readPolynomial mcl_10 (fun _ h => pw_gd_of h) mq_960 ⟨(Nat.le_of_ble_eq_true rfl), (Nat.le_of_ble_eq_true rfl)⟩ rfl rfl (Nat.le_of_ble_eq_true rfl) ⟨(Nat.le_of_ble_eq_true rfl), (Nat.le_of_ble_eq_true rfl)⟩ rfl rfl md_M_readFraction_24 (fun v8 s7 => ?_)
  refine sp_if_ne (pc := 27) hX 32 (by decide) md_M_readFraction_27 (fun _ => ?_) (fun _ => ?_)
  · refine sp_iconst (pc := 30) hX md_M_readFraction_30 ?_
    exact sp_zret (pc := 31) hX hR (by decide) rfl (Nat.le_of_ble_eq_true rfl) md_M_readFraction_31
  · refine sp_aload_n (pc := 32) (k := 0) (i := 0) hX rfl 0 rfl md_M_readFraction_32 ?_
    refine sp_callVI (pc := 33) (y := my_M_here) (ccy := prog_14_method_26_code) (nLy := 1) (ret := (some .int)) (rmy := mr_M_here) (n := 0) (idx := 120) (As := []) (st := []) (o := x0) (cells' := 0) (slots' := 0) hX (fun _ h => mc_M_here h) mk_M_here mv_M_here mcl_10 (fun _ h => pw_gd_of h) mq_968 ⟨(Nat.le_of_ble_eq_true rfl), (Nat.le_of_ble_eq_true rfl)⟩ rfl rfl (Nat.le_of_ble_eq_true rfl) ⟨(Nat.le_of_ble_eq_true rfl), (Nat.le_of_ble_eq_true rfl)⟩ rfl rfl md_M_readFraction_33 (fun v10 s9 => ?_)
    refine sp_bipush (pc := 36) hX (by decide) md_M_readFraction_36 ?_
    refine sp_icmp_ne (pc := 38) hX 64 (by decide) md_M_readFraction_38 (fun _ => ?_) (fun _ => ?_)
    · refine sp_aload_n (pc := 41) (k := 0) (i := 0) hX rfl 0 rfl md_M_readFraction_41 ?_
      refine sp_dup (pc := 42) hX rfl md_M_readFraction_42 ?_
      refine sp_getI (pc := 43) (ci := 10) (k := 9) (idx := 117) hX mcl_10 (by decide) mq_808 rfl md_M_readFraction_43 (fun v13 => ?_)
      refine sp_iconst (pc := 46) hX md_M_readFraction_46 ?_
      refine sp_iadd (pc := 47) hX md_M_readFraction_47 ?_
      refine sp_putI (pc := 48) (ci := 10) (k := 9) (idx := 117) hX mcl_10 (by decide) mq_808 rfl rfl rfl md_M_readFraction_48 (fun s14 => ?_)
      refine sp_aload_n (pc := 51) (k := 0) (i := 0) hX rfl 0 rfl md_M_readFraction_51 ?_
      refine sp_aload_n (pc := 52) (k := 0) (i := 0) hX rfl 0 rfl md_M_readFraction_52 ?_
      refine sp_getR (pc := 53) (ci := 10) (k := 8) (idx := 28) hX mcl_10 (by decide) mq_807 rfl md_M_readFraction_53 (fun v15 => ?_)
      refine sp_callVI (pc := 56) (y := my_M_readPolynomial) (ccy := prog_14_method_31_code) (nLy := 4) (ret := (some .boolean)) (rmy := mr_M_readPolynomial) (n := 1) (idx := 137) (As := [.ref v15]) (st := []) (o := x0) (cells' := 0) (slots' := 0) hX (fun _ h => mc_M_readPolynomial h) mk_M_readPolynomial mv_M_readPolynomial mcl_10 (fun _ h => pw_gd_of h) mq_960 ⟨(Nat.le_of_ble_eq_true rfl), (Nat.le_of_ble_eq_true rfl)⟩ rfl rfl (Nat.le_of_ble_eq_true rfl) ⟨(Nat.le_of_ble_eq_true rfl), (Nat.le_of_ble_eq_true rfl)⟩ rfl rfl md_M_readFraction_56 (fun v17 s16 => ?_)
      refine sp_if_ne (pc := 59) hX 64 (by decide) md_M_readFraction_59 (fun _ => ?_) (fun _ => ?_)
      · refine sp_iconst (pc := 62) hX md_M_readFraction_62 ?_
        exact sp_zret (pc := 63) hX hR (by decide) rfl (Nat.le_of_ble_eq_true rfl) md_M_readFraction_63
      · exact sj_M_readFraction_64 hX hR x0 s16
    · exact sj_M_readFraction_64 hX hR x0 s9
/-! PadeWorkbenchModel.parse(I)I -/
theorem md_M_parse_0 : decode prog_14_method_33_code 0 = .ok (.iload_n 1, 1) := by decide +kernel
theorem md_M_parse_1 : decode prog_14_method_33_code 1 = .ok (.invokestatic 84, 3) := by decide +kernel
theorem md_M_parse_4 : decode prog_14_method_33_code 4 = .ok (.ifCond .ne 10, 3) := by decide +kernel
theorem md_M_parse_14 : decode prog_14_method_33_code 14 = .ok (.aload_n 0, 1) := by decide +kernel
theorem md_M_parse_15 : decode prog_14_method_33_code 15 = .ok (.invokevirtual 141, 3) := by decide +kernel
theorem md_M_parse_18 : decode prog_14_method_33_code 18 = .ok (.ifCond .ne 11, 3) := by decide +kernel
theorem md_M_parse_29 : decode prog_14_method_33_code 29 = .ok (.aload_n 0, 1) := by decide +kernel
theorem md_M_parse_30 : decode prog_14_method_33_code 30 = .ok (.getfield 28, 3) := by decide +kernel
theorem md_M_parse_33 : decode prog_14_method_33_code 33 = .ok (.iconst 0, 1) := by decide +kernel
theorem md_M_parse_34 : decode prog_14_method_33_code 34 = .ok (.iaload, 1) := by decide +kernel
theorem md_M_parse_35 : decode prog_14_method_33_code 35 = .ok (.ifCond .ne 10, 3) := by decide +kernel
theorem md_M_parse_45 : decode prog_14_method_33_code 45 = .ok (.aload_n 0, 1) := by decide +kernel
theorem md_M_parse_46 : decode prog_14_method_33_code 46 = .ok (.invokevirtual 111, 3) := by decide +kernel
theorem md_M_parse_49 : decode prog_14_method_33_code 49 = .ok (.aload_n 0, 1) := by decide +kernel
theorem md_M_parse_50 : decode prog_14_method_33_code 50 = .ok (.iload_n 1, 1) := by decide +kernel
theorem md_M_parse_51 : decode prog_14_method_33_code 51 = .ok (.invokevirtual 97, 3) := by decide +kernel
theorem md_M_parse_54 : decode prog_14_method_33_code 54 = .ok (.ireturn, 1) := by decide +kernel
theorem md_M_parse_38 : decode prog_14_method_33_code 38 = .ok (.aload_n 0, 1) := by decide +kernel
theorem md_M_parse_39 : decode prog_14_method_33_code 39 = .ok (.bipush (-3), 2) := by decide +kernel
theorem md_M_parse_41 : decode prog_14_method_33_code 41 = .ok (.invokevirtual 77, 3) := by decide +kernel
theorem md_M_parse_44 : decode prog_14_method_33_code 44 = .ok (.ireturn, 1) := by decide +kernel
theorem md_M_parse_21 : decode prog_14_method_33_code 21 = .ok (.bipush (-10), 2) := by decide +kernel
theorem md_M_parse_23 : decode prog_14_method_33_code 23 = .ok (.aload_n 0, 1) := by decide +kernel
theorem md_M_parse_24 : decode prog_14_method_33_code 24 = .ok (.getfield 117, 3) := by decide +kernel
theorem md_M_parse_27 : decode prog_14_method_33_code 27 = .ok (.isub, 1) := by decide +kernel
theorem md_M_parse_28 : decode prog_14_method_33_code 28 = .ok (.ireturn, 1) := by decide +kernel
theorem md_M_parse_7 : decode prog_14_method_33_code 7 = .ok (.aload_n 0, 1) := by decide +kernel
theorem md_M_parse_8 : decode prog_14_method_33_code 8 = .ok (.bipush (-2), 2) := by decide +kernel
theorem md_M_parse_10 : decode prog_14_method_33_code 10 = .ok (.invokevirtual 77, 3) := by decide +kernel
theorem md_M_parse_13 : decode prog_14_method_33_code 13 = .ok (.ireturn, 1) := by decide +kernel
def mf_M_parse (x0 : Nat) (x1 : Int) (σ : pw_Sto) : Option (Int × pw_Sto) := pw_gd 10 x0 σ (pw_bd (mf_M_isSlot x1 σ) (fun v2 s1 => pw_ck v2 0 (if v2 = 0 then pw_bd (mf_M_fail x0 (-2 : Int) s1) (fun v14 s13 => some (v14, s13)) else pw_bd (mf_M_readFraction x0 s1) (fun v4 s3 => pw_ck v4 0 (if v4 = 0 then (pw_gi 10 x0 9 s3).bind (fun v12 => some (((-10 : Int) - v12), s3)) else (pw_gr 10 x0 8 s3).bind (fun v5 => (pw_ai v5 (0 : Int) s3).bind (fun v6 => pw_ck v6 0 (if v6 = 0 then pw_bd (mf_M_fail x0 (-3 : Int) s3) (fun v11 s10 => some (v11, s10)) else pw_bd (mf_M_makeQuotient x0 s3) (fun _ s7 => pw_bd (mf_M_store x0 x1 s7) (fun v9 s8 => some (v9, s8)))))))))))
set_option maxHeartbeats 4000000 in
set_option maxRecDepth 20000 in
theorem mc_M_parse {l : Launch} {E : pw_E} {σ : pw_Sto} {x0 : Nat} {x1 : Int} {out : Int × pw_Sto} (h : mf_M_parse x0 x1 σ = some out) : pw_CI l E my_M_parse prog_14_method_33_code 2 (some .int) mr_M_parse [.ref x0, .int (iI x1)] σ out := by
  unfold mf_M_parse at h
  refine pw_entryI (by decide) (Nat.le_of_ble_eq_true rfl) (pw_gd_val h) (fun X hX hR hI => ?_)
  change pw_Ok X prog_14_method_33_code "PadeWorkbenchModel" mr_M_parse 2 at hX
  show pw_Sp X 0 0 0 [(0, Value.ref x0), (1, Value.int (iI x1))] [] σ _
  refine sp_iload_n (pc := 0) (k := 1) (i := 1) hX rfl 1 rfl md_M_parse_0 ?_
  refine sp_callSI (pc := 1) (y := my_M_isSlot) (ccy := prog_14_method_8_code) (nLy := 1) (ret := (some .boolean)) (rmy := mr_M_isSlot) (n := 1) (idx := 84) (As := [.int (iI x1)]) (st := []) (cells' := 0) (slots' := 0) hX (fun _ h => mc_M_isSlot h) mk_M_isSlot mq_887 mq_886 ⟨(Nat.le_of_ble_eq_true rfl), (Nat.le_of_ble_eq_true rfl)⟩ rfl rfl (Nat.le_of_ble_eq_true rfl) ⟨(Nat.le_of_ble_eq_true rfl), (Nat.le_of_ble_eq_true rfl)⟩ rfl rfl md_M_parse_1 (fun v2 s1 => ?_)
  refine sp_if_ne (pc := 4) hX 14 (by decide) md_M_parse_4 (fun _ => ?_) (fun _ => ?_)
  · refine sp_aload_n (pc := 7) (k := 0) (i := 0) hX rfl 0 rfl md_M_parse_7 ?_
    refine sp_bipush (pc := 8) hX (by decide) md_M_parse_8 ?_
    refine sp_callVI (pc := 10) (y := my_M_fail) (ccy := prog_14_method_3_code) (nLy := 2) (ret := (some .int)) (rmy := mr_M_fail) (n := 1) (idx := 77) (As := [.int (iI (-2 : Int))]) (st := []) (o := x0) (cells' := 0) (slots' := 0) hX (fun _ h => mc_M_fail h) mk_M_fail mv_M_fail mcl_10 (fun _ h => pw_gd_of h) mq_870 ⟨(Nat.le_of_ble_eq_true rfl), (Nat.le_of_ble_eq_true rfl)⟩ rfl rfl (Nat.le_of_ble_eq_true rfl) ⟨(Nat.le_of_ble_eq_true rfl), (Nat.le_of_ble_eq_true rfl)⟩ rfl rfl md_M_parse_10 (fun v14 s13 => ?_)
    exact sp_iret (pc := 13) hX hR rfl (Nat.le_of_ble_eq_true rfl) md_M_parse_13
  · refine sp_aload_n (pc := 14) (k := 0) (i := 0) hX rfl 0 rfl md_M_parse_14 ?_
    refine sp_callVI (pc := 15) (y := my_M_readFraction) (ccy := prog_14_method_32_code) (nLy := 1) (ret := (some .boolean)) (rmy := mr_M_readFraction) (n := 0) (idx := 141) (As := []) (st := []) (o := x0) (cells' := 0) (slots' := 0) hX (fun _ h => mc_M_readFraction h) mk_M_readFraction mv_M_readFraction mcl_10 (fun _ h => pw_gd_of h) mq_956 ⟨(Nat.le_of_ble_eq_true rfl), (Nat.le_of_ble_eq_true rfl)⟩ rfl rfl (Nat.le_of_ble_eq_true rfl) ⟨(Nat.le_of_ble_eq_true rfl), (Nat.le_of_ble_eq_true rfl)⟩ rfl rfl md_M_parse_15 (fun v4 s3 => ?_)
    refine sp_if_ne (pc := 18) hX 29 (by decide) md_M_parse_18 (fun _ => ?_) (fun _ => ?_)
    · refine sp_bipush (pc := 21) hX (by decide) md_M_parse_21 ?_
      refine sp_aload_n (pc := 23) (k := 0) (i := 0) hX rfl 0 rfl md_M_parse_23 ?_
      refine sp_getI (pc := 24) (ci := 10) (k := 9) (idx := 117) hX mcl_10 (by decide) mq_808 rfl md_M_parse_24 (fun v12 => ?_)
      refine sp_isub (pc := 27) hX md_M_parse_27 ?_
      exact sp_iret (pc := 28) hX hR rfl (Nat.le_of_ble_eq_true rfl) md_M_parse_28
    · refine sp_aload_n (pc := 29) (k := 0) (i := 0) hX rfl 0 rfl md_M_parse_29 ?_
      refine sp_getR (pc := 30) (ci := 10) (k := 8) (idx := 28) hX mcl_10 (by decide) mq_807 rfl md_M_parse_30 (fun v5 => ?_)
      refine sp_iconst (pc := 33) hX md_M_parse_33 ?_
      refine sp_iaload (pc := 34) hX md_M_parse_34 (fun v6 => ?_)
      refine sp_if_ne (pc := 35) hX 45 (by decide) md_M_parse_35 (fun _ => ?_) (fun _ => ?_)
      · refine sp_aload_n (pc := 38) (k := 0) (i := 0) hX rfl 0 rfl md_M_parse_38 ?_
        refine sp_bipush (pc := 39) hX (by decide) md_M_parse_39 ?_
        refine sp_callVI (pc := 41) (y := my_M_fail) (ccy := prog_14_method_3_code) (nLy := 2) (ret := (some .int)) (rmy := mr_M_fail) (n := 1) (idx := 77) (As := [.int (iI (-3 : Int))]) (st := []) (o := x0) (cells' := 0) (slots' := 0) hX (fun _ h => mc_M_fail h) mk_M_fail mv_M_fail mcl_10 (fun _ h => pw_gd_of h) mq_870 ⟨(Nat.le_of_ble_eq_true rfl), (Nat.le_of_ble_eq_true rfl)⟩ rfl rfl (Nat.le_of_ble_eq_true rfl) ⟨(Nat.le_of_ble_eq_true rfl), (Nat.le_of_ble_eq_true rfl)⟩ rfl rfl md_M_parse_41 (fun v11 s10 => ?_)
        exact sp_iret (pc := 44) hX hR rfl (Nat.le_of_ble_eq_true rfl) md_M_parse_44
      · refine sp_aload_n (pc := 45) (k := 0) (i := 0) hX rfl 0 rfl md_M_parse_45 ?_
        refine sp_callVV (pc := 46) (y := my_M_makeQuotient) (ccy := prog_14_method_18_code) (nLy := 5) (ret := none) (rmy := mr_M_makeQuotient) (n := 0) (idx := 111) (As := []) (st := []) (o := x0) (cells' := 0) (slots' := 0) hX (fun _ h => mc_M_makeQuotient h) mk_M_makeQuotient mv_M_makeQuotient mcl_10 (fun _ h => pw_gd_of h) mq_928 ⟨(Nat.le_of_ble_eq_true rfl), (Nat.le_of_ble_eq_true rfl)⟩ rfl rfl (Nat.le_of_ble_eq_true rfl) ⟨(Nat.le_of_ble_eq_true rfl), (Nat.le_of_ble_eq_true rfl)⟩ rfl rfl md_M_parse_46 (fun s7 => ?_)
        refine sp_aload_n (pc := 49) (k := 0) (i := 0) hX rfl 0 rfl md_M_parse_49 ?_
        refine sp_iload_n (pc := 50) (k := 1) (i := 1) hX rfl 1 rfl md_M_parse_50 ?_
        refine sp_callVI (pc := 51) (y := my_M_store) (ccy := prog_14_method_16_code) (nLy := 4) (ret := (some .int)) (rmy := mr_M_store) (n := 1) (idx := 97) (As := [.int (iI x1)]) (st := []) (o := x0) (cells' := 0) (slots' := 0) hX (fun _ h => mc_M_store h) mk_M_store mv_M_store mcl_10 (fun _ h => pw_gd_of h) mq_905 ⟨(Nat.le_of_ble_eq_true rfl), (Nat.le_of_ble_eq_true rfl)⟩ rfl rfl (Nat.le_of_ble_eq_true rfl) ⟨(Nat.le_of_ble_eq_true rfl), (Nat.le_of_ble_eq_true rfl)⟩ rfl rfl md_M_parse_51 (fun v9 s8 => ?_)
        exact sp_iret (pc := 54) hX hR rfl (Nat.le_of_ble_eq_true rfl) md_M_parse_54
/-! PadeWorkbenchModel.exchange(II)V -/
theorem md_M_exchange_0 : decode prog_14_method_34_code 0 = .ok (.iconst 0, 1) := by decide +kernel
theorem md_M_exchange_1 : decode prog_14_method_34_code 1 = .ok (.istore_n 3, 1) := by decide +kernel
theorem md_M_exchange_2 : decode prog_14_method_34_code 2 = .ok (.iload_n 3, 1) := by decide +kernel
theorem md_M_exchange_3 : decode prog_14_method_34_code 3 = .ok (.bipush 18, 2) := by decide +kernel
theorem md_M_exchange_5 : decode prog_14_method_34_code 5 = .ok (.if_icmp .ge 57, 3) := by decide +kernel
theorem md_M_exchange_62 : decode prog_14_method_34_code 62 = .ok (.return_, 1) := by decide +kernel
theorem md_M_exchange_8 : decode prog_14_method_34_code 8 = .ok (.aload_n 0, 1) := by decide +kernel
theorem md_M_exchange_9 : decode prog_14_method_34_code 9 = .ok (.getfield 31, 3) := by decide +kernel
theorem md_M_exchange_12 : decode prog_14_method_34_code 12 = .ok (.bipush 18, 2) := by decide +kernel
theorem md_M_exchange_14 : decode prog_14_method_34_code 14 = .ok (.iload_n 1, 1) := by decide +kernel
theorem md_M_exchange_15 : decode prog_14_method_34_code 15 = .ok (.imul, 1) := by decide +kernel
theorem md_M_exchange_16 : decode prog_14_method_34_code 16 = .ok (.iload_n 3, 1) := by decide +kernel
theorem md_M_exchange_17 : decode prog_14_method_34_code 17 = .ok (.iadd, 1) := by decide +kernel
theorem md_M_exchange_18 : decode prog_14_method_34_code 18 = .ok (.iaload, 1) := by decide +kernel
theorem md_M_exchange_19 : decode prog_14_method_34_code 19 = .ok (.istore 4, 2) := by decide +kernel
theorem md_M_exchange_21 : decode prog_14_method_34_code 21 = .ok (.aload_n 0, 1) := by decide +kernel
theorem md_M_exchange_22 : decode prog_14_method_34_code 22 = .ok (.getfield 31, 3) := by decide +kernel
theorem md_M_exchange_25 : decode prog_14_method_34_code 25 = .ok (.bipush 18, 2) := by decide +kernel
theorem md_M_exchange_27 : decode prog_14_method_34_code 27 = .ok (.iload_n 1, 1) := by decide +kernel
theorem md_M_exchange_28 : decode prog_14_method_34_code 28 = .ok (.imul, 1) := by decide +kernel
theorem md_M_exchange_29 : decode prog_14_method_34_code 29 = .ok (.iload_n 3, 1) := by decide +kernel
theorem md_M_exchange_30 : decode prog_14_method_34_code 30 = .ok (.iadd, 1) := by decide +kernel
theorem md_M_exchange_31 : decode prog_14_method_34_code 31 = .ok (.aload_n 0, 1) := by decide +kernel
theorem md_M_exchange_32 : decode prog_14_method_34_code 32 = .ok (.getfield 31, 3) := by decide +kernel
theorem md_M_exchange_35 : decode prog_14_method_34_code 35 = .ok (.bipush 18, 2) := by decide +kernel
theorem md_M_exchange_37 : decode prog_14_method_34_code 37 = .ok (.iload_n 2, 1) := by decide +kernel
theorem md_M_exchange_38 : decode prog_14_method_34_code 38 = .ok (.imul, 1) := by decide +kernel
theorem md_M_exchange_39 : decode prog_14_method_34_code 39 = .ok (.iload_n 3, 1) := by decide +kernel
theorem md_M_exchange_40 : decode prog_14_method_34_code 40 = .ok (.iadd, 1) := by decide +kernel
theorem md_M_exchange_41 : decode prog_14_method_34_code 41 = .ok (.iaload, 1) := by decide +kernel
theorem md_M_exchange_42 : decode prog_14_method_34_code 42 = .ok (.iastore, 1) := by decide +kernel
theorem md_M_exchange_43 : decode prog_14_method_34_code 43 = .ok (.aload_n 0, 1) := by decide +kernel
theorem md_M_exchange_44 : decode prog_14_method_34_code 44 = .ok (.getfield 31, 3) := by decide +kernel
theorem md_M_exchange_47 : decode prog_14_method_34_code 47 = .ok (.bipush 18, 2) := by decide +kernel
theorem md_M_exchange_49 : decode prog_14_method_34_code 49 = .ok (.iload_n 2, 1) := by decide +kernel
theorem md_M_exchange_50 : decode prog_14_method_34_code 50 = .ok (.imul, 1) := by decide +kernel
theorem md_M_exchange_51 : decode prog_14_method_34_code 51 = .ok (.iload_n 3, 1) := by decide +kernel
theorem md_M_exchange_52 : decode prog_14_method_34_code 52 = .ok (.iadd, 1) := by decide +kernel
theorem md_M_exchange_53 : decode prog_14_method_34_code 53 = .ok (.iload 4, 2) := by decide +kernel
theorem md_M_exchange_55 : decode prog_14_method_34_code 55 = .ok (.iastore, 1) := by decide +kernel
theorem md_M_exchange_56 : decode prog_14_method_34_code 56 = .ok (.iinc 3 1, 3) := by decide +kernel
theorem md_M_exchange_59 : decode prog_14_method_34_code 59 = .ok (.goto (-57), 3) := by decide +kernel
def mb_M_exchange_2 (rc : Nat → Int → Int → Int → pw_Sto → Option (Unit × pw_Sto)) : Nat → Int → Int → Int → pw_Sto → Option (Unit × pw_Sto) := fun x0 x1 x2 x3 σ => pw_ck x3 (18 : Int) (if (18 : Int) ≤ x3 then some ((), σ) else (pw_gr 10 x0 10 σ).bind (fun v1 => (pw_ai v1 (((18 : Int) * x1) + x3) σ).bind (fun v2 => (pw_gr 10 x0 10 σ).bind (fun v3 => (pw_gr 10 x0 10 σ).bind (fun v4 => (pw_ai v4 (((18 : Int) * x2) + x3) σ).bind (fun v5 => (pw_si v3 (((18 : Int) * x1) + x3) v5 σ).bind (fun s6 => (pw_gr 10 x0 10 s6).bind (fun v7 => (pw_si v7 (((18 : Int) * x2) + x3) v2 s6).bind (fun s8 => rc x0 x1 x2 (x3 + 1) s8)))))))))
def ml_M_exchange_2 : Nat → Nat → Int → Int → Int → pw_Sto → Option (Unit × pw_Sto) := pw_lp (fun _ _ _ _ _ => none) (mb_M_exchange_2)
def mf_M_exchange (x0 : Nat) (x1 : Int) (x2 : Int) (σ : pw_Sto) : Option (Unit × pw_Sto) := pw_gd 10 x0 σ (ml_M_exchange_2 1000 x0 x1 x2 (0 : Int) σ)
set_option maxHeartbeats 4000000 in
set_option maxRecDepth 20000 in
theorem sl_M_exchange_2 {X : pw_X Unit} (hX : pw_Ok X prog_14_method_34_code "PadeWorkbenchModel" mr_M_exchange 5) (hR : pw_RV X prog_14_method_34_code) : ∀ (n : Nat) (x0 : Nat) (x1 : Int) (x2 : Int) (x3 : Int) (σ : pw_Sto), pw_Sp X 0 0 2 [(0, Value.ref x0), (1, Value.int (iI x1)), (2, Value.int (iI x2)), (3, Value.int (iI x3))] [] σ (ml_M_exchange_2 n x0 x1 x2 x3 σ) := by
  intro n
  induction n with
  | zero => intros; exact pw_none
  | succ n ih =>
    intro x0 x1 x2 x3 σ
    show pw_Sp X 0 0 2 _ _ σ (mb_M_exchange_2 (ml_M_exchange_2 n) x0 x1 x2 x3 σ)
    unfold mb_M_exchange_2
    refine sp_iload_n (pc := 2) (k := 3) (i := 3) hX rfl 3 rfl md_M_exchange_2 ?_
    refine sp_bipush (pc := 3) hX (by decide) md_M_exchange_3 ?_
    refine sp_icmp_ge (pc := 5) hX 62 (by decide) md_M_exchange_5 (fun _ => ?_) (fun _ => ?_)
    · exact sp_vret (pc := 62) hX hR rfl (Nat.le_of_ble_eq_true rfl) md_M_exchange_62
    · refine sp_aload_n (pc := 8) (k := 0) (i := 0) hX rfl 0 rfl md_M_exchange_8 ?_
      refine sp_getR (pc := 9) (ci := 10) (k := 10) (idx := 31) hX mcl_10 (by decide) mq_809 rfl md_M_exchange_9 (fun v1 => ?_)
      refine sp_bipush (pc := 12) hX (by decide) md_M_exchange_12 ?_
      refine sp_iload_n (pc := 14) (k := 1) (i := 1) hX rfl 1 rfl md_M_exchange_14 ?_
      refine sp_imul (pc := 15) hX md_M_exchange_15 ?_
      refine sp_iload_n (pc := 16) (k := 3) (i := 3) hX rfl 3 rfl md_M_exchange_16 ?_
      refine sp_iadd (pc := 17) hX md_M_exchange_17 ?_
      refine sp_iaload (pc := 18) hX md_M_exchange_18 (fun v2 => ?_)
      refine sp_istore (pc := 19) (i := 4) (L' := [(4, Value.int (iI v2)), (0, Value.ref x0), (1, Value.int (iI x1)), (2, Value.int (iI x2)), (3, Value.int (iI x3))]) hX (by decide) rfl md_M_exchange_19 ?_
      refine sp_aload_n (pc := 21) (k := 0) (i := 0) hX rfl 1 rfl md_M_exchange_21 ?_
      refine sp_getR (pc := 22) (ci := 10) (k := 10) (idx := 31) hX mcl_10 (by decide) mq_809 rfl md_M_exchange_22 (fun v3 => ?_)
      refine sp_bipush (pc := 25) hX (by decide) md_M_exchange_25 ?_
      refine sp_iload_n (pc := 27) (k := 1) (i := 1) hX rfl 2 rfl md_M_exchange_27 ?_
      refine sp_imul (pc := 28) hX md_M_exchange_28 ?_
      refine sp_iload_n (pc := 29) (k := 3) (i := 3) hX rfl 4 rfl md_M_exchange_29 ?_
      refine sp_iadd (pc := 30) hX md_M_exchange_30 ?_
      refine sp_aload_n (pc := 31) (k := 0) (i := 0) hX rfl 1 rfl md_M_exchange_31 ?_
      refine sp_getR (pc := 32) (ci := 10) (k := 10) (idx := 31) hX mcl_10 (by decide) mq_809 rfl md_M_exchange_32 (fun v4 => ?_)
      refine sp_bipush (pc := 35) hX (by decide) md_M_exchange_35 ?_
      refine sp_iload_n (pc := 37) (k := 2) (i := 2) hX rfl 3 rfl md_M_exchange_37 ?_
      refine sp_imul (pc := 38) hX md_M_exchange_38 ?_
      refine sp_iload_n (pc := 39) (k := 3) (i := 3) hX rfl 4 rfl md_M_exchange_39 ?_
      refine sp_iadd (pc := 40) hX md_M_exchange_40 ?_
      refine sp_iaload (pc := 41) hX md_M_exchange_41 (fun v5 => ?_)
      refine sp_iastore (pc := 42) hX md_M_exchange_42 (fun s6 => ?_)
      refine sp_aload_n (pc := 43) (k := 0) (i := 0) hX rfl 1 rfl md_M_exchange_43 ?_
      refine sp_getR (pc := 44) (ci := 10) (k := 10) (idx := 31) hX mcl_10 (by decide) mq_809 rfl md_M_exchange_44 (fun v7 => ?_)
      refine sp_bipush (pc := 47) hX (by decide) md_M_exchange_47 ?_
      refine sp_iload_n (pc := 49) (k := 2) (i := 2) hX rfl 3 rfl md_M_exchange_49 ?_
      refine sp_imul (pc := 50) hX md_M_exchange_50 ?_
      refine sp_iload_n (pc := 51) (k := 3) (i := 3) hX rfl 4 rfl md_M_exchange_51 ?_
      refine sp_iadd (pc := 52) hX md_M_exchange_52 ?_
      refine sp_iload (pc := 53) (i := 4) hX 0 rfl md_M_exchange_53 ?_
      refine sp_iastore (pc := 55) hX md_M_exchange_55 (fun s8 => ?_)
      refine sp_iinc (pc := 56) (i := 3) (L' := [(3, Value.int (iI (x3 + 1))), (4, Value.int (iI v2)), (0, Value.ref x0), (1, Value.int (iI x1)), (2, Value.int (iI x2))]) hX 4 rfl (by decide) rfl md_M_exchange_56 ?_
      refine sp_goto (pc := 59) hX 2 (by decide) md_M_exchange_59 ?_
      refine sp_sub [2, 3, 4, 0] (L' := [(0, Value.ref x0), (1, Value.int (iI x1)), (2, Value.int (iI x2)), (3, Value.int (iI (x3 + 1)))]) rfl ?_
      exact ih x0 x1 x2 (x3 + 1) s8
set_option maxHeartbeats 4000000 in
set_option maxRecDepth 20000 in
theorem mc_M_exchange {l : Launch} {E : pw_E} {σ : pw_Sto} {x0 : Nat} {x1 : Int} {x2 : Int} {out : Unit × pw_Sto} (h : mf_M_exchange x0 x1 x2 σ = some out) : pw_CV l E my_M_exchange prog_14_method_34_code 5 none mr_M_exchange [.ref x0, .int (iI x1), .int (iI x2)] σ out := by
  unfold mf_M_exchange at h
  refine pw_entryV (by decide) (Nat.le_of_ble_eq_true rfl) (pw_gd_val h) (fun X hX hR hI => ?_)
  change pw_Ok X prog_14_method_34_code "PadeWorkbenchModel" mr_M_exchange 5 at hX
  show pw_Sp X 0 0 0 [(0, Value.ref x0), (1, Value.int (iI x1)), (2, Value.int (iI x2))] [] σ _
  refine sp_iconst (pc := 0) hX md_M_exchange_0 ?_
  refine sp_istore_n (pc := 1) (k := 3) (i := 3) (L' := [(3, Value.int (iI (0 : Int))), (0, Value.ref x0), (1, Value.int (iI x1)), (2, Value.int (iI x2))]) hX rfl (by decide) rfl md_M_exchange_1 ?_
  refine sp_sub [1, 2, 3, 0] (L' := [(0, Value.ref x0), (1, Value.int (iI x1)), (2, Value.int (iI x2)), (3, Value.int (iI (0 : Int)))]) rfl ?_
  exact sl_M_exchange_2 hX hR 1000 x0 x1 x2 (0 : Int) σ
/-! PadeWorkbenchModel.lessRow(III)V -/
theorem md_M_lessRow_0 : decode prog_14_method_35_code 0 = .ok (.iconst 0, 1) := by decide +kernel
theorem md_M_lessRow_1 : decode prog_14_method_35_code 1 = .ok (.istore 4, 2) := by decide +kernel
theorem md_M_lessRow_3 : decode prog_14_method_35_code 3 = .ok (.iload 4, 2) := by decide +kernel
theorem md_M_lessRow_5 : decode prog_14_method_35_code 5 = .ok (.bipush 18, 2) := by decide +kernel
theorem md_M_lessRow_7 : decode prog_14_method_35_code 7 = .ok (.if_icmp .ge 52, 3) := by decide +kernel
theorem md_M_lessRow_59 : decode prog_14_method_35_code 59 = .ok (.return_, 1) := by decide +kernel
theorem md_M_lessRow_10 : decode prog_14_method_35_code 10 = .ok (.aload_n 0, 1) := by decide +kernel
theorem md_M_lessRow_11 : decode prog_14_method_35_code 11 = .ok (.getfield 31, 3) := by decide +kernel
theorem md_M_lessRow_14 : decode prog_14_method_35_code 14 = .ok (.bipush 18, 2) := by decide +kernel
theorem md_M_lessRow_16 : decode prog_14_method_35_code 16 = .ok (.iload_n 1, 1) := by decide +kernel
theorem md_M_lessRow_17 : decode prog_14_method_35_code 17 = .ok (.imul, 1) := by decide +kernel
theorem md_M_lessRow_18 : decode prog_14_method_35_code 18 = .ok (.iload 4, 2) := by decide +kernel
theorem md_M_lessRow_20 : decode prog_14_method_35_code 20 = .ok (.iadd, 1) := by decide +kernel
theorem md_M_lessRow_21 : decode prog_14_method_35_code 21 = .ok (.aload_n 0, 1) := by decide +kernel
theorem md_M_lessRow_22 : decode prog_14_method_35_code 22 = .ok (.aload_n 0, 1) := by decide +kernel
theorem md_M_lessRow_23 : decode prog_14_method_35_code 23 = .ok (.getfield 31, 3) := by decide +kernel
theorem md_M_lessRow_26 : decode prog_14_method_35_code 26 = .ok (.bipush 18, 2) := by decide +kernel
theorem md_M_lessRow_28 : decode prog_14_method_35_code 28 = .ok (.iload_n 1, 1) := by decide +kernel
theorem md_M_lessRow_29 : decode prog_14_method_35_code 29 = .ok (.imul, 1) := by decide +kernel
theorem md_M_lessRow_30 : decode prog_14_method_35_code 30 = .ok (.iload 4, 2) := by decide +kernel
theorem md_M_lessRow_32 : decode prog_14_method_35_code 32 = .ok (.iadd, 1) := by decide +kernel
theorem md_M_lessRow_33 : decode prog_14_method_35_code 33 = .ok (.iaload, 1) := by decide +kernel
theorem md_M_lessRow_34 : decode prog_14_method_35_code 34 = .ok (.iload_n 3, 1) := by decide +kernel
theorem md_M_lessRow_35 : decode prog_14_method_35_code 35 = .ok (.aload_n 0, 1) := by decide +kernel
theorem md_M_lessRow_36 : decode prog_14_method_35_code 36 = .ok (.getfield 31, 3) := by decide +kernel
theorem md_M_lessRow_39 : decode prog_14_method_35_code 39 = .ok (.bipush 18, 2) := by decide +kernel
theorem md_M_lessRow_41 : decode prog_14_method_35_code 41 = .ok (.iload_n 2, 1) := by decide +kernel
theorem md_M_lessRow_42 : decode prog_14_method_35_code 42 = .ok (.imul, 1) := by decide +kernel
theorem md_M_lessRow_43 : decode prog_14_method_35_code 43 = .ok (.iload 4, 2) := by decide +kernel
theorem md_M_lessRow_45 : decode prog_14_method_35_code 45 = .ok (.iadd, 1) := by decide +kernel
theorem md_M_lessRow_46 : decode prog_14_method_35_code 46 = .ok (.iaload, 1) := by decide +kernel
theorem md_M_lessRow_47 : decode prog_14_method_35_code 47 = .ok (.imul, 1) := by decide +kernel
theorem md_M_lessRow_48 : decode prog_14_method_35_code 48 = .ok (.isub, 1) := by decide +kernel
theorem md_M_lessRow_49 : decode prog_14_method_35_code 49 = .ok (.invokevirtual 91, 3) := by decide +kernel
theorem md_M_lessRow_52 : decode prog_14_method_35_code 52 = .ok (.iastore, 1) := by decide +kernel
theorem md_M_lessRow_53 : decode prog_14_method_35_code 53 = .ok (.iinc 4 1, 3) := by decide +kernel
theorem md_M_lessRow_56 : decode prog_14_method_35_code 56 = .ok (.goto (-53), 3) := by decide +kernel
def mb_M_lessRow_3 (rc : Nat → Int → Int → Int → Int → pw_Sto → Option (Unit × pw_Sto)) : Nat → Int → Int → Int → Int → pw_Sto → Option (Unit × pw_Sto) := fun x0 x1 x2 x3 x4 σ => pw_ck x4 (18 : Int) (if (18 : Int) ≤ x4 then some ((), σ) else (pw_gr 10 x0 10 σ).bind (fun v1 => (pw_gr 10 x0 10 σ).bind (fun v2 => (pw_ai v2 (((18 : Int) * x1) + x4) σ).bind (fun v3 => (pw_gr 10 x0 10 σ).bind (fun v4 => (pw_ai v4 (((18 : Int) * x2) + x4) σ).bind (fun v5 => pw_bd (mf_M_mod x0 (v3 - (x3 * v5)) σ) (fun v7 s6 => (pw_si v1 (((18 : Int) * x1) + x4) v7 s6).bind (fun s8 => rc x0 x1 x2 x3 (x4 + 1) s8))))))))
def ml_M_lessRow_3 : Nat → Nat → Int → Int → Int → Int → pw_Sto → Option (Unit × pw_Sto) := pw_lp (fun _ _ _ _ _ _ => none) (mb_M_lessRow_3)
def mf_M_lessRow (x0 : Nat) (x1 : Int) (x2 : Int) (x3 : Int) (σ : pw_Sto) : Option (Unit × pw_Sto) := pw_gd 10 x0 σ (ml_M_lessRow_3 1000 x0 x1 x2 x3 (0 : Int) σ)
set_option maxHeartbeats 4000000 in
set_option maxRecDepth 20000 in
theorem sl_M_lessRow_3 {X : pw_X Unit} (hX : pw_Ok X prog_14_method_35_code "PadeWorkbenchModel" mr_M_lessRow 5) (hR : pw_RV X prog_14_method_35_code) : ∀ (n : Nat) (x0 : Nat) (x1 : Int) (x2 : Int) (x3 : Int) (x4 : Int) (σ : pw_Sto), pw_Sp X 0 0 3 [(0, Value.ref x0), (1, Value.int (iI x1)), (2, Value.int (iI x2)), (3, Value.int (iI x3)), (4, Value.int (iI x4))] [] σ (ml_M_lessRow_3 n x0 x1 x2 x3 x4 σ) := by
  intro n
  induction n with
  | zero => intros; exact pw_none
  | succ n ih =>
    intro x0 x1 x2 x3 x4 σ
    show pw_Sp X 0 0 3 _ _ σ (mb_M_lessRow_3 (ml_M_lessRow_3 n) x0 x1 x2 x3 x4 σ)
    unfold mb_M_lessRow_3
    refine sp_iload (pc := 3) (i := 4) hX 4 rfl md_M_lessRow_3 ?_
    refine sp_bipush (pc := 5) hX (by decide) md_M_lessRow_5 ?_
    refine sp_icmp_ge (pc := 7) hX 59 (by decide) md_M_lessRow_7 (fun _ => ?_) (fun _ => ?_)
    · exact sp_vret (pc := 59) hX hR rfl (Nat.le_of_ble_eq_true rfl) md_M_lessRow_59
    · refine sp_aload_n (pc := 10) (k := 0) (i := 0) hX rfl 0 rfl md_M_lessRow_10 ?_
      refine sp_getR (pc := 11) (ci := 10) (k := 10) (idx := 31) hX mcl_10 (by decide) mq_809 rfl md_M_lessRow_11 (fun v1 => ?_)
      refine sp_bipush (pc := 14) hX (by decide) md_M_lessRow_14 ?_
      refine sp_iload_n (pc := 16) (k := 1) (i := 1) hX rfl 1 rfl md_M_lessRow_16 ?_
      refine sp_imul (pc := 17) hX md_M_lessRow_17 ?_
      refine sp_iload (pc := 18) (i := 4) hX 4 rfl md_M_lessRow_18 ?_
      refine sp_iadd (pc := 20) hX md_M_lessRow_20 ?_
      refine sp_aload_n (pc := 21) (k := 0) (i := 0) hX rfl 0 rfl md_M_lessRow_21 ?_
      refine sp_aload_n (pc := 22) (k := 0) (i := 0) hX rfl 0 rfl md_M_lessRow_22 ?_
      refine sp_getR (pc := 23) (ci := 10) (k := 10) (idx := 31) hX mcl_10 (by decide) mq_809 rfl md_M_lessRow_23 (fun v2 => ?_)
      refine sp_bipush (pc := 26) hX (by decide) md_M_lessRow_26 ?_
      refine sp_iload_n (pc := 28) (k := 1) (i := 1) hX rfl 1 rfl md_M_lessRow_28 ?_
      refine sp_imul (pc := 29) hX md_M_lessRow_29 ?_
      refine sp_iload (pc := 30) (i := 4) hX 4 rfl md_M_lessRow_30 ?_
      refine sp_iadd (pc := 32) hX md_M_lessRow_32 ?_
      refine sp_iaload (pc := 33) hX md_M_lessRow_33 (fun v3 => ?_)
      refine sp_iload_n (pc := 34) (k := 3) (i := 3) hX rfl 3 rfl md_M_lessRow_34 ?_
      refine sp_aload_n (pc := 35) (k := 0) (i := 0) hX rfl 0 rfl md_M_lessRow_35 ?_
      refine sp_getR (pc := 36) (ci := 10) (k := 10) (idx := 31) hX mcl_10 (by decide) mq_809 rfl md_M_lessRow_36 (fun v4 => ?_)
      refine sp_bipush (pc := 39) hX (by decide) md_M_lessRow_39 ?_
      refine sp_iload_n (pc := 41) (k := 2) (i := 2) hX rfl 2 rfl md_M_lessRow_41 ?_
      refine sp_imul (pc := 42) hX md_M_lessRow_42 ?_
      refine sp_iload (pc := 43) (i := 4) hX 4 rfl md_M_lessRow_43 ?_
      refine sp_iadd (pc := 45) hX md_M_lessRow_45 ?_
      refine sp_iaload (pc := 46) hX md_M_lessRow_46 (fun v5 => ?_)
      refine sp_imul (pc := 47) hX md_M_lessRow_47 ?_
      refine sp_isub (pc := 48) hX md_M_lessRow_48 ?_
      refine sp_callVI (pc := 49) (y := my_M_mod) (ccy := prog_14_method_5_code) (nLy := 3) (ret := (some .int)) (rmy := mr_M_mod) (n := 1) (idx := 91) (As := [.int (iI (v3 - (x3 * v5)))]) (st := [.int (iI (((18 : Int) * x1) + x4)), .ref v1]) (o := x0) (cells' := 0) (slots' := 0) hX (fun _ h => mc_M_mod h) mk_M_mod mv_M_mod mcl_10 (fun _ h => pw_gd_of h) mq_901 ⟨(Nat.le_of_ble_eq_true rfl), (Nat.le_of_ble_eq_true rfl)⟩ rfl rfl (Nat.le_of_ble_eq_true rfl) ⟨(Nat.le_of_ble_eq_true rfl), (Nat.le_of_ble_eq_true rfl)⟩ rfl rfl md_M_lessRow_49 (fun v7 s6 => ?_)
      refine sp_iastore (pc := 52) hX md_M_lessRow_52 (fun s8 => ?_)
      refine sp_iinc (pc := 53) (i := 4) (L' := [(4, Value.int (iI (x4 + 1))), (0, Value.ref x0), (1, Value.int (iI x1)), (2, Value.int (iI x2)), (3, Value.int (iI x3))]) hX 4 rfl (by decide) rfl md_M_lessRow_53 ?_
      refine sp_goto (pc := 56) hX 3 (by decide) md_M_lessRow_56 ?_
      refine sp_sub [1, 2, 3, 4, 0] (L' := [(0, Value.ref x0), (1, Value.int (iI x1)), (2, Value.int (iI x2)), (3, Value.int (iI x3)), (4, Value.int (iI (x4 + 1)))]) rfl ?_
      exact ih x0 x1 x2 x3 (x4 + 1) s8
set_option maxHeartbeats 4000000 in
set_option maxRecDepth 20000 in
theorem mc_M_lessRow {l : Launch} {E : pw_E} {σ : pw_Sto} {x0 : Nat} {x1 : Int} {x2 : Int} {x3 : Int} {out : Unit × pw_Sto} (h : mf_M_lessRow x0 x1 x2 x3 σ = some out) : pw_CV l E my_M_lessRow prog_14_method_35_code 5 none mr_M_lessRow [.ref x0, .int (iI x1), .int (iI x2), .int (iI x3)] σ out := by
  unfold mf_M_lessRow at h
  refine pw_entryV (by decide) (Nat.le_of_ble_eq_true rfl) (pw_gd_val h) (fun X hX hR hI => ?_)
  change pw_Ok X prog_14_method_35_code "PadeWorkbenchModel" mr_M_lessRow 5 at hX
  show pw_Sp X 0 0 0 [(0, Value.ref x0), (1, Value.int (iI x1)), (2, Value.int (iI x2)), (3, Value.int (iI x3))] [] σ _
  refine sp_iconst (pc := 0) hX md_M_lessRow_0 ?_
  refine sp_istore (pc := 1) (i := 4) (L' := [(4, Value.int (iI (0 : Int))), (0, Value.ref x0), (1, Value.int (iI x1)), (2, Value.int (iI x2)), (3, Value.int (iI x3))]) hX (by decide) rfl md_M_lessRow_1 ?_
  refine sp_sub [1, 2, 3, 4, 0] (L' := [(0, Value.ref x0), (1, Value.int (iI x1)), (2, Value.int (iI x2)), (3, Value.int (iI x3)), (4, Value.int (iI (0 : Int)))]) rfl ?_
  exact sl_M_lessRow_3 hX hR 1000 x0 x1 x2 x3 (0 : Int) σ
/-! PadeWorkbenchModel.rowWith(III)I -/
theorem md_M_rowWith_0 : decode prog_14_method_36_code 0 = .ok (.iload_n 1, 1) := by decide +kernel
theorem md_M_rowWith_1 : decode prog_14_method_36_code 1 = .ok (.istore 4, 2) := by decide +kernel
theorem md_M_rowWith_3 : decode prog_14_method_36_code 3 = .ok (.iload 4, 2) := by decide +kernel
theorem md_M_rowWith_5 : decode prog_14_method_36_code 5 = .ok (.iload_n 2, 1) := by decide +kernel
theorem md_M_rowWith_6 : decode prog_14_method_36_code 6 = .ok (.if_icmp .ge 27, 3) := by decide +kernel
theorem md_M_rowWith_33 : decode prog_14_method_36_code 33 = .ok (.iconst (-1), 1) := by decide +kernel
theorem md_M_rowWith_34 : decode prog_14_method_36_code 34 = .ok (.ireturn, 1) := by decide +kernel
theorem md_M_rowWith_9 : decode prog_14_method_36_code 9 = .ok (.aload_n 0, 1) := by decide +kernel
theorem md_M_rowWith_10 : decode prog_14_method_36_code 10 = .ok (.getfield 31, 3) := by decide +kernel
theorem md_M_rowWith_13 : decode prog_14_method_36_code 13 = .ok (.bipush 18, 2) := by decide +kernel
theorem md_M_rowWith_15 : decode prog_14_method_36_code 15 = .ok (.iload 4, 2) := by decide +kernel
theorem md_M_rowWith_17 : decode prog_14_method_36_code 17 = .ok (.imul, 1) := by decide +kernel
theorem md_M_rowWith_18 : decode prog_14_method_36_code 18 = .ok (.iload_n 3, 1) := by decide +kernel
theorem md_M_rowWith_19 : decode prog_14_method_36_code 19 = .ok (.iadd, 1) := by decide +kernel
theorem md_M_rowWith_20 : decode prog_14_method_36_code 20 = .ok (.iaload, 1) := by decide +kernel
theorem md_M_rowWith_21 : decode prog_14_method_36_code 21 = .ok (.ifCond .eq 6, 3) := by decide +kernel
theorem md_M_rowWith_27 : decode prog_14_method_36_code 27 = .ok (.iinc 4 1, 3) := by decide +kernel
theorem md_M_rowWith_30 : decode prog_14_method_36_code 30 = .ok (.goto (-27), 3) := by decide +kernel
theorem md_M_rowWith_24 : decode prog_14_method_36_code 24 = .ok (.iload 4, 2) := by decide +kernel
theorem md_M_rowWith_26 : decode prog_14_method_36_code 26 = .ok (.ireturn, 1) := by decide +kernel
def mb_M_rowWith_3 (rc : Nat → Int → Int → Int → pw_Sto → Option (Int × pw_Sto)) : Nat → Int → Int → Int → pw_Sto → Option (Int × pw_Sto) := fun x0 x2 x3 x4 σ => pw_ck x4 x2 (if x2 ≤ x4 then some ((-1 : Int), σ) else (pw_gr 10 x0 10 σ).bind (fun v1 => (pw_ai v1 (((18 : Int) * x4) + x3) σ).bind (fun v2 => pw_ck v2 0 (if v2 = 0 then rc x0 x2 x3 (x4 + 1) σ else some (x4, σ)))))
def ml_M_rowWith_3 : Nat → Nat → Int → Int → Int → pw_Sto → Option (Int × pw_Sto) := pw_lp (fun _ _ _ _ _ => none) (mb_M_rowWith_3)
def mf_M_rowWith (x0 : Nat) (x1 : Int) (x2 : Int) (x3 : Int) (σ : pw_Sto) : Option (Int × pw_Sto) := pw_gd 10 x0 σ (ml_M_rowWith_3 1000 x0 x2 x3 x1 σ)
set_option maxHeartbeats 4000000 in
set_option maxRecDepth 20000 in
theorem sl_M_rowWith_3 {X : pw_X Int} (hX : pw_Ok X prog_14_method_36_code "PadeWorkbenchModel" mr_M_rowWith 5) (hR : pw_RI X prog_14_method_36_code) : ∀ (n : Nat) (x0 : Nat) (x2 : Int) (x3 : Int) (x4 : Int) (σ : pw_Sto), pw_Sp X 0 0 3 [(0, Value.ref x0), (2, Value.int (iI x2)), (3, Value.int (iI x3)), (4, Value.int (iI x4))] [] σ (ml_M_rowWith_3 n x0 x2 x3 x4 σ) := by
  intro n
  induction n with
  | zero => intros; exact pw_none
  | succ n ih =>
    intro x0 x2 x3 x4 σ
    show pw_Sp X 0 0 3 _ _ σ (mb_M_rowWith_3 (ml_M_rowWith_3 n) x0 x2 x3 x4 σ)
    unfold mb_M_rowWith_3
    refine sp_iload (pc := 3) (i := 4) hX 3 rfl md_M_rowWith_3 ?_
    refine sp_iload_n (pc := 5) (k := 2) (i := 2) hX rfl 1 rfl md_M_rowWith_5 ?_
    refine sp_icmp_ge (pc := 6) hX 33 (by decide) md_M_rowWith_6 (fun _ => ?_) (fun _ => ?_)
    · refine sp_iconst (pc := 33) hX md_M_rowWith_33 ?_
      exact sp_iret (pc := 34) hX hR rfl (Nat.le_of_ble_eq_true rfl) md_M_rowWith_34
    · refine sp_aload_n (pc := 9) (k := 0) (i := 0) hX rfl 0 rfl md_M_rowWith_9 ?_
      refine sp_getR (pc := 10) (ci := 10) (k := 10) (idx := 31) hX mcl_10 (by decide) mq_809 rfl md_M_rowWith_10 (fun v1 => ?_)
      refine sp_bipush (pc := 13) hX (by decide) md_M_rowWith_13 ?_
      refine sp_iload (pc := 15) (i := 4) hX 3 rfl md_M_rowWith_15 ?_
      refine sp_imul (pc := 17) hX md_M_rowWith_17 ?_
      refine sp_iload_n (pc := 18) (k := 3) (i := 3) hX rfl 2 rfl md_M_rowWith_18 ?_
      refine sp_iadd (pc := 19) hX md_M_rowWith_19 ?_
      refine sp_iaload (pc := 20) hX md_M_rowWith_20 (fun v2 => ?_)
      refine sp_if_eq (pc := 21) hX 27 (by decide) md_M_rowWith_21 (fun _ => ?_) (fun _ => ?_)
      · refine sp_iinc (pc := 27) (i := 4) (L' := [(4, Value.int (iI (x4 + 1))), (0, Value.ref x0), (2, Value.int (iI x2)), (3, Value.int (iI x3))]) hX 3 rfl (by decide) rfl md_M_rowWith_27 ?_
        refine sp_goto (pc := 30) hX 3 (by decide) md_M_rowWith_30 ?_
        refine sp_sub [1, 2, 3, 0] (L' := [(0, Value.ref x0), (2, Value.int (iI x2)), (3, Value.int (iI x3)), (4, Value.int (iI (x4 + 1)))]) rfl ?_
        exact ih x0 x2 x3 (x4 + 1) σ
      · refine sp_iload (pc := 24) (i := 4) hX 3 rfl md_M_rowWith_24 ?_
        exact sp_iret (pc := 26) hX hR rfl (Nat.le_of_ble_eq_true rfl) md_M_rowWith_26
set_option maxHeartbeats 4000000 in
set_option maxRecDepth 20000 in
theorem mc_M_rowWith {l : Launch} {E : pw_E} {σ : pw_Sto} {x0 : Nat} {x1 : Int} {x2 : Int} {x3 : Int} {out : Int × pw_Sto} (h : mf_M_rowWith x0 x1 x2 x3 σ = some out) : pw_CI l E my_M_rowWith prog_14_method_36_code 5 (some .int) mr_M_rowWith [.ref x0, .int (iI x1), .int (iI x2), .int (iI x3)] σ out := by
  unfold mf_M_rowWith at h
  refine pw_entryI (by decide) (Nat.le_of_ble_eq_true rfl) (pw_gd_val h) (fun X hX hR hI => ?_)
  change pw_Ok X prog_14_method_36_code "PadeWorkbenchModel" mr_M_rowWith 5 at hX
  show pw_Sp X 0 0 0 [(0, Value.ref x0), (1, Value.int (iI x1)), (2, Value.int (iI x2)), (3, Value.int (iI x3))] [] σ _
  refine sp_iload_n (pc := 0) (k := 1) (i := 1) hX rfl 1 rfl md_M_rowWith_0 ?_
  refine sp_istore (pc := 1) (i := 4) (L' := [(4, Value.int (iI x1)), (0, Value.ref x0), (1, Value.int (iI x1)), (2, Value.int (iI x2)), (3, Value.int (iI x3))]) hX (by decide) rfl md_M_rowWith_1 ?_
  refine sp_sub [1, 3, 4, 0] (L' := [(0, Value.ref x0), (2, Value.int (iI x2)), (3, Value.int (iI x3)), (4, Value.int (iI x1))]) rfl ?_
  exact sl_M_rowWith_3 hX hR 1000 x0 x2 x3 x1 σ
/-! PadeWorkbenchModel.reduce(II)V -/
theorem md_M_reduce_0 : decode prog_14_method_37_code 0 = .ok (.iconst 0, 1) := by decide +kernel
theorem md_M_reduce_1 : decode prog_14_method_37_code 1 = .ok (.istore_n 3, 1) := by decide +kernel
theorem md_M_reduce_2 : decode prog_14_method_37_code 2 = .ok (.iconst 0, 1) := by decide +kernel
theorem md_M_reduce_3 : decode prog_14_method_37_code 3 = .ok (.istore 4, 2) := by decide +kernel
theorem md_M_reduce_5 : decode prog_14_method_37_code 5 = .ok (.iload 4, 2) := by decide +kernel
theorem md_M_reduce_7 : decode prog_14_method_37_code 7 = .ok (.iload_n 2, 1) := by decide +kernel
theorem md_M_reduce_8 : decode prog_14_method_37_code 8 = .ok (.if_icmp .ge 157, 3) := by decide +kernel
theorem md_M_reduce_165 : decode prog_14_method_37_code 165 = .ok (.return_, 1) := by decide +kernel
theorem md_M_reduce_11 : decode prog_14_method_37_code 11 = .ok (.aload_n 0, 1) := by decide +kernel
theorem md_M_reduce_12 : decode prog_14_method_37_code 12 = .ok (.iload_n 3, 1) := by decide +kernel
theorem md_M_reduce_13 : decode prog_14_method_37_code 13 = .ok (.iload_n 1, 1) := by decide +kernel
theorem md_M_reduce_14 : decode prog_14_method_37_code 14 = .ok (.iload 4, 2) := by decide +kernel
theorem md_M_reduce_16 : decode prog_14_method_37_code 16 = .ok (.invokevirtual 144, 3) := by decide +kernel
theorem md_M_reduce_19 : decode prog_14_method_37_code 19 = .ok (.istore 5, 2) := by decide +kernel
theorem md_M_reduce_21 : decode prog_14_method_37_code 21 = .ok (.aload_n 0, 1) := by decide +kernel
theorem md_M_reduce_22 : decode prog_14_method_37_code 22 = .ok (.getfield 34, 3) := by decide +kernel
theorem md_M_reduce_25 : decode prog_14_method_37_code 25 = .ok (.iload 4, 2) := by decide +kernel
theorem md_M_reduce_27 : decode prog_14_method_37_code 27 = .ok (.iload 5, 2) := by decide +kernel
theorem md_M_reduce_29 : decode prog_14_method_37_code 29 = .ok (.ifCond .ge 7, 3) := by decide +kernel
theorem md_M_reduce_36 : decode prog_14_method_37_code 36 = .ok (.iload_n 3, 1) := by decide +kernel
theorem md_M_reduce_37 : decode prog_14_method_37_code 37 = .ok (.iastore, 1) := by decide +kernel
theorem md_M_reduce_38 : decode prog_14_method_37_code 38 = .ok (.iload 5, 2) := by decide +kernel
theorem md_M_reduce_40 : decode prog_14_method_37_code 40 = .ok (.ifCond .lt 119, 3) := by decide +kernel
theorem md_M_reduce_159 : decode prog_14_method_37_code 159 = .ok (.iinc 4 1, 3) := by decide +kernel
theorem md_M_reduce_162 : decode prog_14_method_37_code 162 = .ok (.goto (-157), 3) := by decide +kernel
theorem md_M_reduce_43 : decode prog_14_method_37_code 43 = .ok (.aload_n 0, 1) := by decide +kernel
theorem md_M_reduce_44 : decode prog_14_method_37_code 44 = .ok (.iload_n 3, 1) := by decide +kernel
theorem md_M_reduce_45 : decode prog_14_method_37_code 45 = .ok (.iload 5, 2) := by decide +kernel
theorem md_M_reduce_47 : decode prog_14_method_37_code 47 = .ok (.invokevirtual 148, 3) := by decide +kernel
theorem md_M_reduce_50 : decode prog_14_method_37_code 50 = .ok (.aload_n 0, 1) := by decide +kernel
theorem md_M_reduce_51 : decode prog_14_method_37_code 51 = .ok (.aload_n 0, 1) := by decide +kernel
theorem md_M_reduce_52 : decode prog_14_method_37_code 52 = .ok (.getfield 31, 3) := by decide +kernel
theorem md_M_reduce_55 : decode prog_14_method_37_code 55 = .ok (.bipush 18, 2) := by decide +kernel
theorem md_M_reduce_57 : decode prog_14_method_37_code 57 = .ok (.iload_n 3, 1) := by decide +kernel
theorem md_M_reduce_58 : decode prog_14_method_37_code 58 = .ok (.imul, 1) := by decide +kernel
theorem md_M_reduce_59 : decode prog_14_method_37_code 59 = .ok (.iload 4, 2) := by decide +kernel
theorem md_M_reduce_61 : decode prog_14_method_37_code 61 = .ok (.iadd, 1) := by decide +kernel
theorem md_M_reduce_62 : decode prog_14_method_37_code 62 = .ok (.iaload, 1) := by decide +kernel
theorem md_M_reduce_63 : decode prog_14_method_37_code 63 = .ok (.invokevirtual 94, 3) := by decide +kernel
theorem md_M_reduce_66 : decode prog_14_method_37_code 66 = .ok (.istore 6, 2) := by decide +kernel
theorem md_M_reduce_68 : decode prog_14_method_37_code 68 = .ok (.iconst 0, 1) := by decide +kernel
theorem md_M_reduce_69 : decode prog_14_method_37_code 69 = .ok (.istore 7, 2) := by decide +kernel
theorem md_M_reduce_71 : decode prog_14_method_37_code 71 = .ok (.iload 7, 2) := by decide +kernel
theorem md_M_reduce_73 : decode prog_14_method_37_code 73 = .ok (.bipush 18, 2) := by decide +kernel
theorem md_M_reduce_75 : decode prog_14_method_37_code 75 = .ok (.if_icmp .ge 40, 3) := by decide +kernel
theorem md_M_reduce_115 : decode prog_14_method_37_code 115 = .ok (.iconst 0, 1) := by decide +kernel
theorem md_M_reduce_116 : decode prog_14_method_37_code 116 = .ok (.istore 7, 2) := by decide +kernel
theorem md_M_reduce_118 : decode prog_14_method_37_code 118 = .ok (.iload 7, 2) := by decide +kernel
theorem md_M_reduce_120 : decode prog_14_method_37_code 120 = .ok (.iload_n 1, 1) := by decide +kernel
theorem md_M_reduce_121 : decode prog_14_method_37_code 121 = .ok (.if_icmp .ge 35, 3) := by decide +kernel
theorem md_M_reduce_156 : decode prog_14_method_37_code 156 = .ok (.iinc 3 1, 3) := by decide +kernel
theorem md_M_reduce_124 : decode prog_14_method_37_code 124 = .ok (.iload 7, 2) := by decide +kernel
theorem md_M_reduce_126 : decode prog_14_method_37_code 126 = .ok (.iload_n 3, 1) := by decide +kernel
theorem md_M_reduce_127 : decode prog_14_method_37_code 127 = .ok (.if_icmp .eq 23, 3) := by decide +kernel
theorem md_M_reduce_150 : decode prog_14_method_37_code 150 = .ok (.iinc 7 1, 3) := by decide +kernel
theorem md_M_reduce_153 : decode prog_14_method_37_code 153 = .ok (.goto (-35), 3) := by decide +kernel
theorem md_M_reduce_130 : decode prog_14_method_37_code 130 = .ok (.aload_n 0, 1) := by decide +kernel
theorem md_M_reduce_131 : decode prog_14_method_37_code 131 = .ok (.iload 7, 2) := by decide +kernel
theorem md_M_reduce_133 : decode prog_14_method_37_code 133 = .ok (.iload_n 3, 1) := by decide +kernel
theorem md_M_reduce_134 : decode prog_14_method_37_code 134 = .ok (.aload_n 0, 1) := by decide +kernel
theorem md_M_reduce_135 : decode prog_14_method_37_code 135 = .ok (.getfield 31, 3) := by decide +kernel
theorem md_M_reduce_138 : decode prog_14_method_37_code 138 = .ok (.bipush 18, 2) := by decide +kernel
theorem md_M_reduce_140 : decode prog_14_method_37_code 140 = .ok (.iload 7, 2) := by decide +kernel
theorem md_M_reduce_142 : decode prog_14_method_37_code 142 = .ok (.imul, 1) := by decide +kernel
theorem md_M_reduce_143 : decode prog_14_method_37_code 143 = .ok (.iload 4, 2) := by decide +kernel
theorem md_M_reduce_145 : decode prog_14_method_37_code 145 = .ok (.iadd, 1) := by decide +kernel
theorem md_M_reduce_146 : decode prog_14_method_37_code 146 = .ok (.iaload, 1) := by decide +kernel
theorem md_M_reduce_147 : decode prog_14_method_37_code 147 = .ok (.invokevirtual 152, 3) := by decide +kernel
theorem md_M_reduce_78 : decode prog_14_method_37_code 78 = .ok (.aload_n 0, 1) := by decide +kernel
theorem md_M_reduce_79 : decode prog_14_method_37_code 79 = .ok (.getfield 31, 3) := by decide +kernel
theorem md_M_reduce_82 : decode prog_14_method_37_code 82 = .ok (.bipush 18, 2) := by decide +kernel
theorem md_M_reduce_84 : decode prog_14_method_37_code 84 = .ok (.iload_n 3, 1) := by decide +kernel
theorem md_M_reduce_85 : decode prog_14_method_37_code 85 = .ok (.imul, 1) := by decide +kernel
theorem md_M_reduce_86 : decode prog_14_method_37_code 86 = .ok (.iload 7, 2) := by decide +kernel
theorem md_M_reduce_88 : decode prog_14_method_37_code 88 = .ok (.iadd, 1) := by decide +kernel
theorem md_M_reduce_89 : decode prog_14_method_37_code 89 = .ok (.aload_n 0, 1) := by decide +kernel
theorem md_M_reduce_90 : decode prog_14_method_37_code 90 = .ok (.aload_n 0, 1) := by decide +kernel
theorem md_M_reduce_91 : decode prog_14_method_37_code 91 = .ok (.getfield 31, 3) := by decide +kernel
theorem md_M_reduce_94 : decode prog_14_method_37_code 94 = .ok (.bipush 18, 2) := by decide +kernel
theorem md_M_reduce_96 : decode prog_14_method_37_code 96 = .ok (.iload_n 3, 1) := by decide +kernel
theorem md_M_reduce_97 : decode prog_14_method_37_code 97 = .ok (.imul, 1) := by decide +kernel
theorem md_M_reduce_98 : decode prog_14_method_37_code 98 = .ok (.iload 7, 2) := by decide +kernel
theorem md_M_reduce_100 : decode prog_14_method_37_code 100 = .ok (.iadd, 1) := by decide +kernel
theorem md_M_reduce_101 : decode prog_14_method_37_code 101 = .ok (.iaload, 1) := by decide +kernel
theorem md_M_reduce_102 : decode prog_14_method_37_code 102 = .ok (.iload 6, 2) := by decide +kernel
theorem md_M_reduce_104 : decode prog_14_method_37_code 104 = .ok (.imul, 1) := by decide +kernel
theorem md_M_reduce_105 : decode prog_14_method_37_code 105 = .ok (.invokevirtual 91, 3) := by decide +kernel
theorem md_M_reduce_108 : decode prog_14_method_37_code 108 = .ok (.iastore, 1) := by decide +kernel
theorem md_M_reduce_109 : decode prog_14_method_37_code 109 = .ok (.iinc 7 1, 3) := by decide +kernel
theorem md_M_reduce_112 : decode prog_14_method_37_code 112 = .ok (.goto (-41), 3) := by decide +kernel
theorem md_M_reduce_32 : decode prog_14_method_37_code 32 = .ok (.iconst (-1), 1) := by decide +kernel
theorem md_M_reduce_33 : decode prog_14_method_37_code 33 = .ok (.goto 4, 3) := by decide +kernel
def mb_M_reduce_118 (r5 : Nat → Int → Int → Int → Int → pw_Sto → Option (Unit × pw_Sto)) (rc : Nat → Int → Int → Int → Int → Int → pw_Sto → Option (Unit × pw_Sto)) : Nat → Int → Int → Int → Int → Int → pw_Sto → Option (Unit × pw_Sto) := fun x0 x1 x2 x3 x4 x7 σ => pw_ck x7 x1 (if x1 ≤ x7 then r5 x0 x1 x2 (x3 + 1) (x4 + 1) σ else pw_ck x7 x3 (if x7 = x3 then rc x0 x1 x2 x3 x4 (x7 + 1) σ else (pw_gr 10 x0 10 σ).bind (fun v10 => (pw_ai v10 (((18 : Int) * x7) + x4) σ).bind (fun v11 => pw_bd (mf_M_lessRow x0 x7 x3 v11 σ) (fun _ s12 => rc x0 x1 x2 x3 x4 (x7 + 1) s12)))))
def ml_M_reduce_118 (r5 : Nat → Int → Int → Int → Int → pw_Sto → Option (Unit × pw_Sto)) : Nat → Nat → Int → Int → Int → Int → Int → pw_Sto → Option (Unit × pw_Sto) := pw_lp (fun _ _ _ _ _ _ _ => none) (mb_M_reduce_118 r5)
def mb_M_reduce_71 (r5 : Nat → Int → Int → Int → Int → pw_Sto → Option (Unit × pw_Sto)) (rc : Nat → Int → Int → Int → Int → Int → Int → pw_Sto → Option (Unit × pw_Sto)) : Nat → Int → Int → Int → Int → Int → Int → pw_Sto → Option (Unit × pw_Sto) := fun x0 x1 x2 x3 x4 x6 x7 σ => pw_ck x7 (18 : Int) (if (18 : Int) ≤ x7 then ml_M_reduce_118 r5 1000 x0 x1 x2 x3 x4 (0 : Int) σ else (pw_gr 10 x0 10 σ).bind (fun v13 => (pw_gr 10 x0 10 σ).bind (fun v14 => (pw_ai v14 (((18 : Int) * x3) + x7) σ).bind (fun v15 => pw_bd (mf_M_mod x0 (v15 * x6) σ) (fun v17 s16 => (pw_si v13 (((18 : Int) * x3) + x7) v17 s16).bind (fun s18 => rc x0 x1 x2 x3 x4 x6 (x7 + 1) s18))))))
def ml_M_reduce_71 (r5 : Nat → Int → Int → Int → Int → pw_Sto → Option (Unit × pw_Sto)) : Nat → Nat → Int → Int → Int → Int → Int → Int → pw_Sto → Option (Unit × pw_Sto) := pw_lp (fun _ _ _ _ _ _ _ _ => none) (mb_M_reduce_71 r5)
def mj_M_reduce_37 (r5 : Nat → Int → Int → Int → Int → pw_Sto → Option (Unit × pw_Sto)) (x0 : Nat) (x1 : Int) (x2 : Int) (x3 : Int) (x4 : Int) (x5 : Int) (y0 : Int) (y1 : Int) (y2 : Nat) (σ : pw_Sto) : Option (Unit × pw_Sto) := (pw_si y2 y1 y0 σ).bind (fun s4 => pw_ck x5 0 (if x5 < 0 then r5 x0 x1 x2 x3 (x4 + 1) s4 else pw_bd (mf_M_exchange x0 x3 x5 s4) (fun _ s5 => (pw_gr 10 x0 10 s5).bind (fun v6 => (pw_ai v6 (((18 : Int) * x3) + x4) s5).bind (fun v7 => pw_bd (mf_M_inverse x0 v7 s5) (fun v9 s8 => ml_M_reduce_71 r5 1000 x0 x1 x2 x3 x4 v9 (0 : Int) s8))))))
def mb_M_reduce_5 (rc : Nat → Int → Int → Int → Int → pw_Sto → Option (Unit × pw_Sto)) : Nat → Int → Int → Int → Int → pw_Sto → Option (Unit × pw_Sto) := fun x0 x1 x2 x3 x4 σ => pw_ck x4 x2 (if x2 ≤ x4 then some ((), σ) else pw_bd (mf_M_rowWith x0 x3 x1 x4 σ) (fun v2 s1 => (pw_gr 10 x0 11 s1).bind (fun v3 => pw_ck v2 0 (if 0 ≤ v2 then mj_M_reduce_37 rc x0 x1 x2 x3 x4 v2 x3 x4 v3 s1 else mj_M_reduce_37 rc x0 x1 x2 x3 x4 v2 (-1 : Int) x4 v3 s1))))
def ml_M_reduce_5 : Nat → Nat → Int → Int → Int → Int → pw_Sto → Option (Unit × pw_Sto) := pw_lp (fun _ _ _ _ _ _ => none) (mb_M_reduce_5)
def mf_M_reduce (x0 : Nat) (x1 : Int) (x2 : Int) (σ : pw_Sto) : Option (Unit × pw_Sto) := pw_gd 10 x0 σ (ml_M_reduce_5 1000 x0 x1 x2 (0 : Int) (0 : Int) σ)
set_option maxHeartbeats 4000000 in
set_option maxRecDepth 20000 in
theorem sl_M_reduce_118 {X : pw_X Unit} (hX : pw_Ok X prog_14_method_37_code "PadeWorkbenchModel" mr_M_reduce 8) (hR : pw_RV X prog_14_method_37_code) {r5 : Nat → Int → Int → Int → Int → pw_Sto → Option (Unit × pw_Sto)} (h5 : ∀ (z0 : Nat) (z1 : Int) (z2 : Int) (z3 : Int) (z4 : Int) (σ : pw_Sto), pw_Sp X 0 0 5 [(0, Value.ref z0), (1, Value.int (iI z1)), (2, Value.int (iI z2)), (3, Value.int (iI z3)), (4, Value.int (iI z4))] [] σ (r5 z0 z1 z2 z3 z4 σ)) : ∀ (n : Nat) (x0 : Nat) (x1 : Int) (x2 : Int) (x3 : Int) (x4 : Int) (x7 : Int) (σ : pw_Sto), pw_Sp X 0 0 118 [(0, Value.ref x0), (1, Value.int (iI x1)), (2, Value.int (iI x2)), (3, Value.int (iI x3)), (4, Value.int (iI x4)), (7, Value.int (iI x7))] [] σ (ml_M_reduce_118 r5 n x0 x1 x2 x3 x4 x7 σ) := by
  intro n
  induction n with
  | zero => intros; exact pw_none
  | succ n ih =>
    intro x0 x1 x2 x3 x4 x7 σ
    show pw_Sp X 0 0 118 _ _ σ (mb_M_reduce_118 r5 (ml_M_reduce_118 r5 n) x0 x1 x2 x3 x4 x7 σ)
    unfold mb_M_reduce_118
    refine sp_iload (pc := 118) (i := 7) hX 5 rfl md_M_reduce_118 ?_
    refine sp_iload_n (pc := 120) (k := 1) (i := 1) hX rfl 1 rfl md_M_reduce_120 ?_
    refine sp_icmp_ge (pc := 121) hX 156 (by decide) md_M_reduce_121 (fun _ => ?_) (fun _ => ?_)
    · refine sp_iinc (pc := 156) (i := 3) (L' := [(3, Value.int (iI (x3 + 1))), (0, Value.ref x0), (1, Value.int (iI x1)), (2, Value.int (iI x2)), (4, Value.int (iI x4)), (7, Value.int (iI x7))]) hX 3 rfl (by decide) rfl md_M_reduce_156 ?_
      refine sp_iinc (pc := 159) (i := 4) (L' := [(4, Value.int (iI (x4 + 1))), (3, Value.int (iI (x3 + 1))), (0, Value.ref x0), (1, Value.int (iI x1)), (2, Value.int (iI x2)), (7, Value.int (iI x7))]) hX 4 rfl (by decide) rfl md_M_reduce_159 ?_
      refine sp_goto (pc := 162) hX 5 (by decide) md_M_reduce_162 ?_
      refine sp_sub [2, 3, 4, 1, 0] (L' := [(0, Value.ref x0), (1, Value.int (iI x1)), (2, Value.int (iI x2)), (3, Value.int (iI (x3 + 1))), (4, Value.int (iI (x4 + 1)))]) rfl ?_
      exact h5 x0 x1 x2 (x3 + 1) (x4 + 1) σ
    · refine sp_iload (pc := 124) (i := 7) hX 5 rfl md_M_reduce_124 ?_
      refine sp_iload_n (pc := 126) (k := 3) (i := 3) hX rfl 3 rfl md_M_reduce_126 ?_
      refine sp_icmp_eq (pc := 127) hX 150 (by decide) md_M_reduce_127 (fun _ => ?_) (fun _ => ?_)
      · refine sp_iinc (pc := 150) (i := 7) (L' := [(7, Value.int (iI (x7 + 1))), (0, Value.ref x0), (1, Value.int (iI x1)), (2, Value.int (iI x2)), (3, Value.int (iI x3)), (4, Value.int (iI x4))]) hX 5 rfl (by decide) rfl md_M_reduce_150 ?_
        refine sp_goto (pc := 153) hX 118 (by decide) md_M_reduce_153 ?_
        refine sp_sub [1, 2, 3, 4, 5, 0] (L' := [(0, Value.ref x0), (1, Value.int (iI x1)), (2, Value.int (iI x2)), (3, Value.int (iI x3)), (4, Value.int (iI x4)), (7, Value.int (iI (x7 + 1)))]) rfl ?_
        exact ih x0 x1 x2 x3 x4 (x7 + 1) σ
      · refine sp_aload_n (pc := 130) (k := 0) (i := 0) hX rfl 0 rfl md_M_reduce_130 ?_
        refine sp_iload (pc := 131) (i := 7) hX 5 rfl md_M_reduce_131 ?_
        refine sp_iload_n (pc := 133) (k := 3) (i := 3) hX rfl 3 rfl md_M_reduce_133 ?_
        refine sp_aload_n (pc := 134) (k := 0) (i := 0) hX rfl 0 rfl md_M_reduce_134 ?_
        refine sp_getR (pc := 135) (ci := 10) (k := 10) (idx := 31) hX mcl_10 (by decide) mq_809 rfl md_M_reduce_135 (fun v10 => ?_)
        refine sp_bipush (pc := 138) hX (by decide) md_M_reduce_138 ?_
        refine sp_iload (pc := 140) (i := 7) hX 5 rfl md_M_reduce_140 ?_
        refine sp_imul (pc := 142) hX md_M_reduce_142 ?_
        refine sp_iload (pc := 143) (i := 4) hX 4 rfl md_M_reduce_143 ?_
        refine sp_iadd (pc := 145) hX md_M_reduce_145 ?_
        refine sp_iaload (pc := 146) hX md_M_reduce_146 (fun v11 => ?_)
        refine sp_callVV (pc := 147) (y := my_M_lessRow) (ccy := prog_14_method_35_code) (nLy := 5) (ret := none) (rmy := mr_M_lessRow) (n := 3) (idx := 152) (As := [.int (iI x7), .int (iI x3), .int (iI v11)]) (st := []) (o := x0) (cells' := 0) (slots' := 0) hX (fun _ h => mc_M_lessRow h) mk_M_lessRow mv_M_lessRow mcl_10 (fun _ h => pw_gd_of h) mq_1012 ⟨(Nat.le_of_ble_eq_true rfl), (Nat.le_of_ble_eq_true rfl)⟩ rfl rfl (Nat.le_of_ble_eq_true rfl) ⟨(Nat.le_of_ble_eq_true rfl), (Nat.le_of_ble_eq_true rfl)⟩ rfl rfl md_M_reduce_147 (fun s12 => ?_)
        refine sp_iinc (pc := 150) (i := 7) (L' := [(7, Value.int (iI (x7 + 1))), (0, Value.ref x0), (1, Value.int (iI x1)), (2, Value.int (iI x2)), (3, Value.int (iI x3)), (4, Value.int (iI x4))]) hX 5 rfl (by decide) rfl md_M_reduce_150 ?_
        refine sp_goto (pc := 153) hX 118 (by decide) md_M_reduce_153 ?_
        refine sp_sub [1, 2, 3, 4, 5, 0] (L' := [(0, Value.ref x0), (1, Value.int (iI x1)), (2, Value.int (iI x2)), (3, Value.int (iI x3)), (4, Value.int (iI x4)), (7, Value.int (iI (x7 + 1)))]) rfl ?_
        exact ih x0 x1 x2 x3 x4 (x7 + 1) s12
set_option maxHeartbeats 4000000 in
set_option maxRecDepth 20000 in
theorem sl_M_reduce_71 {X : pw_X Unit} (hX : pw_Ok X prog_14_method_37_code "PadeWorkbenchModel" mr_M_reduce 8) (hR : pw_RV X prog_14_method_37_code) {r5 : Nat → Int → Int → Int → Int → pw_Sto → Option (Unit × pw_Sto)} (h5 : ∀ (z0 : Nat) (z1 : Int) (z2 : Int) (z3 : Int) (z4 : Int) (σ : pw_Sto), pw_Sp X 0 0 5 [(0, Value.ref z0), (1, Value.int (iI z1)), (2, Value.int (iI z2)), (3, Value.int (iI z3)), (4, Value.int (iI z4))] [] σ (r5 z0 z1 z2 z3 z4 σ)) : ∀ (n : Nat) (x0 : Nat) (x1 : Int) (x2 : Int) (x3 : Int) (x4 : Int) (x6 : Int) (x7 : Int) (σ : pw_Sto), pw_Sp X 0 0 71 [(0, Value.ref x0), (1, Value.int (iI x1)), (2, Value.int (iI x2)), (3, Value.int (iI x3)), (4, Value.int (iI x4)), (6, Value.int (iI x6)), (7, Value.int (iI x7))] [] σ (ml_M_reduce_71 r5 n x0 x1 x2 x3 x4 x6 x7 σ) := by
  intro n
  induction n with
  | zero => intros; exact pw_none
  | succ n ih =>
    intro x0 x1 x2 x3 x4 x6 x7 σ
    show pw_Sp X 0 0 71 _ _ σ (mb_M_reduce_71 r5 (ml_M_reduce_71 r5 n) x0 x1 x2 x3 x4 x6 x7 σ)
    unfold mb_M_reduce_71
    refine sp_iload (pc := 71) (i := 7) hX 6 rfl md_M_reduce_71 ?_
    refine sp_bipush (pc := 73) hX (by decide) md_M_reduce_73 ?_
    refine sp_icmp_ge (pc := 75) hX 115 (by decide) md_M_reduce_75 (fun _ => ?_) (fun _ => ?_)
    · refine sp_iconst (pc := 115) hX md_M_reduce_115 ?_
      refine sp_istore (pc := 116) (i := 7) (L' := [(7, Value.int (iI (0 : Int))), (0, Value.ref x0), (1, Value.int (iI x1)), (2, Value.int (iI x2)), (3, Value.int (iI x3)), (4, Value.int (iI x4)), (6, Value.int (iI x6))]) hX (by decide) rfl md_M_reduce_116 ?_
      refine sp_sub [1, 2, 3, 4, 5, 0] (L' := [(0, Value.ref x0), (1, Value.int (iI x1)), (2, Value.int (iI x2)), (3, Value.int (iI x3)), (4, Value.int (iI x4)), (7, Value.int (iI (0 : Int)))]) rfl ?_
      exact sl_M_reduce_118 hX hR h5 1000 x0 x1 x2 x3 x4 (0 : Int) σ
    · refine sp_aload_n (pc := 78) (k := 0) (i := 0) hX rfl 0 rfl md_M_reduce_78 ?_
      refine sp_getR (pc := 79) (ci := 10) (k := 10) (idx := 31) hX mcl_10 (by decide) mq_809 rfl md_M_reduce_79 (fun v13 => ?_)
      refine sp_bipush (pc := 82) hX (by decide) md_M_reduce_82 ?_
      refine sp_iload_n (pc := 84) (k := 3) (i := 3) hX rfl 3 rfl md_M_reduce_84 ?_
      refine sp_imul (pc := 85) hX md_M_reduce_85 ?_
      refine sp_iload (pc := 86) (i := 7) hX 6 rfl md_M_reduce_86 ?_
      refine sp_iadd (pc := 88) hX md_M_reduce_88 ?_
      refine sp_aload_n (pc := 89) (k := 0) (i := 0) hX rfl 0 rfl md_M_reduce_89 ?_
      refine sp_aload_n (pc := 90) (k := 0) (i := 0) hX rfl 0 rfl md_M_reduce_90 ?_
      refine sp_getR (pc := 91) (ci := 10) (k := 10) (idx := 31) hX mcl_10 (by decide) mq_809 rfl md_M_reduce_91 (fun v14 => ?_)
      refine sp_bipush (pc := 94) hX (by decide) md_M_reduce_94 ?_
      refine sp_iload_n (pc := 96) (k := 3) (i := 3) hX rfl 3 rfl md_M_reduce_96 ?_
      refine sp_imul (pc := 97) hX md_M_reduce_97 ?_
      refine sp_iload (pc := 98) (i := 7) hX 6 rfl md_M_reduce_98 ?_
      refine sp_iadd (pc := 100) hX md_M_reduce_100 ?_
      refine sp_iaload (pc := 101) hX md_M_reduce_101 (fun v15 => ?_)
      refine sp_iload (pc := 102) (i := 6) hX 5 rfl md_M_reduce_102 ?_
      refine sp_imul (pc := 104) hX md_M_reduce_104 ?_
      refine sp_callVI (pc := 105) (y := my_M_mod) (ccy := prog_14_method_5_code) (nLy := 3) (ret := (some .int)) (rmy := mr_M_mod) (n := 1) (idx := 91) (As := [.int (iI (v15 * x6))]) (st := [.int (iI (((18 : Int) * x3) + x7)), .ref v13]) (o := x0) (cells' := 0) (slots' := 0) hX (fun _ h => mc_M_mod h) mk_M_mod mv_M_mod mcl_10 (fun _ h => pw_gd_of h) mq_901 ⟨(Nat.le_of_ble_eq_true rfl), (Nat.le_of_ble_eq_true rfl)⟩ rfl rfl (Nat.le_of_ble_eq_true rfl) ⟨(Nat.le_of_ble_eq_true rfl), (Nat.le_of_ble_eq_true rfl)⟩ rfl rfl md_M_reduce_105 (fun v17 s16 => ?_)
      refine sp_iastore (pc := 108) hX md_M_reduce_108 (fun s18 => ?_)
      refine sp_iinc (pc := 109) (i := 7) (L' := [(7, Value.int (iI (x7 + 1))), (0, Value.ref x0), (1, Value.int (iI x1)), (2, Value.int (iI x2)), (3, Value.int (iI x3)), (4, Value.int (iI x4)), (6, Value.int (iI x6))]) hX 6 rfl (by decide) rfl md_M_reduce_109 ?_
      refine sp_goto (pc := 112) hX 71 (by decide) md_M_reduce_112 ?_
      refine sp_sub [1, 2, 3, 4, 5, 6, 0] (L' := [(0, Value.ref x0), (1, Value.int (iI x1)), (2, Value.int (iI x2)), (3, Value.int (iI x3)), (4, Value.int (iI x4)), (6, Value.int (iI x6)), (7, Value.int (iI (x7 + 1)))]) rfl ?_
      exact ih x0 x1 x2 x3 x4 x6 (x7 + 1) s18
set_option maxHeartbeats 4000000 in
set_option maxRecDepth 20000 in
theorem sj_M_reduce_37 {X : pw_X Unit} (hX : pw_Ok X prog_14_method_37_code "PadeWorkbenchModel" mr_M_reduce 8) (hR : pw_RV X prog_14_method_37_code) {r5 : Nat → Int → Int → Int → Int → pw_Sto → Option (Unit × pw_Sto)} (h5 : ∀ (z0 : Nat) (z1 : Int) (z2 : Int) (z3 : Int) (z4 : Int) (σ : pw_Sto), pw_Sp X 0 0 5 [(0, Value.ref z0), (1, Value.int (iI z1)), (2, Value.int (iI z2)), (3, Value.int (iI z3)), (4, Value.int (iI z4))] [] σ (r5 z0 z1 z2 z3 z4 σ)) (x0 : Nat) (x1 : Int) (x2 : Int) (x3 : Int) (x4 : Int) (x5 : Int) (y0 : Int) (y1 : Int) (y2 : Nat) (σ : pw_Sto) : pw_Sp X 0 0 37 [(0, Value.ref x0), (1, Value.int (iI x1)), (2, Value.int (iI x2)), (3, Value.int (iI x3)), (4, Value.int (iI x4)), (5, Value.int (iI x5))] [Value.int (iI y0), Value.int (iI y1), Value.ref y2] σ (mj_M_reduce_37 r5 x0 x1 x2 x3 x4 x5 y0 y1 y2 σ) := by
  unfold mj_M_reduce_37
  refine sp_iastore (pc := 37) hX md_M_reduce_37 (fun s4 => ?_)
  refine sp_iload (pc := 38) (i := 5) hX 5 rfl md_M_reduce_38 ?_
  refine sp_if_lt (pc := 40) hX 159 (by decide) md_M_reduce_40 (fun _ => ?_) (fun _ => ?_)
  · refine sp_iinc (pc := 159) (i := 4) (L' := [(4, Value.int (iI (x4 + 1))), (0, Value.ref x0), (1, Value.int (iI x1)), (2, Value.int (iI x2)), (3, Value.int (iI x3)), (5, Value.int (iI x5))]) hX 4 rfl (by decide) rfl md_M_reduce_159 ?_
    refine sp_goto (pc := 162) hX 5 (by decide) md_M_reduce_162 ?_
    refine sp_sub [1, 2, 3, 4, 0] (L' := [(0, Value.ref x0), (1, Value.int (iI x1)), (2, Value.int (iI x2)), (3, Value.int (iI x3)), (4, Value.int (iI (x4 + 1)))]) rfl ?_
    exact h5 x0 x1 x2 x3 (x4 + 1) s4
  · refine sp_aload_n (pc := 43) (k := 0) (i := 0) hX rfl 0 rfl md_M_reduce_43 ?_
    refine sp_iload_n (pc := 44) (k := 3) (i := 3) hX rfl 3 rfl md_M_reduce_44 ?_
    refine sp_iload (pc := 45) (i := 5) hX 5 rfl md_M_reduce_45 ?_
    refine sp_callVV (pc := 47) (y := my_M_exchange) (ccy := prog_14_method_34_code) (nLy := 5) (ret := none) (rmy := mr_M_exchange) (n := 2) (idx := 148) (As := [.int (iI x3), .int (iI x5)]) (st := []) (o := x0) (cells' := 0) (slots' := 0) hX (fun _ h => mc_M_exchange h) mk_M_exchange mv_M_exchange mcl_10 (fun _ h => pw_gd_of h) mq_1008 ⟨(Nat.le_of_ble_eq_true rfl), (Nat.le_of_ble_eq_true rfl)⟩ rfl rfl (Nat.le_of_ble_eq_true rfl) ⟨(Nat.le_of_ble_eq_true rfl), (Nat.le_of_ble_eq_true rfl)⟩ rfl rfl md_M_reduce_47 (fun s5 => ?_)
    refine sp_aload_n (pc := 50) (k := 0) (i := 0) hX rfl 0 rfl md_M_reduce_50 ?_
    refine sp_aload_n (pc := 51) (k := 0) (i := 0) hX rfl 0 rfl md_M_reduce_51 ?_
    refine sp_getR (pc := 52) (ci := 10) (k := 10) (idx := 31) hX mcl_10 (by decide) mq_809 rfl md_M_reduce_52 (fun v6 => ?_)
    refine sp_bipush (pc := 55) hX (by decide) md_M_reduce_55 ?_
    refine sp_iload_n (pc := 57) (k := 3) (i := 3) hX rfl 3 rfl md_M_reduce_57 ?_
    refine sp_imul (pc := 58) hX md_M_reduce_58 ?_
    refine sp_iload (pc := 59) (i := 4) hX 4 rfl md_M_reduce_59 ?_
    refine sp_iadd (pc := 61) hX md_M_reduce_61 ?_
    refine sp_iaload (pc := 62) hX md_M_reduce_62 (fun v7 => ?_)
    refine sp_callVI (pc := 63) (y := my_M_inverse) (ccy := prog_14_method_6_code) (nLy := 4) (ret := (some .int)) (rmy := mr_M_inverse) (n := 1) (idx := 94) (As := [.int (iI v7)]) (st := []) (o := x0) (cells' := 0) (slots' := 0) hX (fun _ h => mc_M_inverse h) mk_M_inverse mv_M_inverse mcl_10 (fun _ h => pw_gd_of h) mq_932 ⟨(Nat.le_of_ble_eq_true rfl), (Nat.le_of_ble_eq_true rfl)⟩ rfl rfl (Nat.le_of_ble_eq_true rfl) ⟨(Nat.le_of_ble_eq_true rfl), (Nat.le_of_ble_eq_true rfl)⟩ rfl rfl md_M_reduce_63 (fun v9 s8 => ?_)
    refine sp_istore (pc := 66) (i := 6) (L' := [(6, Value.int (iI v9)), (0, Value.ref x0), (1, Value.int (iI x1)), (2, Value.int (iI x2)), (3, Value.int (iI x3)), (4, Value.int (iI x4)), (5, Value.int (iI x5))]) hX (by decide) rfl md_M_reduce_66 ?_
    refine sp_iconst (pc := 68) hX md_M_reduce_68 ?_
    refine sp_istore (pc := 69) (i := 7) (L' := [(7, Value.int (iI (0 : Int))), (6, Value.int (iI v9)), (0, Value.ref x0), (1, Value.int (iI x1)), (2, Value.int (iI x2)), (3, Value.int (iI x3)), (4, Value.int (iI x4)), (5, Value.int (iI x5))]) hX (by decide) rfl md_M_reduce_69 ?_
    refine sp_sub [2, 3, 4, 5, 6, 1, 0] (L' := [(0, Value.ref x0), (1, Value.int (iI x1)), (2, Value.int (iI x2)), (3, Value.int (iI x3)), (4, Value.int (iI x4)), (6, Value.int (iI v9)), (7, Value.int (iI (0 : Int)))]) rfl ?_
    exact sl_M_reduce_71 hX hR h5 1000 x0 x1 x2 x3 x4 v9 (0 : Int) s8
set_option maxHeartbeats 4000000 in
set_option maxRecDepth 20000 in
theorem sl_M_reduce_5 {X : pw_X Unit} (hX : pw_Ok X prog_14_method_37_code "PadeWorkbenchModel" mr_M_reduce 8) (hR : pw_RV X prog_14_method_37_code) : ∀ (n : Nat) (x0 : Nat) (x1 : Int) (x2 : Int) (x3 : Int) (x4 : Int) (σ : pw_Sto), pw_Sp X 0 0 5 [(0, Value.ref x0), (1, Value.int (iI x1)), (2, Value.int (iI x2)), (3, Value.int (iI x3)), (4, Value.int (iI x4))] [] σ (ml_M_reduce_5 n x0 x1 x2 x3 x4 σ) := by
  intro n
  induction n with
  | zero => intros; exact pw_none
  | succ n ih =>
    intro x0 x1 x2 x3 x4 σ
    show pw_Sp X 0 0 5 _ _ σ (mb_M_reduce_5 (ml_M_reduce_5 n) x0 x1 x2 x3 x4 σ)
    unfold mb_M_reduce_5
    refine sp_iload (pc := 5) (i := 4) hX 4 rfl md_M_reduce_5 ?_
    refine sp_iload_n (pc := 7) (k := 2) (i := 2) hX rfl 2 rfl md_M_reduce_7 ?_
    refine sp_icmp_ge (pc := 8) hX 165 (by decide) md_M_reduce_8 (fun _ => ?_) (fun _ => ?_)
    · exact sp_vret (pc := 165) hX hR rfl (Nat.le_of_ble_eq_true rfl) md_M_reduce_165
    · refine sp_aload_n (pc := 11) (k := 0) (i := 0) hX rfl 0 rfl md_M_reduce_11 ?_
      refine sp_iload_n (pc := 12) (k := 3) (i := 3) hX rfl 3 rfl md_M_reduce_12 ?_
      refine sp_iload_n (pc := 13) (k := 1) (i := 1) hX rfl 1 rfl md_M_reduce_13 ?_
      refine sp_iload (pc := 14) (i := 4) hX 4 rfl md_M_reduce_14 ?_
      refine sp_callVI (pc := 16) (y := my_M_rowWith) (ccy := prog_14_method_36_code) (nLy := 5) (ret := (some .int)) (rmy := mr_M_rowWith) (n := 3) (idx := 144) (As := [.int (iI x3), .int (iI x1), .int (iI x4)]) (st := []) (o := x0) (cells' := 0) (slots' := 0) hX (fun _ h => mc_M_rowWith h) mk_M_rowWith mv_M_rowWith mcl_10 (fun _ h => pw_gd_of h) mq_1004 ⟨(Nat.le_of_ble_eq_true rfl), (Nat.le_of_ble_eq_true rfl)⟩ rfl rfl (Nat.le_of_ble_eq_true rfl) ⟨(Nat.le_of_ble_eq_true rfl), (Nat.le_of_ble_eq_true rfl)⟩ rfl rfl md_M_reduce_16 (fun v2 s1 => ?_)
      refine sp_istore (pc := 19) (i := 5) (L' := [(5, Value.int (iI v2)), (0, Value.ref x0), (1, Value.int (iI x1)), (2, Value.int (iI x2)), (3, Value.int (iI x3)), (4, Value.int (iI x4))]) hX (by decide) rfl md_M_reduce_19 ?_
      refine sp_aload_n (pc := 21) (k := 0) (i := 0) hX rfl 1 rfl md_M_reduce_21 ?_
      refine sp_getR (pc := 22) (ci := 10) (k := 11) (idx := 34) hX mcl_10 (by decide) mq_810 rfl md_M_reduce_22 (fun v3 => ?_)
      refine sp_iload (pc := 25) (i := 4) hX 5 rfl md_M_reduce_25 ?_
      refine sp_iload (pc := 27) (i := 5) hX 0 rfl md_M_reduce_27 ?_
      refine sp_if_ge (pc := 29) hX 36 (by decide) md_M_reduce_29 (fun _ => ?_) (fun _ => ?_)
      · refine sp_iload_n (pc := 36) (k := 3) (i := 3) hX rfl 4 rfl md_M_reduce_36 ?_
        refine sp_sub [1, 2, 3, 4, 5, 0] (L' := [(0, Value.ref x0), (1, Value.int (iI x1)), (2, Value.int (iI x2)), (3, Value.int (iI x3)), (4, Value.int (iI x4)), (5, Value.int (iI v2))]) rfl ?_
        exact sj_M_reduce_37 hX hR ih x0 x1 x2 x3 x4 v2 x3 x4 v3 s1
      · refine sp_iconst (pc := 32) hX md_M_reduce_32 ?_
        refine sp_goto (pc := 33) hX 37 (by decide) md_M_reduce_33 ?_
        refine sp_sub [1, 2, 3, 4, 5, 0] (L' := [(0, Value.ref x0), (1, Value.int (iI x1)), (2, Value.int (iI x2)), (3, Value.int (iI x3)), (4, Value.int (iI x4)), (5, Value.int (iI v2))]) rfl ?_
        exact sj_M_reduce_37 hX hR ih x0 x1 x2 x3 x4 v2 (-1 : Int) x4 v3 s1
set_option maxHeartbeats 4000000 in
set_option maxRecDepth 20000 in
theorem mc_M_reduce {l : Launch} {E : pw_E} {σ : pw_Sto} {x0 : Nat} {x1 : Int} {x2 : Int} {out : Unit × pw_Sto} (h : mf_M_reduce x0 x1 x2 σ = some out) : pw_CV l E my_M_reduce prog_14_method_37_code 8 none mr_M_reduce [.ref x0, .int (iI x1), .int (iI x2)] σ out := by
  unfold mf_M_reduce at h
  refine pw_entryV (by decide) (Nat.le_of_ble_eq_true rfl) (pw_gd_val h) (fun X hX hR hI => ?_)
  change pw_Ok X prog_14_method_37_code "PadeWorkbenchModel" mr_M_reduce 8 at hX
  show pw_Sp X 0 0 0 [(0, Value.ref x0), (1, Value.int (iI x1)), (2, Value.int (iI x2))] [] σ _
  refine sp_iconst (pc := 0) hX md_M_reduce_0 ?_
  refine sp_istore_n (pc := 1) (k := 3) (i := 3) (L' := [(3, Value.int (iI (0 : Int))), (0, Value.ref x0), (1, Value.int (iI x1)), (2, Value.int (iI x2))]) hX rfl (by decide) rfl md_M_reduce_1 ?_
  refine sp_iconst (pc := 2) hX md_M_reduce_2 ?_
  refine sp_istore (pc := 3) (i := 4) (L' := [(4, Value.int (iI (0 : Int))), (3, Value.int (iI (0 : Int))), (0, Value.ref x0), (1, Value.int (iI x1)), (2, Value.int (iI x2))]) hX (by decide) rfl md_M_reduce_3 ?_
  refine sp_sub [2, 3, 4, 1, 0] (L' := [(0, Value.ref x0), (1, Value.int (iI x1)), (2, Value.int (iI x2)), (3, Value.int (iI (0 : Int))), (4, Value.int (iI (0 : Int)))]) rfl ?_
  exact sl_M_reduce_5 hX hR 1000 x0 x1 x2 (0 : Int) (0 : Int) σ
/-! PadeWorkbenchModel.findVector(II)V -/
theorem md_M_findVector_0 : decode prog_14_method_38_code 0 = .ok (.aload_n 0, 1) := by decide +kernel
theorem md_M_findVector_1 : decode prog_14_method_38_code 1 = .ok (.iload_n 1, 1) := by decide +kernel
theorem md_M_findVector_2 : decode prog_14_method_38_code 2 = .ok (.iload_n 2, 1) := by decide +kernel
theorem md_M_findVector_3 : decode prog_14_method_38_code 3 = .ok (.invokevirtual 156, 3) := by decide +kernel
theorem md_M_findVector_6 : decode prog_14_method_38_code 6 = .ok (.iconst 0, 1) := by decide +kernel
theorem md_M_findVector_7 : decode prog_14_method_38_code 7 = .ok (.istore_n 3, 1) := by decide +kernel
theorem md_M_findVector_8 : decode prog_14_method_38_code 8 = .ok (.aload_n 0, 1) := by decide +kernel
theorem md_M_findVector_9 : decode prog_14_method_38_code 9 = .ok (.getfield 34, 3) := by decide +kernel
theorem md_M_findVector_12 : decode prog_14_method_38_code 12 = .ok (.iload_n 3, 1) := by decide +kernel
theorem md_M_findVector_13 : decode prog_14_method_38_code 13 = .ok (.iaload, 1) := by decide +kernel
theorem md_M_findVector_14 : decode prog_14_method_38_code 14 = .ok (.ifCond .lt 9, 3) := by decide +kernel
theorem md_M_findVector_23 : decode prog_14_method_38_code 23 = .ok (.iconst 0, 1) := by decide +kernel
theorem md_M_findVector_24 : decode prog_14_method_38_code 24 = .ok (.istore 4, 2) := by decide +kernel
theorem md_M_findVector_26 : decode prog_14_method_38_code 26 = .ok (.iload 4, 2) := by decide +kernel
theorem md_M_findVector_28 : decode prog_14_method_38_code 28 = .ok (.iload_n 2, 1) := by decide +kernel
theorem md_M_findVector_29 : decode prog_14_method_38_code 29 = .ok (.if_icmp .ge 62, 3) := by decide +kernel
theorem md_M_findVector_91 : decode prog_14_method_38_code 91 = .ok (.return_, 1) := by decide +kernel
theorem md_M_findVector_32 : decode prog_14_method_38_code 32 = .ok (.aload_n 0, 1) := by decide +kernel
theorem md_M_findVector_33 : decode prog_14_method_38_code 33 = .ok (.getfield 37, 3) := by decide +kernel
theorem md_M_findVector_36 : decode prog_14_method_38_code 36 = .ok (.iload 4, 2) := by decide +kernel
theorem md_M_findVector_38 : decode prog_14_method_38_code 38 = .ok (.aload_n 0, 1) := by decide +kernel
theorem md_M_findVector_39 : decode prog_14_method_38_code 39 = .ok (.getfield 34, 3) := by decide +kernel
theorem md_M_findVector_42 : decode prog_14_method_38_code 42 = .ok (.iload 4, 2) := by decide +kernel
theorem md_M_findVector_44 : decode prog_14_method_38_code 44 = .ok (.iaload, 1) := by decide +kernel
theorem md_M_findVector_45 : decode prog_14_method_38_code 45 = .ok (.ifCond .lt 28, 3) := by decide +kernel
theorem md_M_findVector_73 : decode prog_14_method_38_code 73 = .ok (.iload 4, 2) := by decide +kernel
theorem md_M_findVector_75 : decode prog_14_method_38_code 75 = .ok (.iload_n 3, 1) := by decide +kernel
theorem md_M_findVector_76 : decode prog_14_method_38_code 76 = .ok (.if_icmp .ne 7, 3) := by decide +kernel
theorem md_M_findVector_83 : decode prog_14_method_38_code 83 = .ok (.iconst 0, 1) := by decide +kernel
theorem md_M_findVector_84 : decode prog_14_method_38_code 84 = .ok (.iastore, 1) := by decide +kernel
theorem md_M_findVector_85 : decode prog_14_method_38_code 85 = .ok (.iinc 4 1, 3) := by decide +kernel
theorem md_M_findVector_88 : decode prog_14_method_38_code 88 = .ok (.goto (-62), 3) := by decide +kernel
theorem md_M_findVector_79 : decode prog_14_method_38_code 79 = .ok (.iconst 1, 1) := by decide +kernel
theorem md_M_findVector_80 : decode prog_14_method_38_code 80 = .ok (.goto 4, 3) := by decide +kernel
theorem md_M_findVector_48 : decode prog_14_method_38_code 48 = .ok (.aload_n 0, 1) := by decide +kernel
theorem md_M_findVector_49 : decode prog_14_method_38_code 49 = .ok (.aload_n 0, 1) := by decide +kernel
theorem md_M_findVector_50 : decode prog_14_method_38_code 50 = .ok (.getfield 31, 3) := by decide +kernel
theorem md_M_findVector_53 : decode prog_14_method_38_code 53 = .ok (.bipush 18, 2) := by decide +kernel
theorem md_M_findVector_55 : decode prog_14_method_38_code 55 = .ok (.aload_n 0, 1) := by decide +kernel
theorem md_M_findVector_56 : decode prog_14_method_38_code 56 = .ok (.getfield 34, 3) := by decide +kernel
theorem md_M_findVector_59 : decode prog_14_method_38_code 59 = .ok (.iload 4, 2) := by decide +kernel
theorem md_M_findVector_61 : decode prog_14_method_38_code 61 = .ok (.iaload, 1) := by decide +kernel
theorem md_M_findVector_62 : decode prog_14_method_38_code 62 = .ok (.imul, 1) := by decide +kernel
theorem md_M_findVector_63 : decode prog_14_method_38_code 63 = .ok (.iload_n 3, 1) := by decide +kernel
theorem md_M_findVector_64 : decode prog_14_method_38_code 64 = .ok (.iadd, 1) := by decide +kernel
theorem md_M_findVector_65 : decode prog_14_method_38_code 65 = .ok (.iaload, 1) := by decide +kernel
theorem md_M_findVector_66 : decode prog_14_method_38_code 66 = .ok (.ineg, 1) := by decide +kernel
theorem md_M_findVector_67 : decode prog_14_method_38_code 67 = .ok (.invokevirtual 91, 3) := by decide +kernel
theorem md_M_findVector_70 : decode prog_14_method_38_code 70 = .ok (.goto 14, 3) := by decide +kernel
theorem md_M_findVector_17 : decode prog_14_method_38_code 17 = .ok (.iinc 3 1, 3) := by decide +kernel
theorem md_M_findVector_20 : decode prog_14_method_38_code 20 = .ok (.goto (-12), 3) := by decide +kernel
def mb_M_findVector_26 (rc : Nat → Int → Int → Int → pw_Sto → Option (Unit × pw_Sto)) : Nat → Int → Int → Int → pw_Sto → Option (Unit × pw_Sto) := fun x0 x2 x3 x4 σ => pw_ck x4 x2 (if x2 ≤ x4 then some ((), σ) else (pw_gr 10 x0 12 σ).bind (fun v4 => (pw_gr 10 x0 11 σ).bind (fun v5 => (pw_ai v5 x4 σ).bind (fun v6 => pw_ck v6 0 (if v6 < 0 then pw_ck x4 x3 (if x4 = x3 then (pw_si v4 x4 (1 : Int) σ).bind (fun s8 => rc x0 x2 x3 (x4 + 1) s8) else (pw_si v4 x4 (0 : Int) σ).bind (fun s7 => rc x0 x2 x3 (x4 + 1) s7)) else (pw_gr 10 x0 10 σ).bind (fun v9 => (pw_gr 10 x0 11 σ).bind (fun v10 => (pw_ai v10 x4 σ).bind (fun v11 => (pw_ai v9 (((18 : Int) * v11) + x3) σ).bind (fun v12 => pw_bd (mf_M_mod x0 (-v12) σ) (fun v14 s13 => (pw_si v4 x4 v14 s13).bind (fun s15 => rc x0 x2 x3 (x4 + 1) s15)))))))))))
def ml_M_findVector_26 : Nat → Nat → Int → Int → Int → pw_Sto → Option (Unit × pw_Sto) := pw_lp (fun _ _ _ _ _ => none) (mb_M_findVector_26)
def mb_M_findVector_8 (rc : Nat → Int → Int → pw_Sto → Option (Unit × pw_Sto)) : Nat → Int → Int → pw_Sto → Option (Unit × pw_Sto) := fun x0 x2 x3 σ => (pw_gr 10 x0 11 σ).bind (fun v2 => (pw_ai v2 x3 σ).bind (fun v3 => pw_ck v3 0 (if v3 < 0 then ml_M_findVector_26 1000 x0 x2 x3 (0 : Int) σ else rc x0 x2 (x3 + 1) σ)))
def ml_M_findVector_8 : Nat → Nat → Int → Int → pw_Sto → Option (Unit × pw_Sto) := pw_lp (fun _ _ _ _ => none) (mb_M_findVector_8)
def mf_M_findVector (x0 : Nat) (x1 : Int) (x2 : Int) (σ : pw_Sto) : Option (Unit × pw_Sto) := pw_gd 10 x0 σ (pw_bd (mf_M_reduce x0 x1 x2 σ) (fun _ s1 => ml_M_findVector_8 1000 x0 x2 (0 : Int) s1))
set_option maxHeartbeats 4000000 in
set_option maxRecDepth 20000 in
theorem sl_M_findVector_26 {X : pw_X Unit} (hX : pw_Ok X prog_14_method_38_code "PadeWorkbenchModel" mr_M_findVector 5) (hR : pw_RV X prog_14_method_38_code) : ∀ (n : Nat) (x0 : Nat) (x2 : Int) (x3 : Int) (x4 : Int) (σ : pw_Sto), pw_Sp X 0 0 26 [(0, Value.ref x0), (2, Value.int (iI x2)), (3, Value.int (iI x3)), (4, Value.int (iI x4))] [] σ (ml_M_findVector_26 n x0 x2 x3 x4 σ) := by
  intro n
  induction n with
  | zero => intros; exact pw_none
  | succ n ih =>
    intro x0 x2 x3 x4 σ
    show pw_Sp X 0 0 26 _ _ σ (mb_M_findVector_26 (ml_M_findVector_26 n) x0 x2 x3 x4 σ)
    unfold mb_M_findVector_26
    refine sp_iload (pc := 26) (i := 4) hX 3 rfl md_M_findVector_26 ?_
    refine sp_iload_n (pc := 28) (k := 2) (i := 2) hX rfl 1 rfl md_M_findVector_28 ?_
    refine sp_icmp_ge (pc := 29) hX 91 (by decide) md_M_findVector_29 (fun _ => ?_) (fun _ => ?_)
    · exact sp_vret (pc := 91) hX hR rfl (Nat.le_of_ble_eq_true rfl) md_M_findVector_91
    · refine sp_aload_n (pc := 32) (k := 0) (i := 0) hX rfl 0 rfl md_M_findVector_32 ?_
      refine sp_getR (pc := 33) (ci := 10) (k := 12) (idx := 37) hX mcl_10 (by decide) mq_811 rfl md_M_findVector_33 (fun v4 => ?_)
      refine sp_iload (pc := 36) (i := 4) hX 3 rfl md_M_findVector_36 ?_
      refine sp_aload_n (pc := 38) (k := 0) (i := 0) hX rfl 0 rfl md_M_findVector_38 ?_
      refine sp_getR (pc := 39) (ci := 10) (k := 11) (idx := 34) hX mcl_10 (by decide) mq_810 rfl md_M_findVector_39 (fun v5 => ?_)
      refine sp_iload (pc := 42) (i := 4) hX 3 rfl md_M_findVector_42 ?_
      refine sp_iaload (pc := 44) hX md_M_findVector_44 (fun v6 => ?_)
      refine sp_if_lt (pc := 45) hX 73 (by decide) md_M_findVector_45 (fun _ => ?_) (fun _ => ?_)
      · refine sp_iload (pc := 73) (i := 4) hX 3 rfl md_M_findVector_73 ?_
        refine sp_iload_n (pc := 75) (k := 3) (i := 3) hX rfl 2 rfl md_M_findVector_75 ?_
        refine sp_icmp_ne (pc := 76) hX 83 (by decide) md_M_findVector_76 (fun _ => ?_) (fun _ => ?_)
        · refine sp_iconst (pc := 79) hX md_M_findVector_79 ?_
          refine sp_goto (pc := 80) hX 84 (by decide) md_M_findVector_80 ?_
          refine sp_iastore (pc := 84) hX md_M_findVector_84 (fun s8 => ?_)
          refine sp_iinc (pc := 85) (i := 4) (L' := [(4, Value.int (iI (x4 + 1))), (0, Value.ref x0), (2, Value.int (iI x2)), (3, Value.int (iI x3))]) hX 3 rfl (by decide) rfl md_M_findVector_85 ?_
          refine sp_goto (pc := 88) hX 26 (by decide) md_M_findVector_88 ?_
          refine sp_sub [1, 2, 3, 0] (L' := [(0, Value.ref x0), (2, Value.int (iI x2)), (3, Value.int (iI x3)), (4, Value.int (iI (x4 + 1)))]) rfl ?_
          exact ih x0 x2 x3 (x4 + 1) s8
        · refine sp_iconst (pc := 83) hX md_M_findVector_83 ?_
          refine sp_iastore (pc := 84) hX md_M_findVector_84 (fun s7 => ?_)
          refine sp_iinc (pc := 85) (i := 4) (L' := [(4, Value.int (iI (x4 + 1))), (0, Value.ref x0), (2, Value.int (iI x2)), (3, Value.int (iI x3))]) hX 3 rfl (by decide) rfl md_M_findVector_85 ?_
          refine sp_goto (pc := 88) hX 26 (by decide) md_M_findVector_88 ?_
          refine sp_sub [1, 2, 3, 0] (L' := [(0, Value.ref x0), (2, Value.int (iI x2)), (3, Value.int (iI x3)), (4, Value.int (iI (x4 + 1)))]) rfl ?_
          exact ih x0 x2 x3 (x4 + 1) s7
      · refine sp_aload_n (pc := 48) (k := 0) (i := 0) hX rfl 0 rfl md_M_findVector_48 ?_
        refine sp_aload_n (pc := 49) (k := 0) (i := 0) hX rfl 0 rfl md_M_findVector_49 ?_
        refine sp_getR (pc := 50) (ci := 10) (k := 10) (idx := 31) hX mcl_10 (by decide) mq_809 rfl md_M_findVector_50 (fun v9 => ?_)
        refine sp_bipush (pc := 53) hX (by decide) md_M_findVector_53 ?_
        refine sp_aload_n (pc := 55) (k := 0) (i := 0) hX rfl 0 rfl md_M_findVector_55 ?_
        refine sp_getR (pc := 56) (ci := 10) (k := 11) (idx := 34) hX mcl_10 (by decide) mq_810 rfl md_M_findVector_56 (fun v10 => ?_)
        refine sp_iload (pc := 59) (i := 4) hX 3 rfl md_M_findVector_59 ?_
        refine sp_iaload (pc := 61) hX md_M_findVector_61 (fun v11 => ?_)
        refine sp_imul (pc := 62) hX md_M_findVector_62 ?_
        refine sp_iload_n (pc := 63) (k := 3) (i := 3) hX rfl 2 rfl md_M_findVector_63 ?_
        refine sp_iadd (pc := 64) hX md_M_findVector_64 ?_
        refine sp_iaload (pc := 65) hX md_M_findVector_65 (fun v12 => ?_)
        refine sp_ineg (pc := 66) hX md_M_findVector_66 ?_
        refine sp_callVI (pc := 67) (y := my_M_mod) (ccy := prog_14_method_5_code) (nLy := 3) (ret := (some .int)) (rmy := mr_M_mod) (n := 1) (idx := 91) (As := [.int (iI (-v12))]) (st := [.int (iI x4), .ref v4]) (o := x0) (cells' := 0) (slots' := 0) hX (fun _ h => mc_M_mod h) mk_M_mod mv_M_mod mcl_10 (fun _ h => pw_gd_of h) mq_901 ⟨(Nat.le_of_ble_eq_true rfl), (Nat.le_of_ble_eq_true rfl)⟩ rfl rfl (Nat.le_of_ble_eq_true rfl) ⟨(Nat.le_of_ble_eq_true rfl), (Nat.le_of_ble_eq_true rfl)⟩ rfl rfl md_M_findVector_67 (fun v14 s13 => ?_)
        refine sp_goto (pc := 70) hX 84 (by decide) md_M_findVector_70 ?_
        refine sp_iastore (pc := 84) hX md_M_findVector_84 (fun s15 => ?_)
        refine sp_iinc (pc := 85) (i := 4) (L' := [(4, Value.int (iI (x4 + 1))), (0, Value.ref x0), (2, Value.int (iI x2)), (3, Value.int (iI x3))]) hX 3 rfl (by decide) rfl md_M_findVector_85 ?_
        refine sp_goto (pc := 88) hX 26 (by decide) md_M_findVector_88 ?_
        refine sp_sub [1, 2, 3, 0] (L' := [(0, Value.ref x0), (2, Value.int (iI x2)), (3, Value.int (iI x3)), (4, Value.int (iI (x4 + 1)))]) rfl ?_
        exact ih x0 x2 x3 (x4 + 1) s15
set_option maxHeartbeats 4000000 in
set_option maxRecDepth 20000 in
theorem sl_M_findVector_8 {X : pw_X Unit} (hX : pw_Ok X prog_14_method_38_code "PadeWorkbenchModel" mr_M_findVector 5) (hR : pw_RV X prog_14_method_38_code) : ∀ (n : Nat) (x0 : Nat) (x2 : Int) (x3 : Int) (σ : pw_Sto), pw_Sp X 0 0 8 [(0, Value.ref x0), (2, Value.int (iI x2)), (3, Value.int (iI x3))] [] σ (ml_M_findVector_8 n x0 x2 x3 σ) := by
  intro n
  induction n with
  | zero => intros; exact pw_none
  | succ n ih =>
    intro x0 x2 x3 σ
    show pw_Sp X 0 0 8 _ _ σ (mb_M_findVector_8 (ml_M_findVector_8 n) x0 x2 x3 σ)
    unfold mb_M_findVector_8
    refine sp_aload_n (pc := 8) (k := 0) (i := 0) hX rfl 0 rfl md_M_findVector_8 ?_
    refine sp_getR (pc := 9) (ci := 10) (k := 11) (idx := 34) hX mcl_10 (by decide) mq_810 rfl md_M_findVector_9 (fun v2 => ?_)
    refine sp_iload_n (pc := 12) (k := 3) (i := 3) hX rfl 2 rfl md_M_findVector_12 ?_
    refine sp_iaload (pc := 13) hX md_M_findVector_13 (fun v3 => ?_)
    refine sp_if_lt (pc := 14) hX 23 (by decide) md_M_findVector_14 (fun _ => ?_) (fun _ => ?_)
    · refine sp_iconst (pc := 23) hX md_M_findVector_23 ?_
      refine sp_istore (pc := 24) (i := 4) (L' := [(4, Value.int (iI (0 : Int))), (0, Value.ref x0), (2, Value.int (iI x2)), (3, Value.int (iI x3))]) hX (by decide) rfl md_M_findVector_24 ?_
      refine sp_sub [1, 2, 3, 0] (L' := [(0, Value.ref x0), (2, Value.int (iI x2)), (3, Value.int (iI x3)), (4, Value.int (iI (0 : Int)))]) rfl ?_
      exact sl_M_findVector_26 hX hR 1000 x0 x2 x3 (0 : Int) σ
    · refine sp_iinc (pc := 17) (i := 3) (L' := [(3, Value.int (iI (x3 + 1))), (0, Value.ref x0), (2, Value.int (iI x2))]) hX 2 rfl (by decide) rfl md_M_findVector_17 ?_
      refine sp_goto (pc := 20) hX 8 (by decide) md_M_findVector_20 ?_
      refine sp_sub [1, 2, 0] (L' := [(0, Value.ref x0), (2, Value.int (iI x2)), (3, Value.int (iI (x3 + 1)))]) rfl ?_
      exact ih x0 x2 (x3 + 1) σ
set_option maxHeartbeats 4000000 in
set_option maxRecDepth 20000 in
theorem mc_M_findVector {l : Launch} {E : pw_E} {σ : pw_Sto} {x0 : Nat} {x1 : Int} {x2 : Int} {out : Unit × pw_Sto} (h : mf_M_findVector x0 x1 x2 σ = some out) : pw_CV l E my_M_findVector prog_14_method_38_code 5 none mr_M_findVector [.ref x0, .int (iI x1), .int (iI x2)] σ out := by
  unfold mf_M_findVector at h
  refine pw_entryV (by decide) (Nat.le_of_ble_eq_true rfl) (pw_gd_val h) (fun X hX hR hI => ?_)
  change pw_Ok X prog_14_method_38_code "PadeWorkbenchModel" mr_M_findVector 5 at hX
  show pw_Sp X 0 0 0 [(0, Value.ref x0), (1, Value.int (iI x1)), (2, Value.int (iI x2))] [] σ _
  refine sp_aload_n (pc := 0) (k := 0) (i := 0) hX rfl 0 rfl md_M_findVector_0 ?_
  refine sp_iload_n (pc := 1) (k := 1) (i := 1) hX rfl 1 rfl md_M_findVector_1 ?_
  refine sp_iload_n (pc := 2) (k := 2) (i := 2) hX rfl 2 rfl md_M_findVector_2 ?_
  refine sp_callVV (pc := 3) (y := my_M_reduce) (ccy := prog_14_method_37_code) (nLy := 8) (ret := none) (rmy := mr_M_reduce) (n := 2) (idx := 156) (As := [.int (iI x1), .int (iI x2)]) (st := []) (o := x0) (cells' := 0) (slots' := 0) hX (fun _ h => mc_M_reduce h) mk_M_reduce mv_M_reduce mcl_10 (fun _ h => pw_gd_of h) mq_1000 ⟨(Nat.le_of_ble_eq_true rfl), (Nat.le_of_ble_eq_true rfl)⟩ rfl rfl (Nat.le_of_ble_eq_true rfl) ⟨(Nat.le_of_ble_eq_true rfl), (Nat.le_of_ble_eq_true rfl)⟩ rfl rfl md_M_findVector_3 (fun s1 => ?_)
  refine sp_iconst (pc := 6) hX md_M_findVector_6 ?_
  refine sp_istore_n (pc := 7) (k := 3) (i := 3) (L' := [(3, Value.int (iI (0 : Int))), (0, Value.ref x0), (1, Value.int (iI x1)), (2, Value.int (iI x2))]) hX rfl (by decide) rfl md_M_findVector_7 ?_
  refine sp_sub [1, 3, 0] (L' := [(0, Value.ref x0), (2, Value.int (iI x2)), (3, Value.int (iI (0 : Int)))]) rfl ?_
  exact sl_M_findVector_8 hX hR 1000 x0 x2 (0 : Int) s1
/-! PadeWorkbenchModel.degree([I)I -/
theorem md_M_degree_0 : decode prog_14_method_39_code 0 = .ok (.iconst (-1), 1) := by decide +kernel
theorem md_M_degree_1 : decode prog_14_method_39_code 1 = .ok (.istore_n 1, 1) := by decide +kernel
theorem md_M_degree_2 : decode prog_14_method_39_code 2 = .ok (.iconst 0, 1) := by decide +kernel
theorem md_M_degree_3 : decode prog_14_method_39_code 3 = .ok (.istore_n 2, 1) := by decide +kernel
theorem md_M_degree_4 : decode prog_14_method_39_code 4 = .ok (.iload_n 2, 1) := by decide +kernel
theorem md_M_degree_5 : decode prog_14_method_39_code 5 = .ok (.bipush 18, 2) := by decide +kernel
theorem md_M_degree_7 : decode prog_14_method_39_code 7 = .ok (.if_icmp .ge 21, 3) := by decide +kernel
theorem md_M_degree_28 : decode prog_14_method_39_code 28 = .ok (.iload_n 1, 1) := by decide +kernel
theorem md_M_degree_29 : decode prog_14_method_39_code 29 = .ok (.ireturn, 1) := by decide +kernel
theorem md_M_degree_10 : decode prog_14_method_39_code 10 = .ok (.aload_n 0, 1) := by decide +kernel
theorem md_M_degree_11 : decode prog_14_method_39_code 11 = .ok (.iload_n 2, 1) := by decide +kernel
theorem md_M_degree_12 : decode prog_14_method_39_code 12 = .ok (.iaload, 1) := by decide +kernel
theorem md_M_degree_13 : decode prog_14_method_39_code 13 = .ok (.ifCond .eq 7, 3) := by decide +kernel
theorem md_M_degree_20 : decode prog_14_method_39_code 20 = .ok (.iload_n 1, 1) := by decide +kernel
theorem md_M_degree_21 : decode prog_14_method_39_code 21 = .ok (.istore_n 1, 1) := by decide +kernel
theorem md_M_degree_22 : decode prog_14_method_39_code 22 = .ok (.iinc 2 1, 3) := by decide +kernel
theorem md_M_degree_25 : decode prog_14_method_39_code 25 = .ok (.goto (-21), 3) := by decide +kernel
theorem md_M_degree_16 : decode prog_14_method_39_code 16 = .ok (.iload_n 2, 1) := by decide +kernel
theorem md_M_degree_17 : decode prog_14_method_39_code 17 = .ok (.goto 4, 3) := by decide +kernel
def mb_M_degree_4 (rc : Nat → Int → Int → pw_Sto → Option (Int × pw_Sto)) : Nat → Int → Int → pw_Sto → Option (Int × pw_Sto) := fun x0 x1 x2 σ => pw_ck x2 (18 : Int) (if (18 : Int) ≤ x2 then some (x1, σ) else (pw_ai x0 x2 σ).bind (fun v1 => pw_ck v1 0 (if v1 = 0 then rc x0 x1 (x2 + 1) σ else rc x0 x2 (x2 + 1) σ)))
def ml_M_degree_4 : Nat → Nat → Int → Int → pw_Sto → Option (Int × pw_Sto) := pw_lp (fun _ _ _ _ => none) (mb_M_degree_4)
def mf_M_degree (x0 : Nat) (σ : pw_Sto) : Option (Int × pw_Sto) := ml_M_degree_4 1000 x0 (-1 : Int) (0 : Int) σ
set_option maxHeartbeats 4000000 in
set_option maxRecDepth 20000 in
theorem sl_M_degree_4 {X : pw_X Int} (hX : pw_Ok X prog_14_method_39_code "PadeWorkbenchModel" mr_M_degree 3) (hR : pw_RI X prog_14_method_39_code) : ∀ (n : Nat) (x0 : Nat) (x1 : Int) (x2 : Int) (σ : pw_Sto), pw_Sp X 0 0 4 [(0, Value.ref x0), (1, Value.int (iI x1)), (2, Value.int (iI x2))] [] σ (ml_M_degree_4 n x0 x1 x2 σ) := by
  intro n
  induction n with
  | zero => intros; exact pw_none
  | succ n ih =>
    intro x0 x1 x2 σ
    show pw_Sp X 0 0 4 _ _ σ (mb_M_degree_4 (ml_M_degree_4 n) x0 x1 x2 σ)
    unfold mb_M_degree_4
    refine sp_iload_n (pc := 4) (k := 2) (i := 2) hX rfl 2 rfl md_M_degree_4 ?_
    refine sp_bipush (pc := 5) hX (by decide) md_M_degree_5 ?_
    refine sp_icmp_ge (pc := 7) hX 28 (by decide) md_M_degree_7 (fun _ => ?_) (fun _ => ?_)
    · refine sp_iload_n (pc := 28) (k := 1) (i := 1) hX rfl 1 rfl md_M_degree_28 ?_
      exact sp_iret (pc := 29) hX hR rfl (Nat.le_of_ble_eq_true rfl) md_M_degree_29
    · refine sp_aload_n (pc := 10) (k := 0) (i := 0) hX rfl 0 rfl md_M_degree_10 ?_
      refine sp_iload_n (pc := 11) (k := 2) (i := 2) hX rfl 2 rfl md_M_degree_11 ?_
      refine sp_iaload (pc := 12) hX md_M_degree_12 (fun v1 => ?_)
      refine sp_if_eq (pc := 13) hX 20 (by decide) md_M_degree_13 (fun _ => ?_) (fun _ => ?_)
      · refine sp_iload_n (pc := 20) (k := 1) (i := 1) hX rfl 1 rfl md_M_degree_20 ?_
        refine sp_istore_n (pc := 21) (k := 1) (i := 1) (L' := [(1, Value.int (iI x1)), (0, Value.ref x0), (2, Value.int (iI x2))]) hX rfl (by decide) rfl md_M_degree_21 ?_
        refine sp_iinc (pc := 22) (i := 2) (L' := [(2, Value.int (iI (x2 + 1))), (1, Value.int (iI x1)), (0, Value.ref x0)]) hX 2 rfl (by decide) rfl md_M_degree_22 ?_
        refine sp_goto (pc := 25) hX 4 (by decide) md_M_degree_25 ?_
        refine sp_sub [2, 1, 0] (L' := [(0, Value.ref x0), (1, Value.int (iI x1)), (2, Value.int (iI (x2 + 1)))]) rfl ?_
        exact ih x0 x1 (x2 + 1) σ
      · refine sp_iload_n (pc := 16) (k := 2) (i := 2) hX rfl 2 rfl md_M_degree_16 ?_
        refine sp_goto (pc := 17) hX 21 (by decide) md_M_degree_17 ?_
        refine sp_istore_n (pc := 21) (k := 1) (i := 1) (L' := [(1, Value.int (iI x2)), (0, Value.ref x0), (2, Value.int (iI x2))]) hX rfl (by decide) rfl md_M_degree_21 ?_
        refine sp_iinc (pc := 22) (i := 2) (L' := [(2, Value.int (iI (x2 + 1))), (1, Value.int (iI x2)), (0, Value.ref x0)]) hX 2 rfl (by decide) rfl md_M_degree_22 ?_
        refine sp_goto (pc := 25) hX 4 (by decide) md_M_degree_25 ?_
        refine sp_sub [2, 1, 0] (L' := [(0, Value.ref x0), (1, Value.int (iI x2)), (2, Value.int (iI (x2 + 1)))]) rfl ?_
        exact ih x0 x2 (x2 + 1) σ
set_option maxHeartbeats 4000000 in
set_option maxRecDepth 20000 in
theorem mc_M_degree {l : Launch} {E : pw_E} {σ : pw_Sto} {x0 : Nat} {out : Int × pw_Sto} (h : mf_M_degree x0 σ = some out) : pw_CI l E my_M_degree prog_14_method_39_code 3 (some .int) mr_M_degree [.ref x0] σ out := by
  unfold mf_M_degree at h
  refine pw_entryI (by decide) (Nat.le_of_ble_eq_true rfl) h (fun X hX hR hI => ?_)
  change pw_Ok X prog_14_method_39_code "PadeWorkbenchModel" mr_M_degree 3 at hX
  show pw_Sp X 0 0 0 [(0, Value.ref x0)] [] σ _
  refine sp_iconst (pc := 0) hX md_M_degree_0 ?_
  refine sp_istore_n (pc := 1) (k := 1) (i := 1) (L' := [(1, Value.int (iI (-1 : Int))), (0, Value.ref x0)]) hX rfl (by decide) rfl md_M_degree_1 ?_
  refine sp_iconst (pc := 2) hX md_M_degree_2 ?_
  refine sp_istore_n (pc := 3) (k := 2) (i := 2) (L' := [(2, Value.int (iI (0 : Int))), (1, Value.int (iI (-1 : Int))), (0, Value.ref x0)]) hX rfl (by decide) rfl md_M_degree_3 ?_
  refine sp_sub [2, 1, 0] (L' := [(0, Value.ref x0), (1, Value.int (iI (-1 : Int))), (2, Value.int (iI (0 : Int)))]) rfl ?_
  exact sl_M_degree_4 hX hR 1000 x0 (-1 : Int) (0 : Int) σ
