/-! PadeWorkbenchModel.copy([I[I)V -/
theorem md_M_copy_0 : decode prog_14_method_40_code 0 = .ok (.iconst 0, 1) := by decide +kernel
theorem md_M_copy_1 : decode prog_14_method_40_code 1 = .ok (.istore_n 2, 1) := by decide +kernel
theorem md_M_copy_2 : decode prog_14_method_40_code 2 = .ok (.iload_n 2, 1) := by decide +kernel
theorem md_M_copy_3 : decode prog_14_method_40_code 3 = .ok (.bipush 18, 2) := by decide +kernel
theorem md_M_copy_5 : decode prog_14_method_40_code 5 = .ok (.if_icmp .ge 15, 3) := by decide +kernel
theorem md_M_copy_20 : decode prog_14_method_40_code 20 = .ok (.return_, 1) := by decide +kernel
theorem md_M_copy_8 : decode prog_14_method_40_code 8 = .ok (.aload_n 1, 1) := by decide +kernel
theorem md_M_copy_9 : decode prog_14_method_40_code 9 = .ok (.iload_n 2, 1) := by decide +kernel
theorem md_M_copy_10 : decode prog_14_method_40_code 10 = .ok (.aload_n 0, 1) := by decide +kernel
theorem md_M_copy_11 : decode prog_14_method_40_code 11 = .ok (.iload_n 2, 1) := by decide +kernel
theorem md_M_copy_12 : decode prog_14_method_40_code 12 = .ok (.iaload, 1) := by decide +kernel
theorem md_M_copy_13 : decode prog_14_method_40_code 13 = .ok (.iastore, 1) := by decide +kernel
theorem md_M_copy_14 : decode prog_14_method_40_code 14 = .ok (.iinc 2 1, 3) := by decide +kernel
theorem md_M_copy_17 : decode prog_14_method_40_code 17 = .ok (.goto (-15), 3) := by decide +kernel
def mb_M_copy_2 (rc : Nat → Nat → Int → pw_Sto → Option (Unit × pw_Sto)) : Nat → Nat → Int → pw_Sto → Option (Unit × pw_Sto) := fun x0 x1 x2 σ => pw_ck x2 (18 : Int) (if (18 : Int) ≤ x2 then some ((), σ) else (pw_ai x0 x2 σ).bind (fun v1 => (pw_si x1 x2 v1 σ).bind (fun s2 => rc x0 x1 (x2 + 1) s2)))
def ml_M_copy_2 : Nat → Nat → Nat → Int → pw_Sto → Option (Unit × pw_Sto) := pw_lp (fun _ _ _ _ => none) (mb_M_copy_2)
def mf_M_copy (x0 : Nat) (x1 : Nat) (σ : pw_Sto) : Option (Unit × pw_Sto) := ml_M_copy_2 1000 x0 x1 (0 : Int) σ
set_option maxHeartbeats 4000000 in
set_option maxRecDepth 20000 in
theorem sl_M_copy_2 {X : pw_X Unit} (hX : pw_Ok X prog_14_method_40_code "PadeWorkbenchModel" mr_M_copy 3) (hR : pw_RV X prog_14_method_40_code) : ∀ (n : Nat) (x0 : Nat) (x1 : Nat) (x2 : Int) (σ : pw_Sto), pw_Sp X 0 0 2 [(0, Value.ref x0), (1, Value.ref x1), (2, Value.int (iI x2))] [] σ (ml_M_copy_2 n x0 x1 x2 σ) := by
  intro n
  induction n with
  | zero => intros; exact pw_none
  | succ n ih =>
    intro x0 x1 x2 σ
    show pw_Sp X 0 0 2 _ _ σ (mb_M_copy_2 (ml_M_copy_2 n) x0 x1 x2 σ)
    unfold mb_M_copy_2
    refine sp_iload_n (pc := 2) (k := 2) (i := 2) hX rfl 2 rfl md_M_copy_2 ?_
    refine sp_bipush (pc := 3) hX (by decide) md_M_copy_3 ?_
    refine sp_icmp_ge (pc := 5) hX 20 (by decide) md_M_copy_5 (fun _ => ?_) (fun _ => ?_)
    · exact sp_vret (pc := 20) hX hR rfl (Nat.le_of_ble_eq_true rfl) md_M_copy_20
    · refine sp_aload_n (pc := 8) (k := 1) (i := 1) hX rfl 1 rfl md_M_copy_8 ?_
      refine sp_iload_n (pc := 9) (k := 2) (i := 2) hX rfl 2 rfl md_M_copy_9 ?_
      refine sp_aload_n (pc := 10) (k := 0) (i := 0) hX rfl 0 rfl md_M_copy_10 ?_
      refine sp_iload_n (pc := 11) (k := 2) (i := 2) hX rfl 2 rfl md_M_copy_11 ?_
      refine sp_iaload (pc := 12) hX md_M_copy_12 (fun v1 => ?_)
      refine sp_iastore (pc := 13) hX md_M_copy_13 (fun s2 => ?_)
      refine sp_iinc (pc := 14) (i := 2) (L' := [(2, Value.int (iI (x2 + 1))), (0, Value.ref x0), (1, Value.ref x1)]) hX 2 rfl (by decide) rfl md_M_copy_14 ?_
      refine sp_goto (pc := 17) hX 2 (by decide) md_M_copy_17 ?_
      refine sp_sub [1, 2, 0] (L' := [(0, Value.ref x0), (1, Value.ref x1), (2, Value.int (iI (x2 + 1)))]) rfl ?_
      exact ih x0 x1 (x2 + 1) s2
set_option maxHeartbeats 4000000 in
set_option maxRecDepth 20000 in
theorem mc_M_copy {l : Launch} {E : pw_E} {σ : pw_Sto} {x0 : Nat} {x1 : Nat} {out : Unit × pw_Sto} (h : mf_M_copy x0 x1 σ = some out) : pw_CV l E my_M_copy prog_14_method_40_code 3 none mr_M_copy [.ref x0, .ref x1] σ out := by
  unfold mf_M_copy at h
  refine pw_entryV (by decide) (Nat.le_of_ble_eq_true rfl) h (fun X hX hR hI => ?_)
  change pw_Ok X prog_14_method_40_code "PadeWorkbenchModel" mr_M_copy 3 at hX
  show pw_Sp X 0 0 0 [(0, Value.ref x0), (1, Value.ref x1)] [] σ _
  refine sp_iconst (pc := 0) hX md_M_copy_0 ?_
  refine sp_istore_n (pc := 1) (k := 2) (i := 2) (L' := [(2, Value.int (iI (0 : Int))), (0, Value.ref x0), (1, Value.ref x1)]) hX rfl (by decide) rfl md_M_copy_1 ?_
  refine sp_sub [1, 2, 0] (L' := [(0, Value.ref x0), (1, Value.ref x1), (2, Value.int (iI (0 : Int)))]) rfl ?_
  exact sl_M_copy_2 hX hR 1000 x0 x1 (0 : Int) σ
/-! PadeWorkbenchModel.divide([I[I[I)V -/
theorem md_M_divide_0 : decode prog_14_method_41_code 0 = .ok (.aload_n 3, 1) := by decide +kernel
theorem md_M_divide_1 : decode prog_14_method_41_code 1 = .ok (.invokestatic 107, 3) := by decide +kernel
theorem md_M_divide_4 : decode prog_14_method_41_code 4 = .ok (.aload_n 2, 1) := by decide +kernel
theorem md_M_divide_5 : decode prog_14_method_41_code 5 = .ok (.invokestatic 159, 3) := by decide +kernel
theorem md_M_divide_8 : decode prog_14_method_41_code 8 = .ok (.istore 4, 2) := by decide +kernel
theorem md_M_divide_10 : decode prog_14_method_41_code 10 = .ok (.aload_n 0, 1) := by decide +kernel
theorem md_M_divide_11 : decode prog_14_method_41_code 11 = .ok (.aload_n 2, 1) := by decide +kernel
theorem md_M_divide_12 : decode prog_14_method_41_code 12 = .ok (.iload 4, 2) := by decide +kernel
theorem md_M_divide_14 : decode prog_14_method_41_code 14 = .ok (.iaload, 1) := by decide +kernel
theorem md_M_divide_15 : decode prog_14_method_41_code 15 = .ok (.invokevirtual 94, 3) := by decide +kernel
theorem md_M_divide_18 : decode prog_14_method_41_code 18 = .ok (.istore 5, 2) := by decide +kernel
theorem md_M_divide_20 : decode prog_14_method_41_code 20 = .ok (.aload_n 1, 1) := by decide +kernel
theorem md_M_divide_21 : decode prog_14_method_41_code 21 = .ok (.invokestatic 159, 3) := by decide +kernel
theorem md_M_divide_24 : decode prog_14_method_41_code 24 = .ok (.istore 6, 2) := by decide +kernel
theorem md_M_divide_26 : decode prog_14_method_41_code 26 = .ok (.iload 6, 2) := by decide +kernel
theorem md_M_divide_28 : decode prog_14_method_41_code 28 = .ok (.iload 4, 2) := by decide +kernel
theorem md_M_divide_30 : decode prog_14_method_41_code 30 = .ok (.if_icmp .lt 82, 3) := by decide +kernel
theorem md_M_divide_112 : decode prog_14_method_41_code 112 = .ok (.return_, 1) := by decide +kernel
theorem md_M_divide_33 : decode prog_14_method_41_code 33 = .ok (.aload_n 0, 1) := by decide +kernel
theorem md_M_divide_34 : decode prog_14_method_41_code 34 = .ok (.aload_n 1, 1) := by decide +kernel
theorem md_M_divide_35 : decode prog_14_method_41_code 35 = .ok (.iload 6, 2) := by decide +kernel
theorem md_M_divide_37 : decode prog_14_method_41_code 37 = .ok (.iaload, 1) := by decide +kernel
theorem md_M_divide_38 : decode prog_14_method_41_code 38 = .ok (.iload 5, 2) := by decide +kernel
theorem md_M_divide_40 : decode prog_14_method_41_code 40 = .ok (.imul, 1) := by decide +kernel
theorem md_M_divide_41 : decode prog_14_method_41_code 41 = .ok (.invokevirtual 91, 3) := by decide +kernel
theorem md_M_divide_44 : decode prog_14_method_41_code 44 = .ok (.istore 7, 2) := by decide +kernel
theorem md_M_divide_46 : decode prog_14_method_41_code 46 = .ok (.aload_n 3, 1) := by decide +kernel
theorem md_M_divide_47 : decode prog_14_method_41_code 47 = .ok (.iload 6, 2) := by decide +kernel
theorem md_M_divide_49 : decode prog_14_method_41_code 49 = .ok (.iload 4, 2) := by decide +kernel
theorem md_M_divide_51 : decode prog_14_method_41_code 51 = .ok (.isub, 1) := by decide +kernel
theorem md_M_divide_52 : decode prog_14_method_41_code 52 = .ok (.iload 7, 2) := by decide +kernel
theorem md_M_divide_54 : decode prog_14_method_41_code 54 = .ok (.iastore, 1) := by decide +kernel
theorem md_M_divide_55 : decode prog_14_method_41_code 55 = .ok (.iconst 0, 1) := by decide +kernel
theorem md_M_divide_56 : decode prog_14_method_41_code 56 = .ok (.istore 8, 2) := by decide +kernel
theorem md_M_divide_58 : decode prog_14_method_41_code 58 = .ok (.iload 8, 2) := by decide +kernel
theorem md_M_divide_60 : decode prog_14_method_41_code 60 = .ok (.iload 4, 2) := by decide +kernel
theorem md_M_divide_62 : decode prog_14_method_41_code 62 = .ok (.if_icmp .gt 41, 3) := by decide +kernel
theorem md_M_divide_103 : decode prog_14_method_41_code 103 = .ok (.aload_n 1, 1) := by decide +kernel
theorem md_M_divide_104 : decode prog_14_method_41_code 104 = .ok (.invokestatic 159, 3) := by decide +kernel
theorem md_M_divide_107 : decode prog_14_method_41_code 107 = .ok (.istore 6, 2) := by decide +kernel
theorem md_M_divide_109 : decode prog_14_method_41_code 109 = .ok (.goto (-83), 3) := by decide +kernel
theorem md_M_divide_65 : decode prog_14_method_41_code 65 = .ok (.aload_n 1, 1) := by decide +kernel
theorem md_M_divide_66 : decode prog_14_method_41_code 66 = .ok (.iload 6, 2) := by decide +kernel
theorem md_M_divide_68 : decode prog_14_method_41_code 68 = .ok (.iload 4, 2) := by decide +kernel
theorem md_M_divide_70 : decode prog_14_method_41_code 70 = .ok (.isub, 1) := by decide +kernel
theorem md_M_divide_71 : decode prog_14_method_41_code 71 = .ok (.iload 8, 2) := by decide +kernel
theorem md_M_divide_73 : decode prog_14_method_41_code 73 = .ok (.iadd, 1) := by decide +kernel
theorem md_M_divide_74 : decode prog_14_method_41_code 74 = .ok (.aload_n 0, 1) := by decide +kernel
theorem md_M_divide_75 : decode prog_14_method_41_code 75 = .ok (.aload_n 1, 1) := by decide +kernel
theorem md_M_divide_76 : decode prog_14_method_41_code 76 = .ok (.iload 6, 2) := by decide +kernel
theorem md_M_divide_78 : decode prog_14_method_41_code 78 = .ok (.iload 4, 2) := by decide +kernel
theorem md_M_divide_80 : decode prog_14_method_41_code 80 = .ok (.isub, 1) := by decide +kernel
theorem md_M_divide_81 : decode prog_14_method_41_code 81 = .ok (.iload 8, 2) := by decide +kernel
theorem md_M_divide_83 : decode prog_14_method_41_code 83 = .ok (.iadd, 1) := by decide +kernel
theorem md_M_divide_84 : decode prog_14_method_41_code 84 = .ok (.iaload, 1) := by decide +kernel
theorem md_M_divide_85 : decode prog_14_method_41_code 85 = .ok (.iload 7, 2) := by decide +kernel
theorem md_M_divide_87 : decode prog_14_method_41_code 87 = .ok (.aload_n 2, 1) := by decide +kernel
theorem md_M_divide_88 : decode prog_14_method_41_code 88 = .ok (.iload 8, 2) := by decide +kernel
theorem md_M_divide_90 : decode prog_14_method_41_code 90 = .ok (.iaload, 1) := by decide +kernel
theorem md_M_divide_91 : decode prog_14_method_41_code 91 = .ok (.imul, 1) := by decide +kernel
theorem md_M_divide_92 : decode prog_14_method_41_code 92 = .ok (.isub, 1) := by decide +kernel
theorem md_M_divide_93 : decode prog_14_method_41_code 93 = .ok (.invokevirtual 91, 3) := by decide +kernel
theorem md_M_divide_96 : decode prog_14_method_41_code 96 = .ok (.iastore, 1) := by decide +kernel
theorem md_M_divide_97 : decode prog_14_method_41_code 97 = .ok (.iinc 8 1, 3) := by decide +kernel
theorem md_M_divide_100 : decode prog_14_method_41_code 100 = .ok (.goto (-42), 3) := by decide +kernel
def mb_M_divide_58 (r26 : Nat → Nat → Nat → Nat → Int → Int → Int → pw_Sto → Option (Unit × pw_Sto)) (rc : Nat → Nat → Nat → Nat → Int → Int → Int → Int → Int → pw_Sto → Option (Unit × pw_Sto)) : Nat → Nat → Nat → Nat → Int → Int → Int → Int → Int → pw_Sto → Option (Unit × pw_Sto) := fun x0 x1 x2 x3 x4 x5 x6 x7 x8 σ => pw_ck x8 x4 (if x4 < x8 then pw_bd (mf_M_degree x1 σ) (fun v14 s13 => r26 x0 x1 x2 x3 x4 x5 v14 s13) else (pw_ai x1 ((x6 - x4) + x8) σ).bind (fun v15 => (pw_ai x2 x8 σ).bind (fun v16 => pw_bd (mf_M_mod x0 (v15 - (x7 * v16)) σ) (fun v18 s17 => (pw_si x1 ((x6 - x4) + x8) v18 s17).bind (fun s19 => rc x0 x1 x2 x3 x4 x5 x6 x7 (x8 + 1) s19)))))
def ml_M_divide_58 (r26 : Nat → Nat → Nat → Nat → Int → Int → Int → pw_Sto → Option (Unit × pw_Sto)) : Nat → Nat → Nat → Nat → Nat → Int → Int → Int → Int → Int → pw_Sto → Option (Unit × pw_Sto) := pw_lp (fun _ _ _ _ _ _ _ _ _ _ => none) (mb_M_divide_58 r26)
def mb_M_divide_26 (rc : Nat → Nat → Nat → Nat → Int → Int → Int → pw_Sto → Option (Unit × pw_Sto)) : Nat → Nat → Nat → Nat → Int → Int → Int → pw_Sto → Option (Unit × pw_Sto) := fun x0 x1 x2 x3 x4 x5 x6 σ => pw_ck x6 x4 (if x6 < x4 then some ((), σ) else (pw_ai x1 x6 σ).bind (fun v9 => pw_bd (mf_M_mod x0 (v9 * x5) σ) (fun v11 s10 => (pw_si x3 (x6 - x4) v11 s10).bind (fun s12 => ml_M_divide_58 rc 1000 x0 x1 x2 x3 x4 x5 x6 v11 (0 : Int) s12))))
def ml_M_divide_26 : Nat → Nat → Nat → Nat → Nat → Int → Int → Int → pw_Sto → Option (Unit × pw_Sto) := pw_lp (fun _ _ _ _ _ _ _ _ => none) (mb_M_divide_26)
def mf_M_divide (x0 : Nat) (x1 : Nat) (x2 : Nat) (x3 : Nat) (σ : pw_Sto) : Option (Unit × pw_Sto) := pw_gd 10 x0 σ (pw_bd (mf_M_clear x3 σ) (fun _ s1 => pw_bd (mf_M_degree x2 s1) (fun v3 s2 => (pw_ai x2 v3 s2).bind (fun v4 => pw_bd (mf_M_inverse x0 v4 s2) (fun v6 s5 => pw_bd (mf_M_degree x1 s5) (fun v8 s7 => ml_M_divide_26 1000 x0 x1 x2 x3 v3 v6 v8 s7))))))
set_option maxHeartbeats 4000000 in
set_option maxRecDepth 20000 in
theorem sl_M_divide_58 {X : pw_X Unit} (hX : pw_Ok X prog_14_method_41_code "PadeWorkbenchModel" mr_M_divide 9) (hR : pw_RV X prog_14_method_41_code) {r26 : Nat → Nat → Nat → Nat → Int → Int → Int → pw_Sto → Option (Unit × pw_Sto)} (h26 : ∀ (z0 : Nat) (z1 : Nat) (z2 : Nat) (z3 : Nat) (z4 : Int) (z5 : Int) (z6 : Int) (σ : pw_Sto), pw_Sp X 0 0 26 [(0, Value.ref z0), (1, Value.ref z1), (2, Value.ref z2), (3, Value.ref z3), (4, Value.int (iI z4)), (5, Value.int (iI z5)), (6, Value.int (iI z6))] [] σ (r26 z0 z1 z2 z3 z4 z5 z6 σ)) : ∀ (n : Nat) (x0 : Nat) (x1 : Nat) (x2 : Nat) (x3 : Nat) (x4 : Int) (x5 : Int) (x6 : Int) (x7 : Int) (x8 : Int) (σ : pw_Sto), pw_Sp X 0 0 58 [(0, Value.ref x0), (1, Value.ref x1), (2, Value.ref x2), (3, Value.ref x3), (4, Value.int (iI x4)), (5, Value.int (iI x5)), (6, Value.int (iI x6)), (7, Value.int (iI x7)), (8, Value.int (iI x8))] [] σ (ml_M_divide_58 r26 n x0 x1 x2 x3 x4 x5 x6 x7 x8 σ) := by
  intro n
  induction n with
  | zero => intros; exact pw_none
  | succ n ih =>
    intro x0 x1 x2 x3 x4 x5 x6 x7 x8 σ
    show pw_Sp X 0 0 58 _ _ σ (mb_M_divide_58 r26 (ml_M_divide_58 r26 n) x0 x1 x2 x3 x4 x5 x6 x7 x8 σ)
    unfold mb_M_divide_58
    refine sp_iload (pc := 58) (i := 8) hX 8 rfl md_M_divide_58 ?_
    refine sp_iload (pc := 60) (i := 4) hX 4 rfl md_M_divide_60 ?_
    refine sp_icmp_gt (pc := 62) hX 103 (by decide) md_M_divide_62 (fun _ => ?_) (fun _ => ?_)
    · refine sp_aload_n (pc := 103) (k := 1) (i := 1) hX rfl 1 rfl md_M_divide_103 ?_
      refine sp_callSI (pc := 104) (y := my_M_degree) (ccy := prog_14_method_39_code) (nLy := 3) (ret := (some .int)) (rmy := mr_M_degree) (n := 1) (idx := 159) (As := [.ref x1]) (st := []) (cells' := 0) (slots' := 0) hX (fun _ h => mc_M_degree h) mk_M_degree mq_1021 mq_1020 ⟨(Nat.le_of_ble_eq_true rfl), (Nat.le_of_ble_eq_true rfl)⟩ rfl rfl (Nat.le_of_ble_eq_true rfl) ⟨(Nat.le_of_ble_eq_true rfl), (Nat.le_of_ble_eq_true rfl)⟩ rfl rfl md_M_divide_104 (fun v14 s13 => ?_)
      refine sp_istore (pc := 107) (i := 6) (L' := [(6, Value.int (iI v14)), (0, Value.ref x0), (1, Value.ref x1), (2, Value.ref x2), (3, Value.ref x3), (4, Value.int (iI x4)), (5, Value.int (iI x5)), (7, Value.int (iI x7)), (8, Value.int (iI x8))]) hX (by decide) rfl md_M_divide_107 ?_
      refine sp_goto (pc := 109) hX 26 (by decide) md_M_divide_109 ?_
      refine sp_sub [1, 2, 3, 4, 5, 6, 0] (L' := [(0, Value.ref x0), (1, Value.ref x1), (2, Value.ref x2), (3, Value.ref x3), (4, Value.int (iI x4)), (5, Value.int (iI x5)), (6, Value.int (iI v14))]) rfl ?_
      exact h26 x0 x1 x2 x3 x4 x5 v14 s13
    · refine sp_aload_n (pc := 65) (k := 1) (i := 1) hX rfl 1 rfl md_M_divide_65 ?_
      refine sp_iload (pc := 66) (i := 6) hX 6 rfl md_M_divide_66 ?_
      refine sp_iload (pc := 68) (i := 4) hX 4 rfl md_M_divide_68 ?_
      refine sp_isub (pc := 70) hX md_M_divide_70 ?_
      refine sp_iload (pc := 71) (i := 8) hX 8 rfl md_M_divide_71 ?_
      refine sp_iadd (pc := 73) hX md_M_divide_73 ?_
      refine sp_aload_n (pc := 74) (k := 0) (i := 0) hX rfl 0 rfl md_M_divide_74 ?_
      refine sp_aload_n (pc := 75) (k := 1) (i := 1) hX rfl 1 rfl md_M_divide_75 ?_
      refine sp_iload (pc := 76) (i := 6) hX 6 rfl md_M_divide_76 ?_
      refine sp_iload (pc := 78) (i := 4) hX 4 rfl md_M_divide_78 ?_
      refine sp_isub (pc := 80) hX md_M_divide_80 ?_
      refine sp_iload (pc := 81) (i := 8) hX 8 rfl md_M_divide_81 ?_
      refine sp_iadd (pc := 83) hX md_M_divide_83 ?_
      refine sp_iaload (pc := 84) hX md_M_divide_84 (fun v15 => ?_)
      refine sp_iload (pc := 85) (i := 7) hX 7 rfl md_M_divide_85 ?_
      refine sp_aload_n (pc := 87) (k := 2) (i := 2) hX rfl 2 rfl md_M_divide_87 ?_
      refine sp_iload (pc := 88) (i := 8) hX 8 rfl md_M_divide_88 ?_
      refine sp_iaload (pc := 90) hX md_M_divide_90 (fun v16 => ?_)
      refine sp_imul (pc := 91) hX md_M_divide_91 ?_
      refine sp_isub (pc := 92) hX md_M_divide_92 ?_
      refine sp_callVI (pc := 93) (y := my_M_mod) (ccy := prog_14_method_5_code) (nLy := 3) (ret := (some .int)) (rmy := mr_M_mod) (n := 1) (idx := 91) (As := [.int (iI (v15 - (x7 * v16)))]) (st := [.int (iI ((x6 - x4) + x8)), .ref x1]) (o := x0) (cells' := 0) (slots' := 0) hX (fun _ h => mc_M_mod h) mk_M_mod mv_M_mod mcl_10 (fun _ h => pw_gd_of h) mq_901 ⟨(Nat.le_of_ble_eq_true rfl), (Nat.le_of_ble_eq_true rfl)⟩ rfl rfl (Nat.le_of_ble_eq_true rfl) ⟨(Nat.le_of_ble_eq_true rfl), (Nat.le_of_ble_eq_true rfl)⟩ rfl rfl md_M_divide_93 (fun v18 s17 => ?_)
      refine sp_iastore (pc := 96) hX md_M_divide_96 (fun s19 => ?_)
      refine sp_iinc (pc := 97) (i := 8) (L' := [(8, Value.int (iI (x8 + 1))), (0, Value.ref x0), (1, Value.ref x1), (2, Value.ref x2), (3, Value.ref x3), (4, Value.int (iI x4)), (5, Value.int (iI x5)), (6, Value.int (iI x6)), (7, Value.int (iI x7))]) hX 8 rfl (by decide) rfl md_M_divide_97 ?_
      refine sp_goto (pc := 100) hX 58 (by decide) md_M_divide_100 ?_
      refine sp_sub [1, 2, 3, 4, 5, 6, 7, 8, 0] (L' := [(0, Value.ref x0), (1, Value.ref x1), (2, Value.ref x2), (3, Value.ref x3), (4, Value.int (iI x4)), (5, Value.int (iI x5)), (6, Value.int (iI x6)), (7, Value.int (iI x7)), (8, Value.int (iI (x8 + 1)))]) rfl ?_
      exact ih x0 x1 x2 x3 x4 x5 x6 x7 (x8 + 1) s19
set_option maxHeartbeats 4000000 in
set_option maxRecDepth 20000 in
theorem sl_M_divide_26 {X : pw_X Unit} (hX : pw_Ok X prog_14_method_41_code "PadeWorkbenchModel" mr_M_divide 9) (hR : pw_RV X prog_14_method_41_code) : ∀ (n : Nat) (x0 : Nat) (x1 : Nat) (x2 : Nat) (x3 : Nat) (x4 : Int) (x5 : Int) (x6 : Int) (σ : pw_Sto), pw_Sp X 0 0 26 [(0, Value.ref x0), (1, Value.ref x1), (2, Value.ref x2), (3, Value.ref x3), (4, Value.int (iI x4)), (5, Value.int (iI x5)), (6, Value.int (iI x6))] [] σ (ml_M_divide_26 n x0 x1 x2 x3 x4 x5 x6 σ) := by
  intro n
  induction n with
  | zero => intros; exact pw_none
  | succ n ih =>
    intro x0 x1 x2 x3 x4 x5 x6 σ
    show pw_Sp X 0 0 26 _ _ σ (mb_M_divide_26 (ml_M_divide_26 n) x0 x1 x2 x3 x4 x5 x6 σ)
    unfold mb_M_divide_26
    refine sp_iload (pc := 26) (i := 6) hX 6 rfl md_M_divide_26 ?_
    refine sp_iload (pc := 28) (i := 4) hX 4 rfl md_M_divide_28 ?_
    refine sp_icmp_lt (pc := 30) hX 112 (by decide) md_M_divide_30 (fun _ => ?_) (fun _ => ?_)
    · exact sp_vret (pc := 112) hX hR rfl (Nat.le_of_ble_eq_true rfl) md_M_divide_112
    · refine sp_aload_n (pc := 33) (k := 0) (i := 0) hX rfl 0 rfl md_M_divide_33 ?_
      refine sp_aload_n (pc := 34) (k := 1) (i := 1) hX rfl 1 rfl md_M_divide_34 ?_
      refine sp_iload (pc := 35) (i := 6) hX 6 rfl md_M_divide_35 ?_
      refine sp_iaload (pc := 37) hX md_M_divide_37 (fun v9 => ?_)
      refine sp_iload (pc := 38) (i := 5) hX 5 rfl md_M_divide_38 ?_
      refine sp_imul (pc := 40) hX md_M_divide_40 ?_
      refine sp_callVI (pc := 41) (y := my_M_mod) (ccy := prog_14_method_5_code) (nLy := 3) (ret := (some .int)) (rmy := mr_M_mod) (n := 1) (idx := 91) (As := [.int (iI (v9 * x5))]) (st := []) (o := x0) (cells' := 0) (slots' := 0) hX (fun _ h => mc_M_mod h) mk_M_mod mv_M_mod mcl_10 (fun _ h => pw_gd_of h) mq_901 ⟨(Nat.le_of_ble_eq_true rfl), (Nat.le_of_ble_eq_true rfl)⟩ rfl rfl (Nat.le_of_ble_eq_true rfl) ⟨(Nat.le_of_ble_eq_true rfl), (Nat.le_of_ble_eq_true rfl)⟩ rfl rfl md_M_divide_41 (fun v11 s10 => ?_)
      refine sp_istore (pc := 44) (i := 7) (L' := [(7, Value.int (iI v11)), (0, Value.ref x0), (1, Value.ref x1), (2, Value.ref x2), (3, Value.ref x3), (4, Value.int (iI x4)), (5, Value.int (iI x5)), (6, Value.int (iI x6))]) hX (by decide) rfl md_M_divide_44 ?_
      refine sp_aload_n (pc := 46) (k := 3) (i := 3) hX rfl 4 rfl md_M_divide_46 ?_
      refine sp_iload (pc := 47) (i := 6) hX 7 rfl md_M_divide_47 ?_
      refine sp_iload (pc := 49) (i := 4) hX 5 rfl md_M_divide_49 ?_
      refine sp_isub (pc := 51) hX md_M_divide_51 ?_
      refine sp_iload (pc := 52) (i := 7) hX 0 rfl md_M_divide_52 ?_
      refine sp_iastore (pc := 54) hX md_M_divide_54 (fun s12 => ?_)
      refine sp_iconst (pc := 55) hX md_M_divide_55 ?_
      refine sp_istore (pc := 56) (i := 8) (L' := [(8, Value.int (iI (0 : Int))), (7, Value.int (iI v11)), (0, Value.ref x0), (1, Value.ref x1), (2, Value.ref x2), (3, Value.ref x3), (4, Value.int (iI x4)), (5, Value.int (iI x5)), (6, Value.int (iI x6))]) hX (by decide) rfl md_M_divide_56 ?_
      refine sp_sub [2, 3, 4, 5, 6, 7, 8, 1, 0] (L' := [(0, Value.ref x0), (1, Value.ref x1), (2, Value.ref x2), (3, Value.ref x3), (4, Value.int (iI x4)), (5, Value.int (iI x5)), (6, Value.int (iI x6)), (7, Value.int (iI v11)), (8, Value.int (iI (0 : Int)))]) rfl ?_
      exact sl_M_divide_58 hX hR ih 1000 x0 x1 x2 x3 x4 x5 x6 v11 (0 : Int) s12
set_option maxHeartbeats 4000000 in
set_option maxRecDepth 20000 in
theorem mc_M_divide {l : Launch} {E : pw_E} {σ : pw_Sto} {x0 : Nat} {x1 : Nat} {x2 : Nat} {x3 : Nat} {out : Unit × pw_Sto} (h : mf_M_divide x0 x1 x2 x3 σ = some out) : pw_CV l E my_M_divide prog_14_method_41_code 9 none mr_M_divide [.ref x0, .ref x1, .ref x2, .ref x3] σ out := by
  unfold mf_M_divide at h
  refine pw_entryV (by decide) (Nat.le_of_ble_eq_true rfl) (pw_gd_val h) (fun X hX hR hI => ?_)
  change pw_Ok X prog_14_method_41_code "PadeWorkbenchModel" mr_M_divide 9 at hX
  show pw_Sp X 0 0 0 [(0, Value.ref x0), (1, Value.ref x1), (2, Value.ref x2), (3, Value.ref x3)] [] σ _
  refine sp_aload_n (pc := 0) (k := 3) (i := 3) hX rfl 3 rfl md_M_divide_0 ?_
  refine sp_callSV (pc := 1) (y := my_M_clear) (ccy := prog_14_method_15_code) (nLy := 2) (ret := none) (rmy := mr_M_clear) (n := 1) (idx := 107) (As := [.ref x3]) (st := []) (cells' := 0) (slots' := 0) hX (fun _ h => mc_M_clear h) mk_M_clear mq_926 mq_925 ⟨(Nat.le_of_ble_eq_true rfl), (Nat.le_of_ble_eq_true rfl)⟩ rfl rfl (Nat.le_of_ble_eq_true rfl) ⟨(Nat.le_of_ble_eq_true rfl), (Nat.le_of_ble_eq_true rfl)⟩ rfl rfl md_M_divide_1 (fun s1 => ?_)
  refine sp_aload_n (pc := 4) (k := 2) (i := 2) hX rfl 2 rfl md_M_divide_4 ?_
  refine sp_callSI (pc := 5) (y := my_M_degree) (ccy := prog_14_method_39_code) (nLy := 3) (ret := (some .int)) (rmy := mr_M_degree) (n := 1) (idx := 159) (As := [.ref x2]) (st := []) (cells' := 0) (slots' := 0) hX (fun _ h => mc_M_degree h) mk_M_degree mq_1021 mq_1020 ⟨(Nat.le_of_ble_eq_true rfl), (Nat.le_of_ble_eq_true rfl)⟩ rfl rfl (Nat.le_of_ble_eq_true rfl) ⟨(Nat.le_of_ble_eq_true rfl), (Nat.le_of_ble_eq_true rfl)⟩ rfl rfl md_M_divide_5 (fun v3 s2 => ?_)
  refine sp_istore (pc := 8) (i := 4) (L' := [(4, Value.int (iI v3)), (0, Value.ref x0), (1, Value.ref x1), (2, Value.ref x2), (3, Value.ref x3)]) hX (by decide) rfl md_M_divide_8 ?_
  refine sp_aload_n (pc := 10) (k := 0) (i := 0) hX rfl 1 rfl md_M_divide_10 ?_
  refine sp_aload_n (pc := 11) (k := 2) (i := 2) hX rfl 3 rfl md_M_divide_11 ?_
  refine sp_iload (pc := 12) (i := 4) hX 0 rfl md_M_divide_12 ?_
  refine sp_iaload (pc := 14) hX md_M_divide_14 (fun v4 => ?_)
  refine sp_callVI (pc := 15) (y := my_M_inverse) (ccy := prog_14_method_6_code) (nLy := 4) (ret := (some .int)) (rmy := mr_M_inverse) (n := 1) (idx := 94) (As := [.int (iI v4)]) (st := []) (o := x0) (cells' := 0) (slots' := 0) hX (fun _ h => mc_M_inverse h) mk_M_inverse mv_M_inverse mcl_10 (fun _ h => pw_gd_of h) mq_932 ⟨(Nat.le_of_ble_eq_true rfl), (Nat.le_of_ble_eq_true rfl)⟩ rfl rfl (Nat.le_of_ble_eq_true rfl) ⟨(Nat.le_of_ble_eq_true rfl), (Nat.le_of_ble_eq_true rfl)⟩ rfl rfl md_M_divide_15 (fun v6 s5 => ?_)
  refine sp_istore (pc := 18) (i := 5) (L' := [(5, Value.int (iI v6)), (4, Value.int (iI v3)), (0, Value.ref x0), (1, Value.ref x1), (2, Value.ref x2), (3, Value.ref x3)]) hX (by decide) rfl md_M_divide_18 ?_
  refine sp_aload_n (pc := 20) (k := 1) (i := 1) hX rfl 3 rfl md_M_divide_20 ?_
  refine sp_callSI (pc := 21) (y := my_M_degree) (ccy := prog_14_method_39_code) (nLy := 3) (ret := (some .int)) (rmy := mr_M_degree) (n := 1) (idx := 159) (As := [.ref x1]) (st := []) (cells' := 0) (slots' := 0) hX (fun _ h => mc_M_degree h) mk_M_degree mq_1021 mq_1020 ⟨(Nat.le_of_ble_eq_true rfl), (Nat.le_of_ble_eq_true rfl)⟩ rfl rfl (Nat.le_of_ble_eq_true rfl) ⟨(Nat.le_of_ble_eq_true rfl), (Nat.le_of_ble_eq_true rfl)⟩ rfl rfl md_M_divide_21 (fun v8 s7 => ?_)
  refine sp_istore (pc := 24) (i := 6) (L' := [(6, Value.int (iI v8)), (5, Value.int (iI v6)), (4, Value.int (iI v3)), (0, Value.ref x0), (1, Value.ref x1), (2, Value.ref x2), (3, Value.ref x3)]) hX (by decide) rfl md_M_divide_24 ?_
  refine sp_sub [3, 4, 5, 6, 2, 1, 0] (L' := [(0, Value.ref x0), (1, Value.ref x1), (2, Value.ref x2), (3, Value.ref x3), (4, Value.int (iI v3)), (5, Value.int (iI v6)), (6, Value.int (iI v8))]) rfl ?_
  exact sl_M_divide_26 hX hR 1000 x0 x1 x2 x3 v3 v6 v8 s7
/-! PadeWorkbenchModel.toLowest()V -/
theorem md_M_toLowest_0 : decode prog_14_method_42_code 0 = .ok (.aload_n 0, 1) := by decide +kernel
theorem md_M_toLowest_1 : decode prog_14_method_42_code 1 = .ok (.getfield 40, 3) := by decide +kernel
theorem md_M_toLowest_4 : decode prog_14_method_42_code 4 = .ok (.invokestatic 159, 3) := by decide +kernel
theorem md_M_toLowest_7 : decode prog_14_method_42_code 7 = .ok (.ifCond .ge 18, 3) := by decide +kernel
theorem md_M_toLowest_25 : decode prog_14_method_42_code 25 = .ok (.aload_n 0, 1) := by decide +kernel
theorem md_M_toLowest_26 : decode prog_14_method_42_code 26 = .ok (.getfield 40, 3) := by decide +kernel
theorem md_M_toLowest_29 : decode prog_14_method_42_code 29 = .ok (.aload_n 0, 1) := by decide +kernel
theorem md_M_toLowest_30 : decode prog_14_method_42_code 30 = .ok (.getfield 46, 3) := by decide +kernel
theorem md_M_toLowest_33 : decode prog_14_method_42_code 33 = .ok (.invokestatic 163, 3) := by decide +kernel
theorem md_M_toLowest_36 : decode prog_14_method_42_code 36 = .ok (.aload_n 0, 1) := by decide +kernel
theorem md_M_toLowest_37 : decode prog_14_method_42_code 37 = .ok (.getfield 43, 3) := by decide +kernel
theorem md_M_toLowest_40 : decode prog_14_method_42_code 40 = .ok (.aload_n 0, 1) := by decide +kernel
theorem md_M_toLowest_41 : decode prog_14_method_42_code 41 = .ok (.getfield 49, 3) := by decide +kernel
theorem md_M_toLowest_44 : decode prog_14_method_42_code 44 = .ok (.invokestatic 163, 3) := by decide +kernel
theorem md_M_toLowest_47 : decode prog_14_method_42_code 47 = .ok (.aload_n 0, 1) := by decide +kernel
theorem md_M_toLowest_48 : decode prog_14_method_42_code 48 = .ok (.getfield 49, 3) := by decide +kernel
theorem md_M_toLowest_51 : decode prog_14_method_42_code 51 = .ok (.invokestatic 159, 3) := by decide +kernel
theorem md_M_toLowest_54 : decode prog_14_method_42_code 54 = .ok (.ifCond .lt 55, 3) := by decide +kernel
theorem md_M_toLowest_109 : decode prog_14_method_42_code 109 = .ok (.aload_n 0, 1) := by decide +kernel
theorem md_M_toLowest_110 : decode prog_14_method_42_code 110 = .ok (.getfield 40, 3) := by decide +kernel
theorem md_M_toLowest_113 : decode prog_14_method_42_code 113 = .ok (.aload_n 0, 1) := by decide +kernel
theorem md_M_toLowest_114 : decode prog_14_method_42_code 114 = .ok (.getfield 49, 3) := by decide +kernel
theorem md_M_toLowest_117 : decode prog_14_method_42_code 117 = .ok (.invokestatic 163, 3) := by decide +kernel
theorem md_M_toLowest_120 : decode prog_14_method_42_code 120 = .ok (.aload_n 0, 1) := by decide +kernel
theorem md_M_toLowest_121 : decode prog_14_method_42_code 121 = .ok (.aload_n 0, 1) := by decide +kernel
theorem md_M_toLowest_122 : decode prog_14_method_42_code 122 = .ok (.getfield 49, 3) := by decide +kernel
theorem md_M_toLowest_125 : decode prog_14_method_42_code 125 = .ok (.aload_n 0, 1) := by decide +kernel
theorem md_M_toLowest_126 : decode prog_14_method_42_code 126 = .ok (.getfield 46, 3) := by decide +kernel
theorem md_M_toLowest_129 : decode prog_14_method_42_code 129 = .ok (.aload_n 0, 1) := by decide +kernel
theorem md_M_toLowest_130 : decode prog_14_method_42_code 130 = .ok (.getfield 40, 3) := by decide +kernel
theorem md_M_toLowest_133 : decode prog_14_method_42_code 133 = .ok (.invokevirtual 167, 3) := by decide +kernel
theorem md_M_toLowest_136 : decode prog_14_method_42_code 136 = .ok (.aload_n 0, 1) := by decide +kernel
theorem md_M_toLowest_137 : decode prog_14_method_42_code 137 = .ok (.getfield 43, 3) := by decide +kernel
theorem md_M_toLowest_140 : decode prog_14_method_42_code 140 = .ok (.aload_n 0, 1) := by decide +kernel
theorem md_M_toLowest_141 : decode prog_14_method_42_code 141 = .ok (.getfield 49, 3) := by decide +kernel
theorem md_M_toLowest_144 : decode prog_14_method_42_code 144 = .ok (.invokestatic 163, 3) := by decide +kernel
theorem md_M_toLowest_147 : decode prog_14_method_42_code 147 = .ok (.aload_n 0, 1) := by decide +kernel
theorem md_M_toLowest_148 : decode prog_14_method_42_code 148 = .ok (.aload_n 0, 1) := by decide +kernel
theorem md_M_toLowest_149 : decode prog_14_method_42_code 149 = .ok (.getfield 49, 3) := by decide +kernel
theorem md_M_toLowest_152 : decode prog_14_method_42_code 152 = .ok (.aload_n 0, 1) := by decide +kernel
theorem md_M_toLowest_153 : decode prog_14_method_42_code 153 = .ok (.getfield 46, 3) := by decide +kernel
theorem md_M_toLowest_156 : decode prog_14_method_42_code 156 = .ok (.aload_n 0, 1) := by decide +kernel
theorem md_M_toLowest_157 : decode prog_14_method_42_code 157 = .ok (.getfield 43, 3) := by decide +kernel
theorem md_M_toLowest_160 : decode prog_14_method_42_code 160 = .ok (.invokevirtual 167, 3) := by decide +kernel
theorem md_M_toLowest_163 : decode prog_14_method_42_code 163 = .ok (.iconst 0, 1) := by decide +kernel
theorem md_M_toLowest_164 : decode prog_14_method_42_code 164 = .ok (.istore_n 1, 1) := by decide +kernel
theorem md_M_toLowest_165 : decode prog_14_method_42_code 165 = .ok (.aload_n 0, 1) := by decide +kernel
theorem md_M_toLowest_166 : decode prog_14_method_42_code 166 = .ok (.getfield 43, 3) := by decide +kernel
theorem md_M_toLowest_169 : decode prog_14_method_42_code 169 = .ok (.iload_n 1, 1) := by decide +kernel
theorem md_M_toLowest_170 : decode prog_14_method_42_code 170 = .ok (.iaload, 1) := by decide +kernel
theorem md_M_toLowest_171 : decode prog_14_method_42_code 171 = .ok (.ifCond .ne 9, 3) := by decide +kernel
theorem md_M_toLowest_180 : decode prog_14_method_42_code 180 = .ok (.aload_n 0, 1) := by decide +kernel
theorem md_M_toLowest_181 : decode prog_14_method_42_code 181 = .ok (.aload_n 0, 1) := by decide +kernel
theorem md_M_toLowest_182 : decode prog_14_method_42_code 182 = .ok (.getfield 43, 3) := by decide +kernel
theorem md_M_toLowest_185 : decode prog_14_method_42_code 185 = .ok (.iload_n 1, 1) := by decide +kernel
theorem md_M_toLowest_186 : decode prog_14_method_42_code 186 = .ok (.iaload, 1) := by decide +kernel
theorem md_M_toLowest_187 : decode prog_14_method_42_code 187 = .ok (.invokevirtual 94, 3) := by decide +kernel
theorem md_M_toLowest_190 : decode prog_14_method_42_code 190 = .ok (.istore_n 2, 1) := by decide +kernel
theorem md_M_toLowest_191 : decode prog_14_method_42_code 191 = .ok (.iconst 0, 1) := by decide +kernel
theorem md_M_toLowest_192 : decode prog_14_method_42_code 192 = .ok (.istore_n 3, 1) := by decide +kernel
theorem md_M_toLowest_193 : decode prog_14_method_42_code 193 = .ok (.iload_n 3, 1) := by decide +kernel
theorem md_M_toLowest_194 : decode prog_14_method_42_code 194 = .ok (.bipush 18, 2) := by decide +kernel
theorem md_M_toLowest_196 : decode prog_14_method_42_code 196 = .ok (.if_icmp .ge 45, 3) := by decide +kernel
theorem md_M_toLowest_241 : decode prog_14_method_42_code 241 = .ok (.return_, 1) := by decide +kernel
theorem md_M_toLowest_199 : decode prog_14_method_42_code 199 = .ok (.aload_n 0, 1) := by decide +kernel
theorem md_M_toLowest_200 : decode prog_14_method_42_code 200 = .ok (.getfield 40, 3) := by decide +kernel
theorem md_M_toLowest_203 : decode prog_14_method_42_code 203 = .ok (.iload_n 3, 1) := by decide +kernel
theorem md_M_toLowest_204 : decode prog_14_method_42_code 204 = .ok (.aload_n 0, 1) := by decide +kernel
theorem md_M_toLowest_205 : decode prog_14_method_42_code 205 = .ok (.aload_n 0, 1) := by decide +kernel
theorem md_M_toLowest_206 : decode prog_14_method_42_code 206 = .ok (.getfield 40, 3) := by decide +kernel
theorem md_M_toLowest_209 : decode prog_14_method_42_code 209 = .ok (.iload_n 3, 1) := by decide +kernel
theorem md_M_toLowest_210 : decode prog_14_method_42_code 210 = .ok (.iaload, 1) := by decide +kernel
theorem md_M_toLowest_211 : decode prog_14_method_42_code 211 = .ok (.iload_n 2, 1) := by decide +kernel
theorem md_M_toLowest_212 : decode prog_14_method_42_code 212 = .ok (.imul, 1) := by decide +kernel
theorem md_M_toLowest_213 : decode prog_14_method_42_code 213 = .ok (.invokevirtual 91, 3) := by decide +kernel
theorem md_M_toLowest_216 : decode prog_14_method_42_code 216 = .ok (.iastore, 1) := by decide +kernel
theorem md_M_toLowest_217 : decode prog_14_method_42_code 217 = .ok (.aload_n 0, 1) := by decide +kernel
theorem md_M_toLowest_218 : decode prog_14_method_42_code 218 = .ok (.getfield 43, 3) := by decide +kernel
theorem md_M_toLowest_221 : decode prog_14_method_42_code 221 = .ok (.iload_n 3, 1) := by decide +kernel
theorem md_M_toLowest_222 : decode prog_14_method_42_code 222 = .ok (.aload_n 0, 1) := by decide +kernel
theorem md_M_toLowest_223 : decode prog_14_method_42_code 223 = .ok (.aload_n 0, 1) := by decide +kernel
theorem md_M_toLowest_224 : decode prog_14_method_42_code 224 = .ok (.getfield 43, 3) := by decide +kernel
theorem md_M_toLowest_227 : decode prog_14_method_42_code 227 = .ok (.iload_n 3, 1) := by decide +kernel
theorem md_M_toLowest_228 : decode prog_14_method_42_code 228 = .ok (.iaload, 1) := by decide +kernel
theorem md_M_toLowest_229 : decode prog_14_method_42_code 229 = .ok (.iload_n 2, 1) := by decide +kernel
theorem md_M_toLowest_230 : decode prog_14_method_42_code 230 = .ok (.imul, 1) := by decide +kernel
theorem md_M_toLowest_231 : decode prog_14_method_42_code 231 = .ok (.invokevirtual 91, 3) := by decide +kernel
theorem md_M_toLowest_234 : decode prog_14_method_42_code 234 = .ok (.iastore, 1) := by decide +kernel
theorem md_M_toLowest_235 : decode prog_14_method_42_code 235 = .ok (.iinc 3 1, 3) := by decide +kernel
theorem md_M_toLowest_238 : decode prog_14_method_42_code 238 = .ok (.goto (-45), 3) := by decide +kernel
theorem md_M_toLowest_174 : decode prog_14_method_42_code 174 = .ok (.iinc 1 1, 3) := by decide +kernel
theorem md_M_toLowest_177 : decode prog_14_method_42_code 177 = .ok (.goto (-12), 3) := by decide +kernel
theorem md_M_toLowest_57 : decode prog_14_method_42_code 57 = .ok (.aload_n 0, 1) := by decide +kernel
theorem md_M_toLowest_58 : decode prog_14_method_42_code 58 = .ok (.aload_n 0, 1) := by decide +kernel
theorem md_M_toLowest_59 : decode prog_14_method_42_code 59 = .ok (.getfield 46, 3) := by decide +kernel
theorem md_M_toLowest_62 : decode prog_14_method_42_code 62 = .ok (.aload_n 0, 1) := by decide +kernel
theorem md_M_toLowest_63 : decode prog_14_method_42_code 63 = .ok (.getfield 49, 3) := by decide +kernel
theorem md_M_toLowest_66 : decode prog_14_method_42_code 66 = .ok (.aload_n 0, 1) := by decide +kernel
theorem md_M_toLowest_67 : decode prog_14_method_42_code 67 = .ok (.getfield 52, 3) := by decide +kernel
theorem md_M_toLowest_70 : decode prog_14_method_42_code 70 = .ok (.invokevirtual 167, 3) := by decide +kernel
theorem md_M_toLowest_73 : decode prog_14_method_42_code 73 = .ok (.aload_n 0, 1) := by decide +kernel
theorem md_M_toLowest_74 : decode prog_14_method_42_code 74 = .ok (.getfield 46, 3) := by decide +kernel
theorem md_M_toLowest_77 : decode prog_14_method_42_code 77 = .ok (.aload_n 0, 1) := by decide +kernel
theorem md_M_toLowest_78 : decode prog_14_method_42_code 78 = .ok (.getfield 52, 3) := by decide +kernel
theorem md_M_toLowest_81 : decode prog_14_method_42_code 81 = .ok (.invokestatic 163, 3) := by decide +kernel
theorem md_M_toLowest_84 : decode prog_14_method_42_code 84 = .ok (.aload_n 0, 1) := by decide +kernel
theorem md_M_toLowest_85 : decode prog_14_method_42_code 85 = .ok (.getfield 49, 3) := by decide +kernel
theorem md_M_toLowest_88 : decode prog_14_method_42_code 88 = .ok (.aload_n 0, 1) := by decide +kernel
theorem md_M_toLowest_89 : decode prog_14_method_42_code 89 = .ok (.getfield 46, 3) := by decide +kernel
theorem md_M_toLowest_92 : decode prog_14_method_42_code 92 = .ok (.invokestatic 163, 3) := by decide +kernel
theorem md_M_toLowest_95 : decode prog_14_method_42_code 95 = .ok (.aload_n 0, 1) := by decide +kernel
theorem md_M_toLowest_96 : decode prog_14_method_42_code 96 = .ok (.getfield 52, 3) := by decide +kernel
theorem md_M_toLowest_99 : decode prog_14_method_42_code 99 = .ok (.aload_n 0, 1) := by decide +kernel
theorem md_M_toLowest_100 : decode prog_14_method_42_code 100 = .ok (.getfield 49, 3) := by decide +kernel
theorem md_M_toLowest_103 : decode prog_14_method_42_code 103 = .ok (.invokestatic 163, 3) := by decide +kernel
theorem md_M_toLowest_106 : decode prog_14_method_42_code 106 = .ok (.goto (-59), 3) := by decide +kernel
theorem md_M_toLowest_10 : decode prog_14_method_42_code 10 = .ok (.aload_n 0, 1) := by decide +kernel
theorem md_M_toLowest_11 : decode prog_14_method_42_code 11 = .ok (.getfield 43, 3) := by decide +kernel
theorem md_M_toLowest_14 : decode prog_14_method_42_code 14 = .ok (.invokestatic 107, 3) := by decide +kernel
theorem md_M_toLowest_17 : decode prog_14_method_42_code 17 = .ok (.aload_n 0, 1) := by decide +kernel
theorem md_M_toLowest_18 : decode prog_14_method_42_code 18 = .ok (.getfield 43, 3) := by decide +kernel
theorem md_M_toLowest_21 : decode prog_14_method_42_code 21 = .ok (.iconst 0, 1) := by decide +kernel
theorem md_M_toLowest_22 : decode prog_14_method_42_code 22 = .ok (.iconst 1, 1) := by decide +kernel
theorem md_M_toLowest_23 : decode prog_14_method_42_code 23 = .ok (.iastore, 1) := by decide +kernel
theorem md_M_toLowest_24 : decode prog_14_method_42_code 24 = .ok (.return_, 1) := by decide +kernel
def mb_M_toLowest_193 (rc : Nat → Int → Int → pw_Sto → Option (Unit × pw_Sto)) : Nat → Int → Int → pw_Sto → Option (Unit × pw_Sto) := fun x0 x2 x3 σ => pw_ck x3 (18 : Int) (if (18 : Int) ≤ x3 then some ((), σ) else (pw_gr 10 x0 13 σ).bind (fun v33 => (pw_gr 10 x0 13 σ).bind (fun v34 => (pw_ai v34 x3 σ).bind (fun v35 => pw_bd (mf_M_mod x0 (v35 * x2) σ) (fun v37 s36 => (pw_si v33 x3 v37 s36).bind (fun s38 => (pw_gr 10 x0 14 s38).bind (fun v39 => (pw_gr 10 x0 14 s38).bind (fun v40 => (pw_ai v40 x3 s38).bind (fun v41 => pw_bd (mf_M_mod x0 (v41 * x2) s38) (fun v43 s42 => (pw_si v39 x3 v43 s42).bind (fun s44 => rc x0 x2 (x3 + 1) s44)))))))))))
def ml_M_toLowest_193 : Nat → Nat → Int → Int → pw_Sto → Option (Unit × pw_Sto) := pw_lp (fun _ _ _ _ => none) (mb_M_toLowest_193)
def mb_M_toLowest_165 (rc : Nat → Int → pw_Sto → Option (Unit × pw_Sto)) : Nat → Int → pw_Sto → Option (Unit × pw_Sto) := fun x0 x1 σ => (pw_gr 10 x0 14 σ).bind (fun v27 => (pw_ai v27 x1 σ).bind (fun v28 => pw_ck v28 0 (if v28 = 0 then rc x0 (x1 + 1) σ else (pw_gr 10 x0 14 σ).bind (fun v29 => (pw_ai v29 x1 σ).bind (fun v30 => pw_bd (mf_M_inverse x0 v30 σ) (fun v32 s31 => ml_M_toLowest_193 1000 x0 v32 (0 : Int) s31))))))
def ml_M_toLowest_165 : Nat → Nat → Int → pw_Sto → Option (Unit × pw_Sto) := pw_lp (fun _ _ _ => none) (mb_M_toLowest_165)
def mb_M_toLowest_47 (rc : Nat → pw_Sto → Option (Unit × pw_Sto)) : Nat → pw_Sto → Option (Unit × pw_Sto) := fun x0 σ => (pw_gr 10 x0 16 σ).bind (fun v10 => pw_bd (mf_M_degree v10 σ) (fun v12 s11 => pw_ck v12 0 (if v12 < 0 then (pw_gr 10 x0 13 s11).bind (fun v13 => (pw_gr 10 x0 16 s11).bind (fun v14 => pw_bd (mf_M_copy v13 v14 s11) (fun _ s15 => (pw_gr 10 x0 16 s15).bind (fun v16 => (pw_gr 10 x0 15 s15).bind (fun v17 => (pw_gr 10 x0 13 s15).bind (fun v18 => pw_bd (mf_M_divide x0 v16 v17 v18 s15) (fun _ s19 => (pw_gr 10 x0 14 s19).bind (fun v20 => (pw_gr 10 x0 16 s19).bind (fun v21 => pw_bd (mf_M_copy v20 v21 s19) (fun _ s22 => (pw_gr 10 x0 16 s22).bind (fun v23 => (pw_gr 10 x0 15 s22).bind (fun v24 => (pw_gr 10 x0 14 s22).bind (fun v25 => pw_bd (mf_M_divide x0 v23 v24 v25 s22) (fun _ s26 => ml_M_toLowest_165 1000 x0 (0 : Int) s26)))))))))))))) else (pw_gr 10 x0 15 s11).bind (fun v45 => (pw_gr 10 x0 16 s11).bind (fun v46 => (pw_gr 10 x0 17 s11).bind (fun v47 => pw_bd (mf_M_divide x0 v45 v46 v47 s11) (fun _ s48 => (pw_gr 10 x0 15 s48).bind (fun v49 => (pw_gr 10 x0 17 s48).bind (fun v50 => pw_bd (mf_M_copy v49 v50 s48) (fun _ s51 => (pw_gr 10 x0 16 s51).bind (fun v52 => (pw_gr 10 x0 15 s51).bind (fun v53 => pw_bd (mf_M_copy v52 v53 s51) (fun _ s54 => (pw_gr 10 x0 17 s54).bind (fun v55 => (pw_gr 10 x0 16 s54).bind (fun v56 => pw_bd (mf_M_copy v55 v56 s54) (fun _ s57 => rc x0 s57))))))))))))))))
def ml_M_toLowest_47 : Nat → Nat → pw_Sto → Option (Unit × pw_Sto) := pw_lp (fun _ _ => none) (mb_M_toLowest_47)
def mf_M_toLowest (x0 : Nat) (σ : pw_Sto) : Option (Unit × pw_Sto) := pw_gd 10 x0 σ ((pw_gr 10 x0 13 σ).bind (fun v1 => pw_bd (mf_M_degree v1 σ) (fun v3 s2 => pw_ck v3 0 (if 0 ≤ v3 then (pw_gr 10 x0 13 s2).bind (fun v4 => (pw_gr 10 x0 15 s2).bind (fun v5 => pw_bd (mf_M_copy v4 v5 s2) (fun _ s6 => (pw_gr 10 x0 14 s6).bind (fun v7 => (pw_gr 10 x0 16 s6).bind (fun v8 => pw_bd (mf_M_copy v7 v8 s6) (fun _ s9 => ml_M_toLowest_47 1000 x0 s9)))))) else (pw_gr 10 x0 14 s2).bind (fun v58 => pw_bd (mf_M_clear v58 s2) (fun _ s59 => (pw_gr 10 x0 14 s59).bind (fun v60 => (pw_si v60 (0 : Int) (1 : Int) s59).bind (fun s61 => some ((), s61)))))))))
set_option maxHeartbeats 4000000 in
set_option maxRecDepth 20000 in
theorem sl_M_toLowest_193 {X : pw_X Unit} (hX : pw_Ok X prog_14_method_42_code "PadeWorkbenchModel" mr_M_toLowest 4) (hR : pw_RV X prog_14_method_42_code) : ∀ (n : Nat) (x0 : Nat) (x2 : Int) (x3 : Int) (σ : pw_Sto), pw_Sp X 0 0 193 [(0, Value.ref x0), (2, Value.int (iI x2)), (3, Value.int (iI x3))] [] σ (ml_M_toLowest_193 n x0 x2 x3 σ) := by
  intro n
  induction n with
  | zero => intros; exact pw_none
  | succ n ih =>
    intro x0 x2 x3 σ
    show pw_Sp X 0 0 193 _ _ σ (mb_M_toLowest_193 (ml_M_toLowest_193 n) x0 x2 x3 σ)
    unfold mb_M_toLowest_193
    refine sp_iload_n (pc := 193) (k := 3) (i := 3) hX rfl 2 rfl md_M_toLowest_193 ?_
    refine sp_bipush (pc := 194) hX (by decide) md_M_toLowest_194 ?_
    refine sp_icmp_ge (pc := 196) hX 241 (by decide) md_M_toLowest_196 (fun _ => ?_) (fun _ => ?_)
    · exact sp_vret (pc := 241) hX hR rfl (Nat.le_of_ble_eq_true rfl) md_M_toLowest_241
    · refine sp_aload_n (pc := 199) (k := 0) (i := 0) hX rfl 0 rfl md_M_toLowest_199 ?_
      refine sp_getR (pc := 200) (ci := 10) (k := 13) (idx := 40) hX mcl_10 (by decide) mq_812 rfl md_M_toLowest_200 (fun v33 => ?_)
      refine sp_iload_n (pc := 203) (k := 3) (i := 3) hX rfl 2 rfl md_M_toLowest_203 ?_
      refine sp_aload_n (pc := 204) (k := 0) (i := 0) hX rfl 0 rfl md_M_toLowest_204 ?_
      refine sp_aload_n (pc := 205) (k := 0) (i := 0) hX rfl 0 rfl md_M_toLowest_205 ?_
      refine sp_getR (pc := 206) (ci := 10) (k := 13) (idx := 40) hX mcl_10 (by decide) mq_812 rfl md_M_toLowest_206 (fun v34 => ?_)
      refine sp_iload_n (pc := 209) (k := 3) (i := 3) hX rfl 2 rfl md_M_toLowest_209 ?_
      refine sp_iaload (pc := 210) hX md_M_toLowest_210 (fun v35 => ?_)
      refine sp_iload_n (pc := 211) (k := 2) (i := 2) hX rfl 1 rfl md_M_toLowest_211 ?_
      refine sp_imul (pc := 212) hX md_M_toLowest_212 ?_
      refine sp_callVI (pc := 213) (y := my_M_mod) (ccy := prog_14_method_5_code) (nLy := 3) (ret := (some .int)) (rmy := mr_M_mod) (n := 1) (idx := 91) (As := [.int (iI (v35 * x2))]) (st := [.int (iI x3), .ref v33]) (o := x0) (cells' := 0) (slots' := 0) hX (fun _ h => mc_M_mod h) mk_M_mod mv_M_mod mcl_10 (fun _ h => pw_gd_of h) mq_901 ⟨(Nat.le_of_ble_eq_true rfl), (Nat.le_of_ble_eq_true rfl)⟩ rfl rfl (Nat.le_of_ble_eq_true rfl) ⟨(Nat.le_of_ble_eq_true rfl), (Nat.le_of_ble_eq_true rfl)⟩ rfl rfl md_M_toLowest_213 (fun v37 s36 => ?_)
      refine sp_iastore (pc := 216) hX md_M_toLowest_216 (fun s38 => ?_)
      refine sp_aload_n (pc := 217) (k := 0) (i := 0) hX rfl 0 rfl md_M_toLowest_217 ?_
      refine sp_getR (pc := 218) (ci := 10) (k := 14) (idx := 43) hX mcl_10 (by decide) mq_813 rfl md_M_toLowest_218 (fun v39 => ?_)
      refine sp_iload_n (pc := 221) (k := 3) (i := 3) hX rfl 2 rfl md_M_toLowest_221 ?_
      refine sp_aload_n (pc := 222) (k := 0) (i := 0) hX rfl 0 rfl md_M_toLowest_222 ?_
      refine sp_aload_n (pc := 223) (k := 0) (i := 0) hX rfl 0 rfl md_M_toLowest_223 ?_
      refine sp_getR (pc := 224) (ci := 10) (k := 14) (idx := 43) hX mcl_10 (by decide) mq_813 rfl md_M_toLowest_224 (fun v40 => ?_)
      refine sp_iload_n (pc := 227) (k := 3) (i := 3) hX rfl 2 rfl md_M_toLowest_227 ?_
      refine sp_iaload (pc := 228) hX md_M_toLowest_228 (fun v41 => ?_)
      refine sp_iload_n (pc := 229) (k := 2) (i := 2) hX rfl 1 rfl md_M_toLowest_229 ?_
      refine sp_imul (pc := 230) hX md_M_toLowest_230 ?_
      refine sp_callVI (pc := 231) (y := my_M_mod) (ccy := prog_14_method_5_code) (nLy := 3) (ret := (some .int)) (rmy := mr_M_mod) (n := 1) (idx := 91) (As := [.int (iI (v41 * x2))]) (st := [.int (iI x3), .ref v39]) (o := x0) (cells' := 0) (slots' := 0) hX (fun _ h => mc_M_mod h) mk_M_mod mv_M_mod mcl_10 (fun _ h => pw_gd_of h) mq_901 ⟨(Nat.le_of_ble_eq_true rfl), (Nat.le_of_ble_eq_true rfl)⟩ rfl rfl (Nat.le_of_ble_eq_true rfl) ⟨(Nat.le_of_ble_eq_true rfl), (Nat.le_of_ble_eq_true rfl)⟩ rfl rfl md_M_toLowest_231 (fun v43 s42 => ?_)
      refine sp_iastore (pc := 234) hX md_M_toLowest_234 (fun s44 => ?_)
      refine sp_iinc (pc := 235) (i := 3) (L' := [(3, Value.int (iI (x3 + 1))), (0, Value.ref x0), (2, Value.int (iI x2))]) hX 2 rfl (by decide) rfl md_M_toLowest_235 ?_
      refine sp_goto (pc := 238) hX 193 (by decide) md_M_toLowest_238 ?_
      refine sp_sub [1, 2, 0] (L' := [(0, Value.ref x0), (2, Value.int (iI x2)), (3, Value.int (iI (x3 + 1)))]) rfl ?_
      exact ih x0 x2 (x3 + 1) s44
set_option maxHeartbeats 4000000 in
set_option maxRecDepth 20000 in
theorem sl_M_toLowest_165 {X : pw_X Unit} (hX : pw_Ok X prog_14_method_42_code "PadeWorkbenchModel" mr_M_toLowest 4) (hR : pw_RV X prog_14_method_42_code) : ∀ (n : Nat) (x0 : Nat) (x1 : Int) (σ : pw_Sto), pw_Sp X 0 0 165 [(0, Value.ref x0), (1, Value.int (iI x1))] [] σ (ml_M_toLowest_165 n x0 x1 σ) := by
  intro n
  induction n with
  | zero => intros; exact pw_none
  | succ n ih =>
    intro x0 x1 σ
    show pw_Sp X 0 0 165 _ _ σ (mb_M_toLowest_165 (ml_M_toLowest_165 n) x0 x1 σ)
    unfold mb_M_toLowest_165
    refine sp_aload_n (pc := 165) (k := 0) (i := 0) hX rfl 0 rfl md_M_toLowest_165 ?_
    refine sp_getR (pc := 166) (ci := 10) (k := 14) (idx := 43) hX mcl_10 (by decide) mq_813 rfl md_M_toLowest_166 (fun v27 => ?_)
    refine sp_iload_n (pc := 169) (k := 1) (i := 1) hX rfl 1 rfl md_M_toLowest_169 ?_
    refine sp_iaload (pc := 170) hX md_M_toLowest_170 (fun v28 => ?_)
    refine sp_if_ne (pc := 171) hX 180 (by decide) md_M_toLowest_171 (fun _ => ?_) (fun _ => ?_)
    · refine sp_iinc (pc := 174) (i := 1) (L' := [(1, Value.int (iI (x1 + 1))), (0, Value.ref x0)]) hX 1 rfl (by decide) rfl md_M_toLowest_174 ?_
      refine sp_goto (pc := 177) hX 165 (by decide) md_M_toLowest_177 ?_
      refine sp_sub [1, 0] (L' := [(0, Value.ref x0), (1, Value.int (iI (x1 + 1)))]) rfl ?_
      exact ih x0 (x1 + 1) σ
    · refine sp_aload_n (pc := 180) (k := 0) (i := 0) hX rfl 0 rfl md_M_toLowest_180 ?_
      refine sp_aload_n (pc := 181) (k := 0) (i := 0) hX rfl 0 rfl md_M_toLowest_181 ?_
      refine sp_getR (pc := 182) (ci := 10) (k := 14) (idx := 43) hX mcl_10 (by decide) mq_813 rfl md_M_toLowest_182 (fun v29 => ?_)
      refine sp_iload_n (pc := 185) (k := 1) (i := 1) hX rfl 1 rfl md_M_toLowest_185 ?_
      refine sp_iaload (pc := 186) hX md_M_toLowest_186 (fun v30 => ?_)
      refine sp_callVI (pc := 187) (y := my_M_inverse) (ccy := prog_14_method_6_code) (nLy := 4) (ret := (some .int)) (rmy := mr_M_inverse) (n := 1) (idx := 94) (As := [.int (iI v30)]) (st := []) (o := x0) (cells' := 0) (slots' := 0) hX (fun _ h => mc_M_inverse h) mk_M_inverse mv_M_inverse mcl_10 (fun _ h => pw_gd_of h) mq_932 ⟨(Nat.le_of_ble_eq_true rfl), (Nat.le_of_ble_eq_true rfl)⟩ rfl rfl (Nat.le_of_ble_eq_true rfl) ⟨(Nat.le_of_ble_eq_true rfl), (Nat.le_of_ble_eq_true rfl)⟩ rfl rfl md_M_toLowest_187 (fun v32 s31 => ?_)
      refine sp_istore_n (pc := 190) (k := 2) (i := 2) (L' := [(2, Value.int (iI v32)), (0, Value.ref x0), (1, Value.int (iI x1))]) hX rfl (by decide) rfl md_M_toLowest_190 ?_
      refine sp_iconst (pc := 191) hX md_M_toLowest_191 ?_
      refine sp_istore_n (pc := 192) (k := 3) (i := 3) (L' := [(3, Value.int (iI (0 : Int))), (2, Value.int (iI v32)), (0, Value.ref x0), (1, Value.int (iI x1))]) hX rfl (by decide) rfl md_M_toLowest_192 ?_
      refine sp_sub [2, 1, 0] (L' := [(0, Value.ref x0), (2, Value.int (iI v32)), (3, Value.int (iI (0 : Int)))]) rfl ?_
      exact sl_M_toLowest_193 hX hR 1000 x0 v32 (0 : Int) s31
set_option maxHeartbeats 4000000 in
set_option maxRecDepth 20000 in
theorem sl_M_toLowest_47 {X : pw_X Unit} (hX : pw_Ok X prog_14_method_42_code "PadeWorkbenchModel" mr_M_toLowest 4) (hR : pw_RV X prog_14_method_42_code) : ∀ (n : Nat) (x0 : Nat) (σ : pw_Sto), pw_Sp X 0 0 47 [(0, Value.ref x0)] [] σ (ml_M_toLowest_47 n x0 σ) := by
  intro n
  induction n with
  | zero => intros; exact pw_none
  | succ n ih =>
    intro x0 σ
    show pw_Sp X 0 0 47 _ _ σ (mb_M_toLowest_47 (ml_M_toLowest_47 n) x0 σ)
    unfold mb_M_toLowest_47
    refine sp_aload_n (pc := 47) (k := 0) (i := 0) hX rfl 0 rfl md_M_toLowest_47 ?_
    refine sp_getR (pc := 48) (ci := 10) (k := 16) (idx := 49) hX mcl_10 (by decide) mq_815 rfl md_M_toLowest_48 (fun v10 => ?_)
    refine sp_callSI (pc := 51) (y := my_M_degree) (ccy := prog_14_method_39_code) (nLy := 3) (ret := (some .int)) (rmy := mr_M_degree) (n := 1) (idx := 159) (As := [.ref v10]) (st := []) (cells' := 0) (slots' := 0) hX (fun _ h => mc_M_degree h) mk_M_degree mq_1021 mq_1020 ⟨(Nat.le_of_ble_eq_true rfl), (Nat.le_of_ble_eq_true rfl)⟩ rfl rfl (Nat.le_of_ble_eq_true rfl) ⟨(Nat.le_of_ble_eq_true rfl), (Nat.le_of_ble_eq_true rfl)⟩ rfl rfl md_M_toLowest_51 (fun v12 s11 => ?_)
    refine sp_if_lt (pc := 54) hX 109 (by decide) md_M_toLowest_54 (fun _ => ?_) (fun _ => ?_)
    · refine sp_aload_n (pc := 109) (k := 0) (i := 0) hX rfl 0 rfl md_M_toLowest_109 ?_
      refine sp_getR (pc := 110) (ci := 10) (k := 13) (idx := 40) hX mcl_10 (by decide) mq_812 rfl md_M_toLowest_110 (fun v13 => ?_)
      refine sp_aload_n (pc := 113) (k := 0) (i := 0) hX rfl 0 rfl md_M_toLowest_113 ?_
      refine sp_getR (pc := 114) (ci := 10) (k := 16) (idx := 49) hX mcl_10 (by decide) mq_815 rfl md_M_toLowest_114 (fun v14 => ?_)
      refine sp_callSV (pc := 117) (y := my_M_copy) (ccy := prog_14_method_40_code) (nLy := 3) (ret := none) (rmy := mr_M_copy) (n := 2) (idx := 163) (As := [.ref v13, .ref v14]) (st := []) (cells' := 0) (slots' := 0) hX (fun _ h => mc_M_copy h) mk_M_copy mq_1024 mq_1023 ⟨(Nat.le_of_ble_eq_true rfl), (Nat.le_of_ble_eq_true rfl)⟩ rfl rfl (Nat.le_of_ble_eq_true rfl) ⟨(Nat.le_of_ble_eq_true rfl), (Nat.le_of_ble_eq_true rfl)⟩ rfl rfl md_M_toLowest_117 (fun s15 => ?_)
      refine sp_aload_n (pc := 120) (k := 0) (i := 0) hX rfl 0 rfl md_M_toLowest_120 ?_
      refine sp_aload_n (pc := 121) (k := 0) (i := 0) hX rfl 0 rfl md_M_toLowest_121 ?_
      refine sp_getR (pc := 122) (ci := 10) (k := 16) (idx := 49) hX mcl_10 (by decide) mq_815 rfl md_M_toLowest_122 (fun v16 => ?_)
      refine sp_aload_n (pc := 125) (k := 0) (i := 0) hX rfl 0 rfl md_M_toLowest_125 ?_
      refine sp_getR (pc := 126) (ci := 10) (k := 15) (idx := 46) hX mcl_10 (by decide) mq_814 rfl md_M_toLowest_126 (fun v17 => ?_)
      refine sp_aload_n (pc := 129) (k := 0) (i := 0) hX rfl 0 rfl md_M_toLowest_129 ?_
      refine sp_getR (pc := 130) (ci := 10) (k := 13) (idx := 40) hX mcl_10 (by decide) mq_812 rfl md_M_toLowest_130 (fun v18 => ?_)
      refine sp_callVV (pc := 133) (y := my_M_divide) (ccy := prog_14_method_41_code) (nLy := 9) (ret := none) (rmy := mr_M_divide) (n := 3) (idx := 167) (As := [.ref v16, .ref v17, .ref v18]) (st := []) (o := x0) (cells' := 0) (slots' := 0) hX (fun _ h => mc_M_divide h) mk_M_divide mv_M_divide mcl_10 (fun _ h => pw_gd_of h) mq_1026 ⟨(Nat.le_of_ble_eq_true rfl), (Nat.le_of_ble_eq_true rfl)⟩ rfl rfl (Nat.le_of_ble_eq_true rfl) ⟨(Nat.le_of_ble_eq_true rfl), (Nat.le_of_ble_eq_true rfl)⟩ rfl rfl md_M_toLowest_133 (fun s19 => ?_)
      refine sp_aload_n (pc := 136) (k := 0) (i := 0) hX rfl 0 rfl md_M_toLowest_136 ?_
      refine sp_getR (pc := 137) (ci := 10) (k := 14) (idx := 43) hX mcl_10 (by decide) mq_813 rfl md_M_toLowest_137 (fun v20 => ?_)
      refine sp_aload_n (pc := 140) (k := 0) (i := 0) hX rfl 0 rfl md_M_toLowest_140 ?_
      refine sp_getR (pc := 141) (ci := 10) (k := 16) (idx := 49) hX mcl_10 (by decide) mq_815 rfl md_M_toLowest_141 (fun v21 => ?_)
      refine sp_callSV (pc := 144) (y := my_M_copy) (ccy := prog_14_method_40_code) (nLy := 3) (ret := none) (rmy := mr_M_copy) (n := 2) (idx := 163) (As := [.ref v20, .ref v21]) (st := []) (cells' := 0) (slots' := 0) hX (fun _ h => mc_M_copy h) mk_M_copy mq_1024 mq_1023 ⟨(Nat.le_of_ble_eq_true rfl), (Nat.le_of_ble_eq_true rfl)⟩ rfl rfl (Nat.le_of_ble_eq_true rfl) ⟨(Nat.le_of_ble_eq_true rfl), (Nat.le_of_ble_eq_true rfl)⟩ rfl rfl md_M_toLowest_144 (fun s22 => ?_)
      refine sp_aload_n (pc := 147) (k := 0) (i := 0) hX rfl 0 rfl md_M_toLowest_147 ?_
      refine sp_aload_n (pc := 148) (k := 0) (i := 0) hX rfl 0 rfl md_M_toLowest_148 ?_
      refine sp_getR (pc := 149) (ci := 10) (k := 16) (idx := 49) hX mcl_10 (by decide) mq_815 rfl md_M_toLowest_149 (fun v23 => ?_)
      refine sp_aload_n (pc := 152) (k := 0) (i := 0) hX rfl 0 rfl md_M_toLowest_152 ?_
      refine sp_getR (pc := 153) (ci := 10) (k := 15) (idx := 46) hX mcl_10 (by decide) mq_814 rfl md_M_toLowest_153 (fun v24 => ?_)
      refine sp_aload_n (pc := 156) (k := 0) (i := 0) hX rfl 0 rfl md_M_toLowest_156 ?_
      refine sp_getR (pc := 157) (ci := 10) (k := 14) (idx := 43) hX mcl_10 (by decide) mq_813 rfl md_M_toLowest_157 (fun v25 => ?_)
      refine sp_callVV (pc := 160) (y := my_M_divide) (ccy := prog_14_method_41_code) (nLy := 9) (ret := none) (rmy := mr_M_divide) (n := 3) (idx := 167) (As := [.ref v23, .ref v24, .ref v25]) (st := []) (o := x0) (cells' := 0) (slots' := 0) hX (fun _ h => mc_M_divide h) mk_M_divide mv_M_divide mcl_10 (fun _ h => pw_gd_of h) mq_1026 ⟨(Nat.le_of_ble_eq_true rfl), (Nat.le_of_ble_eq_true rfl)⟩ rfl rfl (Nat.le_of_ble_eq_true rfl) ⟨(Nat.le_of_ble_eq_true rfl), (Nat.le_of_ble_eq_true rfl)⟩ rfl rfl md_M_toLowest_160 (fun s26 => ?_)
      refine sp_iconst (pc := 163) hX md_M_toLowest_163 ?_
      refine sp_istore_n (pc := 164) (k := 1) (i := 1) (L' := [(1, Value.int (iI (0 : Int))), (0, Value.ref x0)]) hX rfl (by decide) rfl md_M_toLowest_164 ?_
      refine sp_sub [1, 0] (L' := [(0, Value.ref x0), (1, Value.int (iI (0 : Int)))]) rfl ?_
      exact sl_M_toLowest_165 hX hR 1000 x0 (0 : Int) s26
    · refine sp_aload_n (pc := 57) (k := 0) (i := 0) hX rfl 0 rfl md_M_toLowest_57 ?_
      refine sp_aload_n (pc := 58) (k := 0) (i := 0) hX rfl 0 rfl md_M_toLowest_58 ?_
      refine sp_getR (pc := 59) (ci := 10) (k := 15) (idx := 46) hX mcl_10 (by decide) mq_814 rfl md_M_toLowest_59 (fun v45 => ?_)
      refine sp_aload_n (pc := 62) (k := 0) (i := 0) hX rfl 0 rfl md_M_toLowest_62 ?_
      refine sp_getR (pc := 63) (ci := 10) (k := 16) (idx := 49) hX mcl_10 (by decide) mq_815 rfl md_M_toLowest_63 (fun v46 => ?_)
      refine sp_aload_n (pc := 66) (k := 0) (i := 0) hX rfl 0 rfl md_M_toLowest_66 ?_
      refine sp_getR (pc := 67) (ci := 10) (k := 17) (idx := 52) hX mcl_10 (by decide) mq_816 rfl md_M_toLowest_67 (fun v47 => ?_)
      refine sp_callVV (pc := 70) (y := my_M_divide) (ccy := prog_14_method_41_code) (nLy := 9) (ret := none) (rmy := mr_M_divide) (n := 3) (idx := 167) (As := [.ref v45, .ref v46, .ref v47]) (st := []) (o := x0) (cells' := 0) (slots' := 0) hX (fun _ h => mc_M_divide h) mk_M_divide mv_M_divide mcl_10 (fun _ h => pw_gd_of h) mq_1026 ⟨(Nat.le_of_ble_eq_true rfl), (Nat.le_of_ble_eq_true rfl)⟩ rfl rfl (Nat.le_of_ble_eq_true rfl) ⟨(Nat.le_of_ble_eq_true rfl), (Nat.le_of_ble_eq_true rfl)⟩ rfl rfl md_M_toLowest_70 (fun s48 => ?_)
      refine sp_aload_n (pc := 73) (k := 0) (i := 0) hX rfl 0 rfl md_M_toLowest_73 ?_
      refine sp_getR (pc := 74) (ci := 10) (k := 15) (idx := 46) hX mcl_10 (by decide) mq_814 rfl md_M_toLowest_74 (fun v49 => ?_)
      refine sp_aload_n (pc := 77) (k := 0) (i := 0) hX rfl 0 rfl md_M_toLowest_77 ?_
      refine sp_getR (pc := 78) (ci := 10) (k := 17) (idx := 52) hX mcl_10 (by decide) mq_816 rfl md_M_toLowest_78 (fun v50 => ?_)
      refine sp_callSV (pc := 81) (y := my_M_copy) (ccy := prog_14_method_40_code) (nLy := 3) (ret := none) (rmy := mr_M_copy) (n := 2) (idx := 163) (As := [.ref v49, .ref v50]) (st := []) (cells' := 0) (slots' := 0) hX (fun _ h => mc_M_copy h) mk_M_copy mq_1024 mq_1023 ⟨(Nat.le_of_ble_eq_true rfl), (Nat.le_of_ble_eq_true rfl)⟩ rfl rfl (Nat.le_of_ble_eq_true rfl) ⟨(Nat.le_of_ble_eq_true rfl), (Nat.le_of_ble_eq_true rfl)⟩ rfl rfl md_M_toLowest_81 (fun s51 => ?_)
      refine sp_aload_n (pc := 84) (k := 0) (i := 0) hX rfl 0 rfl md_M_toLowest_84 ?_
      refine sp_getR (pc := 85) (ci := 10) (k := 16) (idx := 49) hX mcl_10 (by decide) mq_815 rfl md_M_toLowest_85 (fun v52 => ?_)
      refine sp_aload_n (pc := 88) (k := 0) (i := 0) hX rfl 0 rfl md_M_toLowest_88 ?_
      refine sp_getR (pc := 89) (ci := 10) (k := 15) (idx := 46) hX mcl_10 (by decide) mq_814 rfl md_M_toLowest_89 (fun v53 => ?_)
      refine sp_callSV (pc := 92) (y := my_M_copy) (ccy := prog_14_method_40_code) (nLy := 3) (ret := none) (rmy := mr_M_copy) (n := 2) (idx := 163) (As := [.ref v52, .ref v53]) (st := []) (cells' := 0) (slots' := 0) hX (fun _ h => mc_M_copy h) mk_M_copy mq_1024 mq_1023 ⟨(Nat.le_of_ble_eq_true rfl), (Nat.le_of_ble_eq_true rfl)⟩ rfl rfl (Nat.le_of_ble_eq_true rfl) ⟨(Nat.le_of_ble_eq_true rfl), (Nat.le_of_ble_eq_true rfl)⟩ rfl rfl md_M_toLowest_92 (fun s54 => ?_)
      refine sp_aload_n (pc := 95) (k := 0) (i := 0) hX rfl 0 rfl md_M_toLowest_95 ?_
      refine sp_getR (pc := 96) (ci := 10) (k := 17) (idx := 52) hX mcl_10 (by decide) mq_816 rfl md_M_toLowest_96 (fun v55 => ?_)
      refine sp_aload_n (pc := 99) (k := 0) (i := 0) hX rfl 0 rfl md_M_toLowest_99 ?_
      refine sp_getR (pc := 100) (ci := 10) (k := 16) (idx := 49) hX mcl_10 (by decide) mq_815 rfl md_M_toLowest_100 (fun v56 => ?_)
      refine sp_callSV (pc := 103) (y := my_M_copy) (ccy := prog_14_method_40_code) (nLy := 3) (ret := none) (rmy := mr_M_copy) (n := 2) (idx := 163) (As := [.ref v55, .ref v56]) (st := []) (cells' := 0) (slots' := 0) hX (fun _ h => mc_M_copy h) mk_M_copy mq_1024 mq_1023 ⟨(Nat.le_of_ble_eq_true rfl), (Nat.le_of_ble_eq_true rfl)⟩ rfl rfl (Nat.le_of_ble_eq_true rfl) ⟨(Nat.le_of_ble_eq_true rfl), (Nat.le_of_ble_eq_true rfl)⟩ rfl rfl md_M_toLowest_103 (fun s57 => ?_)
      refine sp_goto (pc := 106) hX 47 (by decide) md_M_toLowest_106 ?_
      exact ih x0 s57
set_option maxHeartbeats 4000000 in
set_option maxRecDepth 20000 in
theorem mc_M_toLowest {l : Launch} {E : pw_E} {σ : pw_Sto} {x0 : Nat} {out : Unit × pw_Sto} (h : mf_M_toLowest x0 σ = some out) : pw_CV l E my_M_toLowest prog_14_method_42_code 4 none mr_M_toLowest [.ref x0] σ out := by
  unfold mf_M_toLowest at h
  refine pw_entryV (by decide) (Nat.le_of_ble_eq_true rfl) (pw_gd_val h) (fun X hX hR hI => ?_)
  change pw_Ok X prog_14_method_42_code "PadeWorkbenchModel" mr_M_toLowest 4 at hX
  show pw_Sp X 0 0 0 [(0, Value.ref x0)] [] σ _
  refine sp_aload_n (pc := 0) (k := 0) (i := 0) hX rfl 0 rfl md_M_toLowest_0 ?_
  refine sp_getR (pc := 1) (ci := 10) (k := 13) (idx := 40) hX mcl_10 (by decide) mq_812 rfl md_M_toLowest_1 (fun v1 => ?_)
  refine sp_callSI (pc := 4) (y := my_M_degree) (ccy := prog_14_method_39_code) (nLy := 3) (ret := (some .int)) (rmy := mr_M_degree) (n := 1) (idx := 159) (As := [.ref v1]) (st := []) (cells' := 0) (slots' := 0) hX (fun _ h => mc_M_degree h) mk_M_degree mq_1021 mq_1020 ⟨(Nat.le_of_ble_eq_true rfl), (Nat.le_of_ble_eq_true rfl)⟩ rfl rfl (Nat.le_of_ble_eq_true rfl) ⟨(Nat.le_of_ble_eq_true rfl), (Nat.le_of_ble_eq_true rfl)⟩ rfl rfl md_M_toLowest_4 (fun v3 s2 => ?_)
  refine sp_if_ge (pc := 7) hX 25 (by decide) md_M_toLowest_7 (fun _ => ?_) (fun _ => ?_)
  · refine sp_aload_n (pc := 25) (k := 0) (i := 0) hX rfl 0 rfl md_M_toLowest_25 ?_
    refine sp_getR (pc := 26) (ci := 10) (k := 13) (idx := 40) hX mcl_10 (by decide) mq_812 rfl md_M_toLowest_26 (fun v4 => ?_)
    refine sp_aload_n (pc := 29) (k := 0) (i := 0) hX rfl 0 rfl md_M_toLowest_29 ?_
    refine sp_getR (pc := 30) (ci := 10) (k := 15) (idx := 46) hX mcl_10 (by decide) mq_814 rfl md_M_toLowest_30 (fun v5 => ?_)
    refine sp_callSV (pc := 33) (y := my_M_copy) (ccy := prog_14_method_40_code) (nLy := 3) (ret := none) (rmy := mr_M_copy) (n := 2) (idx := 163) (As := [.ref v4, .ref v5]) (st := []) (cells' := 0) (slots' := 0) hX (fun _ h => mc_M_copy h) mk_M_copy mq_1024 mq_1023 ⟨(Nat.le_of_ble_eq_true rfl), (Nat.le_of_ble_eq_true rfl)⟩ rfl rfl (Nat.le_of_ble_eq_true rfl) ⟨(Nat.le_of_ble_eq_true rfl), (Nat.le_of_ble_eq_true rfl)⟩ rfl rfl md_M_toLowest_33 (fun s6 => ?_)
    refine sp_aload_n (pc := 36) (k := 0) (i := 0) hX rfl 0 rfl md_M_toLowest_36 ?_
    refine sp_getR (pc := 37) (ci := 10) (k := 14) (idx := 43) hX mcl_10 (by decide) mq_813 rfl md_M_toLowest_37 (fun v7 => ?_)
    refine sp_aload_n (pc := 40) (k := 0) (i := 0) hX rfl 0 rfl md_M_toLowest_40 ?_
    refine sp_getR (pc := 41) (ci := 10) (k := 16) (idx := 49) hX mcl_10 (by decide) mq_815 rfl md_M_toLowest_41 (fun v8 => ?_)
    refine sp_callSV (pc := 44) (y := my_M_copy) (ccy := prog_14_method_40_code) (nLy := 3) (ret := none) (rmy := mr_M_copy) (n := 2) (idx := 163) (As := [.ref v7, .ref v8]) (st := []) (cells' := 0) (slots' := 0) hX (fun _ h => mc_M_copy h) mk_M_copy mq_1024 mq_1023 ⟨(Nat.le_of_ble_eq_true rfl), (Nat.le_of_ble_eq_true rfl)⟩ rfl rfl (Nat.le_of_ble_eq_true rfl) ⟨(Nat.le_of_ble_eq_true rfl), (Nat.le_of_ble_eq_true rfl)⟩ rfl rfl md_M_toLowest_44 (fun s9 => ?_)
    exact sl_M_toLowest_47 hX hR 1000 x0 s9
  · refine sp_aload_n (pc := 10) (k := 0) (i := 0) hX rfl 0 rfl md_M_toLowest_10 ?_
    refine sp_getR (pc := 11) (ci := 10) (k := 14) (idx := 43) hX mcl_10 (by decide) mq_813 rfl md_M_toLowest_11 (fun v58 => ?_)
    refine sp_callSV (pc := 14) (y := my_M_clear) (ccy := prog_14_method_15_code) (nLy := 2) (ret := none) (rmy := mr_M_clear) (n := 1) (idx := 107) (As := [.ref v58]) (st := []) (cells' := 0) (slots' := 0) hX (fun _ h => mc_M_clear h) mk_M_clear mq_926 mq_925 ⟨(Nat.le_of_ble_eq_true rfl), (Nat.le_of_ble_eq_true rfl)⟩ rfl rfl (Nat.le_of_ble_eq_true rfl) ⟨(Nat.le_of_ble_eq_true rfl), (Nat.le_of_ble_eq_true rfl)⟩ rfl rfl md_M_toLowest_14 (fun s59 => ?_)
    refine sp_aload_n (pc := 17) (k := 0) (i := 0) hX rfl 0 rfl md_M_toLowest_17 ?_
    refine sp_getR (pc := 18) (ci := 10) (k := 14) (idx := 43) hX mcl_10 (by decide) mq_813 rfl md_M_toLowest_18 (fun v60 => ?_)
    refine sp_iconst (pc := 21) hX md_M_toLowest_21 ?_
    refine sp_iconst (pc := 22) hX md_M_toLowest_22 ?_
    refine sp_iastore (pc := 23) hX md_M_toLowest_23 (fun s61 => ?_)
    exact sp_vret (pc := 24) hX hR rfl (Nat.le_of_ble_eq_true rfl) md_M_toLowest_24
/-! PadeWorkbenchModel.valueAt([II)I -/
theorem md_M_valueAt_0 : decode prog_14_method_43_code 0 = .ok (.iconst 0, 1) := by decide +kernel
theorem md_M_valueAt_1 : decode prog_14_method_43_code 1 = .ok (.istore_n 3, 1) := by decide +kernel
theorem md_M_valueAt_2 : decode prog_14_method_43_code 2 = .ok (.bipush 17, 2) := by decide +kernel
theorem md_M_valueAt_4 : decode prog_14_method_43_code 4 = .ok (.istore 4, 2) := by decide +kernel
theorem md_M_valueAt_6 : decode prog_14_method_43_code 6 = .ok (.iload 4, 2) := by decide +kernel
theorem md_M_valueAt_8 : decode prog_14_method_43_code 8 = .ok (.ifCond .lt 22, 3) := by decide +kernel
theorem md_M_valueAt_30 : decode prog_14_method_43_code 30 = .ok (.iload_n 3, 1) := by decide +kernel
theorem md_M_valueAt_31 : decode prog_14_method_43_code 31 = .ok (.ireturn, 1) := by decide +kernel
theorem md_M_valueAt_11 : decode prog_14_method_43_code 11 = .ok (.aload_n 0, 1) := by decide +kernel
theorem md_M_valueAt_12 : decode prog_14_method_43_code 12 = .ok (.iload_n 3, 1) := by decide +kernel
theorem md_M_valueAt_13 : decode prog_14_method_43_code 13 = .ok (.iload_n 2, 1) := by decide +kernel
theorem md_M_valueAt_14 : decode prog_14_method_43_code 14 = .ok (.imul, 1) := by decide +kernel
theorem md_M_valueAt_15 : decode prog_14_method_43_code 15 = .ok (.aload_n 1, 1) := by decide +kernel
theorem md_M_valueAt_16 : decode prog_14_method_43_code 16 = .ok (.iload 4, 2) := by decide +kernel
theorem md_M_valueAt_18 : decode prog_14_method_43_code 18 = .ok (.iaload, 1) := by decide +kernel
theorem md_M_valueAt_19 : decode prog_14_method_43_code 19 = .ok (.iadd, 1) := by decide +kernel
theorem md_M_valueAt_20 : decode prog_14_method_43_code 20 = .ok (.invokevirtual 91, 3) := by decide +kernel
theorem md_M_valueAt_23 : decode prog_14_method_43_code 23 = .ok (.istore_n 3, 1) := by decide +kernel
theorem md_M_valueAt_24 : decode prog_14_method_43_code 24 = .ok (.iinc 4 (-1), 3) := by decide +kernel
theorem md_M_valueAt_27 : decode prog_14_method_43_code 27 = .ok (.goto (-21), 3) := by decide +kernel
def mb_M_valueAt_6 (rc : Nat → Nat → Int → Int → Int → pw_Sto → Option (Int × pw_Sto)) : Nat → Nat → Int → Int → Int → pw_Sto → Option (Int × pw_Sto) := fun x0 x1 x2 x3 x4 σ => pw_ck x4 0 (if x4 < 0 then some (x3, σ) else (pw_ai x1 x4 σ).bind (fun v1 => pw_bd (mf_M_mod x0 ((x3 * x2) + v1) σ) (fun v3 s2 => rc x0 x1 x2 v3 (x4 + (-1)) s2)))
def ml_M_valueAt_6 : Nat → Nat → Nat → Int → Int → Int → pw_Sto → Option (Int × pw_Sto) := pw_lp (fun _ _ _ _ _ _ => none) (mb_M_valueAt_6)
def mf_M_valueAt (x0 : Nat) (x1 : Nat) (x2 : Int) (σ : pw_Sto) : Option (Int × pw_Sto) := pw_gd 10 x0 σ (ml_M_valueAt_6 1000 x0 x1 x2 (0 : Int) (17 : Int) σ)
set_option maxHeartbeats 4000000 in
set_option maxRecDepth 20000 in
theorem sl_M_valueAt_6 {X : pw_X Int} (hX : pw_Ok X prog_14_method_43_code "PadeWorkbenchModel" mr_M_valueAt 5) (hR : pw_RI X prog_14_method_43_code) : ∀ (n : Nat) (x0 : Nat) (x1 : Nat) (x2 : Int) (x3 : Int) (x4 : Int) (σ : pw_Sto), pw_Sp X 0 0 6 [(0, Value.ref x0), (1, Value.ref x1), (2, Value.int (iI x2)), (3, Value.int (iI x3)), (4, Value.int (iI x4))] [] σ (ml_M_valueAt_6 n x0 x1 x2 x3 x4 σ) := by
  intro n
  induction n with
  | zero => intros; exact pw_none
  | succ n ih =>
    intro x0 x1 x2 x3 x4 σ
    show pw_Sp X 0 0 6 _ _ σ (mb_M_valueAt_6 (ml_M_valueAt_6 n) x0 x1 x2 x3 x4 σ)
    unfold mb_M_valueAt_6
    refine sp_iload (pc := 6) (i := 4) hX 4 rfl md_M_valueAt_6 ?_
    refine sp_if_lt (pc := 8) hX 30 (by decide) md_M_valueAt_8 (fun _ => ?_) (fun _ => ?_)
    · refine sp_iload_n (pc := 30) (k := 3) (i := 3) hX rfl 3 rfl md_M_valueAt_30 ?_
      exact sp_iret (pc := 31) hX hR rfl (Nat.le_of_ble_eq_true rfl) md_M_valueAt_31
    · refine sp_aload_n (pc := 11) (k := 0) (i := 0) hX rfl 0 rfl md_M_valueAt_11 ?_
      refine sp_iload_n (pc := 12) (k := 3) (i := 3) hX rfl 3 rfl md_M_valueAt_12 ?_
      refine sp_iload_n (pc := 13) (k := 2) (i := 2) hX rfl 2 rfl md_M_valueAt_13 ?_
      refine sp_imul (pc := 14) hX md_M_valueAt_14 ?_
      refine sp_aload_n (pc := 15) (k := 1) (i := 1) hX rfl 1 rfl md_M_valueAt_15 ?_
      refine sp_iload (pc := 16) (i := 4) hX 4 rfl md_M_valueAt_16 ?_
      refine sp_iaload (pc := 18) hX md_M_valueAt_18 (fun v1 => ?_)
      refine sp_iadd (pc := 19) hX md_M_valueAt_19 ?_
      refine sp_callVI (pc := 20) (y := my_M_mod) (ccy := prog_14_method_5_code) (nLy := 3) (ret := (some .int)) (rmy := mr_M_mod) (n := 1) (idx := 91) (As := [.int (iI ((x3 * x2) + v1))]) (st := []) (o := x0) (cells' := 0) (slots' := 0) hX (fun _ h => mc_M_mod h) mk_M_mod mv_M_mod mcl_10 (fun _ h => pw_gd_of h) mq_901 ⟨(Nat.le_of_ble_eq_true rfl), (Nat.le_of_ble_eq_true rfl)⟩ rfl rfl (Nat.le_of_ble_eq_true rfl) ⟨(Nat.le_of_ble_eq_true rfl), (Nat.le_of_ble_eq_true rfl)⟩ rfl rfl md_M_valueAt_20 (fun v3 s2 => ?_)
      refine sp_istore_n (pc := 23) (k := 3) (i := 3) (L' := [(3, Value.int (iI v3)), (0, Value.ref x0), (1, Value.ref x1), (2, Value.int (iI x2)), (4, Value.int (iI x4))]) hX rfl (by decide) rfl md_M_valueAt_23 ?_
      refine sp_iinc (pc := 24) (i := 4) (L' := [(4, Value.int (iI (x4 + (-1)))), (3, Value.int (iI v3)), (0, Value.ref x0), (1, Value.ref x1), (2, Value.int (iI x2))]) hX 4 rfl (by decide) rfl md_M_valueAt_24 ?_
      refine sp_goto (pc := 27) hX 6 (by decide) md_M_valueAt_27 ?_
      refine sp_sub [2, 3, 4, 1, 0] (L' := [(0, Value.ref x0), (1, Value.ref x1), (2, Value.int (iI x2)), (3, Value.int (iI v3)), (4, Value.int (iI (x4 + (-1))))]) rfl ?_
      exact ih x0 x1 x2 v3 (x4 + (-1)) s2
set_option maxHeartbeats 4000000 in
set_option maxRecDepth 20000 in
theorem mc_M_valueAt {l : Launch} {E : pw_E} {σ : pw_Sto} {x0 : Nat} {x1 : Nat} {x2 : Int} {out : Int × pw_Sto} (h : mf_M_valueAt x0 x1 x2 σ = some out) : pw_CI l E my_M_valueAt prog_14_method_43_code 5 (some .int) mr_M_valueAt [.ref x0, .ref x1, .int (iI x2)] σ out := by
  unfold mf_M_valueAt at h
  refine pw_entryI (by decide) (Nat.le_of_ble_eq_true rfl) (pw_gd_val h) (fun X hX hR hI => ?_)
  change pw_Ok X prog_14_method_43_code "PadeWorkbenchModel" mr_M_valueAt 5 at hX
  show pw_Sp X 0 0 0 [(0, Value.ref x0), (1, Value.ref x1), (2, Value.int (iI x2))] [] σ _
  refine sp_iconst (pc := 0) hX md_M_valueAt_0 ?_
  refine sp_istore_n (pc := 1) (k := 3) (i := 3) (L' := [(3, Value.int (iI (0 : Int))), (0, Value.ref x0), (1, Value.ref x1), (2, Value.int (iI x2))]) hX rfl (by decide) rfl md_M_valueAt_1 ?_
  refine sp_bipush (pc := 2) hX (by decide) md_M_valueAt_2 ?_
  refine sp_istore (pc := 4) (i := 4) (L' := [(4, Value.int (iI (17 : Int))), (3, Value.int (iI (0 : Int))), (0, Value.ref x0), (1, Value.ref x1), (2, Value.int (iI x2))]) hX (by decide) rfl md_M_valueAt_4 ?_
  refine sp_sub [2, 3, 4, 1, 0] (L' := [(0, Value.ref x0), (1, Value.ref x1), (2, Value.int (iI x2)), (3, Value.int (iI (0 : Int))), (4, Value.int (iI (17 : Int)))]) rfl ?_
  exact sl_M_valueAt_6 hX hR 1000 x0 x1 x2 (0 : Int) (17 : Int) σ
/-! PadeWorkbenchModel.isPair(III)Z -/
theorem md_M_isPair_0 : decode prog_14_method_44_code 0 = .ok (.iload_n 1, 1) := by decide +kernel
theorem md_M_isPair_1 : decode prog_14_method_44_code 1 = .ok (.invokestatic 84, 3) := by decide +kernel
theorem md_M_isPair_4 : decode prog_14_method_44_code 4 = .ok (.ifCond .eq 29, 3) := by decide +kernel
theorem md_M_isPair_33 : decode prog_14_method_44_code 33 = .ok (.iconst 0, 1) := by decide +kernel
theorem md_M_isPair_34 : decode prog_14_method_44_code 34 = .ok (.ireturn, 1) := by decide +kernel
theorem md_M_isPair_7 : decode prog_14_method_44_code 7 = .ok (.iload_n 2, 1) := by decide +kernel
theorem md_M_isPair_8 : decode prog_14_method_44_code 8 = .ok (.iconst 0, 1) := by decide +kernel
theorem md_M_isPair_9 : decode prog_14_method_44_code 9 = .ok (.bipush 15, 2) := by decide +kernel
theorem md_M_isPair_11 : decode prog_14_method_44_code 11 = .ok (.invokestatic 65, 3) := by decide +kernel
theorem md_M_isPair_14 : decode prog_14_method_44_code 14 = .ok (.ifCond .eq 19, 3) := by decide +kernel
theorem md_M_isPair_17 : decode prog_14_method_44_code 17 = .ok (.iload_n 3, 1) := by decide +kernel
theorem md_M_isPair_18 : decode prog_14_method_44_code 18 = .ok (.iconst 0, 1) := by decide +kernel
theorem md_M_isPair_19 : decode prog_14_method_44_code 19 = .ok (.bipush 15, 2) := by decide +kernel
theorem md_M_isPair_21 : decode prog_14_method_44_code 21 = .ok (.iload_n 2, 1) := by decide +kernel
theorem md_M_isPair_22 : decode prog_14_method_44_code 22 = .ok (.isub, 1) := by decide +kernel
theorem md_M_isPair_23 : decode prog_14_method_44_code 23 = .ok (.invokestatic 65, 3) := by decide +kernel
theorem md_M_isPair_26 : decode prog_14_method_44_code 26 = .ok (.ifCond .eq 7, 3) := by decide +kernel
theorem md_M_isPair_29 : decode prog_14_method_44_code 29 = .ok (.iconst 1, 1) := by decide +kernel
theorem md_M_isPair_30 : decode prog_14_method_44_code 30 = .ok (.goto 4, 3) := by decide +kernel
def mf_M_isPair (x0 : Nat) (x1 : Int) (x2 : Int) (x3 : Int) (σ : pw_Sto) : Option (Int × pw_Sto) := pw_gd 10 x0 σ (pw_bd (mf_M_isSlot x1 σ) (fun v2 s1 => pw_ck v2 0 (if v2 = 0 then some ((0 : Int), s1) else pw_bd (mf_M_in x2 (0 : Int) (15 : Int) s1) (fun v4 s3 => pw_ck v4 0 (if v4 = 0 then some ((0 : Int), s3) else pw_bd (mf_M_in x3 (0 : Int) ((15 : Int) - x2) s3) (fun v6 s5 => pw_ck v6 0 (if v6 = 0 then some ((0 : Int), s5) else some ((1 : Int), s5))))))))
set_option maxHeartbeats 4000000 in
set_option maxRecDepth 20000 in
theorem mc_M_isPair {l : Launch} {E : pw_E} {σ : pw_Sto} {x0 : Nat} {x1 : Int} {x2 : Int} {x3 : Int} {out : Int × pw_Sto} (h : mf_M_isPair x0 x1 x2 x3 σ = some out) : pw_CI l E my_M_isPair prog_14_method_44_code 4 (some .boolean) mr_M_isPair [.ref x0, .int (iI x1), .int (iI x2), .int (iI x3)] σ out := by
  unfold mf_M_isPair at h
  refine pw_entryZ (by decide) (Nat.le_of_ble_eq_true rfl) (pw_gd_val h) (fun X hX hR hI => ?_)
  change pw_Ok X prog_14_method_44_code "PadeWorkbenchModel" mr_M_isPair 4 at hX
  show pw_Sp X 0 0 0 [(0, Value.ref x0), (1, Value.int (iI x1)), (2, Value.int (iI x2)), (3, Value.int (iI x3))] [] σ _
  refine sp_iload_n (pc := 0) (k := 1) (i := 1) hX rfl 1 rfl md_M_isPair_0 ?_
  refine sp_callSI (pc := 1) (y := my_M_isSlot) (ccy := prog_14_method_8_code) (nLy := 1) (ret := (some .boolean)) (rmy := mr_M_isSlot) (n := 1) (idx := 84) (As := [.int (iI x1)]) (st := []) (cells' := 0) (slots' := 0) hX (fun _ h => mc_M_isSlot h) mk_M_isSlot mq_887 mq_886 ⟨(Nat.le_of_ble_eq_true rfl), (Nat.le_of_ble_eq_true rfl)⟩ rfl rfl (Nat.le_of_ble_eq_true rfl) ⟨(Nat.le_of_ble_eq_true rfl), (Nat.le_of_ble_eq_true rfl)⟩ rfl rfl md_M_isPair_1 (fun v2 s1 => ?_)
  refine sp_if_eq (pc := 4) hX 33 (by decide) md_M_isPair_4 (fun _ => ?_) (fun _ => ?_)
  · refine sp_iconst (pc := 33) hX md_M_isPair_33 ?_
    exact sp_zret (pc := 34) hX hR (by decide) rfl (Nat.le_of_ble_eq_true rfl) md_M_isPair_34
  · refine sp_iload_n (pc := 7) (k := 2) (i := 2) hX rfl 2 rfl md_M_isPair_7 ?_
    refine sp_iconst (pc := 8) hX md_M_isPair_8 ?_
    refine sp_bipush (pc := 9) hX (by decide) md_M_isPair_9 ?_
    refine sp_callSI (pc := 11) (y := my_M_in) (ccy := prog_14_method_2_code) (nLy := 3) (ret := (some .boolean)) (rmy := mr_M_in) (n := 3) (idx := 65) (As := [.int (iI x2), .int (iI (0 : Int)), .int (iI (15 : Int))]) (st := []) (cells' := 0) (slots' := 0) hX (fun _ h => mc_M_in h) mk_M_in mq_868 mq_867 ⟨(Nat.le_of_ble_eq_true rfl), (Nat.le_of_ble_eq_true rfl)⟩ rfl rfl (Nat.le_of_ble_eq_true rfl) ⟨(Nat.le_of_ble_eq_true rfl), (Nat.le_of_ble_eq_true rfl)⟩ rfl rfl md_M_isPair_11 (fun v4 s3 => ?_)
    refine sp_if_eq (pc := 14) hX 33 (by decide) md_M_isPair_14 (fun _ => ?_) (fun _ => ?_)
    · refine sp_iconst (pc := 33) hX md_M_isPair_33 ?_
      exact sp_zret (pc := 34) hX hR (by decide) rfl (Nat.le_of_ble_eq_true rfl) md_M_isPair_34
    · refine sp_iload_n (pc := 17) (k := 3) (i := 3) hX rfl 3 rfl md_M_isPair_17 ?_
      refine sp_iconst (pc := 18) hX md_M_isPair_18 ?_
      refine sp_bipush (pc := 19) hX (by decide) md_M_isPair_19 ?_
      refine sp_iload_n (pc := 21) (k := 2) (i := 2) hX rfl 2 rfl md_M_isPair_21 ?_
      refine sp_isub (pc := 22) hX md_M_isPair_22 ?_
      refine sp_callSI (pc := 23) (y := my_M_in) (ccy := prog_14_method_2_code) (nLy := 3) (ret := (some .boolean)) (rmy := mr_M_in) (n := 3) (idx := 65) (As := [.int (iI x3), .int (iI (0 : Int)), .int (iI ((15 : Int) - x2))]) (st := []) (cells' := 0) (slots' := 0) hX (fun _ h => mc_M_in h) mk_M_in mq_868 mq_867 ⟨(Nat.le_of_ble_eq_true rfl), (Nat.le_of_ble_eq_true rfl)⟩ rfl rfl (Nat.le_of_ble_eq_true rfl) ⟨(Nat.le_of_ble_eq_true rfl), (Nat.le_of_ble_eq_true rfl)⟩ rfl rfl md_M_isPair_23 (fun v6 s5 => ?_)
      refine sp_if_eq (pc := 26) hX 33 (by decide) md_M_isPair_26 (fun _ => ?_) (fun _ => ?_)
      · refine sp_iconst (pc := 33) hX md_M_isPair_33 ?_
        exact sp_zret (pc := 34) hX hR (by decide) rfl (Nat.le_of_ble_eq_true rfl) md_M_isPair_34
      · refine sp_iconst (pc := 29) hX md_M_isPair_29 ?_
        refine sp_goto (pc := 30) hX 34 (by decide) md_M_isPair_30 ?_
        exact sp_zret (pc := 34) hX hR (by decide) rfl (Nat.le_of_ble_eq_true rfl) md_M_isPair_34
/-! PadeWorkbenchModel.approximate(III)V -/
theorem md_M_approximate_0 : decode prog_14_method_45_code 0 = .ok (.aload_n 0, 1) := by decide +kernel
theorem md_M_approximate_1 : decode prog_14_method_45_code 1 = .ok (.getfield 31, 3) := by decide +kernel
theorem md_M_approximate_4 : decode prog_14_method_45_code 4 = .ok (.invokestatic 107, 3) := by decide +kernel
theorem md_M_approximate_7 : decode prog_14_method_45_code 7 = .ok (.iconst 0, 1) := by decide +kernel
theorem md_M_approximate_8 : decode prog_14_method_45_code 8 = .ok (.istore 4, 2) := by decide +kernel
theorem md_M_approximate_10 : decode prog_14_method_45_code 10 = .ok (.iload 4, 2) := by decide +kernel
theorem md_M_approximate_12 : decode prog_14_method_45_code 12 = .ok (.iload_n 3, 1) := by decide +kernel
theorem md_M_approximate_13 : decode prog_14_method_45_code 13 = .ok (.if_icmp .ge 64, 3) := by decide +kernel
theorem md_M_approximate_77 : decode prog_14_method_45_code 77 = .ok (.aload_n 0, 1) := by decide +kernel
theorem md_M_approximate_78 : decode prog_14_method_45_code 78 = .ok (.iload_n 3, 1) := by decide +kernel
theorem md_M_approximate_79 : decode prog_14_method_45_code 79 = .ok (.iload_n 3, 1) := by decide +kernel
theorem md_M_approximate_80 : decode prog_14_method_45_code 80 = .ok (.iconst 1, 1) := by decide +kernel
theorem md_M_approximate_81 : decode prog_14_method_45_code 81 = .ok (.iadd, 1) := by decide +kernel
theorem md_M_approximate_82 : decode prog_14_method_45_code 82 = .ok (.invokevirtual 171, 3) := by decide +kernel
theorem md_M_approximate_85 : decode prog_14_method_45_code 85 = .ok (.aload_n 0, 1) := by decide +kernel
theorem md_M_approximate_86 : decode prog_14_method_45_code 86 = .ok (.getfield 40, 3) := by decide +kernel
theorem md_M_approximate_89 : decode prog_14_method_45_code 89 = .ok (.invokestatic 107, 3) := by decide +kernel
theorem md_M_approximate_92 : decode prog_14_method_45_code 92 = .ok (.aload_n 0, 1) := by decide +kernel
theorem md_M_approximate_93 : decode prog_14_method_45_code 93 = .ok (.getfield 43, 3) := by decide +kernel
theorem md_M_approximate_96 : decode prog_14_method_45_code 96 = .ok (.invokestatic 107, 3) := by decide +kernel
theorem md_M_approximate_99 : decode prog_14_method_45_code 99 = .ok (.iconst 0, 1) := by decide +kernel
theorem md_M_approximate_100 : decode prog_14_method_45_code 100 = .ok (.istore 4, 2) := by decide +kernel
theorem md_M_approximate_102 : decode prog_14_method_45_code 102 = .ok (.iload 4, 2) := by decide +kernel
theorem md_M_approximate_104 : decode prog_14_method_45_code 104 = .ok (.iload_n 3, 1) := by decide +kernel
theorem md_M_approximate_105 : decode prog_14_method_45_code 105 = .ok (.if_icmp .gt 23, 3) := by decide +kernel
theorem md_M_approximate_128 : decode prog_14_method_45_code 128 = .ok (.iconst 0, 1) := by decide +kernel
theorem md_M_approximate_129 : decode prog_14_method_45_code 129 = .ok (.istore 4, 2) := by decide +kernel
theorem md_M_approximate_131 : decode prog_14_method_45_code 131 = .ok (.iload 4, 2) := by decide +kernel
theorem md_M_approximate_133 : decode prog_14_method_45_code 133 = .ok (.iload_n 2, 1) := by decide +kernel
theorem md_M_approximate_134 : decode prog_14_method_45_code 134 = .ok (.if_icmp .gt 62, 3) := by decide +kernel
theorem md_M_approximate_196 : decode prog_14_method_45_code 196 = .ok (.aload_n 0, 1) := by decide +kernel
theorem md_M_approximate_197 : decode prog_14_method_45_code 197 = .ok (.invokevirtual 174, 3) := by decide +kernel
theorem md_M_approximate_200 : decode prog_14_method_45_code 200 = .ok (.return_, 1) := by decide +kernel
theorem md_M_approximate_137 : decode prog_14_method_45_code 137 = .ok (.iconst 0, 1) := by decide +kernel
theorem md_M_approximate_138 : decode prog_14_method_45_code 138 = .ok (.istore 5, 2) := by decide +kernel
theorem md_M_approximate_140 : decode prog_14_method_45_code 140 = .ok (.iload 5, 2) := by decide +kernel
theorem md_M_approximate_142 : decode prog_14_method_45_code 142 = .ok (.iload 4, 2) := by decide +kernel
theorem md_M_approximate_144 : decode prog_14_method_45_code 144 = .ok (.if_icmp .gt 46, 3) := by decide +kernel
theorem md_M_approximate_190 : decode prog_14_method_45_code 190 = .ok (.iinc 4 1, 3) := by decide +kernel
theorem md_M_approximate_193 : decode prog_14_method_45_code 193 = .ok (.goto (-62), 3) := by decide +kernel
theorem md_M_approximate_147 : decode prog_14_method_45_code 147 = .ok (.aload_n 0, 1) := by decide +kernel
theorem md_M_approximate_148 : decode prog_14_method_45_code 148 = .ok (.getfield 40, 3) := by decide +kernel
theorem md_M_approximate_151 : decode prog_14_method_45_code 151 = .ok (.iload 4, 2) := by decide +kernel
theorem md_M_approximate_153 : decode prog_14_method_45_code 153 = .ok (.aload_n 0, 1) := by decide +kernel
theorem md_M_approximate_154 : decode prog_14_method_45_code 154 = .ok (.aload_n 0, 1) := by decide +kernel
theorem md_M_approximate_155 : decode prog_14_method_45_code 155 = .ok (.getfield 40, 3) := by decide +kernel
theorem md_M_approximate_158 : decode prog_14_method_45_code 158 = .ok (.iload 4, 2) := by decide +kernel
theorem md_M_approximate_160 : decode prog_14_method_45_code 160 = .ok (.iaload, 1) := by decide +kernel
theorem md_M_approximate_161 : decode prog_14_method_45_code 161 = .ok (.aload_n 0, 1) := by decide +kernel
theorem md_M_approximate_162 : decode prog_14_method_45_code 162 = .ok (.getfield 43, 3) := by decide +kernel
theorem md_M_approximate_165 : decode prog_14_method_45_code 165 = .ok (.iload 5, 2) := by decide +kernel
theorem md_M_approximate_167 : decode prog_14_method_45_code 167 = .ok (.iaload, 1) := by decide +kernel
theorem md_M_approximate_168 : decode prog_14_method_45_code 168 = .ok (.aload_n 0, 1) := by decide +kernel
theorem md_M_approximate_169 : decode prog_14_method_45_code 169 = .ok (.iload_n 1, 1) := by decide +kernel
theorem md_M_approximate_170 : decode prog_14_method_45_code 170 = .ok (.iload 4, 2) := by decide +kernel
theorem md_M_approximate_172 : decode prog_14_method_45_code 172 = .ok (.iload 5, 2) := by decide +kernel
theorem md_M_approximate_174 : decode prog_14_method_45_code 174 = .ok (.isub, 1) := by decide +kernel
theorem md_M_approximate_175 : decode prog_14_method_45_code 175 = .ok (.invokevirtual 87, 3) := by decide +kernel
theorem md_M_approximate_178 : decode prog_14_method_45_code 178 = .ok (.imul, 1) := by decide +kernel
theorem md_M_approximate_179 : decode prog_14_method_45_code 179 = .ok (.iadd, 1) := by decide +kernel
theorem md_M_approximate_180 : decode prog_14_method_45_code 180 = .ok (.invokevirtual 91, 3) := by decide +kernel
theorem md_M_approximate_183 : decode prog_14_method_45_code 183 = .ok (.iastore, 1) := by decide +kernel
theorem md_M_approximate_184 : decode prog_14_method_45_code 184 = .ok (.iinc 5 1, 3) := by decide +kernel
theorem md_M_approximate_187 : decode prog_14_method_45_code 187 = .ok (.goto (-47), 3) := by decide +kernel
theorem md_M_approximate_108 : decode prog_14_method_45_code 108 = .ok (.aload_n 0, 1) := by decide +kernel
theorem md_M_approximate_109 : decode prog_14_method_45_code 109 = .ok (.getfield 43, 3) := by decide +kernel
theorem md_M_approximate_112 : decode prog_14_method_45_code 112 = .ok (.iload 4, 2) := by decide +kernel
theorem md_M_approximate_114 : decode prog_14_method_45_code 114 = .ok (.aload_n 0, 1) := by decide +kernel
theorem md_M_approximate_115 : decode prog_14_method_45_code 115 = .ok (.getfield 37, 3) := by decide +kernel
theorem md_M_approximate_118 : decode prog_14_method_45_code 118 = .ok (.iload 4, 2) := by decide +kernel
theorem md_M_approximate_120 : decode prog_14_method_45_code 120 = .ok (.iaload, 1) := by decide +kernel
theorem md_M_approximate_121 : decode prog_14_method_45_code 121 = .ok (.iastore, 1) := by decide +kernel
theorem md_M_approximate_122 : decode prog_14_method_45_code 122 = .ok (.iinc 4 1, 3) := by decide +kernel
theorem md_M_approximate_125 : decode prog_14_method_45_code 125 = .ok (.goto (-23), 3) := by decide +kernel
theorem md_M_approximate_16 : decode prog_14_method_45_code 16 = .ok (.iconst 0, 1) := by decide +kernel
theorem md_M_approximate_17 : decode prog_14_method_45_code 17 = .ok (.istore 5, 2) := by decide +kernel
theorem md_M_approximate_19 : decode prog_14_method_45_code 19 = .ok (.iload 5, 2) := by decide +kernel
theorem md_M_approximate_21 : decode prog_14_method_45_code 21 = .ok (.iload_n 3, 1) := by decide +kernel
theorem md_M_approximate_22 : decode prog_14_method_45_code 22 = .ok (.if_icmp .gt 49, 3) := by decide +kernel
theorem md_M_approximate_71 : decode prog_14_method_45_code 71 = .ok (.iinc 4 1, 3) := by decide +kernel
theorem md_M_approximate_74 : decode prog_14_method_45_code 74 = .ok (.goto (-64), 3) := by decide +kernel
theorem md_M_approximate_25 : decode prog_14_method_45_code 25 = .ok (.iload_n 2, 1) := by decide +kernel
theorem md_M_approximate_26 : decode prog_14_method_45_code 26 = .ok (.iconst 1, 1) := by decide +kernel
theorem md_M_approximate_27 : decode prog_14_method_45_code 27 = .ok (.iadd, 1) := by decide +kernel
theorem md_M_approximate_28 : decode prog_14_method_45_code 28 = .ok (.iload 4, 2) := by decide +kernel
theorem md_M_approximate_30 : decode prog_14_method_45_code 30 = .ok (.iadd, 1) := by decide +kernel
theorem md_M_approximate_31 : decode prog_14_method_45_code 31 = .ok (.iload 5, 2) := by decide +kernel
theorem md_M_approximate_33 : decode prog_14_method_45_code 33 = .ok (.isub, 1) := by decide +kernel
theorem md_M_approximate_34 : decode prog_14_method_45_code 34 = .ok (.istore 6, 2) := by decide +kernel
theorem md_M_approximate_36 : decode prog_14_method_45_code 36 = .ok (.aload_n 0, 1) := by decide +kernel
theorem md_M_approximate_37 : decode prog_14_method_45_code 37 = .ok (.getfield 31, 3) := by decide +kernel
theorem md_M_approximate_40 : decode prog_14_method_45_code 40 = .ok (.bipush 18, 2) := by decide +kernel
theorem md_M_approximate_42 : decode prog_14_method_45_code 42 = .ok (.iload 4, 2) := by decide +kernel
theorem md_M_approximate_44 : decode prog_14_method_45_code 44 = .ok (.imul, 1) := by decide +kernel
theorem md_M_approximate_45 : decode prog_14_method_45_code 45 = .ok (.iload 5, 2) := by decide +kernel
theorem md_M_approximate_47 : decode prog_14_method_45_code 47 = .ok (.iadd, 1) := by decide +kernel
theorem md_M_approximate_48 : decode prog_14_method_45_code 48 = .ok (.iload 6, 2) := by decide +kernel
theorem md_M_approximate_50 : decode prog_14_method_45_code 50 = .ok (.ifCond .ge 7, 3) := by decide +kernel
theorem md_M_approximate_57 : decode prog_14_method_45_code 57 = .ok (.aload_n 0, 1) := by decide +kernel
theorem md_M_approximate_58 : decode prog_14_method_45_code 58 = .ok (.iload_n 1, 1) := by decide +kernel
theorem md_M_approximate_59 : decode prog_14_method_45_code 59 = .ok (.iload 6, 2) := by decide +kernel
theorem md_M_approximate_61 : decode prog_14_method_45_code 61 = .ok (.invokevirtual 87, 3) := by decide +kernel
theorem md_M_approximate_64 : decode prog_14_method_45_code 64 = .ok (.iastore, 1) := by decide +kernel
theorem md_M_approximate_65 : decode prog_14_method_45_code 65 = .ok (.iinc 5 1, 3) := by decide +kernel
theorem md_M_approximate_68 : decode prog_14_method_45_code 68 = .ok (.goto (-49), 3) := by decide +kernel
theorem md_M_approximate_53 : decode prog_14_method_45_code 53 = .ok (.iconst 0, 1) := by decide +kernel
theorem md_M_approximate_54 : decode prog_14_method_45_code 54 = .ok (.goto 10, 3) := by decide +kernel
def mb_M_approximate_140 (r131 : Nat → Int → Int → Int → pw_Sto → Option (Unit × pw_Sto)) (rc : Nat → Int → Int → Int → Int → pw_Sto → Option (Unit × pw_Sto)) : Nat → Int → Int → Int → Int → pw_Sto → Option (Unit × pw_Sto) := fun x0 x1 x2 x4 x5 σ => pw_ck x5 x4 (if x4 < x5 then r131 x0 x1 x2 (x4 + 1) σ else (pw_gr 10 x0 13 σ).bind (fun v9 => (pw_gr 10 x0 13 σ).bind (fun v10 => (pw_ai v10 x4 σ).bind (fun v11 => (pw_gr 10 x0 14 σ).bind (fun v12 => (pw_ai v12 x5 σ).bind (fun v13 => pw_bd (mf_M_term x0 x1 (x4 - x5) σ) (fun v15 s14 => pw_bd (mf_M_mod x0 (v11 + (v13 * v15)) s14) (fun v17 s16 => (pw_si v9 x4 v17 s16).bind (fun s18 => rc x0 x1 x2 x4 (x5 + 1) s18)))))))))
def ml_M_approximate_140 (r131 : Nat → Int → Int → Int → pw_Sto → Option (Unit × pw_Sto)) : Nat → Nat → Int → Int → Int → Int → pw_Sto → Option (Unit × pw_Sto) := pw_lp (fun _ _ _ _ _ _ => none) (mb_M_approximate_140 r131)
def mb_M_approximate_131 (rc : Nat → Int → Int → Int → pw_Sto → Option (Unit × pw_Sto)) : Nat → Int → Int → Int → pw_Sto → Option (Unit × pw_Sto) := fun x0 x1 x2 x4 σ => pw_ck x4 x2 (if x2 < x4 then pw_bd (mf_M_toLowest x0 σ) (fun _ s8 => some ((), s8)) else ml_M_approximate_140 rc 1000 x0 x1 x2 x4 (0 : Int) σ)
def ml_M_approximate_131 : Nat → Nat → Int → Int → Int → pw_Sto → Option (Unit × pw_Sto) := pw_lp (fun _ _ _ _ _ => none) (mb_M_approximate_131)
def mb_M_approximate_102 (rc : Nat → Int → Int → Int → Int → pw_Sto → Option (Unit × pw_Sto)) : Nat → Int → Int → Int → Int → pw_Sto → Option (Unit × pw_Sto) := fun x0 x1 x2 x3 x4 σ => pw_ck x4 x3 (if x3 < x4 then ml_M_approximate_131 1000 x0 x1 x2 (0 : Int) σ else (pw_gr 10 x0 14 σ).bind (fun v19 => (pw_gr 10 x0 12 σ).bind (fun v20 => (pw_ai v20 x4 σ).bind (fun v21 => (pw_si v19 x4 v21 σ).bind (fun s22 => rc x0 x1 x2 x3 (x4 + 1) s22)))))
def ml_M_approximate_102 : Nat → Nat → Int → Int → Int → Int → pw_Sto → Option (Unit × pw_Sto) := pw_lp (fun _ _ _ _ _ _ => none) (mb_M_approximate_102)
def mb_M_approximate_19 (r10 : Nat → Int → Int → Int → Int → pw_Sto → Option (Unit × pw_Sto)) (rc : Nat → Int → Int → Int → Int → Int → pw_Sto → Option (Unit × pw_Sto)) : Nat → Int → Int → Int → Int → Int → pw_Sto → Option (Unit × pw_Sto) := fun x0 x1 x2 x3 x4 x5 σ => pw_ck x5 x3 (if x3 < x5 then r10 x0 x1 x2 x3 (x4 + 1) σ else (pw_gr 10 x0 10 σ).bind (fun v23 => pw_ck (((x2 + (1 : Int)) + x4) - x5) 0 (if 0 ≤ (((x2 + (1 : Int)) + x4) - x5) then pw_bd (mf_M_term x0 x1 (((x2 + (1 : Int)) + x4) - x5) σ) (fun v25 s24 => (pw_si v23 (((18 : Int) * x4) + x5) v25 s24).bind (fun s26 => rc x0 x1 x2 x3 x4 (x5 + 1) s26)) else (pw_si v23 (((18 : Int) * x4) + x5) (0 : Int) σ).bind (fun s27 => rc x0 x1 x2 x3 x4 (x5 + 1) s27))))
def ml_M_approximate_19 (r10 : Nat → Int → Int → Int → Int → pw_Sto → Option (Unit × pw_Sto)) : Nat → Nat → Int → Int → Int → Int → Int → pw_Sto → Option (Unit × pw_Sto) := pw_lp (fun _ _ _ _ _ _ _ => none) (mb_M_approximate_19 r10)
def mb_M_approximate_10 (rc : Nat → Int → Int → Int → Int → pw_Sto → Option (Unit × pw_Sto)) : Nat → Int → Int → Int → Int → pw_Sto → Option (Unit × pw_Sto) := fun x0 x1 x2 x3 x4 σ => pw_ck x4 x3 (if x3 ≤ x4 then pw_bd (mf_M_findVector x0 x3 (x3 + (1 : Int)) σ) (fun _ s3 => (pw_gr 10 x0 13 s3).bind (fun v4 => pw_bd (mf_M_clear v4 s3) (fun _ s5 => (pw_gr 10 x0 14 s5).bind (fun v6 => pw_bd (mf_M_clear v6 s5) (fun _ s7 => ml_M_approximate_102 1000 x0 x1 x2 x3 (0 : Int) s7))))) else ml_M_approximate_19 rc 1000 x0 x1 x2 x3 x4 (0 : Int) σ)
def ml_M_approximate_10 : Nat → Nat → Int → Int → Int → Int → pw_Sto → Option (Unit × pw_Sto) := pw_lp (fun _ _ _ _ _ _ => none) (mb_M_approximate_10)
def mf_M_approximate (x0 : Nat) (x1 : Int) (x2 : Int) (x3 : Int) (σ : pw_Sto) : Option (Unit × pw_Sto) := pw_gd 10 x0 σ ((pw_gr 10 x0 10 σ).bind (fun v1 => pw_bd (mf_M_clear v1 σ) (fun _ s2 => ml_M_approximate_10 1000 x0 x1 x2 x3 (0 : Int) s2)))
set_option maxHeartbeats 4000000 in
set_option maxRecDepth 20000 in
theorem sl_M_approximate_140 {X : pw_X Unit} (hX : pw_Ok X prog_14_method_45_code "PadeWorkbenchModel" mr_M_approximate 7) (hR : pw_RV X prog_14_method_45_code) {r131 : Nat → Int → Int → Int → pw_Sto → Option (Unit × pw_Sto)} (h131 : ∀ (z0 : Nat) (z1 : Int) (z2 : Int) (z3 : Int) (σ : pw_Sto), pw_Sp X 0 0 131 [(0, Value.ref z0), (1, Value.int (iI z1)), (2, Value.int (iI z2)), (4, Value.int (iI z3))] [] σ (r131 z0 z1 z2 z3 σ)) : ∀ (n : Nat) (x0 : Nat) (x1 : Int) (x2 : Int) (x4 : Int) (x5 : Int) (σ : pw_Sto), pw_Sp X 0 0 140 [(0, Value.ref x0), (1, Value.int (iI x1)), (2, Value.int (iI x2)), (4, Value.int (iI x4)), (5, Value.int (iI x5))] [] σ (ml_M_approximate_140 r131 n x0 x1 x2 x4 x5 σ) := by
  intro n
  induction n with
  | zero => intros; exact pw_none
  | succ n ih =>
    intro x0 x1 x2 x4 x5 σ
    show pw_Sp X 0 0 140 _ _ σ (mb_M_approximate_140 r131 (ml_M_approximate_140 r131 n) x0 x1 x2 x4 x5 σ)
    unfold mb_M_approximate_140
    refine sp_iload (pc := 140) (i := 5) hX 4 rfl md_M_approximate_140 ?_
    refine sp_iload (pc := 142) (i := 4) hX 3 rfl md_M_approximate_142 ?_
    refine sp_icmp_gt (pc := 144) hX 190 (by decide) md_M_approximate_144 (fun _ => ?_) (fun _ => ?_)
    · refine sp_iinc (pc := 190) (i := 4) (L' := [(4, Value.int (iI (x4 + 1))), (0, Value.ref x0), (1, Value.int (iI x1)), (2, Value.int (iI x2)), (5, Value.int (iI x5))]) hX 3 rfl (by decide) rfl md_M_approximate_190 ?_
      refine sp_goto (pc := 193) hX 131 (by decide) md_M_approximate_193 ?_
      refine sp_sub [1, 2, 3, 0] (L' := [(0, Value.ref x0), (1, Value.int (iI x1)), (2, Value.int (iI x2)), (4, Value.int (iI (x4 + 1)))]) rfl ?_
      exact h131 x0 x1 x2 (x4 + 1) σ
    · refine sp_aload_n (pc := 147) (k := 0) (i := 0) hX rfl 0 rfl md_M_approximate_147 ?_
      refine sp_getR (pc := 148) (ci := 10) (k := 13) (idx := 40) hX mcl_10 (by decide) mq_812 rfl md_M_approximate_148 (fun v9 => ?_)
      refine sp_iload (pc := 151) (i := 4) hX 3 rfl md_M_approximate_151 ?_
      refine sp_aload_n (pc := 153) (k := 0) (i := 0) hX rfl 0 rfl md_M_approximate_153 ?_
      refine sp_aload_n (pc := 154) (k := 0) (i := 0) hX rfl 0 rfl md_M_approximate_154 ?_
      refine sp_getR (pc := 155) (ci := 10) (k := 13) (idx := 40) hX mcl_10 (by decide) mq_812 rfl md_M_approximate_155 (fun v10 => ?_)
      refine sp_iload (pc := 158) (i := 4) hX 3 rfl md_M_approximate_158 ?_
      refine sp_iaload (pc := 160) hX md_M_approximate_160 (fun v11 => ?_)
      refine sp_aload_n (pc := 161) (k := 0) (i := 0) hX rfl 0 rfl md_M_approximate_161 ?_
      refine sp_getR (pc := 162) (ci := 10) (k := 14) (idx := 43) hX mcl_10 (by decide) mq_813 rfl md_M_approximate_162 (fun v12 => ?_)
      refine sp_iload (pc := 165) (i := 5) hX 4 rfl md_M_approximate_165 ?_
      refine sp_iaload (pc := 167) hX md_M_approximate_167 (fun v13 => ?_)
      refine sp_aload_n (pc := 168) (k := 0) (i := 0) hX rfl 0 rfl md_M_approximate_168 ?_
      refine sp_iload_n (pc := 169) (k := 1) (i := 1) hX rfl 1 rfl md_M_approximate_169 ?_
      refine sp_iload (pc := 170) (i := 4) hX 3 rfl md_M_approximate_170 ?_
      refine sp_iload (pc := 172) (i := 5) hX 4 rfl md_M_approximate_172 ?_
      refine sp_isub (pc := 174) hX md_M_approximate_174 ?_
      refine sp_callVI (pc := 175) (y := my_M_term) (ccy := prog_14_method_9_code) (nLy := 3) (ret := (some .int)) (rmy := mr_M_term) (n := 2) (idx := 87) (As := [.int (iI x1), .int (iI (x4 - x5))]) (st := [.int (iI v13), .int (iI v11), .ref x0, .int (iI x4), .ref v9]) (o := x0) (cells' := 0) (slots' := 0) hX (fun _ h => mc_M_term h) mk_M_term mv_M_term mcl_10 (fun _ h => pw_gd_of h) mq_889 ⟨(Nat.le_of_ble_eq_true rfl), (Nat.le_of_ble_eq_true rfl)⟩ rfl rfl (Nat.le_of_ble_eq_true rfl) ⟨(Nat.le_of_ble_eq_true rfl), (Nat.le_of_ble_eq_true rfl)⟩ rfl rfl md_M_approximate_175 (fun v15 s14 => ?_)
      refine sp_imul (pc := 178) hX md_M_approximate_178 ?_
      refine sp_iadd (pc := 179) hX md_M_approximate_179 ?_
      refine sp_callVI (pc := 180) (y := my_M_mod) (ccy := prog_14_method_5_code) (nLy := 3) (ret := (some .int)) (rmy := mr_M_mod) (n := 1) (idx := 91) (As := [.int (iI (v11 + (v13 * v15)))]) (st := [.int (iI x4), .ref v9]) (o := x0) (cells' := 0) (slots' := 0) hX (fun _ h => mc_M_mod h) mk_M_mod mv_M_mod mcl_10 (fun _ h => pw_gd_of h) mq_901 ⟨(Nat.le_of_ble_eq_true rfl), (Nat.le_of_ble_eq_true rfl)⟩ rfl rfl (Nat.le_of_ble_eq_true rfl) ⟨(Nat.le_of_ble_eq_true rfl), (Nat.le_of_ble_eq_true rfl)⟩ rfl rfl md_M_approximate_180 (fun v17 s16 => ?_)
      refine sp_iastore (pc := 183) hX md_M_approximate_183 (fun s18 => ?_)
      refine sp_iinc (pc := 184) (i := 5) (L' := [(5, Value.int (iI (x5 + 1))), (0, Value.ref x0), (1, Value.int (iI x1)), (2, Value.int (iI x2)), (4, Value.int (iI x4))]) hX 4 rfl (by decide) rfl md_M_approximate_184 ?_
      refine sp_goto (pc := 187) hX 140 (by decide) md_M_approximate_187 ?_
      refine sp_sub [1, 2, 3, 4, 0] (L' := [(0, Value.ref x0), (1, Value.int (iI x1)), (2, Value.int (iI x2)), (4, Value.int (iI x4)), (5, Value.int (iI (x5 + 1)))]) rfl ?_
      exact ih x0 x1 x2 x4 (x5 + 1) s18
set_option maxHeartbeats 4000000 in
set_option maxRecDepth 20000 in
theorem sl_M_approximate_131 {X : pw_X Unit} (hX : pw_Ok X prog_14_method_45_code "PadeWorkbenchModel" mr_M_approximate 7) (hR : pw_RV X prog_14_method_45_code) : ∀ (n : Nat) (x0 : Nat) (x1 : Int) (x2 : Int) (x4 : Int) (σ : pw_Sto), pw_Sp X 0 0 131 [(0, Value.ref x0), (1, Value.int (iI x1)), (2, Value.int (iI x2)), (4, Value.int (iI x4))] [] σ (ml_M_approximate_131 n x0 x1 x2 x4 σ) := by
  intro n
  induction n with
  | zero => intros; exact pw_none
  | succ n ih =>
    intro x0 x1 x2 x4 σ
    show pw_Sp X 0 0 131 _ _ σ (mb_M_approximate_131 (ml_M_approximate_131 n) x0 x1 x2 x4 σ)
    unfold mb_M_approximate_131
    refine sp_iload (pc := 131) (i := 4) hX 3 rfl md_M_approximate_131 ?_
    refine sp_iload_n (pc := 133) (k := 2) (i := 2) hX rfl 2 rfl md_M_approximate_133 ?_
    refine sp_icmp_gt (pc := 134) hX 196 (by decide) md_M_approximate_134 (fun _ => ?_) (fun _ => ?_)
    · refine sp_aload_n (pc := 196) (k := 0) (i := 0) hX rfl 0 rfl md_M_approximate_196 ?_
      refine sp_callVV (pc := 197) (y := my_M_toLowest) (ccy := prog_14_method_42_code) (nLy := 4) (ret := none) (rmy := mr_M_toLowest) (n := 0) (idx := 174) (As := []) (st := []) (o := x0) (cells' := 0) (slots' := 0) hX (fun _ h => mc_M_toLowest h) mk_M_toLowest mv_M_toLowest mcl_10 (fun _ h => pw_gd_of h) mq_1016 ⟨(Nat.le_of_ble_eq_true rfl), (Nat.le_of_ble_eq_true rfl)⟩ rfl rfl (Nat.le_of_ble_eq_true rfl) ⟨(Nat.le_of_ble_eq_true rfl), (Nat.le_of_ble_eq_true rfl)⟩ rfl rfl md_M_approximate_197 (fun s8 => ?_)
      exact sp_vret (pc := 200) hX hR rfl (Nat.le_of_ble_eq_true rfl) md_M_approximate_200
    · refine sp_iconst (pc := 137) hX md_M_approximate_137 ?_
      refine sp_istore (pc := 138) (i := 5) (L' := [(5, Value.int (iI (0 : Int))), (0, Value.ref x0), (1, Value.int (iI x1)), (2, Value.int (iI x2)), (4, Value.int (iI x4))]) hX (by decide) rfl md_M_approximate_138 ?_
      refine sp_sub [1, 2, 3, 4, 0] (L' := [(0, Value.ref x0), (1, Value.int (iI x1)), (2, Value.int (iI x2)), (4, Value.int (iI x4)), (5, Value.int (iI (0 : Int)))]) rfl ?_
      exact sl_M_approximate_140 hX hR ih 1000 x0 x1 x2 x4 (0 : Int) σ
set_option maxHeartbeats 4000000 in
set_option maxRecDepth 20000 in
theorem sl_M_approximate_102 {X : pw_X Unit} (hX : pw_Ok X prog_14_method_45_code "PadeWorkbenchModel" mr_M_approximate 7) (hR : pw_RV X prog_14_method_45_code) : ∀ (n : Nat) (x0 : Nat) (x1 : Int) (x2 : Int) (x3 : Int) (x4 : Int) (σ : pw_Sto), pw_Sp X 0 0 102 [(0, Value.ref x0), (1, Value.int (iI x1)), (2, Value.int (iI x2)), (3, Value.int (iI x3)), (4, Value.int (iI x4))] [] σ (ml_M_approximate_102 n x0 x1 x2 x3 x4 σ) := by
  intro n
  induction n with
  | zero => intros; exact pw_none
  | succ n ih =>
    intro x0 x1 x2 x3 x4 σ
    show pw_Sp X 0 0 102 _ _ σ (mb_M_approximate_102 (ml_M_approximate_102 n) x0 x1 x2 x3 x4 σ)
    unfold mb_M_approximate_102
    refine sp_iload (pc := 102) (i := 4) hX 4 rfl md_M_approximate_102 ?_
    refine sp_iload_n (pc := 104) (k := 3) (i := 3) hX rfl 3 rfl md_M_approximate_104 ?_
    refine sp_icmp_gt (pc := 105) hX 128 (by decide) md_M_approximate_105 (fun _ => ?_) (fun _ => ?_)
    · refine sp_iconst (pc := 128) hX md_M_approximate_128 ?_
      refine sp_istore (pc := 129) (i := 4) (L' := [(4, Value.int (iI (0 : Int))), (0, Value.ref x0), (1, Value.int (iI x1)), (2, Value.int (iI x2)), (3, Value.int (iI x3))]) hX (by decide) rfl md_M_approximate_129 ?_
      refine sp_sub [1, 2, 3, 0] (L' := [(0, Value.ref x0), (1, Value.int (iI x1)), (2, Value.int (iI x2)), (4, Value.int (iI (0 : Int)))]) rfl ?_
      exact sl_M_approximate_131 hX hR 1000 x0 x1 x2 (0 : Int) σ
    · refine sp_aload_n (pc := 108) (k := 0) (i := 0) hX rfl 0 rfl md_M_approximate_108 ?_
      refine sp_getR (pc := 109) (ci := 10) (k := 14) (idx := 43) hX mcl_10 (by decide) mq_813 rfl md_M_approximate_109 (fun v19 => ?_)
      refine sp_iload (pc := 112) (i := 4) hX 4 rfl md_M_approximate_112 ?_
      refine sp_aload_n (pc := 114) (k := 0) (i := 0) hX rfl 0 rfl md_M_approximate_114 ?_
      refine sp_getR (pc := 115) (ci := 10) (k := 12) (idx := 37) hX mcl_10 (by decide) mq_811 rfl md_M_approximate_115 (fun v20 => ?_)
      refine sp_iload (pc := 118) (i := 4) hX 4 rfl md_M_approximate_118 ?_
      refine sp_iaload (pc := 120) hX md_M_approximate_120 (fun v21 => ?_)
      refine sp_iastore (pc := 121) hX md_M_approximate_121 (fun s22 => ?_)
      refine sp_iinc (pc := 122) (i := 4) (L' := [(4, Value.int (iI (x4 + 1))), (0, Value.ref x0), (1, Value.int (iI x1)), (2, Value.int (iI x2)), (3, Value.int (iI x3))]) hX 4 rfl (by decide) rfl md_M_approximate_122 ?_
      refine sp_goto (pc := 125) hX 102 (by decide) md_M_approximate_125 ?_
      refine sp_sub [1, 2, 3, 4, 0] (L' := [(0, Value.ref x0), (1, Value.int (iI x1)), (2, Value.int (iI x2)), (3, Value.int (iI x3)), (4, Value.int (iI (x4 + 1)))]) rfl ?_
      exact ih x0 x1 x2 x3 (x4 + 1) s22
set_option maxHeartbeats 4000000 in
set_option maxRecDepth 20000 in
theorem sl_M_approximate_19 {X : pw_X Unit} (hX : pw_Ok X prog_14_method_45_code "PadeWorkbenchModel" mr_M_approximate 7) (hR : pw_RV X prog_14_method_45_code) {r10 : Nat → Int → Int → Int → Int → pw_Sto → Option (Unit × pw_Sto)} (h10 : ∀ (z0 : Nat) (z1 : Int) (z2 : Int) (z3 : Int) (z4 : Int) (σ : pw_Sto), pw_Sp X 0 0 10 [(0, Value.ref z0), (1, Value.int (iI z1)), (2, Value.int (iI z2)), (3, Value.int (iI z3)), (4, Value.int (iI z4))] [] σ (r10 z0 z1 z2 z3 z4 σ)) : ∀ (n : Nat) (x0 : Nat) (x1 : Int) (x2 : Int) (x3 : Int) (x4 : Int) (x5 : Int) (σ : pw_Sto), pw_Sp X 0 0 19 [(0, Value.ref x0), (1, Value.int (iI x1)), (2, Value.int (iI x2)), (3, Value.int (iI x3)), (4, Value.int (iI x4)), (5, Value.int (iI x5))] [] σ (ml_M_approximate_19 r10 n x0 x1 x2 x3 x4 x5 σ) := by
  intro n
  induction n with
  | zero => intros; exact pw_none
  | succ n ih =>
    intro x0 x1 x2 x3 x4 x5 σ
    show pw_Sp X 0 0 19 _ _ σ (mb_M_approximate_19 r10 (ml_M_approximate_19 r10 n) x0 x1 x2 x3 x4 x5 σ)
    unfold mb_M_approximate_19
    refine sp_iload (pc := 19) (i := 5) hX 5 rfl md_M_approximate_19 ?_
    refine sp_iload_n (pc := 21) (k := 3) (i := 3) hX rfl 3 rfl md_M_approximate_21 ?_
    refine sp_icmp_gt (pc := 22) hX 71 (by decide) md_M_approximate_22 (fun _ => ?_) (fun _ => ?_)
    · refine sp_iinc (pc := 71) (i := 4) (L' := [(4, Value.int (iI (x4 + 1))), (0, Value.ref x0), (1, Value.int (iI x1)), (2, Value.int (iI x2)), (3, Value.int (iI x3)), (5, Value.int (iI x5))]) hX 4 rfl (by decide) rfl md_M_approximate_71 ?_
      refine sp_goto (pc := 74) hX 10 (by decide) md_M_approximate_74 ?_
      refine sp_sub [1, 2, 3, 4, 0] (L' := [(0, Value.ref x0), (1, Value.int (iI x1)), (2, Value.int (iI x2)), (3, Value.int (iI x3)), (4, Value.int (iI (x4 + 1)))]) rfl ?_
      exact h10 x0 x1 x2 x3 (x4 + 1) σ
    · refine sp_iload_n (pc := 25) (k := 2) (i := 2) hX rfl 2 rfl md_M_approximate_25 ?_
      refine sp_iconst (pc := 26) hX md_M_approximate_26 ?_
      refine sp_iadd (pc := 27) hX md_M_approximate_27 ?_
      refine sp_iload (pc := 28) (i := 4) hX 4 rfl md_M_approximate_28 ?_
      refine sp_iadd (pc := 30) hX md_M_approximate_30 ?_
      refine sp_iload (pc := 31) (i := 5) hX 5 rfl md_M_approximate_31 ?_
      refine sp_isub (pc := 33) hX md_M_approximate_33 ?_
      refine sp_istore (pc := 34) (i := 6) (L' := [(6, Value.int (iI (((x2 + (1 : Int)) + x4) - x5))), (0, Value.ref x0), (1, Value.int (iI x1)), (2, Value.int (iI x2)), (3, Value.int (iI x3)), (4, Value.int (iI x4)), (5, Value.int (iI x5))]) hX (by decide) rfl md_M_approximate_34 ?_
      refine sp_aload_n (pc := 36) (k := 0) (i := 0) hX rfl 1 rfl md_M_approximate_36 ?_
      refine sp_getR (pc := 37) (ci := 10) (k := 10) (idx := 31) hX mcl_10 (by decide) mq_809 rfl md_M_approximate_37 (fun v23 => ?_)
      refine sp_bipush (pc := 40) hX (by decide) md_M_approximate_40 ?_
      refine sp_iload (pc := 42) (i := 4) hX 5 rfl md_M_approximate_42 ?_
      refine sp_imul (pc := 44) hX md_M_approximate_44 ?_
      refine sp_iload (pc := 45) (i := 5) hX 6 rfl md_M_approximate_45 ?_
      refine sp_iadd (pc := 47) hX md_M_approximate_47 ?_
      refine sp_iload (pc := 48) (i := 6) hX 0 rfl md_M_approximate_48 ?_
      refine sp_if_ge (pc := 50) hX 57 (by decide) md_M_approximate_50 (fun _ => ?_) (fun _ => ?_)
      · refine sp_aload_n (pc := 57) (k := 0) (i := 0) hX rfl 1 rfl md_M_approximate_57 ?_
        refine sp_iload_n (pc := 58) (k := 1) (i := 1) hX rfl 2 rfl md_M_approximate_58 ?_
        refine sp_iload (pc := 59) (i := 6) hX 0 rfl md_M_approximate_59 ?_
        refine sp_callVI (pc := 61) (y := my_M_term) (ccy := prog_14_method_9_code) (nLy := 3) (ret := (some .int)) (rmy := mr_M_term) (n := 2) (idx := 87) (As := [.int (iI x1), .int (iI (((x2 + (1 : Int)) + x4) - x5))]) (st := [.int (iI (((18 : Int) * x4) + x5)), .ref v23]) (o := x0) (cells' := 0) (slots' := 0) hX (fun _ h => mc_M_term h) mk_M_term mv_M_term mcl_10 (fun _ h => pw_gd_of h) mq_889 ⟨(Nat.le_of_ble_eq_true rfl), (Nat.le_of_ble_eq_true rfl)⟩ rfl rfl (Nat.le_of_ble_eq_true rfl) ⟨(Nat.le_of_ble_eq_true rfl), (Nat.le_of_ble_eq_true rfl)⟩ rfl rfl md_M_approximate_61 (fun v25 s24 => ?_)
        refine sp_iastore (pc := 64) hX md_M_approximate_64 (fun s26 => ?_)
        refine sp_iinc (pc := 65) (i := 5) (L' := [(5, Value.int (iI (x5 + 1))), (6, Value.int (iI (((x2 + (1 : Int)) + x4) - x5))), (0, Value.ref x0), (1, Value.int (iI x1)), (2, Value.int (iI x2)), (3, Value.int (iI x3)), (4, Value.int (iI x4))]) hX 6 rfl (by decide) rfl md_M_approximate_65 ?_
        refine sp_goto (pc := 68) hX 19 (by decide) md_M_approximate_68 ?_
        refine sp_sub [2, 3, 4, 5, 6, 0] (L' := [(0, Value.ref x0), (1, Value.int (iI x1)), (2, Value.int (iI x2)), (3, Value.int (iI x3)), (4, Value.int (iI x4)), (5, Value.int (iI (x5 + 1)))]) rfl ?_
        exact ih x0 x1 x2 x3 x4 (x5 + 1) s26
      · refine sp_iconst (pc := 53) hX md_M_approximate_53 ?_
        refine sp_goto (pc := 54) hX 64 (by decide) md_M_approximate_54 ?_
        refine sp_iastore (pc := 64) hX md_M_approximate_64 (fun s27 => ?_)
        refine sp_iinc (pc := 65) (i := 5) (L' := [(5, Value.int (iI (x5 + 1))), (6, Value.int (iI (((x2 + (1 : Int)) + x4) - x5))), (0, Value.ref x0), (1, Value.int (iI x1)), (2, Value.int (iI x2)), (3, Value.int (iI x3)), (4, Value.int (iI x4))]) hX 6 rfl (by decide) rfl md_M_approximate_65 ?_
        refine sp_goto (pc := 68) hX 19 (by decide) md_M_approximate_68 ?_
        refine sp_sub [2, 3, 4, 5, 6, 0] (L' := [(0, Value.ref x0), (1, Value.int (iI x1)), (2, Value.int (iI x2)), (3, Value.int (iI x3)), (4, Value.int (iI x4)), (5, Value.int (iI (x5 + 1)))]) rfl ?_
        exact ih x0 x1 x2 x3 x4 (x5 + 1) s27
set_option maxHeartbeats 4000000 in
set_option maxRecDepth 20000 in
theorem sl_M_approximate_10 {X : pw_X Unit} (hX : pw_Ok X prog_14_method_45_code "PadeWorkbenchModel" mr_M_approximate 7) (hR : pw_RV X prog_14_method_45_code) : ∀ (n : Nat) (x0 : Nat) (x1 : Int) (x2 : Int) (x3 : Int) (x4 : Int) (σ : pw_Sto), pw_Sp X 0 0 10 [(0, Value.ref x0), (1, Value.int (iI x1)), (2, Value.int (iI x2)), (3, Value.int (iI x3)), (4, Value.int (iI x4))] [] σ (ml_M_approximate_10 n x0 x1 x2 x3 x4 σ) := by
  intro n
  induction n with
  | zero => intros; exact pw_none
  | succ n ih =>
    intro x0 x1 x2 x3 x4 σ
    show pw_Sp X 0 0 10 _ _ σ (mb_M_approximate_10 (ml_M_approximate_10 n) x0 x1 x2 x3 x4 σ)
    unfold mb_M_approximate_10
    refine sp_iload (pc := 10) (i := 4) hX 4 rfl md_M_approximate_10 ?_
    refine sp_iload_n (pc := 12) (k := 3) (i := 3) hX rfl 3 rfl md_M_approximate_12 ?_
    refine sp_icmp_ge (pc := 13) hX 77 (by decide) md_M_approximate_13 (fun _ => ?_) (fun _ => ?_)
    · refine sp_aload_n (pc := 77) (k := 0) (i := 0) hX rfl 0 rfl md_M_approximate_77 ?_
      refine sp_iload_n (pc := 78) (k := 3) (i := 3) hX rfl 3 rfl md_M_approximate_78 ?_
      refine sp_iload_n (pc := 79) (k := 3) (i := 3) hX rfl 3 rfl md_M_approximate_79 ?_
      refine sp_iconst (pc := 80) hX md_M_approximate_80 ?_
      refine sp_iadd (pc := 81) hX md_M_approximate_81 ?_
      refine sp_callVV (pc := 82) (y := my_M_findVector) (ccy := prog_14_method_38_code) (nLy := 5) (ret := none) (rmy := mr_M_findVector) (n := 2) (idx := 171) (As := [.int (iI x3), .int (iI (x3 + (1 : Int)))]) (st := []) (o := x0) (cells' := 0) (slots' := 0) hX (fun _ h => mc_M_findVector h) mk_M_findVector mv_M_findVector mcl_10 (fun _ h => pw_gd_of h) mq_996 ⟨(Nat.le_of_ble_eq_true rfl), (Nat.le_of_ble_eq_true rfl)⟩ rfl rfl (Nat.le_of_ble_eq_true rfl) ⟨(Nat.le_of_ble_eq_true rfl), (Nat.le_of_ble_eq_true rfl)⟩ rfl rfl md_M_approximate_82 (fun s3 => ?_)
      refine sp_aload_n (pc := 85) (k := 0) (i := 0) hX rfl 0 rfl md_M_approximate_85 ?_
      refine sp_getR (pc := 86) (ci := 10) (k := 13) (idx := 40) hX mcl_10 (by decide) mq_812 rfl md_M_approximate_86 (fun v4 => ?_)
      refine sp_callSV (pc := 89) (y := my_M_clear) (ccy := prog_14_method_15_code) (nLy := 2) (ret := none) (rmy := mr_M_clear) (n := 1) (idx := 107) (As := [.ref v4]) (st := []) (cells' := 0) (slots' := 0) hX (fun _ h => mc_M_clear h) mk_M_clear mq_926 mq_925 ⟨(Nat.le_of_ble_eq_true rfl), (Nat.le_of_ble_eq_true rfl)⟩ rfl rfl (Nat.le_of_ble_eq_true rfl) ⟨(Nat.le_of_ble_eq_true rfl), (Nat.le_of_ble_eq_true rfl)⟩ rfl rfl md_M_approximate_89 (fun s5 => ?_)
      refine sp_aload_n (pc := 92) (k := 0) (i := 0) hX rfl 0 rfl md_M_approximate_92 ?_
      refine sp_getR (pc := 93) (ci := 10) (k := 14) (idx := 43) hX mcl_10 (by decide) mq_813 rfl md_M_approximate_93 (fun v6 => ?_)
      refine sp_callSV (pc := 96) (y := my_M_clear) (ccy := prog_14_method_15_code) (nLy := 2) (ret := none) (rmy := mr_M_clear) (n := 1) (idx := 107) (As := [.ref v6]) (st := []) (cells' := 0) (slots' := 0) hX (fun _ h => mc_M_clear h) mk_M_clear mq_926 mq_925 ⟨(Nat.le_of_ble_eq_true rfl), (Nat.le_of_ble_eq_true rfl)⟩ rfl rfl (Nat.le_of_ble_eq_true rfl) ⟨(Nat.le_of_ble_eq_true rfl), (Nat.le_of_ble_eq_true rfl)⟩ rfl rfl md_M_approximate_96 (fun s7 => ?_)
      refine sp_iconst (pc := 99) hX md_M_approximate_99 ?_
      refine sp_istore (pc := 100) (i := 4) (L' := [(4, Value.int (iI (0 : Int))), (0, Value.ref x0), (1, Value.int (iI x1)), (2, Value.int (iI x2)), (3, Value.int (iI x3))]) hX (by decide) rfl md_M_approximate_100 ?_
      refine sp_sub [1, 2, 3, 4, 0] (L' := [(0, Value.ref x0), (1, Value.int (iI x1)), (2, Value.int (iI x2)), (3, Value.int (iI x3)), (4, Value.int (iI (0 : Int)))]) rfl ?_
      exact sl_M_approximate_102 hX hR 1000 x0 x1 x2 x3 (0 : Int) s7
    · refine sp_iconst (pc := 16) hX md_M_approximate_16 ?_
      refine sp_istore (pc := 17) (i := 5) (L' := [(5, Value.int (iI (0 : Int))), (0, Value.ref x0), (1, Value.int (iI x1)), (2, Value.int (iI x2)), (3, Value.int (iI x3)), (4, Value.int (iI x4))]) hX (by decide) rfl md_M_approximate_17 ?_
      refine sp_sub [1, 2, 3, 4, 5, 0] (L' := [(0, Value.ref x0), (1, Value.int (iI x1)), (2, Value.int (iI x2)), (3, Value.int (iI x3)), (4, Value.int (iI x4)), (5, Value.int (iI (0 : Int)))]) rfl ?_
      exact sl_M_approximate_19 hX hR ih 1000 x0 x1 x2 x3 x4 (0 : Int) σ
set_option maxHeartbeats 4000000 in
set_option maxRecDepth 20000 in
theorem mc_M_approximate {l : Launch} {E : pw_E} {σ : pw_Sto} {x0 : Nat} {x1 : Int} {x2 : Int} {x3 : Int} {out : Unit × pw_Sto} (h : mf_M_approximate x0 x1 x2 x3 σ = some out) : pw_CV l E my_M_approximate prog_14_method_45_code 7 none mr_M_approximate [.ref x0, .int (iI x1), .int (iI x2), .int (iI x3)] σ out := by
  unfold mf_M_approximate at h
  refine pw_entryV (by decide) (Nat.le_of_ble_eq_true rfl) (pw_gd_val h) (fun X hX hR hI => ?_)
  change pw_Ok X prog_14_method_45_code "PadeWorkbenchModel" mr_M_approximate 7 at hX
  show pw_Sp X 0 0 0 [(0, Value.ref x0), (1, Value.int (iI x1)), (2, Value.int (iI x2)), (3, Value.int (iI x3))] [] σ _
  refine sp_aload_n (pc := 0) (k := 0) (i := 0) hX rfl 0 rfl md_M_approximate_0 ?_
  refine sp_getR (pc := 1) (ci := 10) (k := 10) (idx := 31) hX mcl_10 (by decide) mq_809 rfl md_M_approximate_1 (fun v1 => ?_)
  refine sp_callSV (pc := 4) (y := my_M_clear) (ccy := prog_14_method_15_code) (nLy := 2) (ret := none) (rmy := mr_M_clear) (n := 1) (idx := 107) (As := [.ref v1]) (st := []) (cells' := 0) (slots' := 0) hX (fun _ h => mc_M_clear h) mk_M_clear mq_926 mq_925 ⟨(Nat.le_of_ble_eq_true rfl), (Nat.le_of_ble_eq_true rfl)⟩ rfl rfl (Nat.le_of_ble_eq_true rfl) ⟨(Nat.le_of_ble_eq_true rfl), (Nat.le_of_ble_eq_true rfl)⟩ rfl rfl md_M_approximate_4 (fun s2 => ?_)
  refine sp_iconst (pc := 7) hX md_M_approximate_7 ?_
  refine sp_istore (pc := 8) (i := 4) (L' := [(4, Value.int (iI (0 : Int))), (0, Value.ref x0), (1, Value.int (iI x1)), (2, Value.int (iI x2)), (3, Value.int (iI x3))]) hX (by decide) rfl md_M_approximate_8 ?_
  refine sp_sub [1, 2, 3, 4, 0] (L' := [(0, Value.ref x0), (1, Value.int (iI x1)), (2, Value.int (iI x2)), (3, Value.int (iI x3)), (4, Value.int (iI (0 : Int)))]) rfl ?_
  exact sl_M_approximate_10 hX hR 1000 x0 x1 x2 x3 (0 : Int) s2
/-! PadeWorkbenchModel.orderOf(I)I -/
theorem md_M_orderOf_0 : decode prog_14_method_46_code 0 = .ok (.iconst 0, 1) := by decide +kernel
theorem md_M_orderOf_1 : decode prog_14_method_46_code 1 = .ok (.istore_n 2, 1) := by decide +kernel
theorem md_M_orderOf_2 : decode prog_14_method_46_code 2 = .ok (.iload_n 2, 1) := by decide +kernel
theorem md_M_orderOf_3 : decode prog_14_method_46_code 3 = .ok (.bipush 16, 2) := by decide +kernel
theorem md_M_orderOf_5 : decode prog_14_method_46_code 5 = .ok (.if_icmp .ge 33, 3) := by decide +kernel
theorem md_M_orderOf_38 : decode prog_14_method_46_code 38 = .ok (.aload_n 0, 1) := by decide +kernel
theorem md_M_orderOf_39 : decode prog_14_method_46_code 39 = .ok (.invokevirtual 111, 3) := by decide +kernel
theorem md_M_orderOf_42 : decode prog_14_method_46_code 42 = .ok (.iconst 0, 1) := by decide +kernel
theorem md_M_orderOf_43 : decode prog_14_method_46_code 43 = .ok (.istore_n 2, 1) := by decide +kernel
theorem md_M_orderOf_44 : decode prog_14_method_46_code 44 = .ok (.iload_n 2, 1) := by decide +kernel
theorem md_M_orderOf_45 : decode prog_14_method_46_code 45 = .ok (.bipush 16, 2) := by decide +kernel
theorem md_M_orderOf_47 : decode prog_14_method_46_code 47 = .ok (.if_icmp .ge 24, 3) := by decide +kernel
theorem md_M_orderOf_71 : decode prog_14_method_46_code 71 = .ok (.iload_n 2, 1) := by decide +kernel
theorem md_M_orderOf_72 : decode prog_14_method_46_code 72 = .ok (.ireturn, 1) := by decide +kernel
theorem md_M_orderOf_50 : decode prog_14_method_46_code 50 = .ok (.aload_n 0, 1) := by decide +kernel
theorem md_M_orderOf_51 : decode prog_14_method_46_code 51 = .ok (.getfield 22, 3) := by decide +kernel
theorem md_M_orderOf_54 : decode prog_14_method_46_code 54 = .ok (.iload_n 2, 1) := by decide +kernel
theorem md_M_orderOf_55 : decode prog_14_method_46_code 55 = .ok (.iaload, 1) := by decide +kernel
theorem md_M_orderOf_56 : decode prog_14_method_46_code 56 = .ok (.aload_n 0, 1) := by decide +kernel
theorem md_M_orderOf_57 : decode prog_14_method_46_code 57 = .ok (.iload_n 1, 1) := by decide +kernel
theorem md_M_orderOf_58 : decode prog_14_method_46_code 58 = .ok (.iload_n 2, 1) := by decide +kernel
theorem md_M_orderOf_59 : decode prog_14_method_46_code 59 = .ok (.invokevirtual 87, 3) := by decide +kernel
theorem md_M_orderOf_62 : decode prog_14_method_46_code 62 = .ok (.if_icmp .ne 9, 3) := by decide +kernel
theorem md_M_orderOf_65 : decode prog_14_method_46_code 65 = .ok (.iinc 2 1, 3) := by decide +kernel
theorem md_M_orderOf_68 : decode prog_14_method_46_code 68 = .ok (.goto (-24), 3) := by decide +kernel
theorem md_M_orderOf_8 : decode prog_14_method_46_code 8 = .ok (.aload_n 0, 1) := by decide +kernel
theorem md_M_orderOf_9 : decode prog_14_method_46_code 9 = .ok (.getfield 25, 3) := by decide +kernel
theorem md_M_orderOf_12 : decode prog_14_method_46_code 12 = .ok (.iload_n 2, 1) := by decide +kernel
theorem md_M_orderOf_13 : decode prog_14_method_46_code 13 = .ok (.aload_n 0, 1) := by decide +kernel
theorem md_M_orderOf_14 : decode prog_14_method_46_code 14 = .ok (.getfield 40, 3) := by decide +kernel
theorem md_M_orderOf_17 : decode prog_14_method_46_code 17 = .ok (.iload_n 2, 1) := by decide +kernel
theorem md_M_orderOf_18 : decode prog_14_method_46_code 18 = .ok (.iaload, 1) := by decide +kernel
theorem md_M_orderOf_19 : decode prog_14_method_46_code 19 = .ok (.iastore, 1) := by decide +kernel
theorem md_M_orderOf_20 : decode prog_14_method_46_code 20 = .ok (.aload_n 0, 1) := by decide +kernel
theorem md_M_orderOf_21 : decode prog_14_method_46_code 21 = .ok (.getfield 28, 3) := by decide +kernel
theorem md_M_orderOf_24 : decode prog_14_method_46_code 24 = .ok (.iload_n 2, 1) := by decide +kernel
theorem md_M_orderOf_25 : decode prog_14_method_46_code 25 = .ok (.aload_n 0, 1) := by decide +kernel
theorem md_M_orderOf_26 : decode prog_14_method_46_code 26 = .ok (.getfield 43, 3) := by decide +kernel
theorem md_M_orderOf_29 : decode prog_14_method_46_code 29 = .ok (.iload_n 2, 1) := by decide +kernel
theorem md_M_orderOf_30 : decode prog_14_method_46_code 30 = .ok (.iaload, 1) := by decide +kernel
theorem md_M_orderOf_31 : decode prog_14_method_46_code 31 = .ok (.iastore, 1) := by decide +kernel
theorem md_M_orderOf_32 : decode prog_14_method_46_code 32 = .ok (.iinc 2 1, 3) := by decide +kernel
theorem md_M_orderOf_35 : decode prog_14_method_46_code 35 = .ok (.goto (-33), 3) := by decide +kernel
def mb_M_orderOf_44 (rc : Nat → Int → Int → pw_Sto → Option (Int × pw_Sto)) : Nat → Int → Int → pw_Sto → Option (Int × pw_Sto) := fun x0 x1 x2 σ => pw_ck x2 (16 : Int) (if (16 : Int) ≤ x2 then some (x2, σ) else (pw_gr 10 x0 6 σ).bind (fun v2 => (pw_ai v2 x2 σ).bind (fun v3 => pw_bd (mf_M_term x0 x1 x2 σ) (fun v5 s4 => pw_ck v3 v5 (if v3 = v5 then rc x0 x1 (x2 + 1) s4 else some (x2, s4))))))
def ml_M_orderOf_44 : Nat → Nat → Int → Int → pw_Sto → Option (Int × pw_Sto) := pw_lp (fun _ _ _ _ => none) (mb_M_orderOf_44)
def mb_M_orderOf_2 (rc : Nat → Int → Int → pw_Sto → Option (Int × pw_Sto)) : Nat → Int → Int → pw_Sto → Option (Int × pw_Sto) := fun x0 x1 x2 σ => pw_ck x2 (16 : Int) (if (16 : Int) ≤ x2 then pw_bd (mf_M_makeQuotient x0 σ) (fun _ s1 => ml_M_orderOf_44 1000 x0 x1 (0 : Int) s1) else (pw_gr 10 x0 7 σ).bind (fun v6 => (pw_gr 10 x0 13 σ).bind (fun v7 => (pw_ai v7 x2 σ).bind (fun v8 => (pw_si v6 x2 v8 σ).bind (fun s9 => (pw_gr 10 x0 8 s9).bind (fun v10 => (pw_gr 10 x0 14 s9).bind (fun v11 => (pw_ai v11 x2 s9).bind (fun v12 => (pw_si v10 x2 v12 s9).bind (fun s13 => rc x0 x1 (x2 + 1) s13)))))))))
def ml_M_orderOf_2 : Nat → Nat → Int → Int → pw_Sto → Option (Int × pw_Sto) := pw_lp (fun _ _ _ _ => none) (mb_M_orderOf_2)
def mf_M_orderOf (x0 : Nat) (x1 : Int) (σ : pw_Sto) : Option (Int × pw_Sto) := pw_gd 10 x0 σ (ml_M_orderOf_2 1000 x0 x1 (0 : Int) σ)
set_option maxHeartbeats 4000000 in
set_option maxRecDepth 20000 in
theorem sl_M_orderOf_44 {X : pw_X Int} (hX : pw_Ok X prog_14_method_46_code "PadeWorkbenchModel" mr_M_orderOf 3) (hR : pw_RI X prog_14_method_46_code) : ∀ (n : Nat) (x0 : Nat) (x1 : Int) (x2 : Int) (σ : pw_Sto), pw_Sp X 0 0 44 [(0, Value.ref x0), (1, Value.int (iI x1)), (2, Value.int (iI x2))] [] σ (ml_M_orderOf_44 n x0 x1 x2 σ) := by
  intro n
  induction n with
  | zero => intros; exact pw_none
  | succ n ih =>
    intro x0 x1 x2 σ
    show pw_Sp X 0 0 44 _ _ σ (mb_M_orderOf_44 (ml_M_orderOf_44 n) x0 x1 x2 σ)
    unfold mb_M_orderOf_44
    refine sp_iload_n (pc := 44) (k := 2) (i := 2) hX rfl 2 rfl md_M_orderOf_44 ?_
    refine sp_bipush (pc := 45) hX (by decide) md_M_orderOf_45 ?_
    refine sp_icmp_ge (pc := 47) hX 71 (by decide) md_M_orderOf_47 (fun _ => ?_) (fun _ => ?_)
    · refine sp_iload_n (pc := 71) (k := 2) (i := 2) hX rfl 2 rfl md_M_orderOf_71 ?_
      exact sp_iret (pc := 72) hX hR rfl (Nat.le_of_ble_eq_true rfl) md_M_orderOf_72
    · refine sp_aload_n (pc := 50) (k := 0) (i := 0) hX rfl 0 rfl md_M_orderOf_50 ?_
      refine sp_getR (pc := 51) (ci := 10) (k := 6) (idx := 22) hX mcl_10 (by decide) mq_805 rfl md_M_orderOf_51 (fun v2 => ?_)
      refine sp_iload_n (pc := 54) (k := 2) (i := 2) hX rfl 2 rfl md_M_orderOf_54 ?_
      refine sp_iaload (pc := 55) hX md_M_orderOf_55 (fun v3 => ?_)
      refine sp_aload_n (pc := 56) (k := 0) (i := 0) hX rfl 0 rfl md_M_orderOf_56 ?_
      refine sp_iload_n (pc := 57) (k := 1) (i := 1) hX rfl 1 rfl md_M_orderOf_57 ?_
      refine sp_iload_n (pc := 58) (k := 2) (i := 2) hX rfl 2 rfl md_M_orderOf_58 ?_
      refine sp_callVI (pc := 59) (y := my_M_term) (ccy := prog_14_method_9_code) (nLy := 3) (ret := (some .int)) (rmy := mr_M_term) (n := 2) (idx := 87) (As := [.int (iI x1), .int (iI x2)]) (st := [.int (iI v3)]) (o := x0) (cells' := 0) (slots' := 0) hX (fun _ h => mc_M_term h) mk_M_term mv_M_term mcl_10 (fun _ h => pw_gd_of h) mq_889 ⟨(Nat.le_of_ble_eq_true rfl), (Nat.le_of_ble_eq_true rfl)⟩ rfl rfl (Nat.le_of_ble_eq_true rfl) ⟨(Nat.le_of_ble_eq_true rfl), (Nat.le_of_ble_eq_true rfl)⟩ rfl rfl md_M_orderOf_59 (fun v5 s4 => ?_)
      refine sp_icmp_ne (pc := 62) hX 71 (by decide) md_M_orderOf_62 (fun _ => ?_) (fun _ => ?_)
      · refine sp_iinc (pc := 65) (i := 2) (L' := [(2, Value.int (iI (x2 + 1))), (0, Value.ref x0), (1, Value.int (iI x1))]) hX 2 rfl (by decide) rfl md_M_orderOf_65 ?_
        refine sp_goto (pc := 68) hX 44 (by decide) md_M_orderOf_68 ?_
        refine sp_sub [1, 2, 0] (L' := [(0, Value.ref x0), (1, Value.int (iI x1)), (2, Value.int (iI (x2 + 1)))]) rfl ?_
        exact ih x0 x1 (x2 + 1) s4
      · refine sp_iload_n (pc := 71) (k := 2) (i := 2) hX rfl 2 rfl md_M_orderOf_71 ?_
        exact sp_iret (pc := 72) hX hR rfl (Nat.le_of_ble_eq_true rfl) md_M_orderOf_72
set_option maxHeartbeats 4000000 in
set_option maxRecDepth 20000 in
theorem sl_M_orderOf_2 {X : pw_X Int} (hX : pw_Ok X prog_14_method_46_code "PadeWorkbenchModel" mr_M_orderOf 3) (hR : pw_RI X prog_14_method_46_code) : ∀ (n : Nat) (x0 : Nat) (x1 : Int) (x2 : Int) (σ : pw_Sto), pw_Sp X 0 0 2 [(0, Value.ref x0), (1, Value.int (iI x1)), (2, Value.int (iI x2))] [] σ (ml_M_orderOf_2 n x0 x1 x2 σ) := by
  intro n
  induction n with
  | zero => intros; exact pw_none
  | succ n ih =>
    intro x0 x1 x2 σ
    show pw_Sp X 0 0 2 _ _ σ (mb_M_orderOf_2 (ml_M_orderOf_2 n) x0 x1 x2 σ)
    unfold mb_M_orderOf_2
    refine sp_iload_n (pc := 2) (k := 2) (i := 2) hX rfl 2 rfl md_M_orderOf_2 ?_
    refine sp_bipush (pc := 3) hX (by decide) md_M_orderOf_3 ?_
    refine sp_icmp_ge (pc := 5) hX 38 (by decide) md_M_orderOf_5 (fun _ => ?_) (fun _ => ?_)
    · refine sp_aload_n (pc := 38) (k := 0) (i := 0) hX rfl 0 rfl md_M_orderOf_38 ?_
      refine sp_callVV (pc := 39) (y := my_M_makeQuotient) (ccy := prog_14_method_18_code) (nLy := 5) (ret := none) (rmy := mr_M_makeQuotient) (n := 0) (idx := 111) (As := []) (st := []) (o := x0) (cells' := 0) (slots' := 0) hX (fun _ h => mc_M_makeQuotient h) mk_M_makeQuotient mv_M_makeQuotient mcl_10 (fun _ h => pw_gd_of h) mq_928 ⟨(Nat.le_of_ble_eq_true rfl), (Nat.le_of_ble_eq_true rfl)⟩ rfl rfl (Nat.le_of_ble_eq_true rfl) ⟨(Nat.le_of_ble_eq_true rfl), (Nat.le_of_ble_eq_true rfl)⟩ rfl rfl md_M_orderOf_39 (fun s1 => ?_)
      refine sp_iconst (pc := 42) hX md_M_orderOf_42 ?_
      refine sp_istore_n (pc := 43) (k := 2) (i := 2) (L' := [(2, Value.int (iI (0 : Int))), (0, Value.ref x0), (1, Value.int (iI x1))]) hX rfl (by decide) rfl md_M_orderOf_43 ?_
      refine sp_sub [1, 2, 0] (L' := [(0, Value.ref x0), (1, Value.int (iI x1)), (2, Value.int (iI (0 : Int)))]) rfl ?_
      exact sl_M_orderOf_44 hX hR 1000 x0 x1 (0 : Int) s1
    · refine sp_aload_n (pc := 8) (k := 0) (i := 0) hX rfl 0 rfl md_M_orderOf_8 ?_
      refine sp_getR (pc := 9) (ci := 10) (k := 7) (idx := 25) hX mcl_10 (by decide) mq_806 rfl md_M_orderOf_9 (fun v6 => ?_)
      refine sp_iload_n (pc := 12) (k := 2) (i := 2) hX rfl 2 rfl md_M_orderOf_12 ?_
      refine sp_aload_n (pc := 13) (k := 0) (i := 0) hX rfl 0 rfl md_M_orderOf_13 ?_
      refine sp_getR (pc := 14) (ci := 10) (k := 13) (idx := 40) hX mcl_10 (by decide) mq_812 rfl md_M_orderOf_14 (fun v7 => ?_)
      refine sp_iload_n (pc := 17) (k := 2) (i := 2) hX rfl 2 rfl md_M_orderOf_17 ?_
      refine sp_iaload (pc := 18) hX md_M_orderOf_18 (fun v8 => ?_)
      refine sp_iastore (pc := 19) hX md_M_orderOf_19 (fun s9 => ?_)
      refine sp_aload_n (pc := 20) (k := 0) (i := 0) hX rfl 0 rfl md_M_orderOf_20 ?_
      refine sp_getR (pc := 21) (ci := 10) (k := 8) (idx := 28) hX mcl_10 (by decide) mq_807 rfl md_M_orderOf_21 (fun v10 => ?_)
      refine sp_iload_n (pc := 24) (k := 2) (i := 2) hX rfl 2 rfl md_M_orderOf_24 ?_
      refine sp_aload_n (pc := 25) (k := 0) (i := 0) hX rfl 0 rfl md_M_orderOf_25 ?_
      refine sp_getR (pc := 26) (ci := 10) (k := 14) (idx := 43) hX mcl_10 (by decide) mq_813 rfl md_M_orderOf_26 (fun v11 => ?_)
      refine sp_iload_n (pc := 29) (k := 2) (i := 2) hX rfl 2 rfl md_M_orderOf_29 ?_
      refine sp_iaload (pc := 30) hX md_M_orderOf_30 (fun v12 => ?_)
      refine sp_iastore (pc := 31) hX md_M_orderOf_31 (fun s13 => ?_)
      refine sp_iinc (pc := 32) (i := 2) (L' := [(2, Value.int (iI (x2 + 1))), (0, Value.ref x0), (1, Value.int (iI x1))]) hX 2 rfl (by decide) rfl md_M_orderOf_32 ?_
      refine sp_goto (pc := 35) hX 2 (by decide) md_M_orderOf_35 ?_
      refine sp_sub [1, 2, 0] (L' := [(0, Value.ref x0), (1, Value.int (iI x1)), (2, Value.int (iI (x2 + 1)))]) rfl ?_
      exact ih x0 x1 (x2 + 1) s13
set_option maxHeartbeats 4000000 in
set_option maxRecDepth 20000 in
theorem mc_M_orderOf {l : Launch} {E : pw_E} {σ : pw_Sto} {x0 : Nat} {x1 : Int} {out : Int × pw_Sto} (h : mf_M_orderOf x0 x1 σ = some out) : pw_CI l E my_M_orderOf prog_14_method_46_code 3 (some .int) mr_M_orderOf [.ref x0, .int (iI x1)] σ out := by
  unfold mf_M_orderOf at h
  refine pw_entryI (by decide) (Nat.le_of_ble_eq_true rfl) (pw_gd_val h) (fun X hX hR hI => ?_)
  change pw_Ok X prog_14_method_46_code "PadeWorkbenchModel" mr_M_orderOf 3 at hX
  show pw_Sp X 0 0 0 [(0, Value.ref x0), (1, Value.int (iI x1))] [] σ _
  refine sp_iconst (pc := 0) hX md_M_orderOf_0 ?_
  refine sp_istore_n (pc := 1) (k := 2) (i := 2) (L' := [(2, Value.int (iI (0 : Int))), (0, Value.ref x0), (1, Value.int (iI x1))]) hX rfl (by decide) rfl md_M_orderOf_1 ?_
  refine sp_sub [1, 2, 0] (L' := [(0, Value.ref x0), (1, Value.int (iI x1)), (2, Value.int (iI (0 : Int)))]) rfl ?_
  exact sl_M_orderOf_2 hX hR 1000 x0 x1 (0 : Int) σ
/-! PadeWorkbenchModel.sizeOf(I)I -/
theorem md_M_sizeOf_0 : decode prog_14_method_47_code 0 = .ok (.aload_n 0, 1) := by decide +kernel
theorem md_M_sizeOf_1 : decode prog_14_method_47_code 1 = .ok (.iload_n 1, 1) := by decide +kernel
theorem md_M_sizeOf_2 : decode prog_14_method_47_code 2 = .ok (.invokevirtual 177, 3) := by decide +kernel
theorem md_M_sizeOf_5 : decode prog_14_method_47_code 5 = .ok (.aload_n 0, 1) := by decide +kernel
theorem md_M_sizeOf_6 : decode prog_14_method_47_code 6 = .ok (.getfield 40, 3) := by decide +kernel
theorem md_M_sizeOf_9 : decode prog_14_method_47_code 9 = .ok (.invokestatic 159, 3) := by decide +kernel
theorem md_M_sizeOf_12 : decode prog_14_method_47_code 12 = .ok (.isub, 1) := by decide +kernel
theorem md_M_sizeOf_13 : decode prog_14_method_47_code 13 = .ok (.aload_n 0, 1) := by decide +kernel
theorem md_M_sizeOf_14 : decode prog_14_method_47_code 14 = .ok (.getfield 43, 3) := by decide +kernel
theorem md_M_sizeOf_17 : decode prog_14_method_47_code 17 = .ok (.invokestatic 159, 3) := by decide +kernel
theorem md_M_sizeOf_20 : decode prog_14_method_47_code 20 = .ok (.isub, 1) := by decide +kernel
theorem md_M_sizeOf_21 : decode prog_14_method_47_code 21 = .ok (.iconst 1, 1) := by decide +kernel
theorem md_M_sizeOf_22 : decode prog_14_method_47_code 22 = .ok (.isub, 1) := by decide +kernel
theorem md_M_sizeOf_23 : decode prog_14_method_47_code 23 = .ok (.ireturn, 1) := by decide +kernel
def mf_M_sizeOf (x0 : Nat) (x1 : Int) (σ : pw_Sto) : Option (Int × pw_Sto) := pw_gd 10 x0 σ (pw_bd (mf_M_orderOf x0 x1 σ) (fun v2 s1 => (pw_gr 10 x0 13 s1).bind (fun v3 => pw_bd (mf_M_degree v3 s1) (fun v5 s4 => (pw_gr 10 x0 14 s4).bind (fun v6 => pw_bd (mf_M_degree v6 s4) (fun v8 s7 => some ((((v2 - v5) - v8) - (1 : Int)), s7)))))))
set_option maxHeartbeats 4000000 in
set_option maxRecDepth 20000 in
theorem mc_M_sizeOf {l : Launch} {E : pw_E} {σ : pw_Sto} {x0 : Nat} {x1 : Int} {out : Int × pw_Sto} (h : mf_M_sizeOf x0 x1 σ = some out) : pw_CI l E my_M_sizeOf prog_14_method_47_code 2 (some .int) mr_M_sizeOf [.ref x0, .int (iI x1)] σ out := by
  unfold mf_M_sizeOf at h
  refine pw_entryI (by decide) (Nat.le_of_ble_eq_true rfl) (pw_gd_val h) (fun X hX hR hI => ?_)
  change pw_Ok X prog_14_method_47_code "PadeWorkbenchModel" mr_M_sizeOf 2 at hX
  show pw_Sp X 0 0 0 [(0, Value.ref x0), (1, Value.int (iI x1))] [] σ _
  refine sp_aload_n (pc := 0) (k := 0) (i := 0) hX rfl 0 rfl md_M_sizeOf_0 ?_
  refine sp_iload_n (pc := 1) (k := 1) (i := 1) hX rfl 1 rfl md_M_sizeOf_1 ?_
  refine sp_callVI (pc := 2) (y := my_M_orderOf) (ccy := prog_14_method_46_code) (nLy := 3) (ret := (some .int)) (rmy := mr_M_orderOf) (n := 1) (idx := 177) (As := [.int (iI x1)]) (st := []) (o := x0) (cells' := 0) (slots' := 0) hX (fun _ h => mc_M_orderOf h) mk_M_orderOf mv_M_orderOf mcl_10 (fun _ h => pw_gd_of h) mq_1050 ⟨(Nat.le_of_ble_eq_true rfl), (Nat.le_of_ble_eq_true rfl)⟩ rfl rfl (Nat.le_of_ble_eq_true rfl) ⟨(Nat.le_of_ble_eq_true rfl), (Nat.le_of_ble_eq_true rfl)⟩ rfl rfl md_M_sizeOf_2 (fun v2 s1 => ?_)
  refine sp_aload_n (pc := 5) (k := 0) (i := 0) hX rfl 0 rfl md_M_sizeOf_5 ?_
  refine sp_getR (pc := 6) (ci := 10) (k := 13) (idx := 40) hX mcl_10 (by decide) mq_812 rfl md_M_sizeOf_6 (fun v3 => ?_)
  refine sp_callSI (pc := 9) (y := my_M_degree) (ccy := prog_14_method_39_code) (nLy := 3) (ret := (some .int)) (rmy := mr_M_degree) (n := 1) (idx := 159) (As := [.ref v3]) (st := [.int (iI v2)]) (cells' := 0) (slots' := 0) hX (fun _ h => mc_M_degree h) mk_M_degree mq_1021 mq_1020 ⟨(Nat.le_of_ble_eq_true rfl), (Nat.le_of_ble_eq_true rfl)⟩ rfl rfl (Nat.le_of_ble_eq_true rfl) ⟨(Nat.le_of_ble_eq_true rfl), (Nat.le_of_ble_eq_true rfl)⟩ rfl rfl md_M_sizeOf_9 (fun v5 s4 => ?_)
  refine sp_isub (pc := 12) hX md_M_sizeOf_12 ?_
  refine sp_aload_n (pc := 13) (k := 0) (i := 0) hX rfl 0 rfl md_M_sizeOf_13 ?_
  refine sp_getR (pc := 14) (ci := 10) (k := 14) (idx := 43) hX mcl_10 (by decide) mq_813 rfl md_M_sizeOf_14 (fun v6 => ?_)
  refine sp_callSI (pc := 17) (y := my_M_degree) (ccy := prog_14_method_39_code) (nLy := 3) (ret := (some .int)) (rmy := mr_M_degree) (n := 1) (idx := 159) (As := [.ref v6]) (st := [.int (iI (v2 - v5))]) (cells' := 0) (slots' := 0) hX (fun _ h => mc_M_degree h) mk_M_degree mq_1021 mq_1020 ⟨(Nat.le_of_ble_eq_true rfl), (Nat.le_of_ble_eq_true rfl)⟩ rfl rfl (Nat.le_of_ble_eq_true rfl) ⟨(Nat.le_of_ble_eq_true rfl), (Nat.le_of_ble_eq_true rfl)⟩ rfl rfl md_M_sizeOf_17 (fun v8 s7 => ?_)
  refine sp_isub (pc := 20) hX md_M_sizeOf_20 ?_
  refine sp_iconst (pc := 21) hX md_M_sizeOf_21 ?_
  refine sp_isub (pc := 22) hX md_M_sizeOf_22 ?_
  exact sp_iret (pc := 23) hX hR rfl (Nat.le_of_ble_eq_true rfl) md_M_sizeOf_23
/-! PadeWorkbenchModel.degreeOrNone([I)I -/
theorem md_M_degreeOrNone_0 : decode prog_14_method_48_code 0 = .ok (.aload_n 1, 1) := by decide +kernel
theorem md_M_degreeOrNone_1 : decode prog_14_method_48_code 1 = .ok (.invokestatic 159, 3) := by decide +kernel
theorem md_M_degreeOrNone_4 : decode prog_14_method_48_code 4 = .ok (.istore_n 2, 1) := by decide +kernel
theorem md_M_degreeOrNone_5 : decode prog_14_method_48_code 5 = .ok (.iload_n 2, 1) := by decide +kernel
theorem md_M_degreeOrNone_6 : decode prog_14_method_48_code 6 = .ok (.ifCond .ge 7, 3) := by decide +kernel
theorem md_M_degreeOrNone_13 : decode prog_14_method_48_code 13 = .ok (.iload_n 2, 1) := by decide +kernel
theorem md_M_degreeOrNone_14 : decode prog_14_method_48_code 14 = .ok (.ireturn, 1) := by decide +kernel
theorem md_M_degreeOrNone_9 : decode prog_14_method_48_code 9 = .ok (.iconst (-1), 1) := by decide +kernel
theorem md_M_degreeOrNone_10 : decode prog_14_method_48_code 10 = .ok (.goto 4, 3) := by decide +kernel
def mf_M_degreeOrNone (x0 : Nat) (x1 : Nat) (σ : pw_Sto) : Option (Int × pw_Sto) := pw_gd 10 x0 σ (pw_bd (mf_M_degree x1 σ) (fun v2 s1 => pw_ck v2 0 (if 0 ≤ v2 then some (v2, s1) else some ((-1 : Int), s1))))
set_option maxHeartbeats 4000000 in
set_option maxRecDepth 20000 in
theorem mc_M_degreeOrNone {l : Launch} {E : pw_E} {σ : pw_Sto} {x0 : Nat} {x1 : Nat} {out : Int × pw_Sto} (h : mf_M_degreeOrNone x0 x1 σ = some out) : pw_CI l E my_M_degreeOrNone prog_14_method_48_code 3 (some .int) mr_M_degreeOrNone [.ref x0, .ref x1] σ out := by
  unfold mf_M_degreeOrNone at h
  refine pw_entryI (by decide) (Nat.le_of_ble_eq_true rfl) (pw_gd_val h) (fun X hX hR hI => ?_)
  change pw_Ok X prog_14_method_48_code "PadeWorkbenchModel" mr_M_degreeOrNone 3 at hX
  show pw_Sp X 0 0 0 [(0, Value.ref x0), (1, Value.ref x1)] [] σ _
  refine sp_aload_n (pc := 0) (k := 1) (i := 1) hX rfl 1 rfl md_M_degreeOrNone_0 ?_
  refine sp_callSI (pc := 1) (y := my_M_degree) (ccy := prog_14_method_39_code) (nLy := 3) (ret := (some .int)) (rmy := mr_M_degree) (n := 1) (idx := 159) (As := [.ref x1]) (st := []) (cells' := 0) (slots' := 0) hX (fun _ h => mc_M_degree h) mk_M_degree mq_1021 mq_1020 ⟨(Nat.le_of_ble_eq_true rfl), (Nat.le_of_ble_eq_true rfl)⟩ rfl rfl (Nat.le_of_ble_eq_true rfl) ⟨(Nat.le_of_ble_eq_true rfl), (Nat.le_of_ble_eq_true rfl)⟩ rfl rfl md_M_degreeOrNone_1 (fun v2 s1 => ?_)
  refine sp_istore_n (pc := 4) (k := 2) (i := 2) (L' := [(2, Value.int (iI v2)), (0, Value.ref x0), (1, Value.ref x1)]) hX rfl (by decide) rfl md_M_degreeOrNone_4 ?_
  refine sp_iload_n (pc := 5) (k := 2) (i := 2) hX rfl 0 rfl md_M_degreeOrNone_5 ?_
  refine sp_if_ge (pc := 6) hX 13 (by decide) md_M_degreeOrNone_6 (fun _ => ?_) (fun _ => ?_)
  · refine sp_iload_n (pc := 13) (k := 2) (i := 2) hX rfl 0 rfl md_M_degreeOrNone_13 ?_
    exact sp_iret (pc := 14) hX hR rfl (Nat.le_of_ble_eq_true rfl) md_M_degreeOrNone_14
  · refine sp_iconst (pc := 9) hX md_M_degreeOrNone_9 ?_
    refine sp_goto (pc := 10) hX 14 (by decide) md_M_degreeOrNone_10 ?_
    exact sp_iret (pc := 14) hX hR rfl (Nat.le_of_ble_eq_true rfl) md_M_degreeOrNone_14
/-! PadeWorkbenchModel.numeratorDegree(III)I -/
theorem md_M_numeratorDegree_0 : decode prog_14_method_49_code 0 = .ok (.aload_n 0, 1) := by decide +kernel
theorem md_M_numeratorDegree_1 : decode prog_14_method_49_code 1 = .ok (.iload_n 1, 1) := by decide +kernel
theorem md_M_numeratorDegree_2 : decode prog_14_method_49_code 2 = .ok (.iload_n 2, 1) := by decide +kernel
theorem md_M_numeratorDegree_3 : decode prog_14_method_49_code 3 = .ok (.iload_n 3, 1) := by decide +kernel
theorem md_M_numeratorDegree_4 : decode prog_14_method_49_code 4 = .ok (.invokevirtual 180, 3) := by decide +kernel
theorem md_M_numeratorDegree_7 : decode prog_14_method_49_code 7 = .ok (.ifCond .ne 10, 3) := by decide +kernel
theorem md_M_numeratorDegree_17 : decode prog_14_method_49_code 17 = .ok (.aload_n 0, 1) := by decide +kernel
theorem md_M_numeratorDegree_18 : decode prog_14_method_49_code 18 = .ok (.iload_n 1, 1) := by decide +kernel
theorem md_M_numeratorDegree_19 : decode prog_14_method_49_code 19 = .ok (.iload_n 2, 1) := by decide +kernel
theorem md_M_numeratorDegree_20 : decode prog_14_method_49_code 20 = .ok (.iload_n 3, 1) := by decide +kernel
theorem md_M_numeratorDegree_21 : decode prog_14_method_49_code 21 = .ok (.invokevirtual 183, 3) := by decide +kernel
theorem md_M_numeratorDegree_24 : decode prog_14_method_49_code 24 = .ok (.aload_n 0, 1) := by decide +kernel
theorem md_M_numeratorDegree_25 : decode prog_14_method_49_code 25 = .ok (.aload_n 0, 1) := by decide +kernel
theorem md_M_numeratorDegree_26 : decode prog_14_method_49_code 26 = .ok (.getfield 40, 3) := by decide +kernel
theorem md_M_numeratorDegree_29 : decode prog_14_method_49_code 29 = .ok (.invokevirtual 186, 3) := by decide +kernel
theorem md_M_numeratorDegree_32 : decode prog_14_method_49_code 32 = .ok (.ireturn, 1) := by decide +kernel
theorem md_M_numeratorDegree_10 : decode prog_14_method_49_code 10 = .ok (.aload_n 0, 1) := by decide +kernel
theorem md_M_numeratorDegree_11 : decode prog_14_method_49_code 11 = .ok (.bipush (-2), 2) := by decide +kernel
theorem md_M_numeratorDegree_13 : decode prog_14_method_49_code 13 = .ok (.invokevirtual 77, 3) := by decide +kernel
theorem md_M_numeratorDegree_16 : decode prog_14_method_49_code 16 = .ok (.ireturn, 1) := by decide +kernel
def mf_M_numeratorDegree (x0 : Nat) (x1 : Int) (x2 : Int) (x3 : Int) (σ : pw_Sto) : Option (Int × pw_Sto) := pw_gd 10 x0 σ (pw_bd (mf_M_isPair x0 x1 x2 x3 σ) (fun v2 s1 => pw_ck v2 0 (if v2 = 0 then pw_bd (mf_M_fail x0 (-2 : Int) s1) (fun v8 s7 => some (v8, s7)) else pw_bd (mf_M_approximate x0 x1 x2 x3 s1) (fun _ s3 => (pw_gr 10 x0 13 s3).bind (fun v4 => pw_bd (mf_M_degreeOrNone x0 v4 s3) (fun v6 s5 => some (v6, s5)))))))
set_option maxHeartbeats 4000000 in
set_option maxRecDepth 20000 in
theorem mc_M_numeratorDegree {l : Launch} {E : pw_E} {σ : pw_Sto} {x0 : Nat} {x1 : Int} {x2 : Int} {x3 : Int} {out : Int × pw_Sto} (h : mf_M_numeratorDegree x0 x1 x2 x3 σ = some out) : pw_CI l E my_M_numeratorDegree prog_14_method_49_code 4 (some .int) mr_M_numeratorDegree [.ref x0, .int (iI x1), .int (iI x2), .int (iI x3)] σ out := by
  unfold mf_M_numeratorDegree at h
  refine pw_entryI (by decide) (Nat.le_of_ble_eq_true rfl) (pw_gd_val h) (fun X hX hR hI => ?_)
  change pw_Ok X prog_14_method_49_code "PadeWorkbenchModel" mr_M_numeratorDegree 4 at hX
  show pw_Sp X 0 0 0 [(0, Value.ref x0), (1, Value.int (iI x1)), (2, Value.int (iI x2)), (3, Value.int (iI x3))] [] σ _
  refine sp_aload_n (pc := 0) (k := 0) (i := 0) hX rfl 0 rfl md_M_numeratorDegree_0 ?_
  refine sp_iload_n (pc := 1) (k := 1) (i := 1) hX rfl 1 rfl md_M_numeratorDegree_1 ?_
  refine sp_iload_n (pc := 2) (k := 2) (i := 2) hX rfl 2 rfl md_M_numeratorDegree_2 ?_
  refine sp_iload_n (pc := 3) (k := 3) (i := 3) hX rfl 3 rfl md_M_numeratorDegree_3 ?_
  refine sp_callVI (pc := 4) (y := my_M_isPair) (ccy := prog_14_method_44_code) (nLy := 4) (ret := (some .boolean)) (rmy := mr_M_isPair) (n := 3) (idx := 180) (As := [.int (iI x1), .int (iI x2), .int (iI x3)]) (st := []) (o := x0) (cells' := 0) (slots' := 0) hX (fun _ h => mc_M_isPair h) mk_M_isPair mv_M_isPair mcl_10 (fun _ h => pw_gd_of h) mq_988 ⟨(Nat.le_of_ble_eq_true rfl), (Nat.le_of_ble_eq_true rfl)⟩ rfl rfl (Nat.le_of_ble_eq_true rfl) ⟨(Nat.le_of_ble_eq_true rfl), (Nat.le_of_ble_eq_true rfl)⟩ rfl rfl md_M_numeratorDegree_4 (fun v2 s1 => ?_)
  refine sp_if_ne (pc := 7) hX 17 (by decide) md_M_numeratorDegree_7 (fun _ => ?_) (fun _ => ?_)
  · refine sp_aload_n (pc := 10) (k := 0) (i := 0) hX rfl 0 rfl md_M_numeratorDegree_10 ?_
    refine sp_bipush (pc := 11) hX (by decide) md_M_numeratorDegree_11 ?_
    refine sp_callVI (pc := 13) (y := my_M_fail) (ccy := prog_14_method_3_code) (nLy := 2) (ret := (some .int)) (rmy := mr_M_fail) (n := 1) (idx := 77) (As := [.int (iI (-2 : Int))]) (st := []) (o := x0) (cells' := 0) (slots' := 0) hX (fun _ h => mc_M_fail h) mk_M_fail mv_M_fail mcl_10 (fun _ h => pw_gd_of h) mq_870 ⟨(Nat.le_of_ble_eq_true rfl), (Nat.le_of_ble_eq_true rfl)⟩ rfl rfl (Nat.le_of_ble_eq_true rfl) ⟨(Nat.le_of_ble_eq_true rfl), (Nat.le_of_ble_eq_true rfl)⟩ rfl rfl md_M_numeratorDegree_13 (fun v8 s7 => ?_)
    exact sp_iret (pc := 16) hX hR rfl (Nat.le_of_ble_eq_true rfl) md_M_numeratorDegree_16
  · refine sp_aload_n (pc := 17) (k := 0) (i := 0) hX rfl 0 rfl md_M_numeratorDegree_17 ?_
    refine sp_iload_n (pc := 18) (k := 1) (i := 1) hX rfl 1 rfl md_M_numeratorDegree_18 ?_
    refine sp_iload_n (pc := 19) (k := 2) (i := 2) hX rfl 2 rfl md_M_numeratorDegree_19 ?_
    refine sp_iload_n (pc := 20) (k := 3) (i := 3) hX rfl 3 rfl md_M_numeratorDegree_20 ?_
    refine sp_callVV (pc := 21) (y := my_M_approximate) (ccy := prog_14_method_45_code) (nLy := 7) (ret := none) (rmy := mr_M_approximate) (n := 3) (idx := 183) (As := [.int (iI x1), .int (iI x2), .int (iI x3)]) (st := []) (o := x0) (cells' := 0) (slots' := 0) hX (fun _ h => mc_M_approximate h) mk_M_approximate mv_M_approximate mcl_10 (fun _ h => pw_gd_of h) mq_992 ⟨(Nat.le_of_ble_eq_true rfl), (Nat.le_of_ble_eq_true rfl)⟩ rfl rfl (Nat.le_of_ble_eq_true rfl) ⟨(Nat.le_of_ble_eq_true rfl), (Nat.le_of_ble_eq_true rfl)⟩ rfl rfl md_M_numeratorDegree_21 (fun s3 => ?_)
    refine sp_aload_n (pc := 24) (k := 0) (i := 0) hX rfl 0 rfl md_M_numeratorDegree_24 ?_
    refine sp_aload_n (pc := 25) (k := 0) (i := 0) hX rfl 0 rfl md_M_numeratorDegree_25 ?_
    refine sp_getR (pc := 26) (ci := 10) (k := 13) (idx := 40) hX mcl_10 (by decide) mq_812 rfl md_M_numeratorDegree_26 (fun v4 => ?_)
    refine sp_callVI (pc := 29) (y := my_M_degreeOrNone) (ccy := prog_14_method_48_code) (nLy := 3) (ret := (some .int)) (rmy := mr_M_degreeOrNone) (n := 1) (idx := 186) (As := [.ref v4]) (st := []) (o := x0) (cells' := 0) (slots' := 0) hX (fun _ h => mc_M_degreeOrNone h) mk_M_degreeOrNone mv_M_degreeOrNone mcl_10 (fun _ h => pw_gd_of h) mq_1030 ⟨(Nat.le_of_ble_eq_true rfl), (Nat.le_of_ble_eq_true rfl)⟩ rfl rfl (Nat.le_of_ble_eq_true rfl) ⟨(Nat.le_of_ble_eq_true rfl), (Nat.le_of_ble_eq_true rfl)⟩ rfl rfl md_M_numeratorDegree_29 (fun v6 s5 => ?_)
    exact sp_iret (pc := 32) hX hR rfl (Nat.le_of_ble_eq_true rfl) md_M_numeratorDegree_32
/-! PadeWorkbenchModel.denominatorDegree(III)I -/
theorem md_M_denominatorDegree_0 : decode prog_14_method_50_code 0 = .ok (.aload_n 0, 1) := by decide +kernel
theorem md_M_denominatorDegree_1 : decode prog_14_method_50_code 1 = .ok (.iload_n 1, 1) := by decide +kernel
theorem md_M_denominatorDegree_2 : decode prog_14_method_50_code 2 = .ok (.iload_n 2, 1) := by decide +kernel
theorem md_M_denominatorDegree_3 : decode prog_14_method_50_code 3 = .ok (.iload_n 3, 1) := by decide +kernel
theorem md_M_denominatorDegree_4 : decode prog_14_method_50_code 4 = .ok (.invokevirtual 180, 3) := by decide +kernel
theorem md_M_denominatorDegree_7 : decode prog_14_method_50_code 7 = .ok (.ifCond .ne 10, 3) := by decide +kernel
theorem md_M_denominatorDegree_17 : decode prog_14_method_50_code 17 = .ok (.aload_n 0, 1) := by decide +kernel
theorem md_M_denominatorDegree_18 : decode prog_14_method_50_code 18 = .ok (.iload_n 1, 1) := by decide +kernel
theorem md_M_denominatorDegree_19 : decode prog_14_method_50_code 19 = .ok (.iload_n 2, 1) := by decide +kernel
theorem md_M_denominatorDegree_20 : decode prog_14_method_50_code 20 = .ok (.iload_n 3, 1) := by decide +kernel
theorem md_M_denominatorDegree_21 : decode prog_14_method_50_code 21 = .ok (.invokevirtual 183, 3) := by decide +kernel
theorem md_M_denominatorDegree_24 : decode prog_14_method_50_code 24 = .ok (.aload_n 0, 1) := by decide +kernel
theorem md_M_denominatorDegree_25 : decode prog_14_method_50_code 25 = .ok (.getfield 43, 3) := by decide +kernel
theorem md_M_denominatorDegree_28 : decode prog_14_method_50_code 28 = .ok (.invokestatic 159, 3) := by decide +kernel
theorem md_M_denominatorDegree_31 : decode prog_14_method_50_code 31 = .ok (.ireturn, 1) := by decide +kernel
theorem md_M_denominatorDegree_10 : decode prog_14_method_50_code 10 = .ok (.aload_n 0, 1) := by decide +kernel
theorem md_M_denominatorDegree_11 : decode prog_14_method_50_code 11 = .ok (.bipush (-2), 2) := by decide +kernel
theorem md_M_denominatorDegree_13 : decode prog_14_method_50_code 13 = .ok (.invokevirtual 77, 3) := by decide +kernel
theorem md_M_denominatorDegree_16 : decode prog_14_method_50_code 16 = .ok (.ireturn, 1) := by decide +kernel
def mf_M_denominatorDegree (x0 : Nat) (x1 : Int) (x2 : Int) (x3 : Int) (σ : pw_Sto) : Option (Int × pw_Sto) := pw_gd 10 x0 σ (pw_bd (mf_M_isPair x0 x1 x2 x3 σ) (fun v2 s1 => pw_ck v2 0 (if v2 = 0 then pw_bd (mf_M_fail x0 (-2 : Int) s1) (fun v8 s7 => some (v8, s7)) else pw_bd (mf_M_approximate x0 x1 x2 x3 s1) (fun _ s3 => (pw_gr 10 x0 14 s3).bind (fun v4 => pw_bd (mf_M_degree v4 s3) (fun v6 s5 => some (v6, s5)))))))
set_option maxHeartbeats 4000000 in
set_option maxRecDepth 20000 in
theorem mc_M_denominatorDegree {l : Launch} {E : pw_E} {σ : pw_Sto} {x0 : Nat} {x1 : Int} {x2 : Int} {x3 : Int} {out : Int × pw_Sto} (h : mf_M_denominatorDegree x0 x1 x2 x3 σ = some out) : pw_CI l E my_M_denominatorDegree prog_14_method_50_code 4 (some .int) mr_M_denominatorDegree [.ref x0, .int (iI x1), .int (iI x2), .int (iI x3)] σ out := by
  unfold mf_M_denominatorDegree at h
  refine pw_entryI (by decide) (Nat.le_of_ble_eq_true rfl) (pw_gd_val h) (fun X hX hR hI => ?_)
  change pw_Ok X prog_14_method_50_code "PadeWorkbenchModel" mr_M_denominatorDegree 4 at hX
  show pw_Sp X 0 0 0 [(0, Value.ref x0), (1, Value.int (iI x1)), (2, Value.int (iI x2)), (3, Value.int (iI x3))] [] σ _
  refine sp_aload_n (pc := 0) (k := 0) (i := 0) hX rfl 0 rfl md_M_denominatorDegree_0 ?_
  refine sp_iload_n (pc := 1) (k := 1) (i := 1) hX rfl 1 rfl md_M_denominatorDegree_1 ?_
  refine sp_iload_n (pc := 2) (k := 2) (i := 2) hX rfl 2 rfl md_M_denominatorDegree_2 ?_
  refine sp_iload_n (pc := 3) (k := 3) (i := 3) hX rfl 3 rfl md_M_denominatorDegree_3 ?_
  refine sp_callVI (pc := 4) (y := my_M_isPair) (ccy := prog_14_method_44_code) (nLy := 4) (ret := (some .boolean)) (rmy := mr_M_isPair) (n := 3) (idx := 180) (As := [.int (iI x1), .int (iI x2), .int (iI x3)]) (st := []) (o := x0) (cells' := 0) (slots' := 0) hX (fun _ h => mc_M_isPair h) mk_M_isPair mv_M_isPair mcl_10 (fun _ h => pw_gd_of h) mq_988 ⟨(Nat.le_of_ble_eq_true rfl), (Nat.le_of_ble_eq_true rfl)⟩ rfl rfl (Nat.le_of_ble_eq_true rfl) ⟨(Nat.le_of_ble_eq_true rfl), (Nat.le_of_ble_eq_true rfl)⟩ rfl rfl md_M_denominatorDegree_4 (fun v2 s1 => ?_)
  refine sp_if_ne (pc := 7) hX 17 (by decide) md_M_denominatorDegree_7 (fun _ => ?_) (fun _ => ?_)
  · refine sp_aload_n (pc := 10) (k := 0) (i := 0) hX rfl 0 rfl md_M_denominatorDegree_10 ?_
    refine sp_bipush (pc := 11) hX (by decide) md_M_denominatorDegree_11 ?_
    refine sp_callVI (pc := 13) (y := my_M_fail) (ccy := prog_14_method_3_code) (nLy := 2) (ret := (some .int)) (rmy := mr_M_fail) (n := 1) (idx := 77) (As := [.int (iI (-2 : Int))]) (st := []) (o := x0) (cells' := 0) (slots' := 0) hX (fun _ h => mc_M_fail h) mk_M_fail mv_M_fail mcl_10 (fun _ h => pw_gd_of h) mq_870 ⟨(Nat.le_of_ble_eq_true rfl), (Nat.le_of_ble_eq_true rfl)⟩ rfl rfl (Nat.le_of_ble_eq_true rfl) ⟨(Nat.le_of_ble_eq_true rfl), (Nat.le_of_ble_eq_true rfl)⟩ rfl rfl md_M_denominatorDegree_13 (fun v8 s7 => ?_)
    exact sp_iret (pc := 16) hX hR rfl (Nat.le_of_ble_eq_true rfl) md_M_denominatorDegree_16
  · refine sp_aload_n (pc := 17) (k := 0) (i := 0) hX rfl 0 rfl md_M_denominatorDegree_17 ?_
    refine sp_iload_n (pc := 18) (k := 1) (i := 1) hX rfl 1 rfl md_M_denominatorDegree_18 ?_
    refine sp_iload_n (pc := 19) (k := 2) (i := 2) hX rfl 2 rfl md_M_denominatorDegree_19 ?_
    refine sp_iload_n (pc := 20) (k := 3) (i := 3) hX rfl 3 rfl md_M_denominatorDegree_20 ?_
    refine sp_callVV (pc := 21) (y := my_M_approximate) (ccy := prog_14_method_45_code) (nLy := 7) (ret := none) (rmy := mr_M_approximate) (n := 3) (idx := 183) (As := [.int (iI x1), .int (iI x2), .int (iI x3)]) (st := []) (o := x0) (cells' := 0) (slots' := 0) hX (fun _ h => mc_M_approximate h) mk_M_approximate mv_M_approximate mcl_10 (fun _ h => pw_gd_of h) mq_992 ⟨(Nat.le_of_ble_eq_true rfl), (Nat.le_of_ble_eq_true rfl)⟩ rfl rfl (Nat.le_of_ble_eq_true rfl) ⟨(Nat.le_of_ble_eq_true rfl), (Nat.le_of_ble_eq_true rfl)⟩ rfl rfl md_M_denominatorDegree_21 (fun s3 => ?_)
    refine sp_aload_n (pc := 24) (k := 0) (i := 0) hX rfl 0 rfl md_M_denominatorDegree_24 ?_
    refine sp_getR (pc := 25) (ci := 10) (k := 14) (idx := 43) hX mcl_10 (by decide) mq_813 rfl md_M_denominatorDegree_25 (fun v4 => ?_)
    refine sp_callSI (pc := 28) (y := my_M_degree) (ccy := prog_14_method_39_code) (nLy := 3) (ret := (some .int)) (rmy := mr_M_degree) (n := 1) (idx := 159) (As := [.ref v4]) (st := []) (cells' := 0) (slots' := 0) hX (fun _ h => mc_M_degree h) mk_M_degree mq_1021 mq_1020 ⟨(Nat.le_of_ble_eq_true rfl), (Nat.le_of_ble_eq_true rfl)⟩ rfl rfl (Nat.le_of_ble_eq_true rfl) ⟨(Nat.le_of_ble_eq_true rfl), (Nat.le_of_ble_eq_true rfl)⟩ rfl rfl md_M_denominatorDegree_28 (fun v6 s5 => ?_)
    exact sp_iret (pc := 31) hX hR rfl (Nat.le_of_ble_eq_true rfl) md_M_denominatorDegree_31
/-! PadeWorkbenchModel.numerator(IIII)I -/
theorem md_M_numerator_0 : decode prog_14_method_51_code 0 = .ok (.aload_n 0, 1) := by decide +kernel
theorem md_M_numerator_1 : decode prog_14_method_51_code 1 = .ok (.iload_n 1, 1) := by decide +kernel
theorem md_M_numerator_2 : decode prog_14_method_51_code 2 = .ok (.iload_n 2, 1) := by decide +kernel
theorem md_M_numerator_3 : decode prog_14_method_51_code 3 = .ok (.iload_n 3, 1) := by decide +kernel
theorem md_M_numerator_4 : decode prog_14_method_51_code 4 = .ok (.invokevirtual 180, 3) := by decide +kernel
theorem md_M_numerator_7 : decode prog_14_method_51_code 7 = .ok (.ifCond .eq 14, 3) := by decide +kernel
theorem md_M_numerator_21 : decode prog_14_method_51_code 21 = .ok (.aload_n 0, 1) := by decide +kernel
theorem md_M_numerator_22 : decode prog_14_method_51_code 22 = .ok (.bipush (-2), 2) := by decide +kernel
theorem md_M_numerator_24 : decode prog_14_method_51_code 24 = .ok (.invokevirtual 77, 3) := by decide +kernel
theorem md_M_numerator_27 : decode prog_14_method_51_code 27 = .ok (.ireturn, 1) := by decide +kernel
theorem md_M_numerator_10 : decode prog_14_method_51_code 10 = .ok (.iload 4, 2) := by decide +kernel
theorem md_M_numerator_12 : decode prog_14_method_51_code 12 = .ok (.iconst 0, 1) := by decide +kernel
theorem md_M_numerator_13 : decode prog_14_method_51_code 13 = .ok (.bipush 15, 2) := by decide +kernel
theorem md_M_numerator_15 : decode prog_14_method_51_code 15 = .ok (.invokestatic 65, 3) := by decide +kernel
theorem md_M_numerator_18 : decode prog_14_method_51_code 18 = .ok (.ifCond .ne 10, 3) := by decide +kernel
theorem md_M_numerator_28 : decode prog_14_method_51_code 28 = .ok (.aload_n 0, 1) := by decide +kernel
theorem md_M_numerator_29 : decode prog_14_method_51_code 29 = .ok (.iload_n 1, 1) := by decide +kernel
theorem md_M_numerator_30 : decode prog_14_method_51_code 30 = .ok (.iload_n 2, 1) := by decide +kernel
theorem md_M_numerator_31 : decode prog_14_method_51_code 31 = .ok (.iload_n 3, 1) := by decide +kernel
theorem md_M_numerator_32 : decode prog_14_method_51_code 32 = .ok (.invokevirtual 183, 3) := by decide +kernel
theorem md_M_numerator_35 : decode prog_14_method_51_code 35 = .ok (.aload_n 0, 1) := by decide +kernel
theorem md_M_numerator_36 : decode prog_14_method_51_code 36 = .ok (.getfield 40, 3) := by decide +kernel
theorem md_M_numerator_39 : decode prog_14_method_51_code 39 = .ok (.iload 4, 2) := by decide +kernel
theorem md_M_numerator_41 : decode prog_14_method_51_code 41 = .ok (.iaload, 1) := by decide +kernel
theorem md_M_numerator_42 : decode prog_14_method_51_code 42 = .ok (.ireturn, 1) := by decide +kernel
def mj_M_numerator_21 (x0 : Nat) (σ : pw_Sto) : Option (Int × pw_Sto) := pw_bd (mf_M_fail x0 (-2 : Int) σ) (fun v4 s3 => some (v4, s3))
def mf_M_numerator (x0 : Nat) (x1 : Int) (x2 : Int) (x3 : Int) (x4 : Int) (σ : pw_Sto) : Option (Int × pw_Sto) := pw_gd 10 x0 σ (pw_bd (mf_M_isPair x0 x1 x2 x3 σ) (fun v2 s1 => pw_ck v2 0 (if v2 = 0 then mj_M_numerator_21 x0 s1 else pw_bd (mf_M_in x4 (0 : Int) (15 : Int) s1) (fun v6 s5 => pw_ck v6 0 (if v6 = 0 then mj_M_numerator_21 x0 s5 else pw_bd (mf_M_approximate x0 x1 x2 x3 s5) (fun _ s7 => (pw_gr 10 x0 13 s7).bind (fun v8 => (pw_ai v8 x4 s7).bind (fun v9 => some (v9, s7)))))))))
set_option maxHeartbeats 4000000 in
set_option maxRecDepth 20000 in
theorem sj_M_numerator_21 {X : pw_X Int} (hX : pw_Ok X prog_14_method_51_code "PadeWorkbenchModel" mr_M_numerator 5) (hR : pw_RI X prog_14_method_51_code) (x0 : Nat) (σ : pw_Sto) : pw_Sp X 0 0 21 [(0, Value.ref x0)] [] σ (mj_M_numerator_21 x0 σ) := by
  unfold mj_M_numerator_21
  refine sp_aload_n (pc := 21) (k := 0) (i := 0) hX rfl 0 rfl md_M_numerator_21 ?_
  refine sp_bipush (pc := 22) hX (by decide) md_M_numerator_22 ?_
  refine sp_callVI (pc := 24) (y := my_M_fail) (ccy := prog_14_method_3_code) (nLy := 2) (ret := (some .int)) (rmy := mr_M_fail) (n := 1) (idx := 77) (As := [.int (iI (-2 : Int))]) (st := []) (o := x0) (cells' := 0) (slots' := 0) hX (fun _ h => mc_M_fail h) mk_M_fail mv_M_fail mcl_10 (fun _ h => pw_gd_of h) mq_870 ⟨(Nat.le_of_ble_eq_true rfl), (Nat.le_of_ble_eq_true rfl)⟩ rfl rfl (Nat.le_of_ble_eq_true rfl) ⟨(Nat.le_of_ble_eq_true rfl), (Nat.le_of_ble_eq_true rfl)⟩ rfl rfl md_M_numerator_24 (fun v4 s3 => ?_)
  exact sp_iret (pc := 27) hX hR rfl (Nat.le_of_ble_eq_true rfl) md_M_numerator_27
set_option maxHeartbeats 4000000 in
set_option maxRecDepth 20000 in
theorem mc_M_numerator {l : Launch} {E : pw_E} {σ : pw_Sto} {x0 : Nat} {x1 : Int} {x2 : Int} {x3 : Int} {x4 : Int} {out : Int × pw_Sto} (h : mf_M_numerator x0 x1 x2 x3 x4 σ = some out) : pw_CI l E my_M_numerator prog_14_method_51_code 5 (some .int) mr_M_numerator [.ref x0, .int (iI x1), .int (iI x2), .int (iI x3), .int (iI x4)] σ out := by
  unfold mf_M_numerator at h
  refine pw_entryI (by decide) (Nat.le_of_ble_eq_true rfl) (pw_gd_val h) (fun X hX hR hI => ?_)
  change pw_Ok X prog_14_method_51_code "PadeWorkbenchModel" mr_M_numerator 5 at hX
  show pw_Sp X 0 0 0 [(0, Value.ref x0), (1, Value.int (iI x1)), (2, Value.int (iI x2)), (3, Value.int (iI x3)), (4, Value.int (iI x4))] [] σ _
  refine sp_aload_n (pc := 0) (k := 0) (i := 0) hX rfl 0 rfl md_M_numerator_0 ?_
  refine sp_iload_n (pc := 1) (k := 1) (i := 1) hX rfl 1 rfl md_M_numerator_1 ?_
  refine sp_iload_n (pc := 2) (k := 2) (i := 2) hX rfl 2 rfl md_M_numerator_2 ?_
  refine sp_iload_n (pc := 3) (k := 3) (i := 3) hX rfl 3 rfl md_M_numerator_3 ?_
  refine sp_callVI (pc := 4) (y := my_M_isPair) (ccy := prog_14_method_44_code) (nLy := 4) (ret := (some .boolean)) (rmy := mr_M_isPair) (n := 3) (idx := 180) (As := [.int (iI x1), .int (iI x2), .int (iI x3)]) (st := []) (o := x0) (cells' := 0) (slots' := 0) hX (fun _ h => mc_M_isPair h) mk_M_isPair mv_M_isPair mcl_10 (fun _ h => pw_gd_of h) mq_988 ⟨(Nat.le_of_ble_eq_true rfl), (Nat.le_of_ble_eq_true rfl)⟩ rfl rfl (Nat.le_of_ble_eq_true rfl) ⟨(Nat.le_of_ble_eq_true rfl), (Nat.le_of_ble_eq_true rfl)⟩ rfl rfl md_M_numerator_4 (fun v2 s1 => ?_)
  refine sp_if_eq (pc := 7) hX 21 (by decide) md_M_numerator_7 (fun _ => ?_) (fun _ => ?_)
  · refine sp_sub [0] (L' := [(0, Value.ref x0)]) rfl ?_
    exact sj_M_numerator_21 hX hR x0 s1
  · refine sp_iload (pc := 10) (i := 4) hX 4 rfl md_M_numerator_10 ?_
    refine sp_iconst (pc := 12) hX md_M_numerator_12 ?_
    refine sp_bipush (pc := 13) hX (by decide) md_M_numerator_13 ?_
    refine sp_callSI (pc := 15) (y := my_M_in) (ccy := prog_14_method_2_code) (nLy := 3) (ret := (some .boolean)) (rmy := mr_M_in) (n := 3) (idx := 65) (As := [.int (iI x4), .int (iI (0 : Int)), .int (iI (15 : Int))]) (st := []) (cells' := 0) (slots' := 0) hX (fun _ h => mc_M_in h) mk_M_in mq_868 mq_867 ⟨(Nat.le_of_ble_eq_true rfl), (Nat.le_of_ble_eq_true rfl)⟩ rfl rfl (Nat.le_of_ble_eq_true rfl) ⟨(Nat.le_of_ble_eq_true rfl), (Nat.le_of_ble_eq_true rfl)⟩ rfl rfl md_M_numerator_15 (fun v6 s5 => ?_)
    refine sp_if_ne (pc := 18) hX 28 (by decide) md_M_numerator_18 (fun _ => ?_) (fun _ => ?_)
    · refine sp_sub [0] (L' := [(0, Value.ref x0)]) rfl ?_
      exact sj_M_numerator_21 hX hR x0 s5
    · refine sp_aload_n (pc := 28) (k := 0) (i := 0) hX rfl 0 rfl md_M_numerator_28 ?_
      refine sp_iload_n (pc := 29) (k := 1) (i := 1) hX rfl 1 rfl md_M_numerator_29 ?_
      refine sp_iload_n (pc := 30) (k := 2) (i := 2) hX rfl 2 rfl md_M_numerator_30 ?_
      refine sp_iload_n (pc := 31) (k := 3) (i := 3) hX rfl 3 rfl md_M_numerator_31 ?_
      refine sp_callVV (pc := 32) (y := my_M_approximate) (ccy := prog_14_method_45_code) (nLy := 7) (ret := none) (rmy := mr_M_approximate) (n := 3) (idx := 183) (As := [.int (iI x1), .int (iI x2), .int (iI x3)]) (st := []) (o := x0) (cells' := 0) (slots' := 0) hX (fun _ h => mc_M_approximate h) mk_M_approximate mv_M_approximate mcl_10 (fun _ h => pw_gd_of h) mq_992 ⟨(Nat.le_of_ble_eq_true rfl), (Nat.le_of_ble_eq_true rfl)⟩ rfl rfl (Nat.le_of_ble_eq_true rfl) ⟨(Nat.le_of_ble_eq_true rfl), (Nat.le_of_ble_eq_true rfl)⟩ rfl rfl md_M_numerator_32 (fun s7 => ?_)
      refine sp_aload_n (pc := 35) (k := 0) (i := 0) hX rfl 0 rfl md_M_numerator_35 ?_
      refine sp_getR (pc := 36) (ci := 10) (k := 13) (idx := 40) hX mcl_10 (by decide) mq_812 rfl md_M_numerator_36 (fun v8 => ?_)
      refine sp_iload (pc := 39) (i := 4) hX 4 rfl md_M_numerator_39 ?_
      refine sp_iaload (pc := 41) hX md_M_numerator_41 (fun v9 => ?_)
      exact sp_iret (pc := 42) hX hR rfl (Nat.le_of_ble_eq_true rfl) md_M_numerator_42
/-! PadeWorkbenchModel.denominator(IIII)I -/
theorem md_M_denominator_0 : decode prog_14_method_52_code 0 = .ok (.aload_n 0, 1) := by decide +kernel
theorem md_M_denominator_1 : decode prog_14_method_52_code 1 = .ok (.iload_n 1, 1) := by decide +kernel
theorem md_M_denominator_2 : decode prog_14_method_52_code 2 = .ok (.iload_n 2, 1) := by decide +kernel
theorem md_M_denominator_3 : decode prog_14_method_52_code 3 = .ok (.iload_n 3, 1) := by decide +kernel
theorem md_M_denominator_4 : decode prog_14_method_52_code 4 = .ok (.invokevirtual 180, 3) := by decide +kernel
theorem md_M_denominator_7 : decode prog_14_method_52_code 7 = .ok (.ifCond .eq 14, 3) := by decide +kernel
theorem md_M_denominator_21 : decode prog_14_method_52_code 21 = .ok (.aload_n 0, 1) := by decide +kernel
theorem md_M_denominator_22 : decode prog_14_method_52_code 22 = .ok (.bipush (-2), 2) := by decide +kernel
theorem md_M_denominator_24 : decode prog_14_method_52_code 24 = .ok (.invokevirtual 77, 3) := by decide +kernel
theorem md_M_denominator_27 : decode prog_14_method_52_code 27 = .ok (.ireturn, 1) := by decide +kernel
theorem md_M_denominator_10 : decode prog_14_method_52_code 10 = .ok (.iload 4, 2) := by decide +kernel
theorem md_M_denominator_12 : decode prog_14_method_52_code 12 = .ok (.iconst 0, 1) := by decide +kernel
theorem md_M_denominator_13 : decode prog_14_method_52_code 13 = .ok (.bipush 15, 2) := by decide +kernel
theorem md_M_denominator_15 : decode prog_14_method_52_code 15 = .ok (.invokestatic 65, 3) := by decide +kernel
theorem md_M_denominator_18 : decode prog_14_method_52_code 18 = .ok (.ifCond .ne 10, 3) := by decide +kernel
theorem md_M_denominator_28 : decode prog_14_method_52_code 28 = .ok (.aload_n 0, 1) := by decide +kernel
theorem md_M_denominator_29 : decode prog_14_method_52_code 29 = .ok (.iload_n 1, 1) := by decide +kernel
theorem md_M_denominator_30 : decode prog_14_method_52_code 30 = .ok (.iload_n 2, 1) := by decide +kernel
theorem md_M_denominator_31 : decode prog_14_method_52_code 31 = .ok (.iload_n 3, 1) := by decide +kernel
theorem md_M_denominator_32 : decode prog_14_method_52_code 32 = .ok (.invokevirtual 183, 3) := by decide +kernel
theorem md_M_denominator_35 : decode prog_14_method_52_code 35 = .ok (.aload_n 0, 1) := by decide +kernel
theorem md_M_denominator_36 : decode prog_14_method_52_code 36 = .ok (.getfield 43, 3) := by decide +kernel
theorem md_M_denominator_39 : decode prog_14_method_52_code 39 = .ok (.iload 4, 2) := by decide +kernel
theorem md_M_denominator_41 : decode prog_14_method_52_code 41 = .ok (.iaload, 1) := by decide +kernel
theorem md_M_denominator_42 : decode prog_14_method_52_code 42 = .ok (.ireturn, 1) := by decide +kernel
def mj_M_denominator_21 (x0 : Nat) (σ : pw_Sto) : Option (Int × pw_Sto) := pw_bd (mf_M_fail x0 (-2 : Int) σ) (fun v4 s3 => some (v4, s3))
def mf_M_denominator (x0 : Nat) (x1 : Int) (x2 : Int) (x3 : Int) (x4 : Int) (σ : pw_Sto) : Option (Int × pw_Sto) := pw_gd 10 x0 σ (pw_bd (mf_M_isPair x0 x1 x2 x3 σ) (fun v2 s1 => pw_ck v2 0 (if v2 = 0 then mj_M_denominator_21 x0 s1 else pw_bd (mf_M_in x4 (0 : Int) (15 : Int) s1) (fun v6 s5 => pw_ck v6 0 (if v6 = 0 then mj_M_denominator_21 x0 s5 else pw_bd (mf_M_approximate x0 x1 x2 x3 s5) (fun _ s7 => (pw_gr 10 x0 14 s7).bind (fun v8 => (pw_ai v8 x4 s7).bind (fun v9 => some (v9, s7)))))))))
set_option maxHeartbeats 4000000 in
set_option maxRecDepth 20000 in
theorem sj_M_denominator_21 {X : pw_X Int} (hX : pw_Ok X prog_14_method_52_code "PadeWorkbenchModel" mr_M_denominator 5) (hR : pw_RI X prog_14_method_52_code) (x0 : Nat) (σ : pw_Sto) : pw_Sp X 0 0 21 [(0, Value.ref x0)] [] σ (mj_M_denominator_21 x0 σ) := by
  unfold mj_M_denominator_21
  refine sp_aload_n (pc := 21) (k := 0) (i := 0) hX rfl 0 rfl md_M_denominator_21 ?_
  refine sp_bipush (pc := 22) hX (by decide) md_M_denominator_22 ?_
  refine sp_callVI (pc := 24) (y := my_M_fail) (ccy := prog_14_method_3_code) (nLy := 2) (ret := (some .int)) (rmy := mr_M_fail) (n := 1) (idx := 77) (As := [.int (iI (-2 : Int))]) (st := []) (o := x0) (cells' := 0) (slots' := 0) hX (fun _ h => mc_M_fail h) mk_M_fail mv_M_fail mcl_10 (fun _ h => pw_gd_of h) mq_870 ⟨(Nat.le_of_ble_eq_true rfl), (Nat.le_of_ble_eq_true rfl)⟩ rfl rfl (Nat.le_of_ble_eq_true rfl) ⟨(Nat.le_of_ble_eq_true rfl), (Nat.le_of_ble_eq_true rfl)⟩ rfl rfl md_M_denominator_24 (fun v4 s3 => ?_)
  exact sp_iret (pc := 27) hX hR rfl (Nat.le_of_ble_eq_true rfl) md_M_denominator_27
set_option maxHeartbeats 4000000 in
set_option maxRecDepth 20000 in
theorem mc_M_denominator {l : Launch} {E : pw_E} {σ : pw_Sto} {x0 : Nat} {x1 : Int} {x2 : Int} {x3 : Int} {x4 : Int} {out : Int × pw_Sto} (h : mf_M_denominator x0 x1 x2 x3 x4 σ = some out) : pw_CI l E my_M_denominator prog_14_method_52_code 5 (some .int) mr_M_denominator [.ref x0, .int (iI x1), .int (iI x2), .int (iI x3), .int (iI x4)] σ out := by
  unfold mf_M_denominator at h
  refine pw_entryI (by decide) (Nat.le_of_ble_eq_true rfl) (pw_gd_val h) (fun X hX hR hI => ?_)
  change pw_Ok X prog_14_method_52_code "PadeWorkbenchModel" mr_M_denominator 5 at hX
  show pw_Sp X 0 0 0 [(0, Value.ref x0), (1, Value.int (iI x1)), (2, Value.int (iI x2)), (3, Value.int (iI x3)), (4, Value.int (iI x4))] [] σ _
  refine sp_aload_n (pc := 0) (k := 0) (i := 0) hX rfl 0 rfl md_M_denominator_0 ?_
  refine sp_iload_n (pc := 1) (k := 1) (i := 1) hX rfl 1 rfl md_M_denominator_1 ?_
  refine sp_iload_n (pc := 2) (k := 2) (i := 2) hX rfl 2 rfl md_M_denominator_2 ?_
  refine sp_iload_n (pc := 3) (k := 3) (i := 3) hX rfl 3 rfl md_M_denominator_3 ?_
  refine sp_callVI (pc := 4) (y := my_M_isPair) (ccy := prog_14_method_44_code) (nLy := 4) (ret := (some .boolean)) (rmy := mr_M_isPair) (n := 3) (idx := 180) (As := [.int (iI x1), .int (iI x2), .int (iI x3)]) (st := []) (o := x0) (cells' := 0) (slots' := 0) hX (fun _ h => mc_M_isPair h) mk_M_isPair mv_M_isPair mcl_10 (fun _ h => pw_gd_of h) mq_988 ⟨(Nat.le_of_ble_eq_true rfl), (Nat.le_of_ble_eq_true rfl)⟩ rfl rfl (Nat.le_of_ble_eq_true rfl) ⟨(Nat.le_of_ble_eq_true rfl), (Nat.le_of_ble_eq_true rfl)⟩ rfl rfl md_M_denominator_4 (fun v2 s1 => ?_)
  refine sp_if_eq (pc := 7) hX 21 (by decide) md_M_denominator_7 (fun _ => ?_) (fun _ => ?_)
  · refine sp_sub [0] (L' := [(0, Value.ref x0)]) rfl ?_
    exact sj_M_denominator_21 hX hR x0 s1
  · refine sp_iload (pc := 10) (i := 4) hX 4 rfl md_M_denominator_10 ?_
    refine sp_iconst (pc := 12) hX md_M_denominator_12 ?_
    refine sp_bipush (pc := 13) hX (by decide) md_M_denominator_13 ?_
    refine sp_callSI (pc := 15) (y := my_M_in) (ccy := prog_14_method_2_code) (nLy := 3) (ret := (some .boolean)) (rmy := mr_M_in) (n := 3) (idx := 65) (As := [.int (iI x4), .int (iI (0 : Int)), .int (iI (15 : Int))]) (st := []) (cells' := 0) (slots' := 0) hX (fun _ h => mc_M_in h) mk_M_in mq_868 mq_867 ⟨(Nat.le_of_ble_eq_true rfl), (Nat.le_of_ble_eq_true rfl)⟩ rfl rfl (Nat.le_of_ble_eq_true rfl) ⟨(Nat.le_of_ble_eq_true rfl), (Nat.le_of_ble_eq_true rfl)⟩ rfl rfl md_M_denominator_15 (fun v6 s5 => ?_)
    refine sp_if_ne (pc := 18) hX 28 (by decide) md_M_denominator_18 (fun _ => ?_) (fun _ => ?_)
    · refine sp_sub [0] (L' := [(0, Value.ref x0)]) rfl ?_
      exact sj_M_denominator_21 hX hR x0 s5
    · refine sp_aload_n (pc := 28) (k := 0) (i := 0) hX rfl 0 rfl md_M_denominator_28 ?_
      refine sp_iload_n (pc := 29) (k := 1) (i := 1) hX rfl 1 rfl md_M_denominator_29 ?_
      refine sp_iload_n (pc := 30) (k := 2) (i := 2) hX rfl 2 rfl md_M_denominator_30 ?_
      refine sp_iload_n (pc := 31) (k := 3) (i := 3) hX rfl 3 rfl md_M_denominator_31 ?_
      refine sp_callVV (pc := 32) (y := my_M_approximate) (ccy := prog_14_method_45_code) (nLy := 7) (ret := none) (rmy := mr_M_approximate) (n := 3) (idx := 183) (As := [.int (iI x1), .int (iI x2), .int (iI x3)]) (st := []) (o := x0) (cells' := 0) (slots' := 0) hX (fun _ h => mc_M_approximate h) mk_M_approximate mv_M_approximate mcl_10 (fun _ h => pw_gd_of h) mq_992 ⟨(Nat.le_of_ble_eq_true rfl), (Nat.le_of_ble_eq_true rfl)⟩ rfl rfl (Nat.le_of_ble_eq_true rfl) ⟨(Nat.le_of_ble_eq_true rfl), (Nat.le_of_ble_eq_true rfl)⟩ rfl rfl md_M_denominator_32 (fun s7 => ?_)
      refine sp_aload_n (pc := 35) (k := 0) (i := 0) hX rfl 0 rfl md_M_denominator_35 ?_
      refine sp_getR (pc := 36) (ci := 10) (k := 14) (idx := 43) hX mcl_10 (by decide) mq_813 rfl md_M_denominator_36 (fun v8 => ?_)
      refine sp_iload (pc := 39) (i := 4) hX 4 rfl md_M_denominator_39 ?_
      refine sp_iaload (pc := 41) hX md_M_denominator_41 (fun v9 => ?_)
      exact sp_iret (pc := 42) hX hR rfl (Nat.le_of_ble_eq_true rfl) md_M_denominator_42
/-! PadeWorkbenchModel.order(III)I -/
theorem md_M_order_0 : decode prog_14_method_53_code 0 = .ok (.aload_n 0, 1) := by decide +kernel
theorem md_M_order_1 : decode prog_14_method_53_code 1 = .ok (.iload_n 1, 1) := by decide +kernel
theorem md_M_order_2 : decode prog_14_method_53_code 2 = .ok (.iload_n 2, 1) := by decide +kernel
theorem md_M_order_3 : decode prog_14_method_53_code 3 = .ok (.iload_n 3, 1) := by decide +kernel
theorem md_M_order_4 : decode prog_14_method_53_code 4 = .ok (.invokevirtual 180, 3) := by decide +kernel
theorem md_M_order_7 : decode prog_14_method_53_code 7 = .ok (.ifCond .ne 10, 3) := by decide +kernel
theorem md_M_order_17 : decode prog_14_method_53_code 17 = .ok (.aload_n 0, 1) := by decide +kernel
theorem md_M_order_18 : decode prog_14_method_53_code 18 = .ok (.iload_n 1, 1) := by decide +kernel
theorem md_M_order_19 : decode prog_14_method_53_code 19 = .ok (.iload_n 2, 1) := by decide +kernel
theorem md_M_order_20 : decode prog_14_method_53_code 20 = .ok (.iload_n 3, 1) := by decide +kernel
theorem md_M_order_21 : decode prog_14_method_53_code 21 = .ok (.invokevirtual 183, 3) := by decide +kernel
theorem md_M_order_24 : decode prog_14_method_53_code 24 = .ok (.aload_n 0, 1) := by decide +kernel
theorem md_M_order_25 : decode prog_14_method_53_code 25 = .ok (.iload_n 1, 1) := by decide +kernel
theorem md_M_order_26 : decode prog_14_method_53_code 26 = .ok (.invokevirtual 177, 3) := by decide +kernel
theorem md_M_order_29 : decode prog_14_method_53_code 29 = .ok (.ireturn, 1) := by decide +kernel
theorem md_M_order_10 : decode prog_14_method_53_code 10 = .ok (.aload_n 0, 1) := by decide +kernel
theorem md_M_order_11 : decode prog_14_method_53_code 11 = .ok (.bipush (-2), 2) := by decide +kernel
theorem md_M_order_13 : decode prog_14_method_53_code 13 = .ok (.invokevirtual 77, 3) := by decide +kernel
theorem md_M_order_16 : decode prog_14_method_53_code 16 = .ok (.ireturn, 1) := by decide +kernel
def mf_M_order (x0 : Nat) (x1 : Int) (x2 : Int) (x3 : Int) (σ : pw_Sto) : Option (Int × pw_Sto) := pw_gd 10 x0 σ (pw_bd (mf_M_isPair x0 x1 x2 x3 σ) (fun v2 s1 => pw_ck v2 0 (if v2 = 0 then pw_bd (mf_M_fail x0 (-2 : Int) s1) (fun v7 s6 => some (v7, s6)) else pw_bd (mf_M_approximate x0 x1 x2 x3 s1) (fun _ s3 => pw_bd (mf_M_orderOf x0 x1 s3) (fun v5 s4 => some (v5, s4))))))
set_option maxHeartbeats 4000000 in
set_option maxRecDepth 20000 in
theorem mc_M_order {l : Launch} {E : pw_E} {σ : pw_Sto} {x0 : Nat} {x1 : Int} {x2 : Int} {x3 : Int} {out : Int × pw_Sto} (h : mf_M_order x0 x1 x2 x3 σ = some out) : pw_CI l E my_M_order prog_14_method_53_code 4 (some .int) mr_M_order [.ref x0, .int (iI x1), .int (iI x2), .int (iI x3)] σ out := by
  unfold mf_M_order at h
  refine pw_entryI (by decide) (Nat.le_of_ble_eq_true rfl) (pw_gd_val h) (fun X hX hR hI => ?_)
  change pw_Ok X prog_14_method_53_code "PadeWorkbenchModel" mr_M_order 4 at hX
  show pw_Sp X 0 0 0 [(0, Value.ref x0), (1, Value.int (iI x1)), (2, Value.int (iI x2)), (3, Value.int (iI x3))] [] σ _
  refine sp_aload_n (pc := 0) (k := 0) (i := 0) hX rfl 0 rfl md_M_order_0 ?_
  refine sp_iload_n (pc := 1) (k := 1) (i := 1) hX rfl 1 rfl md_M_order_1 ?_
  refine sp_iload_n (pc := 2) (k := 2) (i := 2) hX rfl 2 rfl md_M_order_2 ?_
  refine sp_iload_n (pc := 3) (k := 3) (i := 3) hX rfl 3 rfl md_M_order_3 ?_
  refine sp_callVI (pc := 4) (y := my_M_isPair) (ccy := prog_14_method_44_code) (nLy := 4) (ret := (some .boolean)) (rmy := mr_M_isPair) (n := 3) (idx := 180) (As := [.int (iI x1), .int (iI x2), .int (iI x3)]) (st := []) (o := x0) (cells' := 0) (slots' := 0) hX (fun _ h => mc_M_isPair h) mk_M_isPair mv_M_isPair mcl_10 (fun _ h => pw_gd_of h) mq_988 ⟨(Nat.le_of_ble_eq_true rfl), (Nat.le_of_ble_eq_true rfl)⟩ rfl rfl (Nat.le_of_ble_eq_true rfl) ⟨(Nat.le_of_ble_eq_true rfl), (Nat.le_of_ble_eq_true rfl)⟩ rfl rfl md_M_order_4 (fun v2 s1 => ?_)
  refine sp_if_ne (pc := 7) hX 17 (by decide) md_M_order_7 (fun _ => ?_) (fun _ => ?_)
  · refine sp_aload_n (pc := 10) (k := 0) (i := 0) hX rfl 0 rfl md_M_order_10 ?_
    refine sp_bipush (pc := 11) hX (by decide) md_M_order_11 ?_
    refine sp_callVI (pc := 13) (y := my_M_fail) (ccy := prog_14_method_3_code) (nLy := 2) (ret := (some .int)) (rmy := mr_M_fail) (n := 1) (idx := 77) (As := [.int (iI (-2 : Int))]) (st := []) (o := x0) (cells' := 0) (slots' := 0) hX (fun _ h => mc_M_fail h) mk_M_fail mv_M_fail mcl_10 (fun _ h => pw_gd_of h) mq_870 ⟨(Nat.le_of_ble_eq_true rfl), (Nat.le_of_ble_eq_true rfl)⟩ rfl rfl (Nat.le_of_ble_eq_true rfl) ⟨(Nat.le_of_ble_eq_true rfl), (Nat.le_of_ble_eq_true rfl)⟩ rfl rfl md_M_order_13 (fun v7 s6 => ?_)
    exact sp_iret (pc := 16) hX hR rfl (Nat.le_of_ble_eq_true rfl) md_M_order_16
  · refine sp_aload_n (pc := 17) (k := 0) (i := 0) hX rfl 0 rfl md_M_order_17 ?_
    refine sp_iload_n (pc := 18) (k := 1) (i := 1) hX rfl 1 rfl md_M_order_18 ?_
    refine sp_iload_n (pc := 19) (k := 2) (i := 2) hX rfl 2 rfl md_M_order_19 ?_
    refine sp_iload_n (pc := 20) (k := 3) (i := 3) hX rfl 3 rfl md_M_order_20 ?_
    refine sp_callVV (pc := 21) (y := my_M_approximate) (ccy := prog_14_method_45_code) (nLy := 7) (ret := none) (rmy := mr_M_approximate) (n := 3) (idx := 183) (As := [.int (iI x1), .int (iI x2), .int (iI x3)]) (st := []) (o := x0) (cells' := 0) (slots' := 0) hX (fun _ h => mc_M_approximate h) mk_M_approximate mv_M_approximate mcl_10 (fun _ h => pw_gd_of h) mq_992 ⟨(Nat.le_of_ble_eq_true rfl), (Nat.le_of_ble_eq_true rfl)⟩ rfl rfl (Nat.le_of_ble_eq_true rfl) ⟨(Nat.le_of_ble_eq_true rfl), (Nat.le_of_ble_eq_true rfl)⟩ rfl rfl md_M_order_21 (fun s3 => ?_)
    refine sp_aload_n (pc := 24) (k := 0) (i := 0) hX rfl 0 rfl md_M_order_24 ?_
    refine sp_iload_n (pc := 25) (k := 1) (i := 1) hX rfl 1 rfl md_M_order_25 ?_
    refine sp_callVI (pc := 26) (y := my_M_orderOf) (ccy := prog_14_method_46_code) (nLy := 3) (ret := (some .int)) (rmy := mr_M_orderOf) (n := 1) (idx := 177) (As := [.int (iI x1)]) (st := []) (o := x0) (cells' := 0) (slots' := 0) hX (fun _ h => mc_M_orderOf h) mk_M_orderOf mv_M_orderOf mcl_10 (fun _ h => pw_gd_of h) mq_1050 ⟨(Nat.le_of_ble_eq_true rfl), (Nat.le_of_ble_eq_true rfl)⟩ rfl rfl (Nat.le_of_ble_eq_true rfl) ⟨(Nat.le_of_ble_eq_true rfl), (Nat.le_of_ble_eq_true rfl)⟩ rfl rfl md_M_order_26 (fun v5 s4 => ?_)
    exact sp_iret (pc := 29) hX hR rfl (Nat.le_of_ble_eq_true rfl) md_M_order_29
/-! PadeWorkbenchModel.blockSize(III)I -/
theorem md_M_blockSize_0 : decode prog_14_method_54_code 0 = .ok (.aload_n 0, 1) := by decide +kernel
theorem md_M_blockSize_1 : decode prog_14_method_54_code 1 = .ok (.iload_n 1, 1) := by decide +kernel
theorem md_M_blockSize_2 : decode prog_14_method_54_code 2 = .ok (.iload_n 2, 1) := by decide +kernel
theorem md_M_blockSize_3 : decode prog_14_method_54_code 3 = .ok (.iload_n 3, 1) := by decide +kernel
theorem md_M_blockSize_4 : decode prog_14_method_54_code 4 = .ok (.invokevirtual 180, 3) := by decide +kernel
theorem md_M_blockSize_7 : decode prog_14_method_54_code 7 = .ok (.ifCond .ne 10, 3) := by decide +kernel
theorem md_M_blockSize_17 : decode prog_14_method_54_code 17 = .ok (.aload_n 0, 1) := by decide +kernel
theorem md_M_blockSize_18 : decode prog_14_method_54_code 18 = .ok (.iload_n 1, 1) := by decide +kernel
theorem md_M_blockSize_19 : decode prog_14_method_54_code 19 = .ok (.iload_n 2, 1) := by decide +kernel
theorem md_M_blockSize_20 : decode prog_14_method_54_code 20 = .ok (.iload_n 3, 1) := by decide +kernel
theorem md_M_blockSize_21 : decode prog_14_method_54_code 21 = .ok (.invokevirtual 183, 3) := by decide +kernel
theorem md_M_blockSize_24 : decode prog_14_method_54_code 24 = .ok (.aload_n 0, 1) := by decide +kernel
theorem md_M_blockSize_25 : decode prog_14_method_54_code 25 = .ok (.getfield 40, 3) := by decide +kernel
theorem md_M_blockSize_28 : decode prog_14_method_54_code 28 = .ok (.invokestatic 159, 3) := by decide +kernel
theorem md_M_blockSize_31 : decode prog_14_method_54_code 31 = .ok (.ifCond .ge 7, 3) := by decide +kernel
theorem md_M_blockSize_38 : decode prog_14_method_54_code 38 = .ok (.aload_n 0, 1) := by decide +kernel
theorem md_M_blockSize_39 : decode prog_14_method_54_code 39 = .ok (.iload_n 1, 1) := by decide +kernel
theorem md_M_blockSize_40 : decode prog_14_method_54_code 40 = .ok (.invokevirtual 189, 3) := by decide +kernel
theorem md_M_blockSize_43 : decode prog_14_method_54_code 43 = .ok (.ireturn, 1) := by decide +kernel
theorem md_M_blockSize_34 : decode prog_14_method_54_code 34 = .ok (.iconst (-1), 1) := by decide +kernel
theorem md_M_blockSize_35 : decode prog_14_method_54_code 35 = .ok (.goto 8, 3) := by decide +kernel
theorem md_M_blockSize_10 : decode prog_14_method_54_code 10 = .ok (.aload_n 0, 1) := by decide +kernel
theorem md_M_blockSize_11 : decode prog_14_method_54_code 11 = .ok (.bipush (-2), 2) := by decide +kernel
theorem md_M_blockSize_13 : decode prog_14_method_54_code 13 = .ok (.invokevirtual 77, 3) := by decide +kernel
theorem md_M_blockSize_16 : decode prog_14_method_54_code 16 = .ok (.ireturn, 1) := by decide +kernel
def mf_M_blockSize (x0 : Nat) (x1 : Int) (x2 : Int) (x3 : Int) (σ : pw_Sto) : Option (Int × pw_Sto) := pw_gd 10 x0 σ (pw_bd (mf_M_isPair x0 x1 x2 x3 σ) (fun v2 s1 => pw_ck v2 0 (if v2 = 0 then pw_bd (mf_M_fail x0 (-2 : Int) s1) (fun v10 s9 => some (v10, s9)) else pw_bd (mf_M_approximate x0 x1 x2 x3 s1) (fun _ s3 => (pw_gr 10 x0 13 s3).bind (fun v4 => pw_bd (mf_M_degree v4 s3) (fun v6 s5 => pw_ck v6 0 (if 0 ≤ v6 then pw_bd (mf_M_sizeOf x0 x1 s5) (fun v8 s7 => some (v8, s7)) else some ((-1 : Int), s5))))))))
set_option maxHeartbeats 4000000 in
set_option maxRecDepth 20000 in
theorem mc_M_blockSize {l : Launch} {E : pw_E} {σ : pw_Sto} {x0 : Nat} {x1 : Int} {x2 : Int} {x3 : Int} {out : Int × pw_Sto} (h : mf_M_blockSize x0 x1 x2 x3 σ = some out) : pw_CI l E my_M_blockSize prog_14_method_54_code 4 (some .int) mr_M_blockSize [.ref x0, .int (iI x1), .int (iI x2), .int (iI x3)] σ out := by
  unfold mf_M_blockSize at h
  refine pw_entryI (by decide) (Nat.le_of_ble_eq_true rfl) (pw_gd_val h) (fun X hX hR hI => ?_)
  change pw_Ok X prog_14_method_54_code "PadeWorkbenchModel" mr_M_blockSize 4 at hX
  show pw_Sp X 0 0 0 [(0, Value.ref x0), (1, Value.int (iI x1)), (2, Value.int (iI x2)), (3, Value.int (iI x3))] [] σ _
  refine sp_aload_n (pc := 0) (k := 0) (i := 0) hX rfl 0 rfl md_M_blockSize_0 ?_
  refine sp_iload_n (pc := 1) (k := 1) (i := 1) hX rfl 1 rfl md_M_blockSize_1 ?_
  refine sp_iload_n (pc := 2) (k := 2) (i := 2) hX rfl 2 rfl md_M_blockSize_2 ?_
  refine sp_iload_n (pc := 3) (k := 3) (i := 3) hX rfl 3 rfl md_M_blockSize_3 ?_
  refine sp_callVI (pc := 4) (y := my_M_isPair) (ccy := prog_14_method_44_code) (nLy := 4) (ret := (some .boolean)) (rmy := mr_M_isPair) (n := 3) (idx := 180) (As := [.int (iI x1), .int (iI x2), .int (iI x3)]) (st := []) (o := x0) (cells' := 0) (slots' := 0) hX (fun _ h => mc_M_isPair h) mk_M_isPair mv_M_isPair mcl_10 (fun _ h => pw_gd_of h) mq_988 ⟨(Nat.le_of_ble_eq_true rfl), (Nat.le_of_ble_eq_true rfl)⟩ rfl rfl (Nat.le_of_ble_eq_true rfl) ⟨(Nat.le_of_ble_eq_true rfl), (Nat.le_of_ble_eq_true rfl)⟩ rfl rfl md_M_blockSize_4 (fun v2 s1 => ?_)
  refine sp_if_ne (pc := 7) hX 17 (by decide) md_M_blockSize_7 (fun _ => ?_) (fun _ => ?_)
  · refine sp_aload_n (pc := 10) (k := 0) (i := 0) hX rfl 0 rfl md_M_blockSize_10 ?_
    refine sp_bipush (pc := 11) hX (by decide) md_M_blockSize_11 ?_
    refine sp_callVI (pc := 13) (y := my_M_fail) (ccy := prog_14_method_3_code) (nLy := 2) (ret := (some .int)) (rmy := mr_M_fail) (n := 1) (idx := 77) (As := [.int (iI (-2 : Int))]) (st := []) (o := x0) (cells' := 0) (slots' := 0) hX (fun _ h => mc_M_fail h) mk_M_fail mv_M_fail mcl_10 (fun _ h => pw_gd_of h) mq_870 ⟨(Nat.le_of_ble_eq_true rfl), (Nat.le_of_ble_eq_true rfl)⟩ rfl rfl (Nat.le_of_ble_eq_true rfl) ⟨(Nat.le_of_ble_eq_true rfl), (Nat.le_of_ble_eq_true rfl)⟩ rfl rfl md_M_blockSize_13 (fun v10 s9 => ?_)
    exact sp_iret (pc := 16) hX hR rfl (Nat.le_of_ble_eq_true rfl) md_M_blockSize_16
  · refine sp_aload_n (pc := 17) (k := 0) (i := 0) hX rfl 0 rfl md_M_blockSize_17 ?_
    refine sp_iload_n (pc := 18) (k := 1) (i := 1) hX rfl 1 rfl md_M_blockSize_18 ?_
    refine sp_iload_n (pc := 19) (k := 2) (i := 2) hX rfl 2 rfl md_M_blockSize_19 ?_
    refine sp_iload_n (pc := 20) (k := 3) (i := 3) hX rfl 3 rfl md_M_blockSize_20 ?_
    refine sp_callVV (pc := 21) (y := my_M_approximate) (ccy := prog_14_method_45_code) (nLy := 7) (ret := none) (rmy := mr_M_approximate) (n := 3) (idx := 183) (As := [.int (iI x1), .int (iI x2), .int (iI x3)]) (st := []) (o := x0) (cells' := 0) (slots' := 0) hX (fun _ h => mc_M_approximate h) mk_M_approximate mv_M_approximate mcl_10 (fun _ h => pw_gd_of h) mq_992 ⟨(Nat.le_of_ble_eq_true rfl), (Nat.le_of_ble_eq_true rfl)⟩ rfl rfl (Nat.le_of_ble_eq_true rfl) ⟨(Nat.le_of_ble_eq_true rfl), (Nat.le_of_ble_eq_true rfl)⟩ rfl rfl md_M_blockSize_21 (fun s3 => ?_)
    refine sp_aload_n (pc := 24) (k := 0) (i := 0) hX rfl 0 rfl md_M_blockSize_24 ?_
    refine sp_getR (pc := 25) (ci := 10) (k := 13) (idx := 40) hX mcl_10 (by decide) mq_812 rfl md_M_blockSize_25 (fun v4 => ?_)
    refine sp_callSI (pc := 28) (y := my_M_degree) (ccy := prog_14_method_39_code) (nLy := 3) (ret := (some .int)) (rmy := mr_M_degree) (n := 1) (idx := 159) (As := [.ref v4]) (st := []) (cells' := 0) (slots' := 0) hX (fun _ h => mc_M_degree h) mk_M_degree mq_1021 mq_1020 ⟨(Nat.le_of_ble_eq_true rfl), (Nat.le_of_ble_eq_true rfl)⟩ rfl rfl (Nat.le_of_ble_eq_true rfl) ⟨(Nat.le_of_ble_eq_true rfl), (Nat.le_of_ble_eq_true rfl)⟩ rfl rfl md_M_blockSize_28 (fun v6 s5 => ?_)
    refine sp_if_ge (pc := 31) hX 38 (by decide) md_M_blockSize_31 (fun _ => ?_) (fun _ => ?_)
    · refine sp_aload_n (pc := 38) (k := 0) (i := 0) hX rfl 0 rfl md_M_blockSize_38 ?_
      refine sp_iload_n (pc := 39) (k := 1) (i := 1) hX rfl 1 rfl md_M_blockSize_39 ?_
      refine sp_callVI (pc := 40) (y := my_M_sizeOf) (ccy := prog_14_method_47_code) (nLy := 2) (ret := (some .int)) (rmy := mr_M_sizeOf) (n := 1) (idx := 189) (As := [.int (iI x1)]) (st := []) (o := x0) (cells' := 0) (slots' := 0) hX (fun _ h => mc_M_sizeOf h) mk_M_sizeOf mv_M_sizeOf mcl_10 (fun _ h => pw_gd_of h) mq_1058 ⟨(Nat.le_of_ble_eq_true rfl), (Nat.le_of_ble_eq_true rfl)⟩ rfl rfl (Nat.le_of_ble_eq_true rfl) ⟨(Nat.le_of_ble_eq_true rfl), (Nat.le_of_ble_eq_true rfl)⟩ rfl rfl md_M_blockSize_40 (fun v8 s7 => ?_)
      exact sp_iret (pc := 43) hX hR rfl (Nat.le_of_ble_eq_true rfl) md_M_blockSize_43
    · refine sp_iconst (pc := 34) hX md_M_blockSize_34 ?_
      refine sp_goto (pc := 35) hX 43 (by decide) md_M_blockSize_35 ?_
      exact sp_iret (pc := 43) hX hR rfl (Nat.le_of_ble_eq_true rfl) md_M_blockSize_43
/-! PadeWorkbenchModel.evaluate(IIII)I -/
theorem md_M_evaluate_0 : decode prog_14_method_55_code 0 = .ok (.aload_n 0, 1) := by decide +kernel
theorem md_M_evaluate_1 : decode prog_14_method_55_code 1 = .ok (.iload_n 1, 1) := by decide +kernel
theorem md_M_evaluate_2 : decode prog_14_method_55_code 2 = .ok (.iload_n 2, 1) := by decide +kernel
theorem md_M_evaluate_3 : decode prog_14_method_55_code 3 = .ok (.iload_n 3, 1) := by decide +kernel
theorem md_M_evaluate_4 : decode prog_14_method_55_code 4 = .ok (.invokevirtual 180, 3) := by decide +kernel
theorem md_M_evaluate_7 : decode prog_14_method_55_code 7 = .ok (.ifCond .eq 18, 3) := by decide +kernel
theorem md_M_evaluate_25 : decode prog_14_method_55_code 25 = .ok (.aload_n 0, 1) := by decide +kernel
theorem md_M_evaluate_26 : decode prog_14_method_55_code 26 = .ok (.bipush (-2), 2) := by decide +kernel
theorem md_M_evaluate_28 : decode prog_14_method_55_code 28 = .ok (.invokevirtual 77, 3) := by decide +kernel
theorem md_M_evaluate_31 : decode prog_14_method_55_code 31 = .ok (.ireturn, 1) := by decide +kernel
theorem md_M_evaluate_10 : decode prog_14_method_55_code 10 = .ok (.iload 4, 2) := by decide +kernel
theorem md_M_evaluate_12 : decode prog_14_method_55_code 12 = .ok (.iconst 0, 1) := by decide +kernel
theorem md_M_evaluate_13 : decode prog_14_method_55_code 13 = .ok (.aload_n 0, 1) := by decide +kernel
theorem md_M_evaluate_14 : decode prog_14_method_55_code 14 = .ok (.invokevirtual 61, 3) := by decide +kernel
theorem md_M_evaluate_17 : decode prog_14_method_55_code 17 = .ok (.iconst 1, 1) := by decide +kernel
theorem md_M_evaluate_18 : decode prog_14_method_55_code 18 = .ok (.isub, 1) := by decide +kernel
theorem md_M_evaluate_19 : decode prog_14_method_55_code 19 = .ok (.invokestatic 65, 3) := by decide +kernel
theorem md_M_evaluate_22 : decode prog_14_method_55_code 22 = .ok (.ifCond .ne 10, 3) := by decide +kernel
theorem md_M_evaluate_32 : decode prog_14_method_55_code 32 = .ok (.aload_n 0, 1) := by decide +kernel
theorem md_M_evaluate_33 : decode prog_14_method_55_code 33 = .ok (.iload_n 1, 1) := by decide +kernel
theorem md_M_evaluate_34 : decode prog_14_method_55_code 34 = .ok (.iload_n 2, 1) := by decide +kernel
theorem md_M_evaluate_35 : decode prog_14_method_55_code 35 = .ok (.iload_n 3, 1) := by decide +kernel
theorem md_M_evaluate_36 : decode prog_14_method_55_code 36 = .ok (.invokevirtual 183, 3) := by decide +kernel
theorem md_M_evaluate_39 : decode prog_14_method_55_code 39 = .ok (.aload_n 0, 1) := by decide +kernel
theorem md_M_evaluate_40 : decode prog_14_method_55_code 40 = .ok (.aload_n 0, 1) := by decide +kernel
theorem md_M_evaluate_41 : decode prog_14_method_55_code 41 = .ok (.getfield 43, 3) := by decide +kernel
theorem md_M_evaluate_44 : decode prog_14_method_55_code 44 = .ok (.iload 4, 2) := by decide +kernel
theorem md_M_evaluate_46 : decode prog_14_method_55_code 46 = .ok (.invokevirtual 192, 3) := by decide +kernel
theorem md_M_evaluate_49 : decode prog_14_method_55_code 49 = .ok (.istore 5, 2) := by decide +kernel
theorem md_M_evaluate_51 : decode prog_14_method_55_code 51 = .ok (.iload 5, 2) := by decide +kernel
theorem md_M_evaluate_53 : decode prog_14_method_55_code 53 = .ok (.ifCond .ne 7, 3) := by decide +kernel
theorem md_M_evaluate_60 : decode prog_14_method_55_code 60 = .ok (.aload_n 0, 1) := by decide +kernel
theorem md_M_evaluate_61 : decode prog_14_method_55_code 61 = .ok (.aload_n 0, 1) := by decide +kernel
theorem md_M_evaluate_62 : decode prog_14_method_55_code 62 = .ok (.aload_n 0, 1) := by decide +kernel
theorem md_M_evaluate_63 : decode prog_14_method_55_code 63 = .ok (.getfield 40, 3) := by decide +kernel
theorem md_M_evaluate_66 : decode prog_14_method_55_code 66 = .ok (.iload 4, 2) := by decide +kernel
theorem md_M_evaluate_68 : decode prog_14_method_55_code 68 = .ok (.invokevirtual 192, 3) := by decide +kernel
theorem md_M_evaluate_71 : decode prog_14_method_55_code 71 = .ok (.aload_n 0, 1) := by decide +kernel
theorem md_M_evaluate_72 : decode prog_14_method_55_code 72 = .ok (.iload 5, 2) := by decide +kernel
theorem md_M_evaluate_74 : decode prog_14_method_55_code 74 = .ok (.invokevirtual 94, 3) := by decide +kernel
theorem md_M_evaluate_77 : decode prog_14_method_55_code 77 = .ok (.imul, 1) := by decide +kernel
theorem md_M_evaluate_78 : decode prog_14_method_55_code 78 = .ok (.invokevirtual 91, 3) := by decide +kernel
theorem md_M_evaluate_81 : decode prog_14_method_55_code 81 = .ok (.ireturn, 1) := by decide +kernel
theorem md_M_evaluate_56 : decode prog_14_method_55_code 56 = .ok (.iconst (-1), 1) := by decide +kernel
theorem md_M_evaluate_57 : decode prog_14_method_55_code 57 = .ok (.goto 24, 3) := by decide +kernel
def mj_M_evaluate_25 (x0 : Nat) (σ : pw_Sto) : Option (Int × pw_Sto) := pw_bd (mf_M_fail x0 (-2 : Int) σ) (fun v4 s3 => some (v4, s3))
def mf_M_evaluate (x0 : Nat) (x1 : Int) (x2 : Int) (x3 : Int) (x4 : Int) (σ : pw_Sto) : Option (Int × pw_Sto) := pw_gd 10 x0 σ (pw_bd (mf_M_isPair x0 x1 x2 x3 σ) (fun v2 s1 => pw_ck v2 0 (if v2 = 0 then mj_M_evaluate_25 x0 s1 else pw_bd (mf_M_prime x0 s1) (fun v6 s5 => pw_bd (mf_M_in x4 (0 : Int) (v6 - (1 : Int)) s5) (fun v8 s7 => pw_ck v8 0 (if v8 = 0 then mj_M_evaluate_25 x0 s7 else pw_bd (mf_M_approximate x0 x1 x2 x3 s7) (fun _ s9 => (pw_gr 10 x0 14 s9).bind (fun v10 => pw_bd (mf_M_valueAt x0 v10 x4 s9) (fun v12 s11 => pw_ck v12 0 (if v12 = 0 then some ((-1 : Int), s11) else (pw_gr 10 x0 13 s11).bind (fun v13 => pw_bd (mf_M_valueAt x0 v13 x4 s11) (fun v15 s14 => pw_bd (mf_M_inverse x0 v12 s14) (fun v17 s16 => pw_bd (mf_M_mod x0 (v15 * v17) s16) (fun v19 s18 => some (v19, s18)))))))))))))))
set_option maxHeartbeats 4000000 in
set_option maxRecDepth 20000 in
theorem sj_M_evaluate_25 {X : pw_X Int} (hX : pw_Ok X prog_14_method_55_code "PadeWorkbenchModel" mr_M_evaluate 6) (hR : pw_RI X prog_14_method_55_code) (x0 : Nat) (σ : pw_Sto) : pw_Sp X 0 0 25 [(0, Value.ref x0)] [] σ (mj_M_evaluate_25 x0 σ) := by
  unfold mj_M_evaluate_25
  refine sp_aload_n (pc := 25) (k := 0) (i := 0) hX rfl 0 rfl md_M_evaluate_25 ?_
  refine sp_bipush (pc := 26) hX (by decide) md_M_evaluate_26 ?_
  refine sp_callVI (pc := 28) (y := my_M_fail) (ccy := prog_14_method_3_code) (nLy := 2) (ret := (some .int)) (rmy := mr_M_fail) (n := 1) (idx := 77) (As := [.int (iI (-2 : Int))]) (st := []) (o := x0) (cells' := 0) (slots' := 0) hX (fun _ h => mc_M_fail h) mk_M_fail mv_M_fail mcl_10 (fun _ h => pw_gd_of h) mq_870 ⟨(Nat.le_of_ble_eq_true rfl), (Nat.le_of_ble_eq_true rfl)⟩ rfl rfl (Nat.le_of_ble_eq_true rfl) ⟨(Nat.le_of_ble_eq_true rfl), (Nat.le_of_ble_eq_true rfl)⟩ rfl rfl md_M_evaluate_28 (fun v4 s3 => ?_)
  exact sp_iret (pc := 31) hX hR rfl (Nat.le_of_ble_eq_true rfl) md_M_evaluate_31
set_option maxHeartbeats 4000000 in
set_option maxRecDepth 20000 in
theorem mc_M_evaluate {l : Launch} {E : pw_E} {σ : pw_Sto} {x0 : Nat} {x1 : Int} {x2 : Int} {x3 : Int} {x4 : Int} {out : Int × pw_Sto} (h : mf_M_evaluate x0 x1 x2 x3 x4 σ = some out) : pw_CI l E my_M_evaluate prog_14_method_55_code 6 (some .int) mr_M_evaluate [.ref x0, .int (iI x1), .int (iI x2), .int (iI x3), .int (iI x4)] σ out := by
  unfold mf_M_evaluate at h
  refine pw_entryI (by decide) (Nat.le_of_ble_eq_true rfl) (pw_gd_val h) (fun X hX hR hI => ?_)
  change pw_Ok X prog_14_method_55_code "PadeWorkbenchModel" mr_M_evaluate 6 at hX
  show pw_Sp X 0 0 0 [(0, Value.ref x0), (1, Value.int (iI x1)), (2, Value.int (iI x2)), (3, Value.int (iI x3)), (4, Value.int (iI x4))] [] σ _
  refine sp_aload_n (pc := 0) (k := 0) (i := 0) hX rfl 0 rfl md_M_evaluate_0 ?_
  refine sp_iload_n (pc := 1) (k := 1) (i := 1) hX rfl 1 rfl md_M_evaluate_1 ?_
  refine sp_iload_n (pc := 2) (k := 2) (i := 2) hX rfl 2 rfl md_M_evaluate_2 ?_
  refine sp_iload_n (pc := 3) (k := 3) (i := 3) hX rfl 3 rfl md_M_evaluate_3 ?_
  refine sp_callVI (pc := 4) (y := my_M_isPair) (ccy := prog_14_method_44_code) (nLy := 4) (ret := (some .boolean)) (rmy := mr_M_isPair) (n := 3) (idx := 180) (As := [.int (iI x1), .int (iI x2), .int (iI x3)]) (st := []) (o := x0) (cells' := 0) (slots' := 0) hX (fun _ h => mc_M_isPair h) mk_M_isPair mv_M_isPair mcl_10 (fun _ h => pw_gd_of h) mq_988 ⟨(Nat.le_of_ble_eq_true rfl), (Nat.le_of_ble_eq_true rfl)⟩ rfl rfl (Nat.le_of_ble_eq_true rfl) ⟨(Nat.le_of_ble_eq_true rfl), (Nat.le_of_ble_eq_true rfl)⟩ rfl rfl md_M_evaluate_4 (fun v2 s1 => ?_)
  refine sp_if_eq (pc := 7) hX 25 (by decide) md_M_evaluate_7 (fun _ => ?_) (fun _ => ?_)
  · refine sp_sub [0] (L' := [(0, Value.ref x0)]) rfl ?_
    exact sj_M_evaluate_25 hX hR x0 s1
  · refine sp_iload (pc := 10) (i := 4) hX 4 rfl md_M_evaluate_10 ?_
    refine sp_iconst (pc := 12) hX md_M_evaluate_12 ?_
    refine sp_aload_n (pc := 13) (k := 0) (i := 0) hX rfl 0 rfl md_M_evaluate_13 ?_
    refine sp_callVI (pc := 14) (y := my_M_prime) (ccy := prog_14_method_4_code) (nLy := 1) (ret := (some .int)) (rmy := mr_M_prime) (n := 0) (idx := 61) (As := []) (st := [.int (iI (0 : Int)), .int (iI x4)]) (o := x0) (cells' := 0) (slots' := 0) hX (fun _ h => mc_M_prime h) mk_M_prime mv_M_prime mcl_10 (fun _ h => pw_gd_of h) mq_878 ⟨(Nat.le_of_ble_eq_true rfl), (Nat.le_of_ble_eq_true rfl)⟩ rfl rfl (Nat.le_of_ble_eq_true rfl) ⟨(Nat.le_of_ble_eq_true rfl), (Nat.le_of_ble_eq_true rfl)⟩ rfl rfl md_M_evaluate_14 (fun v6 s5 => ?_)
    refine sp_iconst (pc := 17) hX md_M_evaluate_17 ?_
    refine sp_isub (pc := 18) hX md_M_evaluate_18 ?_
    refine sp_callSI (pc := 19) (y := my_M_in) (ccy := prog_14_method_2_code) (nLy := 3) (ret := (some .boolean)) (rmy := mr_M_in) (n := 3) (idx := 65) (As := [.int (iI x4), .int (iI (0 : Int)), .int (iI (v6 - (1 : Int)))]) (st := []) (cells' := 0) (slots' := 0) hX (fun _ h => mc_M_in h) mk_M_in mq_868 mq_867 ⟨(Nat.le_of_ble_eq_true rfl), (Nat.le_of_ble_eq_true rfl)⟩ rfl rfl (Nat.le_of_ble_eq_true rfl) ⟨(Nat.le_of_ble_eq_true rfl), (Nat.le_of_ble_eq_true rfl)⟩ rfl rfl md_M_evaluate_19 (fun v8 s7 => ?_)
    refine sp_if_ne (pc := 22) hX 32 (by decide) md_M_evaluate_22 (fun _ => ?_) (fun _ => ?_)
    · refine sp_sub [0] (L' := [(0, Value.ref x0)]) rfl ?_
      exact sj_M_evaluate_25 hX hR x0 s7
    · refine sp_aload_n (pc := 32) (k := 0) (i := 0) hX rfl 0 rfl md_M_evaluate_32 ?_
      refine sp_iload_n (pc := 33) (k := 1) (i := 1) hX rfl 1 rfl md_M_evaluate_33 ?_
      refine sp_iload_n (pc := 34) (k := 2) (i := 2) hX rfl 2 rfl md_M_evaluate_34 ?_
      refine sp_iload_n (pc := 35) (k := 3) (i := 3) hX rfl 3 rfl md_M_evaluate_35 ?_
      refine sp_callVV (pc := 36) (y := my_M_approximate) (ccy := prog_14_method_45_code) (nLy := 7) (ret := none) (rmy := mr_M_approximate) (n := 3) (idx := 183) (As := [.int (iI x1), .int (iI x2), .int (iI x3)]) (st := []) (o := x0) (cells' := 0) (slots' := 0) hX (fun _ h => mc_M_approximate h) mk_M_approximate mv_M_approximate mcl_10 (fun _ h => pw_gd_of h) mq_992 ⟨(Nat.le_of_ble_eq_true rfl), (Nat.le_of_ble_eq_true rfl)⟩ rfl rfl (Nat.le_of_ble_eq_true rfl) ⟨(Nat.le_of_ble_eq_true rfl), (Nat.le_of_ble_eq_true rfl)⟩ rfl rfl md_M_evaluate_36 (fun s9 => ?_)
      refine sp_aload_n (pc := 39) (k := 0) (i := 0) hX rfl 0 rfl md_M_evaluate_39 ?_
      refine sp_aload_n (pc := 40) (k := 0) (i := 0) hX rfl 0 rfl md_M_evaluate_40 ?_
      refine sp_getR (pc := 41) (ci := 10) (k := 14) (idx := 43) hX mcl_10 (by decide) mq_813 rfl md_M_evaluate_41 (fun v10 => ?_)
      refine sp_iload (pc := 44) (i := 4) hX 4 rfl md_M_evaluate_44 ?_
      refine sp_callVI (pc := 46) (y := my_M_valueAt) (ccy := prog_14_method_43_code) (nLy := 5) (ret := (some .int)) (rmy := mr_M_valueAt) (n := 2) (idx := 192) (As := [.ref v10, .int (iI x4)]) (st := []) (o := x0) (cells' := 0) (slots' := 0) hX (fun _ h => mc_M_valueAt h) mk_M_valueAt mv_M_valueAt mcl_10 (fun _ h => pw_gd_of h) mq_1066 ⟨(Nat.le_of_ble_eq_true rfl), (Nat.le_of_ble_eq_true rfl)⟩ rfl rfl (Nat.le_of_ble_eq_true rfl) ⟨(Nat.le_of_ble_eq_true rfl), (Nat.le_of_ble_eq_true rfl)⟩ rfl rfl md_M_evaluate_46 (fun v12 s11 => ?_)
      refine sp_istore (pc := 49) (i := 5) (L' := [(5, Value.int (iI v12)), (0, Value.ref x0), (1, Value.int (iI x1)), (2, Value.int (iI x2)), (3, Value.int (iI x3)), (4, Value.int (iI x4))]) hX (by decide) rfl md_M_evaluate_49 ?_
      refine sp_iload (pc := 51) (i := 5) hX 0 rfl md_M_evaluate_51 ?_
      refine sp_if_ne (pc := 53) hX 60 (by decide) md_M_evaluate_53 (fun _ => ?_) (fun _ => ?_)
      · refine sp_iconst (pc := 56) hX md_M_evaluate_56 ?_
        refine sp_goto (pc := 57) hX 81 (by decide) md_M_evaluate_57 ?_
        exact sp_iret (pc := 81) hX hR rfl (Nat.le_of_ble_eq_true rfl) md_M_evaluate_81
      · refine sp_aload_n (pc := 60) (k := 0) (i := 0) hX rfl 1 rfl md_M_evaluate_60 ?_
        refine sp_aload_n (pc := 61) (k := 0) (i := 0) hX rfl 1 rfl md_M_evaluate_61 ?_
        refine sp_aload_n (pc := 62) (k := 0) (i := 0) hX rfl 1 rfl md_M_evaluate_62 ?_
        refine sp_getR (pc := 63) (ci := 10) (k := 13) (idx := 40) hX mcl_10 (by decide) mq_812 rfl md_M_evaluate_63 (fun v13 => ?_)
        refine sp_iload (pc := 66) (i := 4) hX 5 rfl md_M_evaluate_66 ?_
        refine sp_callVI (pc := 68) (y := my_M_valueAt) (ccy := prog_14_method_43_code) (nLy := 5) (ret := (some .int)) (rmy := mr_M_valueAt) (n := 2) (idx := 192) (As := [.ref v13, .int (iI x4)]) (st := [.ref x0]) (o := x0) (cells' := 0) (slots' := 0) hX (fun _ h => mc_M_valueAt h) mk_M_valueAt mv_M_valueAt mcl_10 (fun _ h => pw_gd_of h) mq_1066 ⟨(Nat.le_of_ble_eq_true rfl), (Nat.le_of_ble_eq_true rfl)⟩ rfl rfl (Nat.le_of_ble_eq_true rfl) ⟨(Nat.le_of_ble_eq_true rfl), (Nat.le_of_ble_eq_true rfl)⟩ rfl rfl md_M_evaluate_68 (fun v15 s14 => ?_)
        refine sp_aload_n (pc := 71) (k := 0) (i := 0) hX rfl 1 rfl md_M_evaluate_71 ?_
        refine sp_iload (pc := 72) (i := 5) hX 0 rfl md_M_evaluate_72 ?_
        refine sp_callVI (pc := 74) (y := my_M_inverse) (ccy := prog_14_method_6_code) (nLy := 4) (ret := (some .int)) (rmy := mr_M_inverse) (n := 1) (idx := 94) (As := [.int (iI v12)]) (st := [.int (iI v15), .ref x0]) (o := x0) (cells' := 0) (slots' := 0) hX (fun _ h => mc_M_inverse h) mk_M_inverse mv_M_inverse mcl_10 (fun _ h => pw_gd_of h) mq_932 ⟨(Nat.le_of_ble_eq_true rfl), (Nat.le_of_ble_eq_true rfl)⟩ rfl rfl (Nat.le_of_ble_eq_true rfl) ⟨(Nat.le_of_ble_eq_true rfl), (Nat.le_of_ble_eq_true rfl)⟩ rfl rfl md_M_evaluate_74 (fun v17 s16 => ?_)
        refine sp_imul (pc := 77) hX md_M_evaluate_77 ?_
        refine sp_callVI (pc := 78) (y := my_M_mod) (ccy := prog_14_method_5_code) (nLy := 3) (ret := (some .int)) (rmy := mr_M_mod) (n := 1) (idx := 91) (As := [.int (iI (v15 * v17))]) (st := []) (o := x0) (cells' := 0) (slots' := 0) hX (fun _ h => mc_M_mod h) mk_M_mod mv_M_mod mcl_10 (fun _ h => pw_gd_of h) mq_901 ⟨(Nat.le_of_ble_eq_true rfl), (Nat.le_of_ble_eq_true rfl)⟩ rfl rfl (Nat.le_of_ble_eq_true rfl) ⟨(Nat.le_of_ble_eq_true rfl), (Nat.le_of_ble_eq_true rfl)⟩ rfl rfl md_M_evaluate_78 (fun v19 s18 => ?_)
        exact sp_iret (pc := 81) hX hR rfl (Nat.le_of_ble_eq_true rfl) md_M_evaluate_81
/-! PadeWorkbenchModel.normals(II)I -/
theorem md_M_normals_0 : decode prog_14_method_56_code 0 = .ok (.iconst 0, 1) := by decide +kernel
theorem md_M_normals_1 : decode prog_14_method_56_code 1 = .ok (.istore_n 3, 1) := by decide +kernel
theorem md_M_normals_2 : decode prog_14_method_56_code 2 = .ok (.iconst 0, 1) := by decide +kernel
theorem md_M_normals_3 : decode prog_14_method_56_code 3 = .ok (.istore 4, 2) := by decide +kernel
theorem md_M_normals_5 : decode prog_14_method_56_code 5 = .ok (.iload 4, 2) := by decide +kernel
theorem md_M_normals_7 : decode prog_14_method_56_code 7 = .ok (.iload_n 2, 1) := by decide +kernel
theorem md_M_normals_8 : decode prog_14_method_56_code 8 = .ok (.if_icmp .gt 46, 3) := by decide +kernel
theorem md_M_normals_54 : decode prog_14_method_56_code 54 = .ok (.iload_n 3, 1) := by decide +kernel
theorem md_M_normals_55 : decode prog_14_method_56_code 55 = .ok (.ireturn, 1) := by decide +kernel
theorem md_M_normals_11 : decode prog_14_method_56_code 11 = .ok (.aload_n 0, 1) := by decide +kernel
theorem md_M_normals_12 : decode prog_14_method_56_code 12 = .ok (.iload_n 1, 1) := by decide +kernel
theorem md_M_normals_13 : decode prog_14_method_56_code 13 = .ok (.iload 4, 2) := by decide +kernel
theorem md_M_normals_15 : decode prog_14_method_56_code 15 = .ok (.iload_n 2, 1) := by decide +kernel
theorem md_M_normals_16 : decode prog_14_method_56_code 16 = .ok (.iload 4, 2) := by decide +kernel
theorem md_M_normals_18 : decode prog_14_method_56_code 18 = .ok (.isub, 1) := by decide +kernel
theorem md_M_normals_19 : decode prog_14_method_56_code 19 = .ok (.invokevirtual 183, 3) := by decide +kernel
theorem md_M_normals_22 : decode prog_14_method_56_code 22 = .ok (.iload_n 3, 1) := by decide +kernel
theorem md_M_normals_23 : decode prog_14_method_56_code 23 = .ok (.aload_n 0, 1) := by decide +kernel
theorem md_M_normals_24 : decode prog_14_method_56_code 24 = .ok (.getfield 40, 3) := by decide +kernel
theorem md_M_normals_27 : decode prog_14_method_56_code 27 = .ok (.invokestatic 159, 3) := by decide +kernel
theorem md_M_normals_30 : decode prog_14_method_56_code 30 = .ok (.ifCond .lt 15, 3) := by decide +kernel
theorem md_M_normals_45 : decode prog_14_method_56_code 45 = .ok (.iconst 0, 1) := by decide +kernel
theorem md_M_normals_46 : decode prog_14_method_56_code 46 = .ok (.iadd, 1) := by decide +kernel
theorem md_M_normals_47 : decode prog_14_method_56_code 47 = .ok (.istore_n 3, 1) := by decide +kernel
theorem md_M_normals_48 : decode prog_14_method_56_code 48 = .ok (.iinc 4 1, 3) := by decide +kernel
theorem md_M_normals_51 : decode prog_14_method_56_code 51 = .ok (.goto (-46), 3) := by decide +kernel
theorem md_M_normals_33 : decode prog_14_method_56_code 33 = .ok (.aload_n 0, 1) := by decide +kernel
theorem md_M_normals_34 : decode prog_14_method_56_code 34 = .ok (.iload_n 1, 1) := by decide +kernel
theorem md_M_normals_35 : decode prog_14_method_56_code 35 = .ok (.invokevirtual 189, 3) := by decide +kernel
theorem md_M_normals_38 : decode prog_14_method_56_code 38 = .ok (.ifCond .ne 7, 3) := by decide +kernel
theorem md_M_normals_41 : decode prog_14_method_56_code 41 = .ok (.iconst 1, 1) := by decide +kernel
theorem md_M_normals_42 : decode prog_14_method_56_code 42 = .ok (.goto 4, 3) := by decide +kernel
def mj_M_normals_46 (r5 : Nat → Int → Int → Int → Int → pw_Sto → Option (Int × pw_Sto)) (x0 : Nat) (x1 : Int) (x2 : Int) (x4 : Int) (y0 : Int) (y1 : Int) (σ : pw_Sto) : Option (Int × pw_Sto) := r5 x0 x1 x2 (y1 + y0) (x4 + 1) σ
def mj_M_normals_45 (r5 : Nat → Int → Int → Int → Int → pw_Sto → Option (Int × pw_Sto)) (x0 : Nat) (x1 : Int) (x2 : Int) (x4 : Int) (y0 : Int) (σ : pw_Sto) : Option (Int × pw_Sto) := mj_M_normals_46 r5 x0 x1 x2 x4 (0 : Int) y0 σ
def mb_M_normals_5 (rc : Nat → Int → Int → Int → Int → pw_Sto → Option (Int × pw_Sto)) : Nat → Int → Int → Int → Int → pw_Sto → Option (Int × pw_Sto) := fun x0 x1 x2 x3 x4 σ => pw_ck x4 x2 (if x2 < x4 then some (x3, σ) else pw_bd (mf_M_approximate x0 x1 x4 (x2 - x4) σ) (fun _ s1 => (pw_gr 10 x0 13 s1).bind (fun v2 => pw_bd (mf_M_degree v2 s1) (fun v4 s3 => pw_ck v4 0 (if v4 < 0 then mj_M_normals_45 rc x0 x1 x2 x4 x3 s3 else pw_bd (mf_M_sizeOf x0 x1 s3) (fun v6 s5 => pw_ck v6 0 (if v6 = 0 then mj_M_normals_46 rc x0 x1 x2 x4 (1 : Int) x3 s5 else mj_M_normals_45 rc x0 x1 x2 x4 x3 s5)))))))
def ml_M_normals_5 : Nat → Nat → Int → Int → Int → Int → pw_Sto → Option (Int × pw_Sto) := pw_lp (fun _ _ _ _ _ _ => none) (mb_M_normals_5)
def mf_M_normals (x0 : Nat) (x1 : Int) (x2 : Int) (σ : pw_Sto) : Option (Int × pw_Sto) := pw_gd 10 x0 σ (ml_M_normals_5 1000 x0 x1 x2 (0 : Int) (0 : Int) σ)
set_option maxHeartbeats 4000000 in
set_option maxRecDepth 20000 in
theorem sj_M_normals_46 {X : pw_X Int} (hX : pw_Ok X prog_14_method_56_code "PadeWorkbenchModel" mr_M_normals 5) (hR : pw_RI X prog_14_method_56_code) {r5 : Nat → Int → Int → Int → Int → pw_Sto → Option (Int × pw_Sto)} (h5 : ∀ (z0 : Nat) (z1 : Int) (z2 : Int) (z3 : Int) (z4 : Int) (σ : pw_Sto), pw_Sp X 0 0 5 [(0, Value.ref z0), (1, Value.int (iI z1)), (2, Value.int (iI z2)), (3, Value.int (iI z3)), (4, Value.int (iI z4))] [] σ (r5 z0 z1 z2 z3 z4 σ)) (x0 : Nat) (x1 : Int) (x2 : Int) (x4 : Int) (y0 : Int) (y1 : Int) (σ : pw_Sto) : pw_Sp X 0 0 46 [(0, Value.ref x0), (1, Value.int (iI x1)), (2, Value.int (iI x2)), (4, Value.int (iI x4))] [Value.int (iI y0), Value.int (iI y1)] σ (mj_M_normals_46 r5 x0 x1 x2 x4 y0 y1 σ) := by
  unfold mj_M_normals_46
  refine sp_iadd (pc := 46) hX md_M_normals_46 ?_
  refine sp_istore_n (pc := 47) (k := 3) (i := 3) (L' := [(3, Value.int (iI (y1 + y0))), (0, Value.ref x0), (1, Value.int (iI x1)), (2, Value.int (iI x2)), (4, Value.int (iI x4))]) hX rfl (by decide) rfl md_M_normals_47 ?_
  refine sp_iinc (pc := 48) (i := 4) (L' := [(4, Value.int (iI (x4 + 1))), (3, Value.int (iI (y1 + y0))), (0, Value.ref x0), (1, Value.int (iI x1)), (2, Value.int (iI x2))]) hX 4 rfl (by decide) rfl md_M_normals_48 ?_
  refine sp_goto (pc := 51) hX 5 (by decide) md_M_normals_51 ?_
  refine sp_sub [2, 3, 4, 1, 0] (L' := [(0, Value.ref x0), (1, Value.int (iI x1)), (2, Value.int (iI x2)), (3, Value.int (iI (y1 + y0))), (4, Value.int (iI (x4 + 1)))]) rfl ?_
  exact h5 x0 x1 x2 (y1 + y0) (x4 + 1) σ
set_option maxHeartbeats 4000000 in
set_option maxRecDepth 20000 in
theorem sj_M_normals_45 {X : pw_X Int} (hX : pw_Ok X prog_14_method_56_code "PadeWorkbenchModel" mr_M_normals 5) (hR : pw_RI X prog_14_method_56_code) {r5 : Nat → Int → Int → Int → Int → pw_Sto → Option (Int × pw_Sto)} (h5 : ∀ (z0 : Nat) (z1 : Int) (z2 : Int) (z3 : Int) (z4 : Int) (σ : pw_Sto), pw_Sp X 0 0 5 [(0, Value.ref z0), (1, Value.int (iI z1)), (2, Value.int (iI z2)), (3, Value.int (iI z3)), (4, Value.int (iI z4))] [] σ (r5 z0 z1 z2 z3 z4 σ)) (x0 : Nat) (x1 : Int) (x2 : Int) (x4 : Int) (y0 : Int) (σ : pw_Sto) : pw_Sp X 0 0 45 [(0, Value.ref x0), (1, Value.int (iI x1)), (2, Value.int (iI x2)), (4, Value.int (iI x4))] [Value.int (iI y0)] σ (mj_M_normals_45 r5 x0 x1 x2 x4 y0 σ) := by
  unfold mj_M_normals_45
  refine sp_iconst (pc := 45) hX md_M_normals_45 ?_
  exact sj_M_normals_46 hX hR h5 x0 x1 x2 x4 (0 : Int) y0 σ
set_option maxHeartbeats 4000000 in
set_option maxRecDepth 20000 in
theorem sl_M_normals_5 {X : pw_X Int} (hX : pw_Ok X prog_14_method_56_code "PadeWorkbenchModel" mr_M_normals 5) (hR : pw_RI X prog_14_method_56_code) : ∀ (n : Nat) (x0 : Nat) (x1 : Int) (x2 : Int) (x3 : Int) (x4 : Int) (σ : pw_Sto), pw_Sp X 0 0 5 [(0, Value.ref x0), (1, Value.int (iI x1)), (2, Value.int (iI x2)), (3, Value.int (iI x3)), (4, Value.int (iI x4))] [] σ (ml_M_normals_5 n x0 x1 x2 x3 x4 σ) := by
  intro n
  induction n with
  | zero => intros; exact pw_none
  | succ n ih =>
    intro x0 x1 x2 x3 x4 σ
    show pw_Sp X 0 0 5 _ _ σ (mb_M_normals_5 (ml_M_normals_5 n) x0 x1 x2 x3 x4 σ)
    unfold mb_M_normals_5
    refine sp_iload (pc := 5) (i := 4) hX 4 rfl md_M_normals_5 ?_
    refine sp_iload_n (pc := 7) (k := 2) (i := 2) hX rfl 2 rfl md_M_normals_7 ?_
    refine sp_icmp_gt (pc := 8) hX 54 (by decide) md_M_normals_8 (fun _ => ?_) (fun _ => ?_)
    · refine sp_iload_n (pc := 54) (k := 3) (i := 3) hX rfl 3 rfl md_M_normals_54 ?_
      exact sp_iret (pc := 55) hX hR rfl (Nat.le_of_ble_eq_true rfl) md_M_normals_55
    · refine sp_aload_n (pc := 11) (k := 0) (i := 0) hX rfl 0 rfl md_M_normals_11 ?_
      refine sp_iload_n (pc := 12) (k := 1) (i := 1) hX rfl 1 rfl md_M_normals_12 ?_
      refine sp_iload (pc := 13) (i := 4) hX 4 rfl md_M_normals_13 ?_
      refine sp_iload_n (pc := 15) (k := 2) (i := 2) hX rfl 2 rfl md_M_normals_15 ?_
      refine sp_iload (pc := 16) (i := 4) hX 4 rfl md_M_normals_16 ?_
      refine sp_isub (pc := 18) hX md_M_normals_18 ?_
      refine sp_callVV (pc := 19) (y := my_M_approximate) (ccy := prog_14_method_45_code) (nLy := 7) (ret := none) (rmy := mr_M_approximate) (n := 3) (idx := 183) (As := [.int (iI x1), .int (iI x4), .int (iI (x2 - x4))]) (st := []) (o := x0) (cells' := 0) (slots' := 0) hX (fun _ h => mc_M_approximate h) mk_M_approximate mv_M_approximate mcl_10 (fun _ h => pw_gd_of h) mq_992 ⟨(Nat.le_of_ble_eq_true rfl), (Nat.le_of_ble_eq_true rfl)⟩ rfl rfl (Nat.le_of_ble_eq_true rfl) ⟨(Nat.le_of_ble_eq_true rfl), (Nat.le_of_ble_eq_true rfl)⟩ rfl rfl md_M_normals_19 (fun s1 => ?_)
      refine sp_iload_n (pc := 22) (k := 3) (i := 3) hX rfl 3 rfl md_M_normals_22 ?_
      refine sp_aload_n (pc := 23) (k := 0) (i := 0) hX rfl 0 rfl md_M_normals_23 ?_
      refine sp_getR (pc := 24) (ci := 10) (k := 13) (idx := 40) hX mcl_10 (by decide) mq_812 rfl md_M_normals_24 (fun v2 => ?_)
      refine sp_callSI (pc := 27) (y := my_M_degree) (ccy := prog_14_method_39_code) (nLy := 3) (ret := (some .int)) (rmy := mr_M_degree) (n := 1) (idx := 159) (As := [.ref v2]) (st := [.int (iI x3)]) (cells' := 0) (slots' := 0) hX (fun _ h => mc_M_degree h) mk_M_degree mq_1021 mq_1020 ⟨(Nat.le_of_ble_eq_true rfl), (Nat.le_of_ble_eq_true rfl)⟩ rfl rfl (Nat.le_of_ble_eq_true rfl) ⟨(Nat.le_of_ble_eq_true rfl), (Nat.le_of_ble_eq_true rfl)⟩ rfl rfl md_M_normals_27 (fun v4 s3 => ?_)
      refine sp_if_lt (pc := 30) hX 45 (by decide) md_M_normals_30 (fun _ => ?_) (fun _ => ?_)
      · refine sp_sub [0, 1, 2, 4] (L' := [(0, Value.ref x0), (1, Value.int (iI x1)), (2, Value.int (iI x2)), (4, Value.int (iI x4))]) rfl ?_
        exact sj_M_normals_45 hX hR ih x0 x1 x2 x4 x3 s3
      · refine sp_aload_n (pc := 33) (k := 0) (i := 0) hX rfl 0 rfl md_M_normals_33 ?_
        refine sp_iload_n (pc := 34) (k := 1) (i := 1) hX rfl 1 rfl md_M_normals_34 ?_
        refine sp_callVI (pc := 35) (y := my_M_sizeOf) (ccy := prog_14_method_47_code) (nLy := 2) (ret := (some .int)) (rmy := mr_M_sizeOf) (n := 1) (idx := 189) (As := [.int (iI x1)]) (st := [.int (iI x3)]) (o := x0) (cells' := 0) (slots' := 0) hX (fun _ h => mc_M_sizeOf h) mk_M_sizeOf mv_M_sizeOf mcl_10 (fun _ h => pw_gd_of h) mq_1058 ⟨(Nat.le_of_ble_eq_true rfl), (Nat.le_of_ble_eq_true rfl)⟩ rfl rfl (Nat.le_of_ble_eq_true rfl) ⟨(Nat.le_of_ble_eq_true rfl), (Nat.le_of_ble_eq_true rfl)⟩ rfl rfl md_M_normals_35 (fun v6 s5 => ?_)
        refine sp_if_ne (pc := 38) hX 45 (by decide) md_M_normals_38 (fun _ => ?_) (fun _ => ?_)
        · refine sp_iconst (pc := 41) hX md_M_normals_41 ?_
          refine sp_goto (pc := 42) hX 46 (by decide) md_M_normals_42 ?_
          refine sp_sub [0, 1, 2, 4] (L' := [(0, Value.ref x0), (1, Value.int (iI x1)), (2, Value.int (iI x2)), (4, Value.int (iI x4))]) rfl ?_
          exact sj_M_normals_46 hX hR ih x0 x1 x2 x4 (1 : Int) x3 s5
        · refine sp_sub [0, 1, 2, 4] (L' := [(0, Value.ref x0), (1, Value.int (iI x1)), (2, Value.int (iI x2)), (4, Value.int (iI x4))]) rfl ?_
          exact sj_M_normals_45 hX hR ih x0 x1 x2 x4 x3 s5
set_option maxHeartbeats 4000000 in
set_option maxRecDepth 20000 in
theorem mc_M_normals {l : Launch} {E : pw_E} {σ : pw_Sto} {x0 : Nat} {x1 : Int} {x2 : Int} {out : Int × pw_Sto} (h : mf_M_normals x0 x1 x2 σ = some out) : pw_CI l E my_M_normals prog_14_method_56_code 5 (some .int) mr_M_normals [.ref x0, .int (iI x1), .int (iI x2)] σ out := by
  unfold mf_M_normals at h
  refine pw_entryI (by decide) (Nat.le_of_ble_eq_true rfl) (pw_gd_val h) (fun X hX hR hI => ?_)
  change pw_Ok X prog_14_method_56_code "PadeWorkbenchModel" mr_M_normals 5 at hX
  show pw_Sp X 0 0 0 [(0, Value.ref x0), (1, Value.int (iI x1)), (2, Value.int (iI x2))] [] σ _
  refine sp_iconst (pc := 0) hX md_M_normals_0 ?_
  refine sp_istore_n (pc := 1) (k := 3) (i := 3) (L' := [(3, Value.int (iI (0 : Int))), (0, Value.ref x0), (1, Value.int (iI x1)), (2, Value.int (iI x2))]) hX rfl (by decide) rfl md_M_normals_1 ?_
  refine sp_iconst (pc := 2) hX md_M_normals_2 ?_
  refine sp_istore (pc := 3) (i := 4) (L' := [(4, Value.int (iI (0 : Int))), (3, Value.int (iI (0 : Int))), (0, Value.ref x0), (1, Value.int (iI x1)), (2, Value.int (iI x2))]) hX (by decide) rfl md_M_normals_3 ?_
  refine sp_sub [2, 3, 4, 1, 0] (L' := [(0, Value.ref x0), (1, Value.int (iI x1)), (2, Value.int (iI x2)), (3, Value.int (iI (0 : Int))), (4, Value.int (iI (0 : Int)))]) rfl ?_
  exact sl_M_normals_5 hX hR 1000 x0 x1 x2 (0 : Int) (0 : Int) σ
/-! PadeWorkbenchModel.normalCount(II)I -/
theorem md_M_normalCount_0 : decode prog_14_method_57_code 0 = .ok (.iload_n 1, 1) := by decide +kernel
theorem md_M_normalCount_1 : decode prog_14_method_57_code 1 = .ok (.invokestatic 84, 3) := by decide +kernel
theorem md_M_normalCount_4 : decode prog_14_method_57_code 4 = .ok (.ifCond .eq 22, 3) := by decide +kernel
theorem md_M_normalCount_26 : decode prog_14_method_57_code 26 = .ok (.aload_n 0, 1) := by decide +kernel
theorem md_M_normalCount_27 : decode prog_14_method_57_code 27 = .ok (.bipush (-2), 2) := by decide +kernel
theorem md_M_normalCount_29 : decode prog_14_method_57_code 29 = .ok (.invokevirtual 77, 3) := by decide +kernel
theorem md_M_normalCount_32 : decode prog_14_method_57_code 32 = .ok (.ireturn, 1) := by decide +kernel
theorem md_M_normalCount_7 : decode prog_14_method_57_code 7 = .ok (.iload_n 2, 1) := by decide +kernel
theorem md_M_normalCount_8 : decode prog_14_method_57_code 8 = .ok (.iconst 0, 1) := by decide +kernel
theorem md_M_normalCount_9 : decode prog_14_method_57_code 9 = .ok (.bipush 15, 2) := by decide +kernel
theorem md_M_normalCount_11 : decode prog_14_method_57_code 11 = .ok (.invokestatic 65, 3) := by decide +kernel
theorem md_M_normalCount_14 : decode prog_14_method_57_code 14 = .ok (.ifCond .eq 12, 3) := by decide +kernel
theorem md_M_normalCount_17 : decode prog_14_method_57_code 17 = .ok (.aload_n 0, 1) := by decide +kernel
theorem md_M_normalCount_18 : decode prog_14_method_57_code 18 = .ok (.iload_n 1, 1) := by decide +kernel
theorem md_M_normalCount_19 : decode prog_14_method_57_code 19 = .ok (.iload_n 2, 1) := by decide +kernel
theorem md_M_normalCount_20 : decode prog_14_method_57_code 20 = .ok (.invokevirtual 196, 3) := by decide +kernel
theorem md_M_normalCount_23 : decode prog_14_method_57_code 23 = .ok (.goto 9, 3) := by decide +kernel
def mj_M_normalCount_26 (x0 : Nat) (σ : pw_Sto) : Option (Int × pw_Sto) := pw_bd (mf_M_fail x0 (-2 : Int) σ) (fun v4 s3 => some (v4, s3))
def mf_M_normalCount (x0 : Nat) (x1 : Int) (x2 : Int) (σ : pw_Sto) : Option (Int × pw_Sto) := pw_gd 10 x0 σ (pw_bd (mf_M_isSlot x1 σ) (fun v2 s1 => pw_ck v2 0 (if v2 = 0 then mj_M_normalCount_26 x0 s1 else pw_bd (mf_M_in x2 (0 : Int) (15 : Int) s1) (fun v6 s5 => pw_ck v6 0 (if v6 = 0 then mj_M_normalCount_26 x0 s5 else pw_bd (mf_M_normals x0 x1 x2 s5) (fun v8 s7 => some (v8, s7)))))))
set_option maxHeartbeats 4000000 in
set_option maxRecDepth 20000 in
theorem sj_M_normalCount_26 {X : pw_X Int} (hX : pw_Ok X prog_14_method_57_code "PadeWorkbenchModel" mr_M_normalCount 3) (hR : pw_RI X prog_14_method_57_code) (x0 : Nat) (σ : pw_Sto) : pw_Sp X 0 0 26 [(0, Value.ref x0)] [] σ (mj_M_normalCount_26 x0 σ) := by
  unfold mj_M_normalCount_26
  refine sp_aload_n (pc := 26) (k := 0) (i := 0) hX rfl 0 rfl md_M_normalCount_26 ?_
  refine sp_bipush (pc := 27) hX (by decide) md_M_normalCount_27 ?_
  refine sp_callVI (pc := 29) (y := my_M_fail) (ccy := prog_14_method_3_code) (nLy := 2) (ret := (some .int)) (rmy := mr_M_fail) (n := 1) (idx := 77) (As := [.int (iI (-2 : Int))]) (st := []) (o := x0) (cells' := 0) (slots' := 0) hX (fun _ h => mc_M_fail h) mk_M_fail mv_M_fail mcl_10 (fun _ h => pw_gd_of h) mq_870 ⟨(Nat.le_of_ble_eq_true rfl), (Nat.le_of_ble_eq_true rfl)⟩ rfl rfl (Nat.le_of_ble_eq_true rfl) ⟨(Nat.le_of_ble_eq_true rfl), (Nat.le_of_ble_eq_true rfl)⟩ rfl rfl md_M_normalCount_29 (fun v4 s3 => ?_)
  exact sp_iret (pc := 32) hX hR rfl (Nat.le_of_ble_eq_true rfl) md_M_normalCount_32
set_option maxHeartbeats 4000000 in
set_option maxRecDepth 20000 in
theorem mc_M_normalCount {l : Launch} {E : pw_E} {σ : pw_Sto} {x0 : Nat} {x1 : Int} {x2 : Int} {out : Int × pw_Sto} (h : mf_M_normalCount x0 x1 x2 σ = some out) : pw_CI l E my_M_normalCount prog_14_method_57_code 3 (some .int) mr_M_normalCount [.ref x0, .int (iI x1), .int (iI x2)] σ out := by
  unfold mf_M_normalCount at h
  refine pw_entryI (by decide) (Nat.le_of_ble_eq_true rfl) (pw_gd_val h) (fun X hX hR hI => ?_)
  change pw_Ok X prog_14_method_57_code "PadeWorkbenchModel" mr_M_normalCount 3 at hX
  show pw_Sp X 0 0 0 [(0, Value.ref x0), (1, Value.int (iI x1)), (2, Value.int (iI x2))] [] σ _
  refine sp_iload_n (pc := 0) (k := 1) (i := 1) hX rfl 1 rfl md_M_normalCount_0 ?_
  refine sp_callSI (pc := 1) (y := my_M_isSlot) (ccy := prog_14_method_8_code) (nLy := 1) (ret := (some .boolean)) (rmy := mr_M_isSlot) (n := 1) (idx := 84) (As := [.int (iI x1)]) (st := []) (cells' := 0) (slots' := 0) hX (fun _ h => mc_M_isSlot h) mk_M_isSlot mq_887 mq_886 ⟨(Nat.le_of_ble_eq_true rfl), (Nat.le_of_ble_eq_true rfl)⟩ rfl rfl (Nat.le_of_ble_eq_true rfl) ⟨(Nat.le_of_ble_eq_true rfl), (Nat.le_of_ble_eq_true rfl)⟩ rfl rfl md_M_normalCount_1 (fun v2 s1 => ?_)
  refine sp_if_eq (pc := 4) hX 26 (by decide) md_M_normalCount_4 (fun _ => ?_) (fun _ => ?_)
  · refine sp_sub [0] (L' := [(0, Value.ref x0)]) rfl ?_
    exact sj_M_normalCount_26 hX hR x0 s1
  · refine sp_iload_n (pc := 7) (k := 2) (i := 2) hX rfl 2 rfl md_M_normalCount_7 ?_
    refine sp_iconst (pc := 8) hX md_M_normalCount_8 ?_
    refine sp_bipush (pc := 9) hX (by decide) md_M_normalCount_9 ?_
    refine sp_callSI (pc := 11) (y := my_M_in) (ccy := prog_14_method_2_code) (nLy := 3) (ret := (some .boolean)) (rmy := mr_M_in) (n := 3) (idx := 65) (As := [.int (iI x2), .int (iI (0 : Int)), .int (iI (15 : Int))]) (st := []) (cells' := 0) (slots' := 0) hX (fun _ h => mc_M_in h) mk_M_in mq_868 mq_867 ⟨(Nat.le_of_ble_eq_true rfl), (Nat.le_of_ble_eq_true rfl)⟩ rfl rfl (Nat.le_of_ble_eq_true rfl) ⟨(Nat.le_of_ble_eq_true rfl), (Nat.le_of_ble_eq_true rfl)⟩ rfl rfl md_M_normalCount_11 (fun v6 s5 => ?_)
    refine sp_if_eq (pc := 14) hX 26 (by decide) md_M_normalCount_14 (fun _ => ?_) (fun _ => ?_)
    · refine sp_sub [0] (L' := [(0, Value.ref x0)]) rfl ?_
      exact sj_M_normalCount_26 hX hR x0 s5
    · refine sp_aload_n (pc := 17) (k := 0) (i := 0) hX rfl 0 rfl md_M_normalCount_17 ?_
      refine sp_iload_n (pc := 18) (k := 1) (i := 1) hX rfl 1 rfl md_M_normalCount_18 ?_
      refine sp_iload_n (pc := 19) (k := 2) (i := 2) hX rfl 2 rfl md_M_normalCount_19 ?_
      refine sp_callVI (pc := 20) (y := my_M_normals) (ccy := prog_14_method_56_code) (nLy := 5) (ret := (some .int)) (rmy := mr_M_normals) (n := 2) (idx := 196) (As := [.int (iI x1), .int (iI x2)]) (st := []) (o := x0) (cells' := 0) (slots' := 0) hX (fun _ h => mc_M_normals h) mk_M_normals mv_M_normals mcl_10 (fun _ h => pw_gd_of h) mq_1074 ⟨(Nat.le_of_ble_eq_true rfl), (Nat.le_of_ble_eq_true rfl)⟩ rfl rfl (Nat.le_of_ble_eq_true rfl) ⟨(Nat.le_of_ble_eq_true rfl), (Nat.le_of_ble_eq_true rfl)⟩ rfl rfl md_M_normalCount_20 (fun v8 s7 => ?_)
      refine sp_goto (pc := 23) hX 32 (by decide) md_M_normalCount_23 ?_
      exact sp_iret (pc := 32) hX hR rfl (Nat.le_of_ble_eq_true rfl) md_M_normalCount_32
/-! PadeWorkbenchModel.determinant(III)I -/
theorem md_M_determinant_0 : decode prog_14_method_58_code 0 = .ok (.iload_n 1, 1) := by decide +kernel
theorem md_M_determinant_1 : decode prog_14_method_58_code 1 = .ok (.invokestatic 84, 3) := by decide +kernel
theorem md_M_determinant_4 : decode prog_14_method_58_code 4 = .ok (.ifCond .eq 25, 3) := by decide +kernel
theorem md_M_determinant_29 : decode prog_14_method_58_code 29 = .ok (.aload_n 0, 1) := by decide +kernel
theorem md_M_determinant_30 : decode prog_14_method_58_code 30 = .ok (.bipush (-2), 2) := by decide +kernel
theorem md_M_determinant_32 : decode prog_14_method_58_code 32 = .ok (.invokevirtual 77, 3) := by decide +kernel
theorem md_M_determinant_35 : decode prog_14_method_58_code 35 = .ok (.ireturn, 1) := by decide +kernel
theorem md_M_determinant_7 : decode prog_14_method_58_code 7 = .ok (.iload_n 2, 1) := by decide +kernel
theorem md_M_determinant_8 : decode prog_14_method_58_code 8 = .ok (.iconst 0, 1) := by decide +kernel
theorem md_M_determinant_9 : decode prog_14_method_58_code 9 = .ok (.bipush 16, 2) := by decide +kernel
theorem md_M_determinant_11 : decode prog_14_method_58_code 11 = .ok (.invokestatic 65, 3) := by decide +kernel
theorem md_M_determinant_14 : decode prog_14_method_58_code 14 = .ok (.ifCond .eq 15, 3) := by decide +kernel
theorem md_M_determinant_17 : decode prog_14_method_58_code 17 = .ok (.iload_n 3, 1) := by decide +kernel
theorem md_M_determinant_18 : decode prog_14_method_58_code 18 = .ok (.iconst 0, 1) := by decide +kernel
theorem md_M_determinant_19 : decode prog_14_method_58_code 19 = .ok (.bipush 16, 2) := by decide +kernel
theorem md_M_determinant_21 : decode prog_14_method_58_code 21 = .ok (.iload_n 2, 1) := by decide +kernel
theorem md_M_determinant_22 : decode prog_14_method_58_code 22 = .ok (.isub, 1) := by decide +kernel
theorem md_M_determinant_23 : decode prog_14_method_58_code 23 = .ok (.invokestatic 65, 3) := by decide +kernel
theorem md_M_determinant_26 : decode prog_14_method_58_code 26 = .ok (.ifCond .ne 10, 3) := by decide +kernel
theorem md_M_determinant_36 : decode prog_14_method_58_code 36 = .ok (.aload_n 0, 1) := by decide +kernel
theorem md_M_determinant_37 : decode prog_14_method_58_code 37 = .ok (.getfield 31, 3) := by decide +kernel
theorem md_M_determinant_40 : decode prog_14_method_58_code 40 = .ok (.invokestatic 107, 3) := by decide +kernel
theorem md_M_determinant_43 : decode prog_14_method_58_code 43 = .ok (.iconst 0, 1) := by decide +kernel
theorem md_M_determinant_44 : decode prog_14_method_58_code 44 = .ok (.istore 4, 2) := by decide +kernel
theorem md_M_determinant_46 : decode prog_14_method_58_code 46 = .ok (.iload 4, 2) := by decide +kernel
theorem md_M_determinant_48 : decode prog_14_method_58_code 48 = .ok (.iload_n 3, 1) := by decide +kernel
theorem md_M_determinant_49 : decode prog_14_method_58_code 49 = .ok (.if_icmp .ge 63, 3) := by decide +kernel
theorem md_M_determinant_112 : decode prog_14_method_58_code 112 = .ok (.iconst 1, 1) := by decide +kernel
theorem md_M_determinant_113 : decode prog_14_method_58_code 113 = .ok (.istore 4, 2) := by decide +kernel
theorem md_M_determinant_115 : decode prog_14_method_58_code 115 = .ok (.iconst 0, 1) := by decide +kernel
theorem md_M_determinant_116 : decode prog_14_method_58_code 116 = .ok (.istore 5, 2) := by decide +kernel
theorem md_M_determinant_118 : decode prog_14_method_58_code 118 = .ok (.iload 5, 2) := by decide +kernel
theorem md_M_determinant_120 : decode prog_14_method_58_code 120 = .ok (.iload_n 3, 1) := by decide +kernel
theorem md_M_determinant_121 : decode prog_14_method_58_code 121 = .ok (.if_icmp .ge 133, 3) := by decide +kernel
theorem md_M_determinant_254 : decode prog_14_method_58_code 254 = .ok (.iload 4, 2) := by decide +kernel
theorem md_M_determinant_256 : decode prog_14_method_58_code 256 = .ok (.ireturn, 1) := by decide +kernel
theorem md_M_determinant_124 : decode prog_14_method_58_code 124 = .ok (.iload 4, 2) := by decide +kernel
theorem md_M_determinant_126 : decode prog_14_method_58_code 126 = .ok (.ifCond .eq 128, 3) := by decide +kernel
theorem md_M_determinant_129 : decode prog_14_method_58_code 129 = .ok (.aload_n 0, 1) := by decide +kernel
theorem md_M_determinant_130 : decode prog_14_method_58_code 130 = .ok (.iload 5, 2) := by decide +kernel
theorem md_M_determinant_132 : decode prog_14_method_58_code 132 = .ok (.iload_n 3, 1) := by decide +kernel
theorem md_M_determinant_133 : decode prog_14_method_58_code 133 = .ok (.iload 5, 2) := by decide +kernel
theorem md_M_determinant_135 : decode prog_14_method_58_code 135 = .ok (.invokevirtual 144, 3) := by decide +kernel
theorem md_M_determinant_138 : decode prog_14_method_58_code 138 = .ok (.istore 6, 2) := by decide +kernel
theorem md_M_determinant_140 : decode prog_14_method_58_code 140 = .ok (.iload 6, 2) := by decide +kernel
theorem md_M_determinant_142 : decode prog_14_method_58_code 142 = .ok (.ifCond .ge 9, 3) := by decide +kernel
theorem md_M_determinant_151 : decode prog_14_method_58_code 151 = .ok (.aload_n 0, 1) := by decide +kernel
theorem md_M_determinant_152 : decode prog_14_method_58_code 152 = .ok (.iload 5, 2) := by decide +kernel
theorem md_M_determinant_154 : decode prog_14_method_58_code 154 = .ok (.iload 6, 2) := by decide +kernel
theorem md_M_determinant_156 : decode prog_14_method_58_code 156 = .ok (.invokevirtual 148, 3) := by decide +kernel
theorem md_M_determinant_159 : decode prog_14_method_58_code 159 = .ok (.aload_n 0, 1) := by decide +kernel
theorem md_M_determinant_160 : decode prog_14_method_58_code 160 = .ok (.getfield 31, 3) := by decide +kernel
theorem md_M_determinant_163 : decode prog_14_method_58_code 163 = .ok (.bipush 18, 2) := by decide +kernel
theorem md_M_determinant_165 : decode prog_14_method_58_code 165 = .ok (.iload 5, 2) := by decide +kernel
theorem md_M_determinant_167 : decode prog_14_method_58_code 167 = .ok (.imul, 1) := by decide +kernel
theorem md_M_determinant_168 : decode prog_14_method_58_code 168 = .ok (.iload 5, 2) := by decide +kernel
theorem md_M_determinant_170 : decode prog_14_method_58_code 170 = .ok (.iadd, 1) := by decide +kernel
theorem md_M_determinant_171 : decode prog_14_method_58_code 171 = .ok (.iaload, 1) := by decide +kernel
theorem md_M_determinant_172 : decode prog_14_method_58_code 172 = .ok (.istore 7, 2) := by decide +kernel
theorem md_M_determinant_174 : decode prog_14_method_58_code 174 = .ok (.aload_n 0, 1) := by decide +kernel
theorem md_M_determinant_175 : decode prog_14_method_58_code 175 = .ok (.iload 4, 2) := by decide +kernel
theorem md_M_determinant_177 : decode prog_14_method_58_code 177 = .ok (.iload 6, 2) := by decide +kernel
theorem md_M_determinant_179 : decode prog_14_method_58_code 179 = .ok (.iload 5, 2) := by decide +kernel
theorem md_M_determinant_181 : decode prog_14_method_58_code 181 = .ok (.if_icmp .ne 8, 3) := by decide +kernel
theorem md_M_determinant_189 : decode prog_14_method_58_code 189 = .ok (.iload 7, 2) := by decide +kernel
theorem md_M_determinant_191 : decode prog_14_method_58_code 191 = .ok (.ineg, 1) := by decide +kernel
theorem md_M_determinant_192 : decode prog_14_method_58_code 192 = .ok (.imul, 1) := by decide +kernel
theorem md_M_determinant_193 : decode prog_14_method_58_code 193 = .ok (.invokevirtual 91, 3) := by decide +kernel
theorem md_M_determinant_196 : decode prog_14_method_58_code 196 = .ok (.istore 4, 2) := by decide +kernel
theorem md_M_determinant_198 : decode prog_14_method_58_code 198 = .ok (.iload 5, 2) := by decide +kernel
theorem md_M_determinant_200 : decode prog_14_method_58_code 200 = .ok (.iconst 1, 1) := by decide +kernel
theorem md_M_determinant_201 : decode prog_14_method_58_code 201 = .ok (.iadd, 1) := by decide +kernel
theorem md_M_determinant_202 : decode prog_14_method_58_code 202 = .ok (.istore 8, 2) := by decide +kernel
theorem md_M_determinant_204 : decode prog_14_method_58_code 204 = .ok (.iload 8, 2) := by decide +kernel
theorem md_M_determinant_206 : decode prog_14_method_58_code 206 = .ok (.iload_n 3, 1) := by decide +kernel
theorem md_M_determinant_207 : decode prog_14_method_58_code 207 = .ok (.if_icmp .ge 41, 3) := by decide +kernel
theorem md_M_determinant_248 : decode prog_14_method_58_code 248 = .ok (.iinc 5 1, 3) := by decide +kernel
theorem md_M_determinant_251 : decode prog_14_method_58_code 251 = .ok (.goto (-133), 3) := by decide +kernel
theorem md_M_determinant_210 : decode prog_14_method_58_code 210 = .ok (.aload_n 0, 1) := by decide +kernel
theorem md_M_determinant_211 : decode prog_14_method_58_code 211 = .ok (.iload 8, 2) := by decide +kernel
theorem md_M_determinant_213 : decode prog_14_method_58_code 213 = .ok (.iload 5, 2) := by decide +kernel
theorem md_M_determinant_215 : decode prog_14_method_58_code 215 = .ok (.aload_n 0, 1) := by decide +kernel
theorem md_M_determinant_216 : decode prog_14_method_58_code 216 = .ok (.aload_n 0, 1) := by decide +kernel
theorem md_M_determinant_217 : decode prog_14_method_58_code 217 = .ok (.getfield 31, 3) := by decide +kernel
theorem md_M_determinant_220 : decode prog_14_method_58_code 220 = .ok (.bipush 18, 2) := by decide +kernel
theorem md_M_determinant_222 : decode prog_14_method_58_code 222 = .ok (.iload 8, 2) := by decide +kernel
theorem md_M_determinant_224 : decode prog_14_method_58_code 224 = .ok (.imul, 1) := by decide +kernel
theorem md_M_determinant_225 : decode prog_14_method_58_code 225 = .ok (.iload 5, 2) := by decide +kernel
theorem md_M_determinant_227 : decode prog_14_method_58_code 227 = .ok (.iadd, 1) := by decide +kernel
theorem md_M_determinant_228 : decode prog_14_method_58_code 228 = .ok (.iaload, 1) := by decide +kernel
theorem md_M_determinant_229 : decode prog_14_method_58_code 229 = .ok (.aload_n 0, 1) := by decide +kernel
theorem md_M_determinant_230 : decode prog_14_method_58_code 230 = .ok (.iload 7, 2) := by decide +kernel
theorem md_M_determinant_232 : decode prog_14_method_58_code 232 = .ok (.invokevirtual 94, 3) := by decide +kernel
theorem md_M_determinant_235 : decode prog_14_method_58_code 235 = .ok (.imul, 1) := by decide +kernel
theorem md_M_determinant_236 : decode prog_14_method_58_code 236 = .ok (.invokevirtual 91, 3) := by decide +kernel
theorem md_M_determinant_239 : decode prog_14_method_58_code 239 = .ok (.invokevirtual 152, 3) := by decide +kernel
theorem md_M_determinant_242 : decode prog_14_method_58_code 242 = .ok (.iinc 8 1, 3) := by decide +kernel
theorem md_M_determinant_245 : decode prog_14_method_58_code 245 = .ok (.goto (-41), 3) := by decide +kernel
theorem md_M_determinant_184 : decode prog_14_method_58_code 184 = .ok (.iload 7, 2) := by decide +kernel
theorem md_M_determinant_186 : decode prog_14_method_58_code 186 = .ok (.goto 6, 3) := by decide +kernel
theorem md_M_determinant_145 : decode prog_14_method_58_code 145 = .ok (.iconst 0, 1) := by decide +kernel
theorem md_M_determinant_146 : decode prog_14_method_58_code 146 = .ok (.istore 4, 2) := by decide +kernel
theorem md_M_determinant_148 : decode prog_14_method_58_code 148 = .ok (.goto 100, 3) := by decide +kernel
theorem md_M_determinant_52 : decode prog_14_method_58_code 52 = .ok (.iconst 0, 1) := by decide +kernel
theorem md_M_determinant_53 : decode prog_14_method_58_code 53 = .ok (.istore 5, 2) := by decide +kernel
theorem md_M_determinant_55 : decode prog_14_method_58_code 55 = .ok (.iload 5, 2) := by decide +kernel
theorem md_M_determinant_57 : decode prog_14_method_58_code 57 = .ok (.iload_n 3, 1) := by decide +kernel
theorem md_M_determinant_58 : decode prog_14_method_58_code 58 = .ok (.if_icmp .ge 48, 3) := by decide +kernel
theorem md_M_determinant_106 : decode prog_14_method_58_code 106 = .ok (.iinc 4 1, 3) := by decide +kernel
theorem md_M_determinant_109 : decode prog_14_method_58_code 109 = .ok (.goto (-63), 3) := by decide +kernel
theorem md_M_determinant_61 : decode prog_14_method_58_code 61 = .ok (.aload_n 0, 1) := by decide +kernel
theorem md_M_determinant_62 : decode prog_14_method_58_code 62 = .ok (.getfield 31, 3) := by decide +kernel
theorem md_M_determinant_65 : decode prog_14_method_58_code 65 = .ok (.bipush 18, 2) := by decide +kernel
theorem md_M_determinant_67 : decode prog_14_method_58_code 67 = .ok (.iload 4, 2) := by decide +kernel
theorem md_M_determinant_69 : decode prog_14_method_58_code 69 = .ok (.imul, 1) := by decide +kernel
theorem md_M_determinant_70 : decode prog_14_method_58_code 70 = .ok (.iload 5, 2) := by decide +kernel
theorem md_M_determinant_72 : decode prog_14_method_58_code 72 = .ok (.iadd, 1) := by decide +kernel
theorem md_M_determinant_73 : decode prog_14_method_58_code 73 = .ok (.iload_n 2, 1) := by decide +kernel
theorem md_M_determinant_74 : decode prog_14_method_58_code 74 = .ok (.iload 4, 2) := by decide +kernel
theorem md_M_determinant_76 : decode prog_14_method_58_code 76 = .ok (.iadd, 1) := by decide +kernel
theorem md_M_determinant_77 : decode prog_14_method_58_code 77 = .ok (.iload 5, 2) := by decide +kernel
theorem md_M_determinant_79 : decode prog_14_method_58_code 79 = .ok (.isub, 1) := by decide +kernel
theorem md_M_determinant_80 : decode prog_14_method_58_code 80 = .ok (.ifCond .ge 7, 3) := by decide +kernel
theorem md_M_determinant_87 : decode prog_14_method_58_code 87 = .ok (.aload_n 0, 1) := by decide +kernel
theorem md_M_determinant_88 : decode prog_14_method_58_code 88 = .ok (.iload_n 1, 1) := by decide +kernel
theorem md_M_determinant_89 : decode prog_14_method_58_code 89 = .ok (.iload_n 2, 1) := by decide +kernel
theorem md_M_determinant_90 : decode prog_14_method_58_code 90 = .ok (.iload 4, 2) := by decide +kernel
theorem md_M_determinant_92 : decode prog_14_method_58_code 92 = .ok (.iadd, 1) := by decide +kernel
theorem md_M_determinant_93 : decode prog_14_method_58_code 93 = .ok (.iload 5, 2) := by decide +kernel
theorem md_M_determinant_95 : decode prog_14_method_58_code 95 = .ok (.isub, 1) := by decide +kernel
theorem md_M_determinant_96 : decode prog_14_method_58_code 96 = .ok (.invokevirtual 87, 3) := by decide +kernel
theorem md_M_determinant_99 : decode prog_14_method_58_code 99 = .ok (.iastore, 1) := by decide +kernel
theorem md_M_determinant_100 : decode prog_14_method_58_code 100 = .ok (.iinc 5 1, 3) := by decide +kernel
theorem md_M_determinant_103 : decode prog_14_method_58_code 103 = .ok (.goto (-48), 3) := by decide +kernel
theorem md_M_determinant_83 : decode prog_14_method_58_code 83 = .ok (.iconst 0, 1) := by decide +kernel
theorem md_M_determinant_84 : decode prog_14_method_58_code 84 = .ok (.goto 15, 3) := by decide +kernel
def mj_M_determinant_29 (x0 : Nat) (σ : pw_Sto) : Option (Int × pw_Sto) := pw_bd (mf_M_fail x0 (-2 : Int) σ) (fun v4 s3 => some (v4, s3))
def mb_M_determinant_204 (r118 : Nat → Int → Int → Int → pw_Sto → Option (Int × pw_Sto)) (rc : Nat → Int → Int → Int → Int → Int → pw_Sto → Option (Int × pw_Sto)) : Nat → Int → Int → Int → Int → Int → pw_Sto → Option (Int × pw_Sto) := fun x0 x3 x4 x5 x7 x8 σ => pw_ck x8 x3 (if x3 ≤ x8 then r118 x0 x3 x4 (x5 + 1) σ else (pw_gr 10 x0 10 σ).bind (fun v18 => (pw_ai v18 (((18 : Int) * x8) + x5) σ).bind (fun v19 => pw_bd (mf_M_inverse x0 x7 σ) (fun v21 s20 => pw_bd (mf_M_mod x0 (v19 * v21) s20) (fun v23 s22 => pw_bd (mf_M_lessRow x0 x8 x5 v23 s22) (fun _ s24 => rc x0 x3 x4 x5 x7 (x8 + 1) s24))))))
def ml_M_determinant_204 (r118 : Nat → Int → Int → Int → pw_Sto → Option (Int × pw_Sto)) : Nat → Nat → Int → Int → Int → Int → Int → pw_Sto → Option (Int × pw_Sto) := pw_lp (fun _ _ _ _ _ _ _ => none) (mb_M_determinant_204 r118)
def mj_M_determinant_192 (r118 : Nat → Int → Int → Int → pw_Sto → Option (Int × pw_Sto)) (x0 : Nat) (x3 : Int) (x5 : Int) (x7 : Int) (y0 : Int) (y1 : Int) (y2 : Nat) (σ : pw_Sto) : Option (Int × pw_Sto) := pw_bd (mf_M_mod y2 (y1 * y0) σ) (fun v17 s16 => ml_M_determinant_204 r118 1000 x0 x3 v17 x5 x7 (x5 + (1 : Int)) s16)
def mb_M_determinant_118 (rc : Nat → Int → Int → Int → pw_Sto → Option (Int × pw_Sto)) : Nat → Int → Int → Int → pw_Sto → Option (Int × pw_Sto) := fun x0 x3 x4 x5 σ => pw_ck x5 x3 (if x3 ≤ x5 then some (x4, σ) else pw_ck x4 0 (if x4 = 0 then some (x4, σ) else pw_bd (mf_M_rowWith x0 x5 x3 x5 σ) (fun v12 s11 => pw_ck v12 0 (if 0 ≤ v12 then pw_bd (mf_M_exchange x0 x5 v12 s11) (fun _ s13 => (pw_gr 10 x0 10 s13).bind (fun v14 => (pw_ai v14 (((18 : Int) * x5) + x5) s13).bind (fun v15 => pw_ck v12 x5 (if v12 = x5 then mj_M_determinant_192 rc x0 x3 x5 v15 v15 x4 x0 s13 else mj_M_determinant_192 rc x0 x3 x5 v15 (-v15) x4 x0 s13)))) else rc x0 x3 (0 : Int) (x5 + 1) s11))))
def ml_M_determinant_118 : Nat → Nat → Int → Int → Int → pw_Sto → Option (Int × pw_Sto) := pw_lp (fun _ _ _ _ _ => none) (mb_M_determinant_118)
def mb_M_determinant_55 (r46 : Nat → Int → Int → Int → Int → pw_Sto → Option (Int × pw_Sto)) (rc : Nat → Int → Int → Int → Int → Int → pw_Sto → Option (Int × pw_Sto)) : Nat → Int → Int → Int → Int → Int → pw_Sto → Option (Int × pw_Sto) := fun x0 x1 x2 x3 x4 x5 σ => pw_ck x5 x3 (if x3 ≤ x5 then r46 x0 x1 x2 x3 (x4 + 1) σ else (pw_gr 10 x0 10 σ).bind (fun v25 => pw_ck ((x2 + x4) - x5) 0 (if 0 ≤ ((x2 + x4) - x5) then pw_bd (mf_M_term x0 x1 ((x2 + x4) - x5) σ) (fun v27 s26 => (pw_si v25 (((18 : Int) * x4) + x5) v27 s26).bind (fun s28 => rc x0 x1 x2 x3 x4 (x5 + 1) s28)) else (pw_si v25 (((18 : Int) * x4) + x5) (0 : Int) σ).bind (fun s29 => rc x0 x1 x2 x3 x4 (x5 + 1) s29))))
def ml_M_determinant_55 (r46 : Nat → Int → Int → Int → Int → pw_Sto → Option (Int × pw_Sto)) : Nat → Nat → Int → Int → Int → Int → Int → pw_Sto → Option (Int × pw_Sto) := pw_lp (fun _ _ _ _ _ _ _ => none) (mb_M_determinant_55 r46)
def mb_M_determinant_46 (rc : Nat → Int → Int → Int → Int → pw_Sto → Option (Int × pw_Sto)) : Nat → Int → Int → Int → Int → pw_Sto → Option (Int × pw_Sto) := fun x0 x1 x2 x3 x4 σ => pw_ck x4 x3 (if x3 ≤ x4 then ml_M_determinant_118 1000 x0 x3 (1 : Int) (0 : Int) σ else ml_M_determinant_55 rc 1000 x0 x1 x2 x3 x4 (0 : Int) σ)
def ml_M_determinant_46 : Nat → Nat → Int → Int → Int → Int → pw_Sto → Option (Int × pw_Sto) := pw_lp (fun _ _ _ _ _ _ => none) (mb_M_determinant_46)
def mf_M_determinant (x0 : Nat) (x1 : Int) (x2 : Int) (x3 : Int) (σ : pw_Sto) : Option (Int × pw_Sto) := pw_gd 10 x0 σ (pw_bd (mf_M_isSlot x1 σ) (fun v2 s1 => pw_ck v2 0 (if v2 = 0 then mj_M_determinant_29 x0 s1 else pw_bd (mf_M_in x2 (0 : Int) (16 : Int) s1) (fun v6 s5 => pw_ck v6 0 (if v6 = 0 then mj_M_determinant_29 x0 s5 else pw_bd (mf_M_in x3 (0 : Int) ((16 : Int) - x2) s5) (fun v8 s7 => pw_ck v8 0 (if v8 = 0 then mj_M_determinant_29 x0 s7 else (pw_gr 10 x0 10 s7).bind (fun v9 => pw_bd (mf_M_clear v9 s7) (fun _ s10 => ml_M_determinant_46 1000 x0 x1 x2 x3 (0 : Int) s10)))))))))
set_option maxHeartbeats 4000000 in
set_option maxRecDepth 20000 in
theorem sj_M_determinant_29 {X : pw_X Int} (hX : pw_Ok X prog_14_method_58_code "PadeWorkbenchModel" mr_M_determinant 9) (hR : pw_RI X prog_14_method_58_code) (x0 : Nat) (σ : pw_Sto) : pw_Sp X 0 0 29 [(0, Value.ref x0)] [] σ (mj_M_determinant_29 x0 σ) := by
  unfold mj_M_determinant_29
  refine sp_aload_n (pc := 29) (k := 0) (i := 0) hX rfl 0 rfl md_M_determinant_29 ?_
  refine sp_bipush (pc := 30) hX (by decide) md_M_determinant_30 ?_
  refine sp_callVI (pc := 32) (y := my_M_fail) (ccy := prog_14_method_3_code) (nLy := 2) (ret := (some .int)) (rmy := mr_M_fail) (n := 1) (idx := 77) (As := [.int (iI (-2 : Int))]) (st := []) (o := x0) (cells' := 0) (slots' := 0) hX (fun _ h => mc_M_fail h) mk_M_fail mv_M_fail mcl_10 (fun _ h => pw_gd_of h) mq_870 ⟨(Nat.le_of_ble_eq_true rfl), (Nat.le_of_ble_eq_true rfl)⟩ rfl rfl (Nat.le_of_ble_eq_true rfl) ⟨(Nat.le_of_ble_eq_true rfl), (Nat.le_of_ble_eq_true rfl)⟩ rfl rfl md_M_determinant_32 (fun v4 s3 => ?_)
  exact sp_iret (pc := 35) hX hR rfl (Nat.le_of_ble_eq_true rfl) md_M_determinant_35
set_option maxHeartbeats 4000000 in
set_option maxRecDepth 20000 in
theorem sl_M_determinant_204 {X : pw_X Int} (hX : pw_Ok X prog_14_method_58_code "PadeWorkbenchModel" mr_M_determinant 9) (hR : pw_RI X prog_14_method_58_code) {r118 : Nat → Int → Int → Int → pw_Sto → Option (Int × pw_Sto)} (h118 : ∀ (z0 : Nat) (z1 : Int) (z2 : Int) (z3 : Int) (σ : pw_Sto), pw_Sp X 0 0 118 [(0, Value.ref z0), (3, Value.int (iI z1)), (4, Value.int (iI z2)), (5, Value.int (iI z3))] [] σ (r118 z0 z1 z2 z3 σ)) : ∀ (n : Nat) (x0 : Nat) (x3 : Int) (x4 : Int) (x5 : Int) (x7 : Int) (x8 : Int) (σ : pw_Sto), pw_Sp X 0 0 204 [(0, Value.ref x0), (3, Value.int (iI x3)), (4, Value.int (iI x4)), (5, Value.int (iI x5)), (7, Value.int (iI x7)), (8, Value.int (iI x8))] [] σ (ml_M_determinant_204 r118 n x0 x3 x4 x5 x7 x8 σ) := by
  intro n
  induction n with
  | zero => intros; exact pw_none
  | succ n ih =>
    intro x0 x3 x4 x5 x7 x8 σ
    show pw_Sp X 0 0 204 _ _ σ (mb_M_determinant_204 r118 (ml_M_determinant_204 r118 n) x0 x3 x4 x5 x7 x8 σ)
    unfold mb_M_determinant_204
    refine sp_iload (pc := 204) (i := 8) hX 5 rfl md_M_determinant_204 ?_
    refine sp_iload_n (pc := 206) (k := 3) (i := 3) hX rfl 1 rfl md_M_determinant_206 ?_
    refine sp_icmp_ge (pc := 207) hX 248 (by decide) md_M_determinant_207 (fun _ => ?_) (fun _ => ?_)
    · refine sp_iinc (pc := 248) (i := 5) (L' := [(5, Value.int (iI (x5 + 1))), (0, Value.ref x0), (3, Value.int (iI x3)), (4, Value.int (iI x4)), (7, Value.int (iI x7)), (8, Value.int (iI x8))]) hX 3 rfl (by decide) rfl md_M_determinant_248 ?_
      refine sp_goto (pc := 251) hX 118 (by decide) md_M_determinant_251 ?_
      refine sp_sub [1, 2, 3, 0] (L' := [(0, Value.ref x0), (3, Value.int (iI x3)), (4, Value.int (iI x4)), (5, Value.int (iI (x5 + 1)))]) rfl ?_
      exact h118 x0 x3 x4 (x5 + 1) σ
    · refine sp_aload_n (pc := 210) (k := 0) (i := 0) hX rfl 0 rfl md_M_determinant_210 ?_
      refine sp_iload (pc := 211) (i := 8) hX 5 rfl md_M_determinant_211 ?_
      refine sp_iload (pc := 213) (i := 5) hX 3 rfl md_M_determinant_213 ?_
      refine sp_aload_n (pc := 215) (k := 0) (i := 0) hX rfl 0 rfl md_M_determinant_215 ?_
      refine sp_aload_n (pc := 216) (k := 0) (i := 0) hX rfl 0 rfl md_M_determinant_216 ?_
      refine sp_getR (pc := 217) (ci := 10) (k := 10) (idx := 31) hX mcl_10 (by decide) mq_809 rfl md_M_determinant_217 (fun v18 => ?_)
      refine sp_bipush (pc := 220) hX (by decide) md_M_determinant_220 ?_
      refine sp_iload (pc := 222) (i := 8) hX 5 rfl md_M_determinant_222 ?_
      refine sp_imul (pc := 224) hX md_M_determinant_224 ?_
      refine sp_iload (pc := 225) (i := 5) hX 3 rfl md_M_determinant_225 ?_
      refine sp_iadd (pc := 227) hX md_M_determinant_227 ?_
      refine sp_iaload (pc := 228) hX md_M_determinant_228 (fun v19 => ?_)
      refine sp_aload_n (pc := 229) (k := 0) (i := 0) hX rfl 0 rfl md_M_determinant_229 ?_
      refine sp_iload (pc := 230) (i := 7) hX 4 rfl md_M_determinant_230 ?_
      refine sp_callVI (pc := 232) (y := my_M_inverse) (ccy := prog_14_method_6_code) (nLy := 4) (ret := (some .int)) (rmy := mr_M_inverse) (n := 1) (idx := 94) (As := [.int (iI x7)]) (st := [.int (iI v19), .ref x0, .int (iI x5), .int (iI x8), .ref x0]) (o := x0) (cells' := 0) (slots' := 0) hX (fun _ h => mc_M_inverse h) mk_M_inverse mv_M_inverse mcl_10 (fun _ h => pw_gd_of h) mq_932 ⟨(Nat.le_of_ble_eq_true rfl), (Nat.le_of_ble_eq_true rfl)⟩ rfl rfl (Nat.le_of_ble_eq_true rfl) ⟨(Nat.le_of_ble_eq_true rfl), (Nat.le_of_ble_eq_true rfl)⟩ rfl rfl md_M_determinant_232 (fun v21 s20 => ?_)
      refine sp_imul (pc := 235) hX md_M_determinant_235 ?_
      refine sp_callVI (pc := 236) (y := my_M_mod) (ccy := prog_14_method_5_code) (nLy := 3) (ret := (some .int)) (rmy := mr_M_mod) (n := 1) (idx := 91) (As := [.int (iI (v19 * v21))]) (st := [.int (iI x5), .int (iI x8), .ref x0]) (o := x0) (cells' := 0) (slots' := 0) hX (fun _ h => mc_M_mod h) mk_M_mod mv_M_mod mcl_10 (fun _ h => pw_gd_of h) mq_901 ⟨(Nat.le_of_ble_eq_true rfl), (Nat.le_of_ble_eq_true rfl)⟩ rfl rfl (Nat.le_of_ble_eq_true rfl) ⟨(Nat.le_of_ble_eq_true rfl), (Nat.le_of_ble_eq_true rfl)⟩ rfl rfl md_M_determinant_236 (fun v23 s22 => ?_)
      refine sp_callVV (pc := 239) (y := my_M_lessRow) (ccy := prog_14_method_35_code) (nLy := 5) (ret := none) (rmy := mr_M_lessRow) (n := 3) (idx := 152) (As := [.int (iI x8), .int (iI x5), .int (iI v23)]) (st := []) (o := x0) (cells' := 0) (slots' := 0) hX (fun _ h => mc_M_lessRow h) mk_M_lessRow mv_M_lessRow mcl_10 (fun _ h => pw_gd_of h) mq_1012 ⟨(Nat.le_of_ble_eq_true rfl), (Nat.le_of_ble_eq_true rfl)⟩ rfl rfl (Nat.le_of_ble_eq_true rfl) ⟨(Nat.le_of_ble_eq_true rfl), (Nat.le_of_ble_eq_true rfl)⟩ rfl rfl md_M_determinant_239 (fun s24 => ?_)
      refine sp_iinc (pc := 242) (i := 8) (L' := [(8, Value.int (iI (x8 + 1))), (0, Value.ref x0), (3, Value.int (iI x3)), (4, Value.int (iI x4)), (5, Value.int (iI x5)), (7, Value.int (iI x7))]) hX 5 rfl (by decide) rfl md_M_determinant_242 ?_
      refine sp_goto (pc := 245) hX 204 (by decide) md_M_determinant_245 ?_
      refine sp_sub [1, 2, 3, 4, 5, 0] (L' := [(0, Value.ref x0), (3, Value.int (iI x3)), (4, Value.int (iI x4)), (5, Value.int (iI x5)), (7, Value.int (iI x7)), (8, Value.int (iI (x8 + 1)))]) rfl ?_
      exact ih x0 x3 x4 x5 x7 (x8 + 1) s24
set_option maxHeartbeats 4000000 in
set_option maxRecDepth 20000 in
theorem sj_M_determinant_192 {X : pw_X Int} (hX : pw_Ok X prog_14_method_58_code "PadeWorkbenchModel" mr_M_determinant 9) (hR : pw_RI X prog_14_method_58_code) {r118 : Nat → Int → Int → Int → pw_Sto → Option (Int × pw_Sto)} (h118 : ∀ (z0 : Nat) (z1 : Int) (z2 : Int) (z3 : Int) (σ : pw_Sto), pw_Sp X 0 0 118 [(0, Value.ref z0), (3, Value.int (iI z1)), (4, Value.int (iI z2)), (5, Value.int (iI z3))] [] σ (r118 z0 z1 z2 z3 σ)) (x0 : Nat) (x3 : Int) (x5 : Int) (x7 : Int) (y0 : Int) (y1 : Int) (y2 : Nat) (σ : pw_Sto) : pw_Sp X 0 0 192 [(0, Value.ref x0), (3, Value.int (iI x3)), (5, Value.int (iI x5)), (7, Value.int (iI x7))] [Value.int (iI y0), Value.int (iI y1), Value.ref y2] σ (mj_M_determinant_192 r118 x0 x3 x5 x7 y0 y1 y2 σ) := by
  unfold mj_M_determinant_192
  refine sp_imul (pc := 192) hX md_M_determinant_192 ?_
  refine sp_callVI (pc := 193) (y := my_M_mod) (ccy := prog_14_method_5_code) (nLy := 3) (ret := (some .int)) (rmy := mr_M_mod) (n := 1) (idx := 91) (As := [.int (iI (y1 * y0))]) (st := []) (o := y2) (cells' := 0) (slots' := 0) hX (fun _ h => mc_M_mod h) mk_M_mod mv_M_mod mcl_10 (fun _ h => pw_gd_of h) mq_901 ⟨(Nat.le_of_ble_eq_true rfl), (Nat.le_of_ble_eq_true rfl)⟩ rfl rfl (Nat.le_of_ble_eq_true rfl) ⟨(Nat.le_of_ble_eq_true rfl), (Nat.le_of_ble_eq_true rfl)⟩ rfl rfl md_M_determinant_193 (fun v17 s16 => ?_)
  refine sp_istore (pc := 196) (i := 4) (L' := [(4, Value.int (iI v17)), (0, Value.ref x0), (3, Value.int (iI x3)), (5, Value.int (iI x5)), (7, Value.int (iI x7))]) hX (by decide) rfl md_M_determinant_196 ?_
  refine sp_iload (pc := 198) (i := 5) hX 3 rfl md_M_determinant_198 ?_
  refine sp_iconst (pc := 200) hX md_M_determinant_200 ?_
  refine sp_iadd (pc := 201) hX md_M_determinant_201 ?_
  refine sp_istore (pc := 202) (i := 8) (L' := [(8, Value.int (iI (x5 + (1 : Int)))), (4, Value.int (iI v17)), (0, Value.ref x0), (3, Value.int (iI x3)), (5, Value.int (iI x5)), (7, Value.int (iI x7))]) hX (by decide) rfl md_M_determinant_202 ?_
  refine sp_sub [2, 3, 1, 4, 5, 0] (L' := [(0, Value.ref x0), (3, Value.int (iI x3)), (4, Value.int (iI v17)), (5, Value.int (iI x5)), (7, Value.int (iI x7)), (8, Value.int (iI (x5 + (1 : Int))))]) rfl ?_
  exact sl_M_determinant_204 hX hR h118 1000 x0 x3 v17 x5 x7 (x5 + (1 : Int)) s16
set_option maxHeartbeats 4000000 in
set_option maxRecDepth 20000 in
theorem sl_M_determinant_118 {X : pw_X Int} (hX : pw_Ok X prog_14_method_58_code "PadeWorkbenchModel" mr_M_determinant 9) (hR : pw_RI X prog_14_method_58_code) : ∀ (n : Nat) (x0 : Nat) (x3 : Int) (x4 : Int) (x5 : Int) (σ : pw_Sto), pw_Sp X 0 0 118 [(0, Value.ref x0), (3, Value.int (iI x3)), (4, Value.int (iI x4)), (5, Value.int (iI x5))] [] σ (ml_M_determinant_118 n x0 x3 x4 x5 σ) := by
  intro n
  induction n with
  | zero => intros; exact pw_none
  | succ n ih =>
    intro x0 x3 x4 x5 σ
    show pw_Sp X 0 0 118 _ _ σ (mb_M_determinant_118 (ml_M_determinant_118 n) x0 x3 x4 x5 σ)
    unfold mb_M_determinant_118
    refine sp_iload (pc := 118) (i := 5) hX 3 rfl md_M_determinant_118 ?_
    refine sp_iload_n (pc := 120) (k := 3) (i := 3) hX rfl 1 rfl md_M_determinant_120 ?_
    refine sp_icmp_ge (pc := 121) hX 254 (by decide) md_M_determinant_121 (fun _ => ?_) (fun _ => ?_)
    · refine sp_iload (pc := 254) (i := 4) hX 2 rfl md_M_determinant_254 ?_
      exact sp_iret (pc := 256) hX hR rfl (Nat.le_of_ble_eq_true rfl) md_M_determinant_256
    · refine sp_iload (pc := 124) (i := 4) hX 2 rfl md_M_determinant_124 ?_
      refine sp_if_eq (pc := 126) hX 254 (by decide) md_M_determinant_126 (fun _ => ?_) (fun _ => ?_)
      · refine sp_iload (pc := 254) (i := 4) hX 2 rfl md_M_determinant_254 ?_
        exact sp_iret (pc := 256) hX hR rfl (Nat.le_of_ble_eq_true rfl) md_M_determinant_256
      · refine sp_aload_n (pc := 129) (k := 0) (i := 0) hX rfl 0 rfl md_M_determinant_129 ?_
        refine sp_iload (pc := 130) (i := 5) hX 3 rfl md_M_determinant_130 ?_
        refine sp_iload_n (pc := 132) (k := 3) (i := 3) hX rfl 1 rfl md_M_determinant_132 ?_
        refine sp_iload (pc := 133) (i := 5) hX 3 rfl md_M_determinant_133 ?_
        refine sp_callVI (pc := 135) (y := my_M_rowWith) (ccy := prog_14_method_36_code) (nLy := 5) (ret := (some .int)) (rmy := mr_M_rowWith) (n := 3) (idx := 144) (As := [.int (iI x5), .int (iI x3), .int (iI x5)]) (st := []) (o := x0) (cells' := 0) (slots' := 0) hX (fun _ h => mc_M_rowWith h) mk_M_rowWith mv_M_rowWith mcl_10 (fun _ h => pw_gd_of h) mq_1004 ⟨(Nat.le_of_ble_eq_true rfl), (Nat.le_of_ble_eq_true rfl)⟩ rfl rfl (Nat.le_of_ble_eq_true rfl) ⟨(Nat.le_of_ble_eq_true rfl), (Nat.le_of_ble_eq_true rfl)⟩ rfl rfl md_M_determinant_135 (fun v12 s11 => ?_)
        refine sp_istore (pc := 138) (i := 6) (L' := [(6, Value.int (iI v12)), (0, Value.ref x0), (3, Value.int (iI x3)), (4, Value.int (iI x4)), (5, Value.int (iI x5))]) hX (by decide) rfl md_M_determinant_138 ?_
        refine sp_iload (pc := 140) (i := 6) hX 0 rfl md_M_determinant_140 ?_
        refine sp_if_ge (pc := 142) hX 151 (by decide) md_M_determinant_142 (fun _ => ?_) (fun _ => ?_)
        · refine sp_aload_n (pc := 151) (k := 0) (i := 0) hX rfl 1 rfl md_M_determinant_151 ?_
          refine sp_iload (pc := 152) (i := 5) hX 4 rfl md_M_determinant_152 ?_
          refine sp_iload (pc := 154) (i := 6) hX 0 rfl md_M_determinant_154 ?_
          refine sp_callVV (pc := 156) (y := my_M_exchange) (ccy := prog_14_method_34_code) (nLy := 5) (ret := none) (rmy := mr_M_exchange) (n := 2) (idx := 148) (As := [.int (iI x5), .int (iI v12)]) (st := []) (o := x0) (cells' := 0) (slots' := 0) hX (fun _ h => mc_M_exchange h) mk_M_exchange mv_M_exchange mcl_10 (fun _ h => pw_gd_of h) mq_1008 ⟨(Nat.le_of_ble_eq_true rfl), (Nat.le_of_ble_eq_true rfl)⟩ rfl rfl (Nat.le_of_ble_eq_true rfl) ⟨(Nat.le_of_ble_eq_true rfl), (Nat.le_of_ble_eq_true rfl)⟩ rfl rfl md_M_determinant_156 (fun s13 => ?_)
          refine sp_aload_n (pc := 159) (k := 0) (i := 0) hX rfl 1 rfl md_M_determinant_159 ?_
          refine sp_getR (pc := 160) (ci := 10) (k := 10) (idx := 31) hX mcl_10 (by decide) mq_809 rfl md_M_determinant_160 (fun v14 => ?_)
          refine sp_bipush (pc := 163) hX (by decide) md_M_determinant_163 ?_
          refine sp_iload (pc := 165) (i := 5) hX 4 rfl md_M_determinant_165 ?_
          refine sp_imul (pc := 167) hX md_M_determinant_167 ?_
          refine sp_iload (pc := 168) (i := 5) hX 4 rfl md_M_determinant_168 ?_
          refine sp_iadd (pc := 170) hX md_M_determinant_170 ?_
          refine sp_iaload (pc := 171) hX md_M_determinant_171 (fun v15 => ?_)
          refine sp_istore (pc := 172) (i := 7) (L' := [(7, Value.int (iI v15)), (6, Value.int (iI v12)), (0, Value.ref x0), (3, Value.int (iI x3)), (4, Value.int (iI x4)), (5, Value.int (iI x5))]) hX (by decide) rfl md_M_determinant_172 ?_
          refine sp_aload_n (pc := 174) (k := 0) (i := 0) hX rfl 2 rfl md_M_determinant_174 ?_
          refine sp_iload (pc := 175) (i := 4) hX 4 rfl md_M_determinant_175 ?_
          refine sp_iload (pc := 177) (i := 6) hX 1 rfl md_M_determinant_177 ?_
          refine sp_iload (pc := 179) (i := 5) hX 5 rfl md_M_determinant_179 ?_
          refine sp_icmp_ne (pc := 181) hX 189 (by decide) md_M_determinant_181 (fun _ => ?_) (fun _ => ?_)
          · refine sp_iload (pc := 184) (i := 7) hX 0 rfl md_M_determinant_184 ?_
            refine sp_goto (pc := 186) hX 192 (by decide) md_M_determinant_186 ?_
            refine sp_sub [2, 3, 5, 0] (L' := [(0, Value.ref x0), (3, Value.int (iI x3)), (5, Value.int (iI x5)), (7, Value.int (iI v15))]) rfl ?_
            exact sj_M_determinant_192 hX hR ih x0 x3 x5 v15 v15 x4 x0 s13
          · refine sp_iload (pc := 189) (i := 7) hX 0 rfl md_M_determinant_189 ?_
            refine sp_ineg (pc := 191) hX md_M_determinant_191 ?_
            refine sp_sub [2, 3, 5, 0] (L' := [(0, Value.ref x0), (3, Value.int (iI x3)), (5, Value.int (iI x5)), (7, Value.int (iI v15))]) rfl ?_
            exact sj_M_determinant_192 hX hR ih x0 x3 x5 v15 (-v15) x4 x0 s13
        · refine sp_iconst (pc := 145) hX md_M_determinant_145 ?_
          refine sp_istore (pc := 146) (i := 4) (L' := [(4, Value.int (iI (0 : Int))), (6, Value.int (iI v12)), (0, Value.ref x0), (3, Value.int (iI x3)), (5, Value.int (iI x5))]) hX (by decide) rfl md_M_determinant_146 ?_
          refine sp_goto (pc := 148) hX 248 (by decide) md_M_determinant_148 ?_
          refine sp_iinc (pc := 248) (i := 5) (L' := [(5, Value.int (iI (x5 + 1))), (4, Value.int (iI (0 : Int))), (6, Value.int (iI v12)), (0, Value.ref x0), (3, Value.int (iI x3))]) hX 4 rfl (by decide) rfl md_M_determinant_248 ?_
          refine sp_goto (pc := 251) hX 118 (by decide) md_M_determinant_251 ?_
          refine sp_sub [3, 4, 1, 0] (L' := [(0, Value.ref x0), (3, Value.int (iI x3)), (4, Value.int (iI (0 : Int))), (5, Value.int (iI (x5 + 1)))]) rfl ?_
          exact ih x0 x3 (0 : Int) (x5 + 1) s11
set_option maxHeartbeats 4000000 in
set_option maxRecDepth 20000 in
theorem sl_M_determinant_55 {X : pw_X Int} (hX : pw_Ok X prog_14_method_58_code "PadeWorkbenchModel" mr_M_determinant 9) (hR : pw_RI X prog_14_method_58_code) {r46 : Nat → Int → Int → Int → Int → pw_Sto → Option (Int × pw_Sto)} (h46 : ∀ (z0 : Nat) (z1 : Int) (z2 : Int) (z3 : Int) (z4 : Int) (σ : pw_Sto), pw_Sp X 0 0 46 [(0, Value.ref z0), (1, Value.int (iI z1)), (2, Value.int (iI z2)), (3, Value.int (iI z3)), (4, Value.int (iI z4))] [] σ (r46 z0 z1 z2 z3 z4 σ)) : ∀ (n : Nat) (x0 : Nat) (x1 : Int) (x2 : Int) (x3 : Int) (x4 : Int) (x5 : Int) (σ : pw_Sto), pw_Sp X 0 0 55 [(0, Value.ref x0), (1, Value.int (iI x1)), (2, Value.int (iI x2)), (3, Value.int (iI x3)), (4, Value.int (iI x4)), (5, Value.int (iI x5))] [] σ (ml_M_determinant_55 r46 n x0 x1 x2 x3 x4 x5 σ) := by
  intro n
  induction n with
  | zero => intros; exact pw_none
  | succ n ih =>
    intro x0 x1 x2 x3 x4 x5 σ
    show pw_Sp X 0 0 55 _ _ σ (mb_M_determinant_55 r46 (ml_M_determinant_55 r46 n) x0 x1 x2 x3 x4 x5 σ)
    unfold mb_M_determinant_55
    refine sp_iload (pc := 55) (i := 5) hX 5 rfl md_M_determinant_55 ?_
    refine sp_iload_n (pc := 57) (k := 3) (i := 3) hX rfl 3 rfl md_M_determinant_57 ?_
    refine sp_icmp_ge (pc := 58) hX 106 (by decide) md_M_determinant_58 (fun _ => ?_) (fun _ => ?_)
    · refine sp_iinc (pc := 106) (i := 4) (L' := [(4, Value.int (iI (x4 + 1))), (0, Value.ref x0), (1, Value.int (iI x1)), (2, Value.int (iI x2)), (3, Value.int (iI x3)), (5, Value.int (iI x5))]) hX 4 rfl (by decide) rfl md_M_determinant_106 ?_
      refine sp_goto (pc := 109) hX 46 (by decide) md_M_determinant_109 ?_
      refine sp_sub [1, 2, 3, 4, 0] (L' := [(0, Value.ref x0), (1, Value.int (iI x1)), (2, Value.int (iI x2)), (3, Value.int (iI x3)), (4, Value.int (iI (x4 + 1)))]) rfl ?_
      exact h46 x0 x1 x2 x3 (x4 + 1) σ
    · refine sp_aload_n (pc := 61) (k := 0) (i := 0) hX rfl 0 rfl md_M_determinant_61 ?_
      refine sp_getR (pc := 62) (ci := 10) (k := 10) (idx := 31) hX mcl_10 (by decide) mq_809 rfl md_M_determinant_62 (fun v25 => ?_)
      refine sp_bipush (pc := 65) hX (by decide) md_M_determinant_65 ?_
      refine sp_iload (pc := 67) (i := 4) hX 4 rfl md_M_determinant_67 ?_
      refine sp_imul (pc := 69) hX md_M_determinant_69 ?_
      refine sp_iload (pc := 70) (i := 5) hX 5 rfl md_M_determinant_70 ?_
      refine sp_iadd (pc := 72) hX md_M_determinant_72 ?_
      refine sp_iload_n (pc := 73) (k := 2) (i := 2) hX rfl 2 rfl md_M_determinant_73 ?_
      refine sp_iload (pc := 74) (i := 4) hX 4 rfl md_M_determinant_74 ?_
      refine sp_iadd (pc := 76) hX md_M_determinant_76 ?_
      refine sp_iload (pc := 77) (i := 5) hX 5 rfl md_M_determinant_77 ?_
      refine sp_isub (pc := 79) hX md_M_determinant_79 ?_
      refine sp_if_ge (pc := 80) hX 87 (by decide) md_M_determinant_80 (fun _ => ?_) (fun _ => ?_)
      · refine sp_aload_n (pc := 87) (k := 0) (i := 0) hX rfl 0 rfl md_M_determinant_87 ?_
        refine sp_iload_n (pc := 88) (k := 1) (i := 1) hX rfl 1 rfl md_M_determinant_88 ?_
        refine sp_iload_n (pc := 89) (k := 2) (i := 2) hX rfl 2 rfl md_M_determinant_89 ?_
        refine sp_iload (pc := 90) (i := 4) hX 4 rfl md_M_determinant_90 ?_
        refine sp_iadd (pc := 92) hX md_M_determinant_92 ?_
        refine sp_iload (pc := 93) (i := 5) hX 5 rfl md_M_determinant_93 ?_
        refine sp_isub (pc := 95) hX md_M_determinant_95 ?_
        refine sp_callVI (pc := 96) (y := my_M_term) (ccy := prog_14_method_9_code) (nLy := 3) (ret := (some .int)) (rmy := mr_M_term) (n := 2) (idx := 87) (As := [.int (iI x1), .int (iI ((x2 + x4) - x5))]) (st := [.int (iI (((18 : Int) * x4) + x5)), .ref v25]) (o := x0) (cells' := 0) (slots' := 0) hX (fun _ h => mc_M_term h) mk_M_term mv_M_term mcl_10 (fun _ h => pw_gd_of h) mq_889 ⟨(Nat.le_of_ble_eq_true rfl), (Nat.le_of_ble_eq_true rfl)⟩ rfl rfl (Nat.le_of_ble_eq_true rfl) ⟨(Nat.le_of_ble_eq_true rfl), (Nat.le_of_ble_eq_true rfl)⟩ rfl rfl md_M_determinant_96 (fun v27 s26 => ?_)
        refine sp_iastore (pc := 99) hX md_M_determinant_99 (fun s28 => ?_)
        refine sp_iinc (pc := 100) (i := 5) (L' := [(5, Value.int (iI (x5 + 1))), (0, Value.ref x0), (1, Value.int (iI x1)), (2, Value.int (iI x2)), (3, Value.int (iI x3)), (4, Value.int (iI x4))]) hX 5 rfl (by decide) rfl md_M_determinant_100 ?_
        refine sp_goto (pc := 103) hX 55 (by decide) md_M_determinant_103 ?_
        refine sp_sub [1, 2, 3, 4, 5, 0] (L' := [(0, Value.ref x0), (1, Value.int (iI x1)), (2, Value.int (iI x2)), (3, Value.int (iI x3)), (4, Value.int (iI x4)), (5, Value.int (iI (x5 + 1)))]) rfl ?_
        exact ih x0 x1 x2 x3 x4 (x5 + 1) s28
      · refine sp_iconst (pc := 83) hX md_M_determinant_83 ?_
        refine sp_goto (pc := 84) hX 99 (by decide) md_M_determinant_84 ?_
        refine sp_iastore (pc := 99) hX md_M_determinant_99 (fun s29 => ?_)
        refine sp_iinc (pc := 100) (i := 5) (L' := [(5, Value.int (iI (x5 + 1))), (0, Value.ref x0), (1, Value.int (iI x1)), (2, Value.int (iI x2)), (3, Value.int (iI x3)), (4, Value.int (iI x4))]) hX 5 rfl (by decide) rfl md_M_determinant_100 ?_
        refine sp_goto (pc := 103) hX 55 (by decide) md_M_determinant_103 ?_
        refine sp_sub [1, 2, 3, 4, 5, 0] (L' := [(0, Value.ref x0), (1, Value.int (iI x1)), (2, Value.int (iI x2)), (3, Value.int (iI x3)), (4, Value.int (iI x4)), (5, Value.int (iI (x5 + 1)))]) rfl ?_
        exact ih x0 x1 x2 x3 x4 (x5 + 1) s29
set_option maxHeartbeats 4000000 in
set_option maxRecDepth 20000 in
theorem sl_M_determinant_46 {X : pw_X Int} (hX : pw_Ok X prog_14_method_58_code "PadeWorkbenchModel" mr_M_determinant 9) (hR : pw_RI X prog_14_method_58_code) : ∀ (n : Nat) (x0 : Nat) (x1 : Int) (x2 : Int) (x3 : Int) (x4 : Int) (σ : pw_Sto), pw_Sp X 0 0 46 [(0, Value.ref x0), (1, Value.int (iI x1)), (2, Value.int (iI x2)), (3, Value.int (iI x3)), (4, Value.int (iI x4))] [] σ (ml_M_determinant_46 n x0 x1 x2 x3 x4 σ) := by
  intro n
  induction n with
  | zero => intros; exact pw_none
  | succ n ih =>
    intro x0 x1 x2 x3 x4 σ
    show pw_Sp X 0 0 46 _ _ σ (mb_M_determinant_46 (ml_M_determinant_46 n) x0 x1 x2 x3 x4 σ)
    unfold mb_M_determinant_46
    refine sp_iload (pc := 46) (i := 4) hX 4 rfl md_M_determinant_46 ?_
    refine sp_iload_n (pc := 48) (k := 3) (i := 3) hX rfl 3 rfl md_M_determinant_48 ?_
    refine sp_icmp_ge (pc := 49) hX 112 (by decide) md_M_determinant_49 (fun _ => ?_) (fun _ => ?_)
    · refine sp_iconst (pc := 112) hX md_M_determinant_112 ?_
      refine sp_istore (pc := 113) (i := 4) (L' := [(4, Value.int (iI (1 : Int))), (0, Value.ref x0), (1, Value.int (iI x1)), (2, Value.int (iI x2)), (3, Value.int (iI x3))]) hX (by decide) rfl md_M_determinant_113 ?_
      refine sp_iconst (pc := 115) hX md_M_determinant_115 ?_
      refine sp_istore (pc := 116) (i := 5) (L' := [(5, Value.int (iI (0 : Int))), (4, Value.int (iI (1 : Int))), (0, Value.ref x0), (1, Value.int (iI x1)), (2, Value.int (iI x2)), (3, Value.int (iI x3))]) hX (by decide) rfl md_M_determinant_116 ?_
      refine sp_sub [2, 5, 1, 0] (L' := [(0, Value.ref x0), (3, Value.int (iI x3)), (4, Value.int (iI (1 : Int))), (5, Value.int (iI (0 : Int)))]) rfl ?_
      exact sl_M_determinant_118 hX hR 1000 x0 x3 (1 : Int) (0 : Int) σ
    · refine sp_iconst (pc := 52) hX md_M_determinant_52 ?_
      refine sp_istore (pc := 53) (i := 5) (L' := [(5, Value.int (iI (0 : Int))), (0, Value.ref x0), (1, Value.int (iI x1)), (2, Value.int (iI x2)), (3, Value.int (iI x3)), (4, Value.int (iI x4))]) hX (by decide) rfl md_M_determinant_53 ?_
      refine sp_sub [1, 2, 3, 4, 5, 0] (L' := [(0, Value.ref x0), (1, Value.int (iI x1)), (2, Value.int (iI x2)), (3, Value.int (iI x3)), (4, Value.int (iI x4)), (5, Value.int (iI (0 : Int)))]) rfl ?_
      exact sl_M_determinant_55 hX hR ih 1000 x0 x1 x2 x3 x4 (0 : Int) σ
set_option maxHeartbeats 4000000 in
set_option maxRecDepth 20000 in
theorem mc_M_determinant {l : Launch} {E : pw_E} {σ : pw_Sto} {x0 : Nat} {x1 : Int} {x2 : Int} {x3 : Int} {out : Int × pw_Sto} (h : mf_M_determinant x0 x1 x2 x3 σ = some out) : pw_CI l E my_M_determinant prog_14_method_58_code 9 (some .int) mr_M_determinant [.ref x0, .int (iI x1), .int (iI x2), .int (iI x3)] σ out := by
  unfold mf_M_determinant at h
  refine pw_entryI (by decide) (Nat.le_of_ble_eq_true rfl) (pw_gd_val h) (fun X hX hR hI => ?_)
  change pw_Ok X prog_14_method_58_code "PadeWorkbenchModel" mr_M_determinant 9 at hX
  show pw_Sp X 0 0 0 [(0, Value.ref x0), (1, Value.int (iI x1)), (2, Value.int (iI x2)), (3, Value.int (iI x3))] [] σ _
  refine sp_iload_n (pc := 0) (k := 1) (i := 1) hX rfl 1 rfl md_M_determinant_0 ?_
  refine sp_callSI (pc := 1) (y := my_M_isSlot) (ccy := prog_14_method_8_code) (nLy := 1) (ret := (some .boolean)) (rmy := mr_M_isSlot) (n := 1) (idx := 84) (As := [.int (iI x1)]) (st := []) (cells' := 0) (slots' := 0) hX (fun _ h => mc_M_isSlot h) mk_M_isSlot mq_887 mq_886 ⟨(Nat.le_of_ble_eq_true rfl), (Nat.le_of_ble_eq_true rfl)⟩ rfl rfl (Nat.le_of_ble_eq_true rfl) ⟨(Nat.le_of_ble_eq_true rfl), (Nat.le_of_ble_eq_true rfl)⟩ rfl rfl md_M_determinant_1 (fun v2 s1 => ?_)
  refine sp_if_eq (pc := 4) hX 29 (by decide) md_M_determinant_4 (fun _ => ?_) (fun _ => ?_)
  · refine sp_sub [0] (L' := [(0, Value.ref x0)]) rfl ?_
    exact sj_M_determinant_29 hX hR x0 s1
  · refine sp_iload_n (pc := 7) (k := 2) (i := 2) hX rfl 2 rfl md_M_determinant_7 ?_
    refine sp_iconst (pc := 8) hX md_M_determinant_8 ?_
    refine sp_bipush (pc := 9) hX (by decide) md_M_determinant_9 ?_
    refine sp_callSI (pc := 11) (y := my_M_in) (ccy := prog_14_method_2_code) (nLy := 3) (ret := (some .boolean)) (rmy := mr_M_in) (n := 3) (idx := 65) (As := [.int (iI x2), .int (iI (0 : Int)), .int (iI (16 : Int))]) (st := []) (cells' := 0) (slots' := 0) hX (fun _ h => mc_M_in h) mk_M_in mq_868 mq_867 ⟨(Nat.le_of_ble_eq_true rfl), (Nat.le_of_ble_eq_true rfl)⟩ rfl rfl (Nat.le_of_ble_eq_true rfl) ⟨(Nat.le_of_ble_eq_true rfl), (Nat.le_of_ble_eq_true rfl)⟩ rfl rfl md_M_determinant_11 (fun v6 s5 => ?_)
    refine sp_if_eq (pc := 14) hX 29 (by decide) md_M_determinant_14 (fun _ => ?_) (fun _ => ?_)
    · refine sp_sub [0] (L' := [(0, Value.ref x0)]) rfl ?_
      exact sj_M_determinant_29 hX hR x0 s5
    · refine sp_iload_n (pc := 17) (k := 3) (i := 3) hX rfl 3 rfl md_M_determinant_17 ?_
      refine sp_iconst (pc := 18) hX md_M_determinant_18 ?_
      refine sp_bipush (pc := 19) hX (by decide) md_M_determinant_19 ?_
      refine sp_iload_n (pc := 21) (k := 2) (i := 2) hX rfl 2 rfl md_M_determinant_21 ?_
      refine sp_isub (pc := 22) hX md_M_determinant_22 ?_
      refine sp_callSI (pc := 23) (y := my_M_in) (ccy := prog_14_method_2_code) (nLy := 3) (ret := (some .boolean)) (rmy := mr_M_in) (n := 3) (idx := 65) (As := [.int (iI x3), .int (iI (0 : Int)), .int (iI ((16 : Int) - x2))]) (st := []) (cells' := 0) (slots' := 0) hX (fun _ h => mc_M_in h) mk_M_in mq_868 mq_867 ⟨(Nat.le_of_ble_eq_true rfl), (Nat.le_of_ble_eq_true rfl)⟩ rfl rfl (Nat.le_of_ble_eq_true rfl) ⟨(Nat.le_of_ble_eq_true rfl), (Nat.le_of_ble_eq_true rfl)⟩ rfl rfl md_M_determinant_23 (fun v8 s7 => ?_)
      refine sp_if_ne (pc := 26) hX 36 (by decide) md_M_determinant_26 (fun _ => ?_) (fun _ => ?_)
      · refine sp_sub [0] (L' := [(0, Value.ref x0)]) rfl ?_
        exact sj_M_determinant_29 hX hR x0 s7
      · refine sp_aload_n (pc := 36) (k := 0) (i := 0) hX rfl 0 rfl md_M_determinant_36 ?_
        refine sp_getR (pc := 37) (ci := 10) (k := 10) (idx := 31) hX mcl_10 (by decide) mq_809 rfl md_M_determinant_37 (fun v9 => ?_)
        refine sp_callSV (pc := 40) (y := my_M_clear) (ccy := prog_14_method_15_code) (nLy := 2) (ret := none) (rmy := mr_M_clear) (n := 1) (idx := 107) (As := [.ref v9]) (st := []) (cells' := 0) (slots' := 0) hX (fun _ h => mc_M_clear h) mk_M_clear mq_926 mq_925 ⟨(Nat.le_of_ble_eq_true rfl), (Nat.le_of_ble_eq_true rfl)⟩ rfl rfl (Nat.le_of_ble_eq_true rfl) ⟨(Nat.le_of_ble_eq_true rfl), (Nat.le_of_ble_eq_true rfl)⟩ rfl rfl md_M_determinant_40 (fun s10 => ?_)
        refine sp_iconst (pc := 43) hX md_M_determinant_43 ?_
        refine sp_istore (pc := 44) (i := 4) (L' := [(4, Value.int (iI (0 : Int))), (0, Value.ref x0), (1, Value.int (iI x1)), (2, Value.int (iI x2)), (3, Value.int (iI x3))]) hX (by decide) rfl md_M_determinant_44 ?_
        refine sp_sub [1, 2, 3, 4, 0] (L' := [(0, Value.ref x0), (1, Value.int (iI x1)), (2, Value.int (iI x2)), (3, Value.int (iI x3)), (4, Value.int (iI (0 : Int)))]) rfl ?_
        exact sl_M_determinant_46 hX hR 1000 x0 x1 x2 x3 (0 : Int) s10
/-! PadeWorkbenchModel.cell(II)I -/
theorem md_M_cell_0 : decode prog_14_method_59_code 0 = .ok (.bipush 17, 2) := by decide +kernel
theorem md_M_cell_2 : decode prog_14_method_59_code 2 = .ok (.iload_n 0, 1) := by decide +kernel
theorem md_M_cell_3 : decode prog_14_method_59_code 3 = .ok (.imul, 1) := by decide +kernel
theorem md_M_cell_4 : decode prog_14_method_59_code 4 = .ok (.iload_n 1, 1) := by decide +kernel
theorem md_M_cell_5 : decode prog_14_method_59_code 5 = .ok (.iadd, 1) := by decide +kernel
theorem md_M_cell_6 : decode prog_14_method_59_code 6 = .ok (.ireturn, 1) := by decide +kernel
def mf_M_cell (x0 : Int) (x1 : Int) (σ : pw_Sto) : Option (Int × pw_Sto) := some ((((17 : Int) * x0) + x1), σ)
set_option maxHeartbeats 4000000 in
set_option maxRecDepth 20000 in
theorem mc_M_cell {l : Launch} {E : pw_E} {σ : pw_Sto} {x0 : Int} {x1 : Int} {out : Int × pw_Sto} (h : mf_M_cell x0 x1 σ = some out) : pw_CI l E my_M_cell prog_14_method_59_code 2 (some .int) mr_M_cell [.int (iI x0), .int (iI x1)] σ out := by
  unfold mf_M_cell at h
  refine pw_entryI (by decide) (Nat.le_of_ble_eq_true rfl) h (fun X hX hR hI => ?_)
  change pw_Ok X prog_14_method_59_code "PadeWorkbenchModel" mr_M_cell 2 at hX
  show pw_Sp X 0 0 0 [(0, Value.int (iI x0)), (1, Value.int (iI x1))] [] σ _
  refine sp_bipush (pc := 0) hX (by decide) md_M_cell_0 ?_
  refine sp_iload_n (pc := 2) (k := 0) (i := 0) hX rfl 0 rfl md_M_cell_2 ?_
  refine sp_imul (pc := 3) hX md_M_cell_3 ?_
  refine sp_iload_n (pc := 4) (k := 1) (i := 1) hX rfl 1 rfl md_M_cell_4 ?_
  refine sp_iadd (pc := 5) hX md_M_cell_5 ?_
  exact sp_iret (pc := 6) hX hR rfl (Nat.le_of_ble_eq_true rfl) md_M_cell_6
