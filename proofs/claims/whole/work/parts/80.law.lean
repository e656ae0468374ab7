theorem mq_84 : Cond.classLink "PadeWorkbenchLaw" 7 "PadeWorkbench" ∈ pw_gt := pw_gt_at 84 (by decide +kernel) rfl
theorem mq_85 : Cond.instantiable "PadeWorkbench" 11 ∈ pw_gt := pw_gt_at 85 (by decide +kernel) rfl
theorem mq_86 : Cond.methodLink "PadeWorkbenchLaw" 9 my_W_init ∈ pw_gt := pw_gt_at 86 (by decide +kernel) rfl
theorem mq_87 : Cond.instanceMethod my_W_init ∈ pw_gt := pw_gt_at 87 (by decide +kernel) rfl
theorem mq_318 : Cond.methodLink "PadeWorkbenchLaw" 13 my_W_setPrime ∈ pw_gt := pw_gt_at 318 (by decide +kernel) rfl
theorem mq_347 : Cond.methodLink "PadeWorkbenchLaw" 18 my_W_set ∈ pw_gt := pw_gt_at 347 (by decide +kernel) rfl
theorem mq_361 : Cond.methodLink "PadeWorkbenchLaw" 23 my_W_coefficient ∈ pw_gt := pw_gt_at 361 (by decide +kernel) rfl
theorem mq_365 : Cond.methodLink "PadeWorkbenchLaw" 28 my_W_add ∈ pw_gt := pw_gt_at 365 (by decide +kernel) rfl
theorem mq_383 : Cond.methodLink "PadeWorkbenchLaw" 32 my_W_multiply ∈ pw_gt := pw_gt_at 383 (by decide +kernel) rfl
theorem mq_390 : Cond.methodLink "PadeWorkbenchLaw" 36 my_W_invert ∈ pw_gt := pw_gt_at 390 (by decide +kernel) rfl
theorem mq_407 : Cond.methodLink "PadeWorkbenchLaw" 40 my_W_substitute ∈ pw_gt := pw_gt_at 407 (by decide +kernel) rfl
theorem mq_417 : Cond.methodLink "PadeWorkbenchLaw" 44 my_W_derivative ∈ pw_gt := pw_gt_at 417 (by decide +kernel) rfl
theorem mq_424 : Cond.methodLink "PadeWorkbenchLaw" 48 my_W_append ∈ pw_gt := pw_gt_at 424 (by decide +kernel) rfl
theorem mq_432 : Cond.methodLink "PadeWorkbenchLaw" 52 my_W_clearText ∈ pw_gt := pw_gt_at 432 (by decide +kernel) rfl
theorem mq_436 : Cond.methodLink "PadeWorkbenchLaw" 57 my_W_parse ∈ pw_gt := pw_gt_at 436 (by decide +kernel) rfl
theorem mq_477 : Cond.methodLink "PadeWorkbenchLaw" 61 my_W_numeratorDegree ∈ pw_gt := pw_gt_at 477 (by decide +kernel) rfl
theorem mq_571 : Cond.methodLink "PadeWorkbenchLaw" 65 my_W_denominatorDegree ∈ pw_gt := pw_gt_at 571 (by decide +kernel) rfl
theorem mq_575 : Cond.methodLink "PadeWorkbenchLaw" 69 my_W_numerator ∈ pw_gt := pw_gt_at 575 (by decide +kernel) rfl
theorem mq_579 : Cond.methodLink "PadeWorkbenchLaw" 74 my_W_denominator ∈ pw_gt := pw_gt_at 579 (by decide +kernel) rfl
theorem mq_583 : Cond.methodLink "PadeWorkbenchLaw" 78 my_W_order ∈ pw_gt := pw_gt_at 583 (by decide +kernel) rfl
theorem mq_592 : Cond.methodLink "PadeWorkbenchLaw" 82 my_W_blockSize ∈ pw_gt := pw_gt_at 592 (by decide +kernel) rfl
theorem mq_600 : Cond.methodLink "PadeWorkbenchLaw" 86 my_W_evaluate ∈ pw_gt := pw_gt_at 600 (by decide +kernel) rfl
theorem mq_610 : Cond.methodLink "PadeWorkbenchLaw" 90 my_W_normalCount ∈ pw_gt := pw_gt_at 610 (by decide +kernel) rfl
theorem mq_614 : Cond.methodLink "PadeWorkbenchLaw" 94 my_W_determinant ∈ pw_gt := pw_gt_at 614 (by decide +kernel) rfl
theorem mq_643 : Cond.methodLink "PadeWorkbenchLaw" 98 my_W_quotientDifference ∈ pw_gt := pw_gt_at 643 (by decide +kernel) rfl
theorem mq_673 : Cond.methodLink "PadeWorkbenchLaw" 102 my_W_quotientCount ∈ pw_gt := pw_gt_at 673 (by decide +kernel) rfl
theorem mq_678 : Cond.methodLink "PadeWorkbenchLaw" 106 my_W_quotient ∈ pw_gt := pw_gt_at 678 (by decide +kernel) rfl
theorem mq_682 : Cond.methodLink "PadeWorkbenchLaw" 110 my_W_complexity ∈ pw_gt := pw_gt_at 682 (by decide +kernel) rfl
theorem mq_706 : Cond.methodLink "PadeWorkbenchLaw" 114 my_W_recurrence ∈ pw_gt := pw_gt_at 706 (by decide +kernel) rfl
theorem mq_711 : Cond.methodLink "PadeWorkbenchLaw" 118 my_W_addPoint ∈ pw_gt := pw_gt_at 711 (by decide +kernel) rfl
theorem mq_723 : Cond.methodLink "PadeWorkbenchLaw" 122 my_W_clearPoints ∈ pw_gt := pw_gt_at 723 (by decide +kernel) rfl
theorem mq_727 : Cond.methodLink "PadeWorkbenchLaw" 126 my_W_interpolant ∈ pw_gt := pw_gt_at 727 (by decide +kernel) rfl
theorem mq_751 : Cond.methodLink "PadeWorkbenchLaw" 130 my_W_unattainable ∈ pw_gt := pw_gt_at 751 (by decide +kernel) rfl
theorem mq_764 : Cond.methodLink "PadeWorkbenchLaw" 134 my_W_undo ∈ pw_gt := pw_gt_at 764 (by decide +kernel) rfl
theorem mq_772 : Cond.methodLink "PadeWorkbenchLaw" 138 my_W_errorCount ∈ pw_gt := pw_gt_at 772 (by decide +kernel) rfl
theorem mq_776 : Cond.methodLink "PadeWorkbenchLaw" 142 my_W_digest ∈ pw_gt := pw_gt_at 776 (by decide +kernel) rfl
theorem mq_793 : Cond.classLink "PadeWorkbenchLaw" 10 "PadeWorkbenchModel" ∈ pw_gt := pw_gt_at 793 (by decide +kernel) rfl
theorem mq_794 : Cond.instantiable "PadeWorkbenchModel" 20 ∈ pw_gt := pw_gt_at 794 (by decide +kernel) rfl
theorem mq_795 : Cond.methodLink "PadeWorkbenchLaw" 12 my_M_init ∈ pw_gt := pw_gt_at 795 (by decide +kernel) rfl
theorem mq_796 : Cond.instanceMethod my_M_init ∈ pw_gt := pw_gt_at 796 (by decide +kernel) rfl
theorem mq_860 : Cond.methodLink "PadeWorkbenchLaw" 17 my_M_setPrime ∈ pw_gt := pw_gt_at 860 (by decide +kernel) rfl
theorem mq_882 : Cond.methodLink "PadeWorkbenchLaw" 22 my_M_set ∈ pw_gt := pw_gt_at 882 (by decide +kernel) rfl
theorem mq_893 : Cond.methodLink "PadeWorkbenchLaw" 27 my_M_coefficient ∈ pw_gt := pw_gt_at 893 (by decide +kernel) rfl
theorem mq_897 : Cond.methodLink "PadeWorkbenchLaw" 31 my_M_add ∈ pw_gt := pw_gt_at 897 (by decide +kernel) rfl
theorem mq_909 : Cond.methodLink "PadeWorkbenchLaw" 35 my_M_multiply ∈ pw_gt := pw_gt_at 909 (by decide +kernel) rfl
theorem mq_921 : Cond.methodLink "PadeWorkbenchLaw" 39 my_M_invert ∈ pw_gt := pw_gt_at 921 (by decide +kernel) rfl
theorem mq_936 : Cond.methodLink "PadeWorkbenchLaw" 43 my_M_substitute ∈ pw_gt := pw_gt_at 936 (by decide +kernel) rfl
theorem mq_940 : Cond.methodLink "PadeWorkbenchLaw" 47 my_M_derivative ∈ pw_gt := pw_gt_at 940 (by decide +kernel) rfl
theorem mq_944 : Cond.methodLink "PadeWorkbenchLaw" 51 my_M_append ∈ pw_gt := pw_gt_at 944 (by decide +kernel) rfl
theorem mq_948 : Cond.methodLink "PadeWorkbenchLaw" 56 my_M_clearText ∈ pw_gt := pw_gt_at 948 (by decide +kernel) rfl
theorem mq_952 : Cond.methodLink "PadeWorkbenchLaw" 60 my_M_parse ∈ pw_gt := pw_gt_at 952 (by decide +kernel) rfl
theorem mq_984 : Cond.methodLink "PadeWorkbenchLaw" 64 my_M_numeratorDegree ∈ pw_gt := pw_gt_at 984 (by decide +kernel) rfl
theorem mq_1034 : Cond.methodLink "PadeWorkbenchLaw" 68 my_M_denominatorDegree ∈ pw_gt := pw_gt_at 1034 (by decide +kernel) rfl
theorem mq_1038 : Cond.methodLink "PadeWorkbenchLaw" 73 my_M_numerator ∈ pw_gt := pw_gt_at 1038 (by decide +kernel) rfl
theorem mq_1042 : Cond.methodLink "PadeWorkbenchLaw" 77 my_M_denominator ∈ pw_gt := pw_gt_at 1042 (by decide +kernel) rfl
theorem mq_1046 : Cond.methodLink "PadeWorkbenchLaw" 81 my_M_order ∈ pw_gt := pw_gt_at 1046 (by decide +kernel) rfl
theorem mq_1054 : Cond.methodLink "PadeWorkbenchLaw" 85 my_M_blockSize ∈ pw_gt := pw_gt_at 1054 (by decide +kernel) rfl
theorem mq_1062 : Cond.methodLink "PadeWorkbenchLaw" 89 my_M_evaluate ∈ pw_gt := pw_gt_at 1062 (by decide +kernel) rfl
theorem mq_1070 : Cond.methodLink "PadeWorkbenchLaw" 93 my_M_normalCount ∈ pw_gt := pw_gt_at 1070 (by decide +kernel) rfl
theorem mq_1078 : Cond.methodLink "PadeWorkbenchLaw" 97 my_M_determinant ∈ pw_gt := pw_gt_at 1078 (by decide +kernel) rfl
theorem mq_1082 : Cond.methodLink "PadeWorkbenchLaw" 101 my_M_quotientDifference ∈ pw_gt := pw_gt_at 1082 (by decide +kernel) rfl
theorem mq_1093 : Cond.methodLink "PadeWorkbenchLaw" 105 my_M_quotientCount ∈ pw_gt := pw_gt_at 1093 (by decide +kernel) rfl
theorem mq_1105 : Cond.methodLink "PadeWorkbenchLaw" 109 my_M_quotient ∈ pw_gt := pw_gt_at 1105 (by decide +kernel) rfl
theorem mq_1109 : Cond.methodLink "PadeWorkbenchLaw" 113 my_M_complexity ∈ pw_gt := pw_gt_at 1109 (by decide +kernel) rfl
theorem mq_1121 : Cond.methodLink "PadeWorkbenchLaw" 117 my_M_recurrence ∈ pw_gt := pw_gt_at 1121 (by decide +kernel) rfl
theorem mq_1125 : Cond.methodLink "PadeWorkbenchLaw" 121 my_M_addPoint ∈ pw_gt := pw_gt_at 1125 (by decide +kernel) rfl
theorem mq_1133 : Cond.methodLink "PadeWorkbenchLaw" 125 my_M_clearPoints ∈ pw_gt := pw_gt_at 1133 (by decide +kernel) rfl
theorem mq_1137 : Cond.methodLink "PadeWorkbenchLaw" 129 my_M_interpolant ∈ pw_gt := pw_gt_at 1137 (by decide +kernel) rfl
theorem mq_1145 : Cond.methodLink "PadeWorkbenchLaw" 133 my_M_unattainable ∈ pw_gt := pw_gt_at 1145 (by decide +kernel) rfl
theorem mq_1153 : Cond.methodLink "PadeWorkbenchLaw" 137 my_M_undo ∈ pw_gt := pw_gt_at 1153 (by decide +kernel) rfl
theorem mq_1157 : Cond.methodLink "PadeWorkbenchLaw" 141 my_M_errorCount ∈ pw_gt := pw_gt_at 1157 (by decide +kernel) rfl
theorem mq_1161 : Cond.methodLink "PadeWorkbenchLaw" 146 my_M_digest ∈ pw_gt := pw_gt_at 1161 (by decide +kernel) rfl
/-! the law: its script stands outside the store -/
def pw_Scr {α : Type} (X : pw_X α) (bs Lx : Nat) (xs : Nat → Int) : Prop := ∃ ys : Nat → Int32, va_X bs Lx ys X.1.2.2.2.2.1 X.1.2.2.2.2.1.heap ∧ bs < X.1.2.2.2.2.1.heap.size ∧ bs < X.2.2.1.1 ∧ Lx ≤ 2560 ∧ ∀ k, xs k = (ys k).toInt
def pw_sx (Lx : Nat) (xs : Nat → Int) (i : Int) : Option Int := if 0 ≤ i ∧ i < Lx then some (xs i.toNat) else none
section PWlaw
variable {α : Type} {X : pw_X α} {cc : ByteArray} {own : String} {rm : Room} {nL cells slots pc bs Lx : Nat} {xs : Nat → Int} {L : List (Nat × Value)} {st : List Value} {σ : pw_Sto} {F G : Option (α × pw_Sto)}
theorem sp_sld (hX : pw_Ok X cc own rm nL) (hB : pw_Scr X bs Lx xs) {i : Int} (d : decode cc pc = .ok (.iaload, 1)) {g : Int → Option (α × pw_Sto)} (K : ∀ v, pw_Sp X cells slots (pc + 1) L (.int (iI v) :: st) σ (g v)) : pw_Sp X cells slots pc L (.int (iI i) :: .retAddr bs :: st) σ ((pw_sx Lx xs i).bind g) := by
  obtain ⟨⟨p, l, e, R, s, m, args, below, meth, c⟩, Q, ⟨b, D, c1, c2, c3⟩, out, mc, ms⟩ := X
  obtain ⟨ys, h1, h2, h3, h5, h4⟩ := hB
  intro hF hN H locs ls hl hH hS
  by_cases h : 0 ≤ i ∧ i < Lx
  · rw [pw_sx, if_pos h] at hF
    have hr : pw_R i := ⟨by omega, by omega⟩
    have hcl : (iI i).toNatClampNeg = i.toNat := iI_cl hr
    refine va_sld (A := fun q => b ≤ q) hX.1 hX.2.1 h1 h2 (by show ¬ b ≤ bs; exact Nat.not_le.mpr h3) hS (i := iI i) ?_ d ?_
    · intro q
      rcases q with q | q
      · have := (iI_lt (x := i) (y := 0) hr (by omega)).mp q
        omega
      · rw [hcl] at q
        omega
    · have hk := K _ hF hN H locs ls hl hH hS
      have e9 : iI (xs i.toNat) = ys (iI i).toNatClampNeg := by rw [hcl, h4, iI_of]
      rw [e9] at hk
      exact hk
  · rw [pw_sx, if_neg h] at hF; cases hF
theorem sp_slen (hX : pw_Ok X cc own rm nL) (hB : pw_Scr X bs Lx xs) (d : decode cc pc = .ok (.arraylength, 1)) (K : pw_Sp X cells slots (pc + 1) L (.int (iI Lx) :: st) σ F) : pw_Sp X cells slots pc L (.retAddr bs :: st) σ F := by
  obtain ⟨⟨p, l, e, R, s, m, args, below, meth, c⟩, Q, ⟨b, D, c1, c2, c3⟩, out, mc, ms⟩ := X
  obtain ⟨ys, h1, h2, h3, h5, h4⟩ := hB
  intro hF hN H locs ls hl hH hS
  exact va_slen (A := fun q => b ≤ q) hX.1 hX.2.1 h1 h2 (by show ¬ b ≤ bs; exact Nat.not_le.mpr h3) hS d (K hF hN H locs ls hl hH hS)
theorem sp_icmp_eqN (hX : pw_Ok X cc own rm nL) {x y : Int} {off : Int} (tgt : Nat) (ht : (pc : Int) + off = (tgt : Int)) (d : decode cc pc = .ok (.if_icmp .eq off, 3)) (K : pw_Sp X cells slots tgt L st σ G) : pw_Sp X cells slots pc L (.int (iI y) :: .int (iI x) :: st) σ (if x = y then G else none) := by
  obtain ⟨⟨p, l, e, R, s, m, args, below, meth, c⟩, Q, ⟨b, D, c1, c2, c3⟩, out, mc, ms⟩ := X
  intro hF hN H locs ls hl hH hS
  by_cases h : x = y
  · rw [if_pos h] at hF
    refine lv_icmp_eq hX.1 hX.2.1 d ht (fun _ => K hF hN H locs ls hl hH hS) (fun q => absurd (by rw [h]) q)
  · rw [if_neg h] at hF; cases hF
theorem sp_lif_eqN (hX : pw_Ok X cc own rm nL) {x y : Int64} {off : Int} (tgt : Nat) (ht : (pc : Int) + off = (tgt : Int)) (d : decode cc pc = .ok (.ifCond .eq off, 3)) (K : pw_Sp X cells slots tgt L st σ G) : pw_Sp X cells slots pc L (.int (lg_cmp x y) :: st) σ (if x = y then G else none) := by
  obtain ⟨⟨p, l, e, R, s, m, args, below, meth, c⟩, Q, ⟨b, D, c1, c2, c3⟩, out, mc, ms⟩ := X
  intro hF hN H locs ls hl hH hS
  by_cases h : x = y
  · rw [if_pos h] at hF
    refine lv_if_eq hX.1 hX.2.1 d ht (fun _ => K hF hN H locs ls hl hH hS) (fun q => absurd ?_ q)
    subst h
    unfold lg_cmp
    simp
  · rw [if_neg h] at hF; cases hF
theorem sp_table (hX : pw_Ok X cc own rm nL) {x : Int} {dflt : Int} {offs : Array Int} {len : Nat} (d : decode cc pc = .ok (.tableswitch dflt 0 31 offs, len)) (tg : Nat → Nat) (ht : ∀ k, k < 32 → ∃ off, offs[k]? = some off ∧ (pc : Int) + off = (tg k : Int)) (hx : 0 ≤ x ∧ x < 32) {g : Nat → Option (α × pw_Sto)} (K : ∀ k, k < 32 → pw_Sp X cells slots (tg k) L st σ (g k)) : pw_Sp X cells slots pc L (.int (iI x) :: st) σ (g x.toNat) := by
  obtain ⟨⟨p, l, e, R, s, m, args, below, meth, c⟩, Q, ⟨b, D, c1, c2, c3⟩, out, mc, ms⟩ := X
  intro hF hN H locs ls hl hH hS
  have hr : (iI x).toInt = x := iI_toInt ⟨by omega, by omega⟩
  obtain ⟨off, h1, h2⟩ := ht x.toNat (by omega)
  exact lv_tableIn hX.1 hX.2.1 d (by rw [hr]; omega) (by rw [hr]; omega) (by rw [hr, Int.sub_zero]; exact h1) h2 (K x.toNat (by omega) hF hN H locs ls hl hH hS)
end PWlaw

theorem md_L_176 : decode code 176 = .ok (.aload_n 1, 1) := by decide +kernel
theorem md_L_177 : decode code 177 = .ok (.aload_n 0, 1) := by decide +kernel
theorem md_L_178 : decode code 178 = .ok (.iload_n 3, 1) := by decide +kernel
theorem md_L_179 : decode code 179 = .ok (.iconst 1, 1) := by decide +kernel
theorem md_L_180 : decode code 180 = .ok (.iadd, 1) := by decide +kernel
theorem md_L_181 : decode code 181 = .ok (.iaload, 1) := by decide +kernel
theorem md_L_182 : decode code 182 = .ok (.invokevirtual 13, 3) := by decide +kernel
theorem md_L_185 : decode code 185 = .ok (.aload_n 2, 1) := by decide +kernel
theorem md_L_186 : decode code 186 = .ok (.aload_n 0, 1) := by decide +kernel
theorem md_L_187 : decode code 187 = .ok (.iload_n 3, 1) := by decide +kernel
theorem md_L_188 : decode code 188 = .ok (.iconst 1, 1) := by decide +kernel
theorem md_L_189 : decode code 189 = .ok (.iadd, 1) := by decide +kernel
theorem md_L_190 : decode code 190 = .ok (.iaload, 1) := by decide +kernel
theorem md_L_191 : decode code 191 = .ok (.invokevirtual 17, 3) := by decide +kernel
theorem md_L_194 : decode code 194 = .ok (.if_icmp .eq 1119, 3) := by decide +kernel
theorem md_L_199 : decode code 199 = .ok (.aload_n 1, 1) := by decide +kernel
theorem md_L_200 : decode code 200 = .ok (.aload_n 0, 1) := by decide +kernel
theorem md_L_201 : decode code 201 = .ok (.iload_n 3, 1) := by decide +kernel
theorem md_L_202 : decode code 202 = .ok (.iconst 1, 1) := by decide +kernel
theorem md_L_203 : decode code 203 = .ok (.iadd, 1) := by decide +kernel
theorem md_L_204 : decode code 204 = .ok (.iaload, 1) := by decide +kernel
theorem md_L_205 : decode code 205 = .ok (.aload_n 0, 1) := by decide +kernel
theorem md_L_206 : decode code 206 = .ok (.iload_n 3, 1) := by decide +kernel
theorem md_L_207 : decode code 207 = .ok (.iconst 2, 1) := by decide +kernel
theorem md_L_208 : decode code 208 = .ok (.iadd, 1) := by decide +kernel
theorem md_L_209 : decode code 209 = .ok (.iaload, 1) := by decide +kernel
theorem md_L_210 : decode code 210 = .ok (.aload_n 0, 1) := by decide +kernel
theorem md_L_211 : decode code 211 = .ok (.iload_n 3, 1) := by decide +kernel
theorem md_L_212 : decode code 212 = .ok (.iconst 3, 1) := by decide +kernel
theorem md_L_213 : decode code 213 = .ok (.iadd, 1) := by decide +kernel
theorem md_L_214 : decode code 214 = .ok (.iaload, 1) := by decide +kernel
theorem md_L_215 : decode code 215 = .ok (.invokevirtual 18, 3) := by decide +kernel
theorem md_L_218 : decode code 218 = .ok (.aload_n 2, 1) := by decide +kernel
theorem md_L_219 : decode code 219 = .ok (.aload_n 0, 1) := by decide +kernel
theorem md_L_220 : decode code 220 = .ok (.iload_n 3, 1) := by decide +kernel
theorem md_L_221 : decode code 221 = .ok (.iconst 1, 1) := by decide +kernel
theorem md_L_222 : decode code 222 = .ok (.iadd, 1) := by decide +kernel
theorem md_L_223 : decode code 223 = .ok (.iaload, 1) := by decide +kernel
theorem md_L_224 : decode code 224 = .ok (.aload_n 0, 1) := by decide +kernel
theorem md_L_225 : decode code 225 = .ok (.iload_n 3, 1) := by decide +kernel
theorem md_L_226 : decode code 226 = .ok (.iconst 2, 1) := by decide +kernel
theorem md_L_227 : decode code 227 = .ok (.iadd, 1) := by decide +kernel
theorem md_L_228 : decode code 228 = .ok (.iaload, 1) := by decide +kernel
theorem md_L_229 : decode code 229 = .ok (.aload_n 0, 1) := by decide +kernel
theorem md_L_230 : decode code 230 = .ok (.iload_n 3, 1) := by decide +kernel
theorem md_L_231 : decode code 231 = .ok (.iconst 3, 1) := by decide +kernel
theorem md_L_232 : decode code 232 = .ok (.iadd, 1) := by decide +kernel
theorem md_L_233 : decode code 233 = .ok (.iaload, 1) := by decide +kernel
theorem md_L_234 : decode code 234 = .ok (.invokevirtual 22, 3) := by decide +kernel
theorem md_L_237 : decode code 237 = .ok (.if_icmp .eq 1076, 3) := by decide +kernel
theorem md_L_242 : decode code 242 = .ok (.aload_n 1, 1) := by decide +kernel
theorem md_L_243 : decode code 243 = .ok (.aload_n 0, 1) := by decide +kernel
theorem md_L_244 : decode code 244 = .ok (.iload_n 3, 1) := by decide +kernel
theorem md_L_245 : decode code 245 = .ok (.iconst 1, 1) := by decide +kernel
theorem md_L_246 : decode code 246 = .ok (.iadd, 1) := by decide +kernel
theorem md_L_247 : decode code 247 = .ok (.iaload, 1) := by decide +kernel
theorem md_L_248 : decode code 248 = .ok (.aload_n 0, 1) := by decide +kernel
theorem md_L_249 : decode code 249 = .ok (.iload_n 3, 1) := by decide +kernel
theorem md_L_250 : decode code 250 = .ok (.iconst 2, 1) := by decide +kernel
theorem md_L_251 : decode code 251 = .ok (.iadd, 1) := by decide +kernel
theorem md_L_252 : decode code 252 = .ok (.iaload, 1) := by decide +kernel
theorem md_L_253 : decode code 253 = .ok (.invokevirtual 23, 3) := by decide +kernel
theorem md_L_256 : decode code 256 = .ok (.aload_n 2, 1) := by decide +kernel
theorem md_L_257 : decode code 257 = .ok (.aload_n 0, 1) := by decide +kernel
theorem md_L_258 : decode code 258 = .ok (.iload_n 3, 1) := by decide +kernel
theorem md_L_259 : decode code 259 = .ok (.iconst 1, 1) := by decide +kernel
theorem md_L_260 : decode code 260 = .ok (.iadd, 1) := by decide +kernel
theorem md_L_261 : decode code 261 = .ok (.iaload, 1) := by decide +kernel
theorem md_L_262 : decode code 262 = .ok (.aload_n 0, 1) := by decide +kernel
theorem md_L_263 : decode code 263 = .ok (.iload_n 3, 1) := by decide +kernel
theorem md_L_264 : decode code 264 = .ok (.iconst 2, 1) := by decide +kernel
theorem md_L_265 : decode code 265 = .ok (.iadd, 1) := by decide +kernel
theorem md_L_266 : decode code 266 = .ok (.iaload, 1) := by decide +kernel
theorem md_L_267 : decode code 267 = .ok (.invokevirtual 27, 3) := by decide +kernel
theorem md_L_270 : decode code 270 = .ok (.if_icmp .eq 1043, 3) := by decide +kernel
theorem md_L_275 : decode code 275 = .ok (.aload_n 1, 1) := by decide +kernel
theorem md_L_276 : decode code 276 = .ok (.aload_n 0, 1) := by decide +kernel
theorem md_L_277 : decode code 277 = .ok (.iload_n 3, 1) := by decide +kernel
theorem md_L_278 : decode code 278 = .ok (.iconst 1, 1) := by decide +kernel
theorem md_L_279 : decode code 279 = .ok (.iadd, 1) := by decide +kernel
theorem md_L_280 : decode code 280 = .ok (.iaload, 1) := by decide +kernel
theorem md_L_281 : decode code 281 = .ok (.aload_n 0, 1) := by decide +kernel
theorem md_L_282 : decode code 282 = .ok (.iload_n 3, 1) := by decide +kernel
theorem md_L_283 : decode code 283 = .ok (.iconst 2, 1) := by decide +kernel
theorem md_L_284 : decode code 284 = .ok (.iadd, 1) := by decide +kernel
theorem md_L_285 : decode code 285 = .ok (.iaload, 1) := by decide +kernel
theorem md_L_286 : decode code 286 = .ok (.aload_n 0, 1) := by decide +kernel
theorem md_L_287 : decode code 287 = .ok (.iload_n 3, 1) := by decide +kernel
theorem md_L_288 : decode code 288 = .ok (.iconst 3, 1) := by decide +kernel
theorem md_L_289 : decode code 289 = .ok (.iadd, 1) := by decide +kernel
theorem md_L_290 : decode code 290 = .ok (.iaload, 1) := by decide +kernel
theorem md_L_291 : decode code 291 = .ok (.invokevirtual 28, 3) := by decide +kernel
theorem md_L_294 : decode code 294 = .ok (.aload_n 2, 1) := by decide +kernel
theorem md_L_295 : decode code 295 = .ok (.aload_n 0, 1) := by decide +kernel
theorem md_L_296 : decode code 296 = .ok (.iload_n 3, 1) := by decide +kernel
theorem md_L_297 : decode code 297 = .ok (.iconst 1, 1) := by decide +kernel
theorem md_L_298 : decode code 298 = .ok (.iadd, 1) := by decide +kernel
theorem md_L_299 : decode code 299 = .ok (.iaload, 1) := by decide +kernel
theorem md_L_300 : decode code 300 = .ok (.aload_n 0, 1) := by decide +kernel
theorem md_L_301 : decode code 301 = .ok (.iload_n 3, 1) := by decide +kernel
theorem md_L_302 : decode code 302 = .ok (.iconst 2, 1) := by decide +kernel
theorem md_L_303 : decode code 303 = .ok (.iadd, 1) := by decide +kernel
theorem md_L_304 : decode code 304 = .ok (.iaload, 1) := by decide +kernel
theorem md_L_305 : decode code 305 = .ok (.aload_n 0, 1) := by decide +kernel
theorem md_L_306 : decode code 306 = .ok (.iload_n 3, 1) := by decide +kernel
theorem md_L_307 : decode code 307 = .ok (.iconst 3, 1) := by decide +kernel
theorem md_L_308 : decode code 308 = .ok (.iadd, 1) := by decide +kernel
theorem md_L_309 : decode code 309 = .ok (.iaload, 1) := by decide +kernel
theorem md_L_310 : decode code 310 = .ok (.invokevirtual 31, 3) := by decide +kernel
theorem md_L_313 : decode code 313 = .ok (.if_icmp .eq 1000, 3) := by decide +kernel
theorem md_L_318 : decode code 318 = .ok (.aload_n 1, 1) := by decide +kernel
theorem md_L_319 : decode code 319 = .ok (.aload_n 0, 1) := by decide +kernel
theorem md_L_320 : decode code 320 = .ok (.iload_n 3, 1) := by decide +kernel
theorem md_L_321 : decode code 321 = .ok (.iconst 1, 1) := by decide +kernel
theorem md_L_322 : decode code 322 = .ok (.iadd, 1) := by decide +kernel
theorem md_L_323 : decode code 323 = .ok (.iaload, 1) := by decide +kernel
theorem md_L_324 : decode code 324 = .ok (.aload_n 0, 1) := by decide +kernel
theorem md_L_325 : decode code 325 = .ok (.iload_n 3, 1) := by decide +kernel
theorem md_L_326 : decode code 326 = .ok (.iconst 2, 1) := by decide +kernel
theorem md_L_327 : decode code 327 = .ok (.iadd, 1) := by decide +kernel
theorem md_L_328 : decode code 328 = .ok (.iaload, 1) := by decide +kernel
theorem md_L_329 : decode code 329 = .ok (.aload_n 0, 1) := by decide +kernel
theorem md_L_330 : decode code 330 = .ok (.iload_n 3, 1) := by decide +kernel
theorem md_L_331 : decode code 331 = .ok (.iconst 3, 1) := by decide +kernel
theorem md_L_332 : decode code 332 = .ok (.iadd, 1) := by decide +kernel
theorem md_L_333 : decode code 333 = .ok (.iaload, 1) := by decide +kernel
theorem md_L_334 : decode code 334 = .ok (.invokevirtual 32, 3) := by decide +kernel
theorem md_L_337 : decode code 337 = .ok (.aload_n 2, 1) := by decide +kernel
theorem md_L_338 : decode code 338 = .ok (.aload_n 0, 1) := by decide +kernel
theorem md_L_339 : decode code 339 = .ok (.iload_n 3, 1) := by decide +kernel
theorem md_L_340 : decode code 340 = .ok (.iconst 1, 1) := by decide +kernel
theorem md_L_341 : decode code 341 = .ok (.iadd, 1) := by decide +kernel
theorem md_L_342 : decode code 342 = .ok (.iaload, 1) := by decide +kernel
theorem md_L_343 : decode code 343 = .ok (.aload_n 0, 1) := by decide +kernel
theorem md_L_344 : decode code 344 = .ok (.iload_n 3, 1) := by decide +kernel
theorem md_L_345 : decode code 345 = .ok (.iconst 2, 1) := by decide +kernel
theorem md_L_346 : decode code 346 = .ok (.iadd, 1) := by decide +kernel
theorem md_L_347 : decode code 347 = .ok (.iaload, 1) := by decide +kernel
theorem md_L_348 : decode code 348 = .ok (.aload_n 0, 1) := by decide +kernel
theorem md_L_349 : decode code 349 = .ok (.iload_n 3, 1) := by decide +kernel
theorem md_L_350 : decode code 350 = .ok (.iconst 3, 1) := by decide +kernel
theorem md_L_351 : decode code 351 = .ok (.iadd, 1) := by decide +kernel
theorem md_L_352 : decode code 352 = .ok (.iaload, 1) := by decide +kernel
theorem md_L_353 : decode code 353 = .ok (.invokevirtual 35, 3) := by decide +kernel
theorem md_L_356 : decode code 356 = .ok (.if_icmp .eq 957, 3) := by decide +kernel
theorem md_L_361 : decode code 361 = .ok (.aload_n 1, 1) := by decide +kernel
theorem md_L_362 : decode code 362 = .ok (.aload_n 0, 1) := by decide +kernel
theorem md_L_363 : decode code 363 = .ok (.iload_n 3, 1) := by decide +kernel
theorem md_L_364 : decode code 364 = .ok (.iconst 1, 1) := by decide +kernel
theorem md_L_365 : decode code 365 = .ok (.iadd, 1) := by decide +kernel
theorem md_L_366 : decode code 366 = .ok (.iaload, 1) := by decide +kernel
theorem md_L_367 : decode code 367 = .ok (.aload_n 0, 1) := by decide +kernel
theorem md_L_368 : decode code 368 = .ok (.iload_n 3, 1) := by decide +kernel
theorem md_L_369 : decode code 369 = .ok (.iconst 2, 1) := by decide +kernel
theorem md_L_370 : decode code 370 = .ok (.iadd, 1) := by decide +kernel
theorem md_L_371 : decode code 371 = .ok (.iaload, 1) := by decide +kernel
theorem md_L_372 : decode code 372 = .ok (.invokevirtual 36, 3) := by decide +kernel
theorem md_L_375 : decode code 375 = .ok (.aload_n 2, 1) := by decide +kernel
theorem md_L_376 : decode code 376 = .ok (.aload_n 0, 1) := by decide +kernel
theorem md_L_377 : decode code 377 = .ok (.iload_n 3, 1) := by decide +kernel
theorem md_L_378 : decode code 378 = .ok (.iconst 1, 1) := by decide +kernel
theorem md_L_379 : decode code 379 = .ok (.iadd, 1) := by decide +kernel
theorem md_L_380 : decode code 380 = .ok (.iaload, 1) := by decide +kernel
theorem md_L_381 : decode code 381 = .ok (.aload_n 0, 1) := by decide +kernel
theorem md_L_382 : decode code 382 = .ok (.iload_n 3, 1) := by decide +kernel
theorem md_L_383 : decode code 383 = .ok (.iconst 2, 1) := by decide +kernel
theorem md_L_384 : decode code 384 = .ok (.iadd, 1) := by decide +kernel
theorem md_L_385 : decode code 385 = .ok (.iaload, 1) := by decide +kernel
theorem md_L_386 : decode code 386 = .ok (.invokevirtual 39, 3) := by decide +kernel
theorem md_L_389 : decode code 389 = .ok (.if_icmp .eq 924, 3) := by decide +kernel
theorem md_L_394 : decode code 394 = .ok (.aload_n 1, 1) := by decide +kernel
theorem md_L_395 : decode code 395 = .ok (.aload_n 0, 1) := by decide +kernel
theorem md_L_396 : decode code 396 = .ok (.iload_n 3, 1) := by decide +kernel
theorem md_L_397 : decode code 397 = .ok (.iconst 1, 1) := by decide +kernel
theorem md_L_398 : decode code 398 = .ok (.iadd, 1) := by decide +kernel
theorem md_L_399 : decode code 399 = .ok (.iaload, 1) := by decide +kernel
theorem md_L_400 : decode code 400 = .ok (.aload_n 0, 1) := by decide +kernel
theorem md_L_401 : decode code 401 = .ok (.iload_n 3, 1) := by decide +kernel
theorem md_L_402 : decode code 402 = .ok (.iconst 2, 1) := by decide +kernel
theorem md_L_403 : decode code 403 = .ok (.iadd, 1) := by decide +kernel
theorem md_L_404 : decode code 404 = .ok (.iaload, 1) := by decide +kernel
theorem md_L_405 : decode code 405 = .ok (.aload_n 0, 1) := by decide +kernel
theorem md_L_406 : decode code 406 = .ok (.iload_n 3, 1) := by decide +kernel
theorem md_L_407 : decode code 407 = .ok (.iconst 3, 1) := by decide +kernel
theorem md_L_408 : decode code 408 = .ok (.iadd, 1) := by decide +kernel
theorem md_L_409 : decode code 409 = .ok (.iaload, 1) := by decide +kernel
theorem md_L_410 : decode code 410 = .ok (.invokevirtual 40, 3) := by decide +kernel
theorem md_L_413 : decode code 413 = .ok (.aload_n 2, 1) := by decide +kernel
theorem md_L_414 : decode code 414 = .ok (.aload_n 0, 1) := by decide +kernel
theorem md_L_415 : decode code 415 = .ok (.iload_n 3, 1) := by decide +kernel
theorem md_L_416 : decode code 416 = .ok (.iconst 1, 1) := by decide +kernel
theorem md_L_417 : decode code 417 = .ok (.iadd, 1) := by decide +kernel
theorem md_L_418 : decode code 418 = .ok (.iaload, 1) := by decide +kernel
theorem md_L_419 : decode code 419 = .ok (.aload_n 0, 1) := by decide +kernel
theorem md_L_420 : decode code 420 = .ok (.iload_n 3, 1) := by decide +kernel
theorem md_L_421 : decode code 421 = .ok (.iconst 2, 1) := by decide +kernel
theorem md_L_422 : decode code 422 = .ok (.iadd, 1) := by decide +kernel
theorem md_L_423 : decode code 423 = .ok (.iaload, 1) := by decide +kernel
theorem md_L_424 : decode code 424 = .ok (.aload_n 0, 1) := by decide +kernel
theorem md_L_425 : decode code 425 = .ok (.iload_n 3, 1) := by decide +kernel
theorem md_L_426 : decode code 426 = .ok (.iconst 3, 1) := by decide +kernel
theorem md_L_427 : decode code 427 = .ok (.iadd, 1) := by decide +kernel
theorem md_L_428 : decode code 428 = .ok (.iaload, 1) := by decide +kernel
theorem md_L_429 : decode code 429 = .ok (.invokevirtual 43, 3) := by decide +kernel
theorem md_L_432 : decode code 432 = .ok (.if_icmp .eq 881, 3) := by decide +kernel
theorem md_L_437 : decode code 437 = .ok (.aload_n 1, 1) := by decide +kernel
theorem md_L_438 : decode code 438 = .ok (.aload_n 0, 1) := by decide +kernel
theorem md_L_439 : decode code 439 = .ok (.iload_n 3, 1) := by decide +kernel
theorem md_L_440 : decode code 440 = .ok (.iconst 1, 1) := by decide +kernel
theorem md_L_441 : decode code 441 = .ok (.iadd, 1) := by decide +kernel
theorem md_L_442 : decode code 442 = .ok (.iaload, 1) := by decide +kernel
theorem md_L_443 : decode code 443 = .ok (.aload_n 0, 1) := by decide +kernel
theorem md_L_444 : decode code 444 = .ok (.iload_n 3, 1) := by decide +kernel
theorem md_L_445 : decode code 445 = .ok (.iconst 2, 1) := by decide +kernel
theorem md_L_446 : decode code 446 = .ok (.iadd, 1) := by decide +kernel
theorem md_L_447 : decode code 447 = .ok (.iaload, 1) := by decide +kernel
theorem md_L_448 : decode code 448 = .ok (.invokevirtual 44, 3) := by decide +kernel
theorem md_L_451 : decode code 451 = .ok (.aload_n 2, 1) := by decide +kernel
theorem md_L_452 : decode code 452 = .ok (.aload_n 0, 1) := by decide +kernel
theorem md_L_453 : decode code 453 = .ok (.iload_n 3, 1) := by decide +kernel
theorem md_L_454 : decode code 454 = .ok (.iconst 1, 1) := by decide +kernel
theorem md_L_455 : decode code 455 = .ok (.iadd, 1) := by decide +kernel
theorem md_L_456 : decode code 456 = .ok (.iaload, 1) := by decide +kernel
theorem md_L_457 : decode code 457 = .ok (.aload_n 0, 1) := by decide +kernel
theorem md_L_458 : decode code 458 = .ok (.iload_n 3, 1) := by decide +kernel
theorem md_L_459 : decode code 459 = .ok (.iconst 2, 1) := by decide +kernel
theorem md_L_460 : decode code 460 = .ok (.iadd, 1) := by decide +kernel
theorem md_L_461 : decode code 461 = .ok (.iaload, 1) := by decide +kernel
theorem md_L_462 : decode code 462 = .ok (.invokevirtual 47, 3) := by decide +kernel
theorem md_L_465 : decode code 465 = .ok (.if_icmp .eq 848, 3) := by decide +kernel
theorem md_L_470 : decode code 470 = .ok (.aload_n 1, 1) := by decide +kernel
theorem md_L_471 : decode code 471 = .ok (.aload_n 0, 1) := by decide +kernel
theorem md_L_472 : decode code 472 = .ok (.iload_n 3, 1) := by decide +kernel
theorem md_L_473 : decode code 473 = .ok (.iconst 1, 1) := by decide +kernel
theorem md_L_474 : decode code 474 = .ok (.iadd, 1) := by decide +kernel
theorem md_L_475 : decode code 475 = .ok (.iaload, 1) := by decide +kernel
theorem md_L_476 : decode code 476 = .ok (.invokevirtual 48, 3) := by decide +kernel
theorem md_L_479 : decode code 479 = .ok (.aload_n 2, 1) := by decide +kernel
theorem md_L_480 : decode code 480 = .ok (.aload_n 0, 1) := by decide +kernel
theorem md_L_481 : decode code 481 = .ok (.iload_n 3, 1) := by decide +kernel
theorem md_L_482 : decode code 482 = .ok (.iconst 1, 1) := by decide +kernel
theorem md_L_483 : decode code 483 = .ok (.iadd, 1) := by decide +kernel
theorem md_L_484 : decode code 484 = .ok (.iaload, 1) := by decide +kernel
theorem md_L_485 : decode code 485 = .ok (.invokevirtual 51, 3) := by decide +kernel
theorem md_L_488 : decode code 488 = .ok (.if_icmp .eq 825, 3) := by decide +kernel
theorem md_L_493 : decode code 493 = .ok (.aload_n 1, 1) := by decide +kernel
theorem md_L_494 : decode code 494 = .ok (.invokevirtual 52, 3) := by decide +kernel
theorem md_L_497 : decode code 497 = .ok (.aload_n 2, 1) := by decide +kernel
theorem md_L_498 : decode code 498 = .ok (.invokevirtual 56, 3) := by decide +kernel
theorem md_L_501 : decode code 501 = .ok (.if_icmp .eq 812, 3) := by decide +kernel
theorem md_L_506 : decode code 506 = .ok (.aload_n 1, 1) := by decide +kernel
theorem md_L_507 : decode code 507 = .ok (.aload_n 0, 1) := by decide +kernel
theorem md_L_508 : decode code 508 = .ok (.iload_n 3, 1) := by decide +kernel
theorem md_L_509 : decode code 509 = .ok (.iconst 1, 1) := by decide +kernel
theorem md_L_510 : decode code 510 = .ok (.iadd, 1) := by decide +kernel
theorem md_L_511 : decode code 511 = .ok (.iaload, 1) := by decide +kernel
theorem md_L_512 : decode code 512 = .ok (.invokevirtual 57, 3) := by decide +kernel
theorem md_L_515 : decode code 515 = .ok (.aload_n 2, 1) := by decide +kernel
theorem md_L_516 : decode code 516 = .ok (.aload_n 0, 1) := by decide +kernel
theorem md_L_517 : decode code 517 = .ok (.iload_n 3, 1) := by decide +kernel
theorem md_L_518 : decode code 518 = .ok (.iconst 1, 1) := by decide +kernel
theorem md_L_519 : decode code 519 = .ok (.iadd, 1) := by decide +kernel
theorem md_L_520 : decode code 520 = .ok (.iaload, 1) := by decide +kernel
theorem md_L_521 : decode code 521 = .ok (.invokevirtual 60, 3) := by decide +kernel
theorem md_L_524 : decode code 524 = .ok (.if_icmp .eq 789, 3) := by decide +kernel
theorem md_L_529 : decode code 529 = .ok (.aload_n 1, 1) := by decide +kernel
theorem md_L_530 : decode code 530 = .ok (.aload_n 0, 1) := by decide +kernel
theorem md_L_531 : decode code 531 = .ok (.iload_n 3, 1) := by decide +kernel
theorem md_L_532 : decode code 532 = .ok (.iconst 1, 1) := by decide +kernel
theorem md_L_533 : decode code 533 = .ok (.iadd, 1) := by decide +kernel
theorem md_L_534 : decode code 534 = .ok (.iaload, 1) := by decide +kernel
theorem md_L_535 : decode code 535 = .ok (.aload_n 0, 1) := by decide +kernel
theorem md_L_536 : decode code 536 = .ok (.iload_n 3, 1) := by decide +kernel
theorem md_L_537 : decode code 537 = .ok (.iconst 2, 1) := by decide +kernel
theorem md_L_538 : decode code 538 = .ok (.iadd, 1) := by decide +kernel
theorem md_L_539 : decode code 539 = .ok (.iaload, 1) := by decide +kernel
theorem md_L_540 : decode code 540 = .ok (.aload_n 0, 1) := by decide +kernel
theorem md_L_541 : decode code 541 = .ok (.iload_n 3, 1) := by decide +kernel
theorem md_L_542 : decode code 542 = .ok (.iconst 3, 1) := by decide +kernel
theorem md_L_543 : decode code 543 = .ok (.iadd, 1) := by decide +kernel
theorem md_L_544 : decode code 544 = .ok (.iaload, 1) := by decide +kernel
theorem md_L_545 : decode code 545 = .ok (.invokevirtual 61, 3) := by decide +kernel
theorem md_L_548 : decode code 548 = .ok (.aload_n 2, 1) := by decide +kernel
theorem md_L_549 : decode code 549 = .ok (.aload_n 0, 1) := by decide +kernel
theorem md_L_550 : decode code 550 = .ok (.iload_n 3, 1) := by decide +kernel
theorem md_L_551 : decode code 551 = .ok (.iconst 1, 1) := by decide +kernel
theorem md_L_552 : decode code 552 = .ok (.iadd, 1) := by decide +kernel
theorem md_L_553 : decode code 553 = .ok (.iaload, 1) := by decide +kernel
theorem md_L_554 : decode code 554 = .ok (.aload_n 0, 1) := by decide +kernel
theorem md_L_555 : decode code 555 = .ok (.iload_n 3, 1) := by decide +kernel
theorem md_L_556 : decode code 556 = .ok (.iconst 2, 1) := by decide +kernel
theorem md_L_557 : decode code 557 = .ok (.iadd, 1) := by decide +kernel
theorem md_L_558 : decode code 558 = .ok (.iaload, 1) := by decide +kernel
theorem md_L_559 : decode code 559 = .ok (.aload_n 0, 1) := by decide +kernel
theorem md_L_560 : decode code 560 = .ok (.iload_n 3, 1) := by decide +kernel
theorem md_L_561 : decode code 561 = .ok (.iconst 3, 1) := by decide +kernel
theorem md_L_562 : decode code 562 = .ok (.iadd, 1) := by decide +kernel
theorem md_L_563 : decode code 563 = .ok (.iaload, 1) := by decide +kernel
theorem md_L_564 : decode code 564 = .ok (.invokevirtual 64, 3) := by decide +kernel
theorem md_L_567 : decode code 567 = .ok (.if_icmp .eq 746, 3) := by decide +kernel
theorem md_L_572 : decode code 572 = .ok (.aload_n 1, 1) := by decide +kernel
theorem md_L_573 : decode code 573 = .ok (.aload_n 0, 1) := by decide +kernel
theorem md_L_574 : decode code 574 = .ok (.iload_n 3, 1) := by decide +kernel
theorem md_L_575 : decode code 575 = .ok (.iconst 1, 1) := by decide +kernel
theorem md_L_576 : decode code 576 = .ok (.iadd, 1) := by decide +kernel
theorem md_L_577 : decode code 577 = .ok (.iaload, 1) := by decide +kernel
theorem md_L_578 : decode code 578 = .ok (.aload_n 0, 1) := by decide +kernel
theorem md_L_579 : decode code 579 = .ok (.iload_n 3, 1) := by decide +kernel
theorem md_L_580 : decode code 580 = .ok (.iconst 2, 1) := by decide +kernel
theorem md_L_581 : decode code 581 = .ok (.iadd, 1) := by decide +kernel
theorem md_L_582 : decode code 582 = .ok (.iaload, 1) := by decide +kernel
theorem md_L_583 : decode code 583 = .ok (.aload_n 0, 1) := by decide +kernel
theorem md_L_584 : decode code 584 = .ok (.iload_n 3, 1) := by decide +kernel
theorem md_L_585 : decode code 585 = .ok (.iconst 3, 1) := by decide +kernel
theorem md_L_586 : decode code 586 = .ok (.iadd, 1) := by decide +kernel
theorem md_L_587 : decode code 587 = .ok (.iaload, 1) := by decide +kernel
theorem md_L_588 : decode code 588 = .ok (.invokevirtual 65, 3) := by decide +kernel
theorem md_L_591 : decode code 591 = .ok (.aload_n 2, 1) := by decide +kernel
theorem md_L_592 : decode code 592 = .ok (.aload_n 0, 1) := by decide +kernel
theorem md_L_593 : decode code 593 = .ok (.iload_n 3, 1) := by decide +kernel
theorem md_L_594 : decode code 594 = .ok (.iconst 1, 1) := by decide +kernel
theorem md_L_595 : decode code 595 = .ok (.iadd, 1) := by decide +kernel
theorem md_L_596 : decode code 596 = .ok (.iaload, 1) := by decide +kernel
theorem md_L_597 : decode code 597 = .ok (.aload_n 0, 1) := by decide +kernel
theorem md_L_598 : decode code 598 = .ok (.iload_n 3, 1) := by decide +kernel
theorem md_L_599 : decode code 599 = .ok (.iconst 2, 1) := by decide +kernel
theorem md_L_600 : decode code 600 = .ok (.iadd, 1) := by decide +kernel
theorem md_L_601 : decode code 601 = .ok (.iaload, 1) := by decide +kernel
theorem md_L_602 : decode code 602 = .ok (.aload_n 0, 1) := by decide +kernel
theorem md_L_603 : decode code 603 = .ok (.iload_n 3, 1) := by decide +kernel
theorem md_L_604 : decode code 604 = .ok (.iconst 3, 1) := by decide +kernel
theorem md_L_605 : decode code 605 = .ok (.iadd, 1) := by decide +kernel
theorem md_L_606 : decode code 606 = .ok (.iaload, 1) := by decide +kernel
theorem md_L_607 : decode code 607 = .ok (.invokevirtual 68, 3) := by decide +kernel
theorem md_L_610 : decode code 610 = .ok (.if_icmp .eq 703, 3) := by decide +kernel
theorem md_L_615 : decode code 615 = .ok (.aload_n 1, 1) := by decide +kernel
theorem md_L_616 : decode code 616 = .ok (.aload_n 0, 1) := by decide +kernel
theorem md_L_617 : decode code 617 = .ok (.iload_n 3, 1) := by decide +kernel
theorem md_L_618 : decode code 618 = .ok (.iconst 1, 1) := by decide +kernel
theorem md_L_619 : decode code 619 = .ok (.iadd, 1) := by decide +kernel
theorem md_L_620 : decode code 620 = .ok (.iaload, 1) := by decide +kernel
theorem md_L_621 : decode code 621 = .ok (.aload_n 0, 1) := by decide +kernel
theorem md_L_622 : decode code 622 = .ok (.iload_n 3, 1) := by decide +kernel
theorem md_L_623 : decode code 623 = .ok (.iconst 2, 1) := by decide +kernel
theorem md_L_624 : decode code 624 = .ok (.iadd, 1) := by decide +kernel
theorem md_L_625 : decode code 625 = .ok (.iaload, 1) := by decide +kernel
theorem md_L_626 : decode code 626 = .ok (.aload_n 0, 1) := by decide +kernel
theorem md_L_627 : decode code 627 = .ok (.iload_n 3, 1) := by decide +kernel
theorem md_L_628 : decode code 628 = .ok (.iconst 3, 1) := by decide +kernel
theorem md_L_629 : decode code 629 = .ok (.iadd, 1) := by decide +kernel
theorem md_L_630 : decode code 630 = .ok (.iaload, 1) := by decide +kernel
theorem md_L_631 : decode code 631 = .ok (.aload_n 0, 1) := by decide +kernel
theorem md_L_632 : decode code 632 = .ok (.iload_n 3, 1) := by decide +kernel
theorem md_L_633 : decode code 633 = .ok (.iconst 4, 1) := by decide +kernel
theorem md_L_634 : decode code 634 = .ok (.iadd, 1) := by decide +kernel
theorem md_L_635 : decode code 635 = .ok (.iaload, 1) := by decide +kernel
theorem md_L_636 : decode code 636 = .ok (.invokevirtual 69, 3) := by decide +kernel
theorem md_L_639 : decode code 639 = .ok (.aload_n 2, 1) := by decide +kernel
theorem md_L_640 : decode code 640 = .ok (.aload_n 0, 1) := by decide +kernel
theorem md_L_641 : decode code 641 = .ok (.iload_n 3, 1) := by decide +kernel
theorem md_L_642 : decode code 642 = .ok (.iconst 1, 1) := by decide +kernel
theorem md_L_643 : decode code 643 = .ok (.iadd, 1) := by decide +kernel
theorem md_L_644 : decode code 644 = .ok (.iaload, 1) := by decide +kernel
theorem md_L_645 : decode code 645 = .ok (.aload_n 0, 1) := by decide +kernel
theorem md_L_646 : decode code 646 = .ok (.iload_n 3, 1) := by decide +kernel
theorem md_L_647 : decode code 647 = .ok (.iconst 2, 1) := by decide +kernel
theorem md_L_648 : decode code 648 = .ok (.iadd, 1) := by decide +kernel
theorem md_L_649 : decode code 649 = .ok (.iaload, 1) := by decide +kernel
theorem md_L_650 : decode code 650 = .ok (.aload_n 0, 1) := by decide +kernel
theorem md_L_651 : decode code 651 = .ok (.iload_n 3, 1) := by decide +kernel
theorem md_L_652 : decode code 652 = .ok (.iconst 3, 1) := by decide +kernel
theorem md_L_653 : decode code 653 = .ok (.iadd, 1) := by decide +kernel
theorem md_L_654 : decode code 654 = .ok (.iaload, 1) := by decide +kernel
theorem md_L_655 : decode code 655 = .ok (.aload_n 0, 1) := by decide +kernel
theorem md_L_656 : decode code 656 = .ok (.iload_n 3, 1) := by decide +kernel
theorem md_L_657 : decode code 657 = .ok (.iconst 4, 1) := by decide +kernel
theorem md_L_658 : decode code 658 = .ok (.iadd, 1) := by decide +kernel
theorem md_L_659 : decode code 659 = .ok (.iaload, 1) := by decide +kernel
theorem md_L_660 : decode code 660 = .ok (.invokevirtual 73, 3) := by decide +kernel
theorem md_L_663 : decode code 663 = .ok (.if_icmp .eq 650, 3) := by decide +kernel
theorem md_L_668 : decode code 668 = .ok (.aload_n 1, 1) := by decide +kernel
theorem md_L_669 : decode code 669 = .ok (.aload_n 0, 1) := by decide +kernel
theorem md_L_670 : decode code 670 = .ok (.iload_n 3, 1) := by decide +kernel
theorem md_L_671 : decode code 671 = .ok (.iconst 1, 1) := by decide +kernel
theorem md_L_672 : decode code 672 = .ok (.iadd, 1) := by decide +kernel
theorem md_L_673 : decode code 673 = .ok (.iaload, 1) := by decide +kernel
theorem md_L_674 : decode code 674 = .ok (.aload_n 0, 1) := by decide +kernel
theorem md_L_675 : decode code 675 = .ok (.iload_n 3, 1) := by decide +kernel
theorem md_L_676 : decode code 676 = .ok (.iconst 2, 1) := by decide +kernel
theorem md_L_677 : decode code 677 = .ok (.iadd, 1) := by decide +kernel
theorem md_L_678 : decode code 678 = .ok (.iaload, 1) := by decide +kernel
theorem md_L_679 : decode code 679 = .ok (.aload_n 0, 1) := by decide +kernel
theorem md_L_680 : decode code 680 = .ok (.iload_n 3, 1) := by decide +kernel
theorem md_L_681 : decode code 681 = .ok (.iconst 3, 1) := by decide +kernel
theorem md_L_682 : decode code 682 = .ok (.iadd, 1) := by decide +kernel
theorem md_L_683 : decode code 683 = .ok (.iaload, 1) := by decide +kernel
theorem md_L_684 : decode code 684 = .ok (.aload_n 0, 1) := by decide +kernel
theorem md_L_685 : decode code 685 = .ok (.iload_n 3, 1) := by decide +kernel
theorem md_L_686 : decode code 686 = .ok (.iconst 4, 1) := by decide +kernel
theorem md_L_687 : decode code 687 = .ok (.iadd, 1) := by decide +kernel
theorem md_L_688 : decode code 688 = .ok (.iaload, 1) := by decide +kernel
theorem md_L_689 : decode code 689 = .ok (.invokevirtual 74, 3) := by decide +kernel
theorem md_L_692 : decode code 692 = .ok (.aload_n 2, 1) := by decide +kernel
theorem md_L_693 : decode code 693 = .ok (.aload_n 0, 1) := by decide +kernel
theorem md_L_694 : decode code 694 = .ok (.iload_n 3, 1) := by decide +kernel
theorem md_L_695 : decode code 695 = .ok (.iconst 1, 1) := by decide +kernel
theorem md_L_696 : decode code 696 = .ok (.iadd, 1) := by decide +kernel
theorem md_L_697 : decode code 697 = .ok (.iaload, 1) := by decide +kernel
theorem md_L_698 : decode code 698 = .ok (.aload_n 0, 1) := by decide +kernel
theorem md_L_699 : decode code 699 = .ok (.iload_n 3, 1) := by decide +kernel
theorem md_L_700 : decode code 700 = .ok (.iconst 2, 1) := by decide +kernel
theorem md_L_701 : decode code 701 = .ok (.iadd, 1) := by decide +kernel
theorem md_L_702 : decode code 702 = .ok (.iaload, 1) := by decide +kernel
theorem md_L_703 : decode code 703 = .ok (.aload_n 0, 1) := by decide +kernel
theorem md_L_704 : decode code 704 = .ok (.iload_n 3, 1) := by decide +kernel
theorem md_L_705 : decode code 705 = .ok (.iconst 3, 1) := by decide +kernel
theorem md_L_706 : decode code 706 = .ok (.iadd, 1) := by decide +kernel
theorem md_L_707 : decode code 707 = .ok (.iaload, 1) := by decide +kernel
theorem md_L_708 : decode code 708 = .ok (.aload_n 0, 1) := by decide +kernel
theorem md_L_709 : decode code 709 = .ok (.iload_n 3, 1) := by decide +kernel
theorem md_L_710 : decode code 710 = .ok (.iconst 4, 1) := by decide +kernel
theorem md_L_711 : decode code 711 = .ok (.iadd, 1) := by decide +kernel
theorem md_L_712 : decode code 712 = .ok (.iaload, 1) := by decide +kernel
theorem md_L_713 : decode code 713 = .ok (.invokevirtual 77, 3) := by decide +kernel
theorem md_L_716 : decode code 716 = .ok (.if_icmp .eq 597, 3) := by decide +kernel
theorem md_L_721 : decode code 721 = .ok (.aload_n 1, 1) := by decide +kernel
theorem md_L_722 : decode code 722 = .ok (.aload_n 0, 1) := by decide +kernel
theorem md_L_723 : decode code 723 = .ok (.iload_n 3, 1) := by decide +kernel
theorem md_L_724 : decode code 724 = .ok (.iconst 1, 1) := by decide +kernel
theorem md_L_725 : decode code 725 = .ok (.iadd, 1) := by decide +kernel
theorem md_L_726 : decode code 726 = .ok (.iaload, 1) := by decide +kernel
theorem md_L_727 : decode code 727 = .ok (.aload_n 0, 1) := by decide +kernel
theorem md_L_728 : decode code 728 = .ok (.iload_n 3, 1) := by decide +kernel
theorem md_L_729 : decode code 729 = .ok (.iconst 2, 1) := by decide +kernel
theorem md_L_730 : decode code 730 = .ok (.iadd, 1) := by decide +kernel
theorem md_L_731 : decode code 731 = .ok (.iaload, 1) := by decide +kernel
theorem md_L_732 : decode code 732 = .ok (.aload_n 0, 1) := by decide +kernel
theorem md_L_733 : decode code 733 = .ok (.iload_n 3, 1) := by decide +kernel
theorem md_L_734 : decode code 734 = .ok (.iconst 3, 1) := by decide +kernel
theorem md_L_735 : decode code 735 = .ok (.iadd, 1) := by decide +kernel
theorem md_L_736 : decode code 736 = .ok (.iaload, 1) := by decide +kernel
theorem md_L_737 : decode code 737 = .ok (.invokevirtual 78, 3) := by decide +kernel
theorem md_L_740 : decode code 740 = .ok (.aload_n 2, 1) := by decide +kernel
theorem md_L_741 : decode code 741 = .ok (.aload_n 0, 1) := by decide +kernel
theorem md_L_742 : decode code 742 = .ok (.iload_n 3, 1) := by decide +kernel
theorem md_L_743 : decode code 743 = .ok (.iconst 1, 1) := by decide +kernel
theorem md_L_744 : decode code 744 = .ok (.iadd, 1) := by decide +kernel
theorem md_L_745 : decode code 745 = .ok (.iaload, 1) := by decide +kernel
theorem md_L_746 : decode code 746 = .ok (.aload_n 0, 1) := by decide +kernel
theorem md_L_747 : decode code 747 = .ok (.iload_n 3, 1) := by decide +kernel
theorem md_L_748 : decode code 748 = .ok (.iconst 2, 1) := by decide +kernel
theorem md_L_749 : decode code 749 = .ok (.iadd, 1) := by decide +kernel
theorem md_L_750 : decode code 750 = .ok (.iaload, 1) := by decide +kernel
theorem md_L_751 : decode code 751 = .ok (.aload_n 0, 1) := by decide +kernel
theorem md_L_752 : decode code 752 = .ok (.iload_n 3, 1) := by decide +kernel
theorem md_L_753 : decode code 753 = .ok (.iconst 3, 1) := by decide +kernel
theorem md_L_754 : decode code 754 = .ok (.iadd, 1) := by decide +kernel
theorem md_L_755 : decode code 755 = .ok (.iaload, 1) := by decide +kernel
theorem md_L_756 : decode code 756 = .ok (.invokevirtual 81, 3) := by decide +kernel
theorem md_L_759 : decode code 759 = .ok (.if_icmp .eq 554, 3) := by decide +kernel
theorem md_L_764 : decode code 764 = .ok (.aload_n 1, 1) := by decide +kernel
theorem md_L_765 : decode code 765 = .ok (.aload_n 0, 1) := by decide +kernel
theorem md_L_766 : decode code 766 = .ok (.iload_n 3, 1) := by decide +kernel
theorem md_L_767 : decode code 767 = .ok (.iconst 1, 1) := by decide +kernel
theorem md_L_768 : decode code 768 = .ok (.iadd, 1) := by decide +kernel
theorem md_L_769 : decode code 769 = .ok (.iaload, 1) := by decide +kernel
theorem md_L_770 : decode code 770 = .ok (.aload_n 0, 1) := by decide +kernel
theorem md_L_771 : decode code 771 = .ok (.iload_n 3, 1) := by decide +kernel
theorem md_L_772 : decode code 772 = .ok (.iconst 2, 1) := by decide +kernel
theorem md_L_773 : decode code 773 = .ok (.iadd, 1) := by decide +kernel
theorem md_L_774 : decode code 774 = .ok (.iaload, 1) := by decide +kernel
theorem md_L_775 : decode code 775 = .ok (.aload_n 0, 1) := by decide +kernel
theorem md_L_776 : decode code 776 = .ok (.iload_n 3, 1) := by decide +kernel
theorem md_L_777 : decode code 777 = .ok (.iconst 3, 1) := by decide +kernel
theorem md_L_778 : decode code 778 = .ok (.iadd, 1) := by decide +kernel
theorem md_L_779 : decode code 779 = .ok (.iaload, 1) := by decide +kernel
theorem md_L_780 : decode code 780 = .ok (.invokevirtual 82, 3) := by decide +kernel
theorem md_L_783 : decode code 783 = .ok (.aload_n 2, 1) := by decide +kernel
theorem md_L_784 : decode code 784 = .ok (.aload_n 0, 1) := by decide +kernel
theorem md_L_785 : decode code 785 = .ok (.iload_n 3, 1) := by decide +kernel
theorem md_L_786 : decode code 786 = .ok (.iconst 1, 1) := by decide +kernel
theorem md_L_787 : decode code 787 = .ok (.iadd, 1) := by decide +kernel
theorem md_L_788 : decode code 788 = .ok (.iaload, 1) := by decide +kernel
theorem md_L_789 : decode code 789 = .ok (.aload_n 0, 1) := by decide +kernel
theorem md_L_790 : decode code 790 = .ok (.iload_n 3, 1) := by decide +kernel
theorem md_L_791 : decode code 791 = .ok (.iconst 2, 1) := by decide +kernel
theorem md_L_792 : decode code 792 = .ok (.iadd, 1) := by decide +kernel
theorem md_L_793 : decode code 793 = .ok (.iaload, 1) := by decide +kernel
theorem md_L_794 : decode code 794 = .ok (.aload_n 0, 1) := by decide +kernel
theorem md_L_795 : decode code 795 = .ok (.iload_n 3, 1) := by decide +kernel
theorem md_L_796 : decode code 796 = .ok (.iconst 3, 1) := by decide +kernel
theorem md_L_797 : decode code 797 = .ok (.iadd, 1) := by decide +kernel
theorem md_L_798 : decode code 798 = .ok (.iaload, 1) := by decide +kernel
theorem md_L_799 : decode code 799 = .ok (.invokevirtual 85, 3) := by decide +kernel
theorem md_L_802 : decode code 802 = .ok (.if_icmp .eq 511, 3) := by decide +kernel
theorem md_L_807 : decode code 807 = .ok (.aload_n 1, 1) := by decide +kernel
theorem md_L_808 : decode code 808 = .ok (.aload_n 0, 1) := by decide +kernel
theorem md_L_809 : decode code 809 = .ok (.iload_n 3, 1) := by decide +kernel
theorem md_L_810 : decode code 810 = .ok (.iconst 1, 1) := by decide +kernel
theorem md_L_811 : decode code 811 = .ok (.iadd, 1) := by decide +kernel
theorem md_L_812 : decode code 812 = .ok (.iaload, 1) := by decide +kernel
theorem md_L_813 : decode code 813 = .ok (.aload_n 0, 1) := by decide +kernel
theorem md_L_814 : decode code 814 = .ok (.iload_n 3, 1) := by decide +kernel
theorem md_L_815 : decode code 815 = .ok (.iconst 2, 1) := by decide +kernel
theorem md_L_816 : decode code 816 = .ok (.iadd, 1) := by decide +kernel
theorem md_L_817 : decode code 817 = .ok (.iaload, 1) := by decide +kernel
theorem md_L_818 : decode code 818 = .ok (.aload_n 0, 1) := by decide +kernel
theorem md_L_819 : decode code 819 = .ok (.iload_n 3, 1) := by decide +kernel
theorem md_L_820 : decode code 820 = .ok (.iconst 3, 1) := by decide +kernel
theorem md_L_821 : decode code 821 = .ok (.iadd, 1) := by decide +kernel
theorem md_L_822 : decode code 822 = .ok (.iaload, 1) := by decide +kernel
theorem md_L_823 : decode code 823 = .ok (.aload_n 0, 1) := by decide +kernel
theorem md_L_824 : decode code 824 = .ok (.iload_n 3, 1) := by decide +kernel
theorem md_L_825 : decode code 825 = .ok (.iconst 4, 1) := by decide +kernel
theorem md_L_826 : decode code 826 = .ok (.iadd, 1) := by decide +kernel
theorem md_L_827 : decode code 827 = .ok (.iaload, 1) := by decide +kernel
theorem md_L_828 : decode code 828 = .ok (.invokevirtual 86, 3) := by decide +kernel
theorem md_L_831 : decode code 831 = .ok (.aload_n 2, 1) := by decide +kernel
theorem md_L_832 : decode code 832 = .ok (.aload_n 0, 1) := by decide +kernel
theorem md_L_833 : decode code 833 = .ok (.iload_n 3, 1) := by decide +kernel
theorem md_L_834 : decode code 834 = .ok (.iconst 1, 1) := by decide +kernel
theorem md_L_835 : decode code 835 = .ok (.iadd, 1) := by decide +kernel
theorem md_L_836 : decode code 836 = .ok (.iaload, 1) := by decide +kernel
theorem md_L_837 : decode code 837 = .ok (.aload_n 0, 1) := by decide +kernel
theorem md_L_838 : decode code 838 = .ok (.iload_n 3, 1) := by decide +kernel
theorem md_L_839 : decode code 839 = .ok (.iconst 2, 1) := by decide +kernel
theorem md_L_840 : decode code 840 = .ok (.iadd, 1) := by decide +kernel
theorem md_L_841 : decode code 841 = .ok (.iaload, 1) := by decide +kernel
theorem md_L_842 : decode code 842 = .ok (.aload_n 0, 1) := by decide +kernel
theorem md_L_843 : decode code 843 = .ok (.iload_n 3, 1) := by decide +kernel
theorem md_L_844 : decode code 844 = .ok (.iconst 3, 1) := by decide +kernel
theorem md_L_845 : decode code 845 = .ok (.iadd, 1) := by decide +kernel
theorem md_L_846 : decode code 846 = .ok (.iaload, 1) := by decide +kernel
theorem md_L_847 : decode code 847 = .ok (.aload_n 0, 1) := by decide +kernel
theorem md_L_848 : decode code 848 = .ok (.iload_n 3, 1) := by decide +kernel
theorem md_L_849 : decode code 849 = .ok (.iconst 4, 1) := by decide +kernel
theorem md_L_850 : decode code 850 = .ok (.iadd, 1) := by decide +kernel
theorem md_L_851 : decode code 851 = .ok (.iaload, 1) := by decide +kernel
theorem md_L_852 : decode code 852 = .ok (.invokevirtual 89, 3) := by decide +kernel
theorem md_L_855 : decode code 855 = .ok (.if_icmp .eq 458, 3) := by decide +kernel
theorem md_L_860 : decode code 860 = .ok (.aload_n 1, 1) := by decide +kernel
theorem md_L_861 : decode code 861 = .ok (.aload_n 0, 1) := by decide +kernel
theorem md_L_862 : decode code 862 = .ok (.iload_n 3, 1) := by decide +kernel
theorem md_L_863 : decode code 863 = .ok (.iconst 1, 1) := by decide +kernel
theorem md_L_864 : decode code 864 = .ok (.iadd, 1) := by decide +kernel
theorem md_L_865 : decode code 865 = .ok (.iaload, 1) := by decide +kernel
theorem md_L_866 : decode code 866 = .ok (.aload_n 0, 1) := by decide +kernel
theorem md_L_867 : decode code 867 = .ok (.iload_n 3, 1) := by decide +kernel
theorem md_L_868 : decode code 868 = .ok (.iconst 2, 1) := by decide +kernel
theorem md_L_869 : decode code 869 = .ok (.iadd, 1) := by decide +kernel
theorem md_L_870 : decode code 870 = .ok (.iaload, 1) := by decide +kernel
theorem md_L_871 : decode code 871 = .ok (.invokevirtual 90, 3) := by decide +kernel
theorem md_L_874 : decode code 874 = .ok (.aload_n 2, 1) := by decide +kernel
theorem md_L_875 : decode code 875 = .ok (.aload_n 0, 1) := by decide +kernel
theorem md_L_876 : decode code 876 = .ok (.iload_n 3, 1) := by decide +kernel
theorem md_L_877 : decode code 877 = .ok (.iconst 1, 1) := by decide +kernel
theorem md_L_878 : decode code 878 = .ok (.iadd, 1) := by decide +kernel
theorem md_L_879 : decode code 879 = .ok (.iaload, 1) := by decide +kernel
theorem md_L_880 : decode code 880 = .ok (.aload_n 0, 1) := by decide +kernel
theorem md_L_881 : decode code 881 = .ok (.iload_n 3, 1) := by decide +kernel
theorem md_L_882 : decode code 882 = .ok (.iconst 2, 1) := by decide +kernel
theorem md_L_883 : decode code 883 = .ok (.iadd, 1) := by decide +kernel
theorem md_L_884 : decode code 884 = .ok (.iaload, 1) := by decide +kernel
theorem md_L_885 : decode code 885 = .ok (.invokevirtual 93, 3) := by decide +kernel
theorem md_L_888 : decode code 888 = .ok (.if_icmp .eq 425, 3) := by decide +kernel
theorem md_L_893 : decode code 893 = .ok (.aload_n 1, 1) := by decide +kernel
theorem md_L_894 : decode code 894 = .ok (.aload_n 0, 1) := by decide +kernel
theorem md_L_895 : decode code 895 = .ok (.iload_n 3, 1) := by decide +kernel
theorem md_L_896 : decode code 896 = .ok (.iconst 1, 1) := by decide +kernel
theorem md_L_897 : decode code 897 = .ok (.iadd, 1) := by decide +kernel
theorem md_L_898 : decode code 898 = .ok (.iaload, 1) := by decide +kernel
theorem md_L_899 : decode code 899 = .ok (.aload_n 0, 1) := by decide +kernel
theorem md_L_900 : decode code 900 = .ok (.iload_n 3, 1) := by decide +kernel
theorem md_L_901 : decode code 901 = .ok (.iconst 2, 1) := by decide +kernel
theorem md_L_902 : decode code 902 = .ok (.iadd, 1) := by decide +kernel
theorem md_L_903 : decode code 903 = .ok (.iaload, 1) := by decide +kernel
theorem md_L_904 : decode code 904 = .ok (.aload_n 0, 1) := by decide +kernel
theorem md_L_905 : decode code 905 = .ok (.iload_n 3, 1) := by decide +kernel
theorem md_L_906 : decode code 906 = .ok (.iconst 3, 1) := by decide +kernel
theorem md_L_907 : decode code 907 = .ok (.iadd, 1) := by decide +kernel
theorem md_L_908 : decode code 908 = .ok (.iaload, 1) := by decide +kernel
theorem md_L_909 : decode code 909 = .ok (.invokevirtual 94, 3) := by decide +kernel
theorem md_L_912 : decode code 912 = .ok (.aload_n 2, 1) := by decide +kernel
theorem md_L_913 : decode code 913 = .ok (.aload_n 0, 1) := by decide +kernel
theorem md_L_914 : decode code 914 = .ok (.iload_n 3, 1) := by decide +kernel
theorem md_L_915 : decode code 915 = .ok (.iconst 1, 1) := by decide +kernel
theorem md_L_916 : decode code 916 = .ok (.iadd, 1) := by decide +kernel
theorem md_L_917 : decode code 917 = .ok (.iaload, 1) := by decide +kernel
theorem md_L_918 : decode code 918 = .ok (.aload_n 0, 1) := by decide +kernel
theorem md_L_919 : decode code 919 = .ok (.iload_n 3, 1) := by decide +kernel
theorem md_L_920 : decode code 920 = .ok (.iconst 2, 1) := by decide +kernel
theorem md_L_921 : decode code 921 = .ok (.iadd, 1) := by decide +kernel
theorem md_L_922 : decode code 922 = .ok (.iaload, 1) := by decide +kernel
theorem md_L_923 : decode code 923 = .ok (.aload_n 0, 1) := by decide +kernel
theorem md_L_924 : decode code 924 = .ok (.iload_n 3, 1) := by decide +kernel
theorem md_L_925 : decode code 925 = .ok (.iconst 3, 1) := by decide +kernel
theorem md_L_926 : decode code 926 = .ok (.iadd, 1) := by decide +kernel
theorem md_L_927 : decode code 927 = .ok (.iaload, 1) := by decide +kernel
theorem md_L_928 : decode code 928 = .ok (.invokevirtual 97, 3) := by decide +kernel
theorem md_L_931 : decode code 931 = .ok (.if_icmp .eq 382, 3) := by decide +kernel
theorem md_L_936 : decode code 936 = .ok (.aload_n 1, 1) := by decide +kernel
theorem md_L_937 : decode code 937 = .ok (.aload_n 0, 1) := by decide +kernel
theorem md_L_938 : decode code 938 = .ok (.iload_n 3, 1) := by decide +kernel
theorem md_L_939 : decode code 939 = .ok (.iconst 1, 1) := by decide +kernel
theorem md_L_940 : decode code 940 = .ok (.iadd, 1) := by decide +kernel
theorem md_L_941 : decode code 941 = .ok (.iaload, 1) := by decide +kernel
theorem md_L_942 : decode code 942 = .ok (.aload_n 0, 1) := by decide +kernel
theorem md_L_943 : decode code 943 = .ok (.iload_n 3, 1) := by decide +kernel
theorem md_L_944 : decode code 944 = .ok (.iconst 2, 1) := by decide +kernel
theorem md_L_945 : decode code 945 = .ok (.iadd, 1) := by decide +kernel
theorem md_L_946 : decode code 946 = .ok (.iaload, 1) := by decide +kernel
theorem md_L_947 : decode code 947 = .ok (.aload_n 0, 1) := by decide +kernel
theorem md_L_948 : decode code 948 = .ok (.iload_n 3, 1) := by decide +kernel
theorem md_L_949 : decode code 949 = .ok (.iconst 3, 1) := by decide +kernel
theorem md_L_950 : decode code 950 = .ok (.iadd, 1) := by decide +kernel
theorem md_L_951 : decode code 951 = .ok (.iaload, 1) := by decide +kernel
theorem md_L_952 : decode code 952 = .ok (.aload_n 0, 1) := by decide +kernel
theorem md_L_953 : decode code 953 = .ok (.iload_n 3, 1) := by decide +kernel
theorem md_L_954 : decode code 954 = .ok (.iconst 4, 1) := by decide +kernel
theorem md_L_955 : decode code 955 = .ok (.iadd, 1) := by decide +kernel
theorem md_L_956 : decode code 956 = .ok (.iaload, 1) := by decide +kernel
theorem md_L_957 : decode code 957 = .ok (.invokevirtual 98, 3) := by decide +kernel
theorem md_L_960 : decode code 960 = .ok (.aload_n 2, 1) := by decide +kernel
theorem md_L_961 : decode code 961 = .ok (.aload_n 0, 1) := by decide +kernel
theorem md_L_962 : decode code 962 = .ok (.iload_n 3, 1) := by decide +kernel
theorem md_L_963 : decode code 963 = .ok (.iconst 1, 1) := by decide +kernel
theorem md_L_964 : decode code 964 = .ok (.iadd, 1) := by decide +kernel
theorem md_L_965 : decode code 965 = .ok (.iaload, 1) := by decide +kernel
theorem md_L_966 : decode code 966 = .ok (.aload_n 0, 1) := by decide +kernel
theorem md_L_967 : decode code 967 = .ok (.iload_n 3, 1) := by decide +kernel
theorem md_L_968 : decode code 968 = .ok (.iconst 2, 1) := by decide +kernel
theorem md_L_969 : decode code 969 = .ok (.iadd, 1) := by decide +kernel
theorem md_L_970 : decode code 970 = .ok (.iaload, 1) := by decide +kernel
theorem md_L_971 : decode code 971 = .ok (.aload_n 0, 1) := by decide +kernel
theorem md_L_972 : decode code 972 = .ok (.iload_n 3, 1) := by decide +kernel
theorem md_L_973 : decode code 973 = .ok (.iconst 3, 1) := by decide +kernel
theorem md_L_974 : decode code 974 = .ok (.iadd, 1) := by decide +kernel
theorem md_L_975 : decode code 975 = .ok (.iaload, 1) := by decide +kernel
theorem md_L_976 : decode code 976 = .ok (.aload_n 0, 1) := by decide +kernel
theorem md_L_977 : decode code 977 = .ok (.iload_n 3, 1) := by decide +kernel
theorem md_L_978 : decode code 978 = .ok (.iconst 4, 1) := by decide +kernel
theorem md_L_979 : decode code 979 = .ok (.iadd, 1) := by decide +kernel
theorem md_L_980 : decode code 980 = .ok (.iaload, 1) := by decide +kernel
theorem md_L_981 : decode code 981 = .ok (.invokevirtual 101, 3) := by decide +kernel
theorem md_L_984 : decode code 984 = .ok (.if_icmp .eq 329, 3) := by decide +kernel
theorem md_L_989 : decode code 989 = .ok (.aload_n 1, 1) := by decide +kernel
theorem md_L_990 : decode code 990 = .ok (.aload_n 0, 1) := by decide +kernel
theorem md_L_991 : decode code 991 = .ok (.iload_n 3, 1) := by decide +kernel
theorem md_L_992 : decode code 992 = .ok (.iconst 1, 1) := by decide +kernel
theorem md_L_993 : decode code 993 = .ok (.iadd, 1) := by decide +kernel
theorem md_L_994 : decode code 994 = .ok (.iaload, 1) := by decide +kernel
theorem md_L_995 : decode code 995 = .ok (.aload_n 0, 1) := by decide +kernel
theorem md_L_996 : decode code 996 = .ok (.iload_n 3, 1) := by decide +kernel
theorem md_L_997 : decode code 997 = .ok (.iconst 2, 1) := by decide +kernel
theorem md_L_998 : decode code 998 = .ok (.iadd, 1) := by decide +kernel
theorem md_L_999 : decode code 999 = .ok (.iaload, 1) := by decide +kernel
theorem md_L_1000 : decode code 1000 = .ok (.invokevirtual 102, 3) := by decide +kernel
theorem md_L_1003 : decode code 1003 = .ok (.aload_n 2, 1) := by decide +kernel
theorem md_L_1004 : decode code 1004 = .ok (.aload_n 0, 1) := by decide +kernel
theorem md_L_1005 : decode code 1005 = .ok (.iload_n 3, 1) := by decide +kernel
theorem md_L_1006 : decode code 1006 = .ok (.iconst 1, 1) := by decide +kernel
theorem md_L_1007 : decode code 1007 = .ok (.iadd, 1) := by decide +kernel
theorem md_L_1008 : decode code 1008 = .ok (.iaload, 1) := by decide +kernel
theorem md_L_1009 : decode code 1009 = .ok (.aload_n 0, 1) := by decide +kernel
theorem md_L_1010 : decode code 1010 = .ok (.iload_n 3, 1) := by decide +kernel
theorem md_L_1011 : decode code 1011 = .ok (.iconst 2, 1) := by decide +kernel
theorem md_L_1012 : decode code 1012 = .ok (.iadd, 1) := by decide +kernel
theorem md_L_1013 : decode code 1013 = .ok (.iaload, 1) := by decide +kernel
theorem md_L_1014 : decode code 1014 = .ok (.invokevirtual 105, 3) := by decide +kernel
theorem md_L_1017 : decode code 1017 = .ok (.if_icmp .eq 296, 3) := by decide +kernel
theorem md_L_1022 : decode code 1022 = .ok (.aload_n 1, 1) := by decide +kernel
theorem md_L_1023 : decode code 1023 = .ok (.aload_n 0, 1) := by decide +kernel
theorem md_L_1024 : decode code 1024 = .ok (.iload_n 3, 1) := by decide +kernel
theorem md_L_1025 : decode code 1025 = .ok (.iconst 1, 1) := by decide +kernel
theorem md_L_1026 : decode code 1026 = .ok (.iadd, 1) := by decide +kernel
theorem md_L_1027 : decode code 1027 = .ok (.iaload, 1) := by decide +kernel
theorem md_L_1028 : decode code 1028 = .ok (.aload_n 0, 1) := by decide +kernel
theorem md_L_1029 : decode code 1029 = .ok (.iload_n 3, 1) := by decide +kernel
theorem md_L_1030 : decode code 1030 = .ok (.iconst 2, 1) := by decide +kernel
theorem md_L_1031 : decode code 1031 = .ok (.iadd, 1) := by decide +kernel
theorem md_L_1032 : decode code 1032 = .ok (.iaload, 1) := by decide +kernel
theorem md_L_1033 : decode code 1033 = .ok (.aload_n 0, 1) := by decide +kernel
theorem md_L_1034 : decode code 1034 = .ok (.iload_n 3, 1) := by decide +kernel
theorem md_L_1035 : decode code 1035 = .ok (.iconst 3, 1) := by decide +kernel
theorem md_L_1036 : decode code 1036 = .ok (.iadd, 1) := by decide +kernel
theorem md_L_1037 : decode code 1037 = .ok (.iaload, 1) := by decide +kernel
theorem md_L_1038 : decode code 1038 = .ok (.aload_n 0, 1) := by decide +kernel
theorem md_L_1039 : decode code 1039 = .ok (.iload_n 3, 1) := by decide +kernel
theorem md_L_1040 : decode code 1040 = .ok (.iconst 4, 1) := by decide +kernel
theorem md_L_1041 : decode code 1041 = .ok (.iadd, 1) := by decide +kernel
theorem md_L_1042 : decode code 1042 = .ok (.iaload, 1) := by decide +kernel
theorem md_L_1043 : decode code 1043 = .ok (.invokevirtual 106, 3) := by decide +kernel
theorem md_L_1046 : decode code 1046 = .ok (.aload_n 2, 1) := by decide +kernel
theorem md_L_1047 : decode code 1047 = .ok (.aload_n 0, 1) := by decide +kernel
theorem md_L_1048 : decode code 1048 = .ok (.iload_n 3, 1) := by decide +kernel
theorem md_L_1049 : decode code 1049 = .ok (.iconst 1, 1) := by decide +kernel
theorem md_L_1050 : decode code 1050 = .ok (.iadd, 1) := by decide +kernel
theorem md_L_1051 : decode code 1051 = .ok (.iaload, 1) := by decide +kernel
theorem md_L_1052 : decode code 1052 = .ok (.aload_n 0, 1) := by decide +kernel
theorem md_L_1053 : decode code 1053 = .ok (.iload_n 3, 1) := by decide +kernel
theorem md_L_1054 : decode code 1054 = .ok (.iconst 2, 1) := by decide +kernel
theorem md_L_1055 : decode code 1055 = .ok (.iadd, 1) := by decide +kernel
theorem md_L_1056 : decode code 1056 = .ok (.iaload, 1) := by decide +kernel
theorem md_L_1057 : decode code 1057 = .ok (.aload_n 0, 1) := by decide +kernel
theorem md_L_1058 : decode code 1058 = .ok (.iload_n 3, 1) := by decide +kernel
theorem md_L_1059 : decode code 1059 = .ok (.iconst 3, 1) := by decide +kernel
theorem md_L_1060 : decode code 1060 = .ok (.iadd, 1) := by decide +kernel
theorem md_L_1061 : decode code 1061 = .ok (.iaload, 1) := by decide +kernel
theorem md_L_1062 : decode code 1062 = .ok (.aload_n 0, 1) := by decide +kernel
theorem md_L_1063 : decode code 1063 = .ok (.iload_n 3, 1) := by decide +kernel
theorem md_L_1064 : decode code 1064 = .ok (.iconst 4, 1) := by decide +kernel
theorem md_L_1065 : decode code 1065 = .ok (.iadd, 1) := by decide +kernel
theorem md_L_1066 : decode code 1066 = .ok (.iaload, 1) := by decide +kernel
theorem md_L_1067 : decode code 1067 = .ok (.invokevirtual 109, 3) := by decide +kernel
theorem md_L_1070 : decode code 1070 = .ok (.if_icmp .eq 243, 3) := by decide +kernel
theorem md_L_1075 : decode code 1075 = .ok (.aload_n 1, 1) := by decide +kernel
theorem md_L_1076 : decode code 1076 = .ok (.aload_n 0, 1) := by decide +kernel
theorem md_L_1077 : decode code 1077 = .ok (.iload_n 3, 1) := by decide +kernel
theorem md_L_1078 : decode code 1078 = .ok (.iconst 1, 1) := by decide +kernel
theorem md_L_1079 : decode code 1079 = .ok (.iadd, 1) := by decide +kernel
theorem md_L_1080 : decode code 1080 = .ok (.iaload, 1) := by decide +kernel
theorem md_L_1081 : decode code 1081 = .ok (.aload_n 0, 1) := by decide +kernel
theorem md_L_1082 : decode code 1082 = .ok (.iload_n 3, 1) := by decide +kernel
theorem md_L_1083 : decode code 1083 = .ok (.iconst 2, 1) := by decide +kernel
theorem md_L_1084 : decode code 1084 = .ok (.iadd, 1) := by decide +kernel
theorem md_L_1085 : decode code 1085 = .ok (.iaload, 1) := by decide +kernel
theorem md_L_1086 : decode code 1086 = .ok (.invokevirtual 110, 3) := by decide +kernel
theorem md_L_1089 : decode code 1089 = .ok (.aload_n 2, 1) := by decide +kernel
theorem md_L_1090 : decode code 1090 = .ok (.aload_n 0, 1) := by decide +kernel
theorem md_L_1091 : decode code 1091 = .ok (.iload_n 3, 1) := by decide +kernel
theorem md_L_1092 : decode code 1092 = .ok (.iconst 1, 1) := by decide +kernel
theorem md_L_1093 : decode code 1093 = .ok (.iadd, 1) := by decide +kernel
theorem md_L_1094 : decode code 1094 = .ok (.iaload, 1) := by decide +kernel
theorem md_L_1095 : decode code 1095 = .ok (.aload_n 0, 1) := by decide +kernel
theorem md_L_1096 : decode code 1096 = .ok (.iload_n 3, 1) := by decide +kernel
theorem md_L_1097 : decode code 1097 = .ok (.iconst 2, 1) := by decide +kernel
theorem md_L_1098 : decode code 1098 = .ok (.iadd, 1) := by decide +kernel
theorem md_L_1099 : decode code 1099 = .ok (.iaload, 1) := by decide +kernel
theorem md_L_1100 : decode code 1100 = .ok (.invokevirtual 113, 3) := by decide +kernel
theorem md_L_1103 : decode code 1103 = .ok (.if_icmp .eq 210, 3) := by decide +kernel
theorem md_L_1108 : decode code 1108 = .ok (.aload_n 1, 1) := by decide +kernel
theorem md_L_1109 : decode code 1109 = .ok (.aload_n 0, 1) := by decide +kernel
theorem md_L_1110 : decode code 1110 = .ok (.iload_n 3, 1) := by decide +kernel
theorem md_L_1111 : decode code 1111 = .ok (.iconst 1, 1) := by decide +kernel
theorem md_L_1112 : decode code 1112 = .ok (.iadd, 1) := by decide +kernel
theorem md_L_1113 : decode code 1113 = .ok (.iaload, 1) := by decide +kernel
theorem md_L_1114 : decode code 1114 = .ok (.aload_n 0, 1) := by decide +kernel
theorem md_L_1115 : decode code 1115 = .ok (.iload_n 3, 1) := by decide +kernel
theorem md_L_1116 : decode code 1116 = .ok (.iconst 2, 1) := by decide +kernel
theorem md_L_1117 : decode code 1117 = .ok (.iadd, 1) := by decide +kernel
theorem md_L_1118 : decode code 1118 = .ok (.iaload, 1) := by decide +kernel
theorem md_L_1119 : decode code 1119 = .ok (.aload_n 0, 1) := by decide +kernel
theorem md_L_1120 : decode code 1120 = .ok (.iload_n 3, 1) := by decide +kernel
theorem md_L_1121 : decode code 1121 = .ok (.iconst 3, 1) := by decide +kernel
theorem md_L_1122 : decode code 1122 = .ok (.iadd, 1) := by decide +kernel
theorem md_L_1123 : decode code 1123 = .ok (.iaload, 1) := by decide +kernel
theorem md_L_1124 : decode code 1124 = .ok (.invokevirtual 114, 3) := by decide +kernel
theorem md_L_1127 : decode code 1127 = .ok (.aload_n 2, 1) := by decide +kernel
theorem md_L_1128 : decode code 1128 = .ok (.aload_n 0, 1) := by decide +kernel
theorem md_L_1129 : decode code 1129 = .ok (.iload_n 3, 1) := by decide +kernel
theorem md_L_1130 : decode code 1130 = .ok (.iconst 1, 1) := by decide +kernel
theorem md_L_1131 : decode code 1131 = .ok (.iadd, 1) := by decide +kernel
theorem md_L_1132 : decode code 1132 = .ok (.iaload, 1) := by decide +kernel
theorem md_L_1133 : decode code 1133 = .ok (.aload_n 0, 1) := by decide +kernel
theorem md_L_1134 : decode code 1134 = .ok (.iload_n 3, 1) := by decide +kernel
theorem md_L_1135 : decode code 1135 = .ok (.iconst 2, 1) := by decide +kernel
theorem md_L_1136 : decode code 1136 = .ok (.iadd, 1) := by decide +kernel
theorem md_L_1137 : decode code 1137 = .ok (.iaload, 1) := by decide +kernel
theorem md_L_1138 : decode code 1138 = .ok (.aload_n 0, 1) := by decide +kernel
theorem md_L_1139 : decode code 1139 = .ok (.iload_n 3, 1) := by decide +kernel
theorem md_L_1140 : decode code 1140 = .ok (.iconst 3, 1) := by decide +kernel
theorem md_L_1141 : decode code 1141 = .ok (.iadd, 1) := by decide +kernel
theorem md_L_1142 : decode code 1142 = .ok (.iaload, 1) := by decide +kernel
theorem md_L_1143 : decode code 1143 = .ok (.invokevirtual 117, 3) := by decide +kernel
theorem md_L_1146 : decode code 1146 = .ok (.if_icmp .eq 167, 3) := by decide +kernel
theorem md_L_1151 : decode code 1151 = .ok (.aload_n 1, 1) := by decide +kernel
theorem md_L_1152 : decode code 1152 = .ok (.aload_n 0, 1) := by decide +kernel
theorem md_L_1153 : decode code 1153 = .ok (.iload_n 3, 1) := by decide +kernel
theorem md_L_1154 : decode code 1154 = .ok (.iconst 1, 1) := by decide +kernel
theorem md_L_1155 : decode code 1155 = .ok (.iadd, 1) := by decide +kernel
theorem md_L_1156 : decode code 1156 = .ok (.iaload, 1) := by decide +kernel
theorem md_L_1157 : decode code 1157 = .ok (.aload_n 0, 1) := by decide +kernel
theorem md_L_1158 : decode code 1158 = .ok (.iload_n 3, 1) := by decide +kernel
theorem md_L_1159 : decode code 1159 = .ok (.iconst 2, 1) := by decide +kernel
theorem md_L_1160 : decode code 1160 = .ok (.iadd, 1) := by decide +kernel
theorem md_L_1161 : decode code 1161 = .ok (.iaload, 1) := by decide +kernel
theorem md_L_1162 : decode code 1162 = .ok (.invokevirtual 118, 3) := by decide +kernel
theorem md_L_1165 : decode code 1165 = .ok (.aload_n 2, 1) := by decide +kernel
theorem md_L_1166 : decode code 1166 = .ok (.aload_n 0, 1) := by decide +kernel
theorem md_L_1167 : decode code 1167 = .ok (.iload_n 3, 1) := by decide +kernel
theorem md_L_1168 : decode code 1168 = .ok (.iconst 1, 1) := by decide +kernel
theorem md_L_1169 : decode code 1169 = .ok (.iadd, 1) := by decide +kernel
theorem md_L_1170 : decode code 1170 = .ok (.iaload, 1) := by decide +kernel
theorem md_L_1171 : decode code 1171 = .ok (.aload_n 0, 1) := by decide +kernel
theorem md_L_1172 : decode code 1172 = .ok (.iload_n 3, 1) := by decide +kernel
theorem md_L_1173 : decode code 1173 = .ok (.iconst 2, 1) := by decide +kernel
theorem md_L_1174 : decode code 1174 = .ok (.iadd, 1) := by decide +kernel
theorem md_L_1175 : decode code 1175 = .ok (.iaload, 1) := by decide +kernel
theorem md_L_1176 : decode code 1176 = .ok (.invokevirtual 121, 3) := by decide +kernel
theorem md_L_1179 : decode code 1179 = .ok (.if_icmp .eq 134, 3) := by decide +kernel
theorem md_L_1184 : decode code 1184 = .ok (.aload_n 1, 1) := by decide +kernel
theorem md_L_1185 : decode code 1185 = .ok (.invokevirtual 122, 3) := by decide +kernel
theorem md_L_1188 : decode code 1188 = .ok (.aload_n 2, 1) := by decide +kernel
theorem md_L_1189 : decode code 1189 = .ok (.invokevirtual 125, 3) := by decide +kernel
theorem md_L_1192 : decode code 1192 = .ok (.if_icmp .eq 121, 3) := by decide +kernel
theorem md_L_1197 : decode code 1197 = .ok (.aload_n 1, 1) := by decide +kernel
theorem md_L_1198 : decode code 1198 = .ok (.aload_n 0, 1) := by decide +kernel
theorem md_L_1199 : decode code 1199 = .ok (.iload_n 3, 1) := by decide +kernel
theorem md_L_1200 : decode code 1200 = .ok (.iconst 1, 1) := by decide +kernel
theorem md_L_1201 : decode code 1201 = .ok (.iadd, 1) := by decide +kernel
theorem md_L_1202 : decode code 1202 = .ok (.iaload, 1) := by decide +kernel
theorem md_L_1203 : decode code 1203 = .ok (.aload_n 0, 1) := by decide +kernel
theorem md_L_1204 : decode code 1204 = .ok (.iload_n 3, 1) := by decide +kernel
theorem md_L_1205 : decode code 1205 = .ok (.iconst 2, 1) := by decide +kernel
theorem md_L_1206 : decode code 1206 = .ok (.iadd, 1) := by decide +kernel
theorem md_L_1207 : decode code 1207 = .ok (.iaload, 1) := by decide +kernel
theorem md_L_1208 : decode code 1208 = .ok (.aload_n 0, 1) := by decide +kernel
theorem md_L_1209 : decode code 1209 = .ok (.iload_n 3, 1) := by decide +kernel
theorem md_L_1210 : decode code 1210 = .ok (.iconst 3, 1) := by decide +kernel
theorem md_L_1211 : decode code 1211 = .ok (.iadd, 1) := by decide +kernel
theorem md_L_1212 : decode code 1212 = .ok (.iaload, 1) := by decide +kernel
theorem md_L_1213 : decode code 1213 = .ok (.invokevirtual 126, 3) := by decide +kernel
theorem md_L_1216 : decode code 1216 = .ok (.aload_n 2, 1) := by decide +kernel
theorem md_L_1217 : decode code 1217 = .ok (.aload_n 0, 1) := by decide +kernel
theorem md_L_1218 : decode code 1218 = .ok (.iload_n 3, 1) := by decide +kernel
theorem md_L_1219 : decode code 1219 = .ok (.iconst 1, 1) := by decide +kernel
theorem md_L_1220 : decode code 1220 = .ok (.iadd, 1) := by decide +kernel
theorem md_L_1221 : decode code 1221 = .ok (.iaload, 1) := by decide +kernel
theorem md_L_1222 : decode code 1222 = .ok (.aload_n 0, 1) := by decide +kernel
theorem md_L_1223 : decode code 1223 = .ok (.iload_n 3, 1) := by decide +kernel
theorem md_L_1224 : decode code 1224 = .ok (.iconst 2, 1) := by decide +kernel
theorem md_L_1225 : decode code 1225 = .ok (.iadd, 1) := by decide +kernel
theorem md_L_1226 : decode code 1226 = .ok (.iaload, 1) := by decide +kernel
theorem md_L_1227 : decode code 1227 = .ok (.aload_n 0, 1) := by decide +kernel
theorem md_L_1228 : decode code 1228 = .ok (.iload_n 3, 1) := by decide +kernel
theorem md_L_1229 : decode code 1229 = .ok (.iconst 3, 1) := by decide +kernel
theorem md_L_1230 : decode code 1230 = .ok (.iadd, 1) := by decide +kernel
theorem md_L_1231 : decode code 1231 = .ok (.iaload, 1) := by decide +kernel
theorem md_L_1232 : decode code 1232 = .ok (.invokevirtual 129, 3) := by decide +kernel
theorem md_L_1235 : decode code 1235 = .ok (.if_icmp .eq 78, 3) := by decide +kernel
theorem md_L_1240 : decode code 1240 = .ok (.aload_n 1, 1) := by decide +kernel
theorem md_L_1241 : decode code 1241 = .ok (.aload_n 0, 1) := by decide +kernel
theorem md_L_1242 : decode code 1242 = .ok (.iload_n 3, 1) := by decide +kernel
theorem md_L_1243 : decode code 1243 = .ok (.iconst 1, 1) := by decide +kernel
theorem md_L_1244 : decode code 1244 = .ok (.iadd, 1) := by decide +kernel
theorem md_L_1245 : decode code 1245 = .ok (.iaload, 1) := by decide +kernel
theorem md_L_1246 : decode code 1246 = .ok (.invokevirtual 130, 3) := by decide +kernel
theorem md_L_1249 : decode code 1249 = .ok (.aload_n 2, 1) := by decide +kernel
theorem md_L_1250 : decode code 1250 = .ok (.aload_n 0, 1) := by decide +kernel
theorem md_L_1251 : decode code 1251 = .ok (.iload_n 3, 1) := by decide +kernel
theorem md_L_1252 : decode code 1252 = .ok (.iconst 1, 1) := by decide +kernel
theorem md_L_1253 : decode code 1253 = .ok (.iadd, 1) := by decide +kernel
theorem md_L_1254 : decode code 1254 = .ok (.iaload, 1) := by decide +kernel
theorem md_L_1255 : decode code 1255 = .ok (.invokevirtual 133, 3) := by decide +kernel
theorem md_L_1258 : decode code 1258 = .ok (.if_icmp .eq 55, 3) := by decide +kernel
theorem md_L_1263 : decode code 1263 = .ok (.aload_n 1, 1) := by decide +kernel
theorem md_L_1264 : decode code 1264 = .ok (.invokevirtual 134, 3) := by decide +kernel
theorem md_L_1267 : decode code 1267 = .ok (.aload_n 2, 1) := by decide +kernel
theorem md_L_1268 : decode code 1268 = .ok (.invokevirtual 137, 3) := by decide +kernel
theorem md_L_1271 : decode code 1271 = .ok (.if_icmp .eq 42, 3) := by decide +kernel
theorem md_L_1276 : decode code 1276 = .ok (.aload_n 1, 1) := by decide +kernel
theorem md_L_1277 : decode code 1277 = .ok (.aload_n 0, 1) := by decide +kernel
theorem md_L_1278 : decode code 1278 = .ok (.iload_n 3, 1) := by decide +kernel
theorem md_L_1279 : decode code 1279 = .ok (.iconst 1, 1) := by decide +kernel
theorem md_L_1280 : decode code 1280 = .ok (.iadd, 1) := by decide +kernel
theorem md_L_1281 : decode code 1281 = .ok (.iaload, 1) := by decide +kernel
theorem md_L_1282 : decode code 1282 = .ok (.invokevirtual 138, 3) := by decide +kernel
theorem md_L_1285 : decode code 1285 = .ok (.aload_n 2, 1) := by decide +kernel
theorem md_L_1286 : decode code 1286 = .ok (.aload_n 0, 1) := by decide +kernel
theorem md_L_1287 : decode code 1287 = .ok (.iload_n 3, 1) := by decide +kernel
theorem md_L_1288 : decode code 1288 = .ok (.iconst 1, 1) := by decide +kernel
theorem md_L_1289 : decode code 1289 = .ok (.iadd, 1) := by decide +kernel
theorem md_L_1290 : decode code 1290 = .ok (.iaload, 1) := by decide +kernel
theorem md_L_1291 : decode code 1291 = .ok (.invokevirtual 141, 3) := by decide +kernel
theorem md_L_1294 : decode code 1294 = .ok (.if_icmp .eq 19, 3) := by decide +kernel
theorem md_L_1299 : decode code 1299 = .ok (.aload_n 1, 1) := by decide +kernel
theorem md_L_1300 : decode code 1300 = .ok (.invokevirtual 142, 3) := by decide +kernel
theorem md_L_1303 : decode code 1303 = .ok (.aload_n 2, 1) := by decide +kernel
theorem md_L_1304 : decode code 1304 = .ok (.invokevirtual 146, 3) := by decide +kernel
theorem md_L_1307 : decode code 1307 = .ok (.lcmp, 1) := by decide +kernel
theorem md_L_1308 : decode code 1308 = .ok (.ifCond .eq 5, 3) := by decide +kernel
theorem md_L_18 : decode code 18 = .ok (.iload_n 3, 1) := by decide +kernel
theorem md_L_19 : decode code 19 = .ok (.aload_n 0, 1) := by decide +kernel
theorem md_L_20 : decode code 20 = .ok (.arraylength, 1) := by decide +kernel
theorem md_L_21 : decode code 21 = .ok (.iconst 5, 1) := by decide +kernel
theorem md_L_22 : decode code 22 = .ok (.isub, 1) := by decide +kernel
theorem md_L_23 : decode code 23 = .ok (.if_icmp .gt 1296, 3) := by decide +kernel
theorem md_L_1319 : decode code 1319 = .ok (.iconst 1, 1) := by decide +kernel
theorem md_L_26 : decode code 26 = .ok (.aload_n 0, 1) := by decide +kernel
theorem md_L_27 : decode code 27 = .ok (.iload_n 3, 1) := by decide +kernel
theorem md_L_28 : decode code 28 = .ok (.iaload, 1) := by decide +kernel
theorem md_L_29 : decode code 29 = .ok (.bipush 31, 2) := by decide +kernel
theorem md_L_31 : decode code 31 = .ok (.iand, 1) := by decide +kernel
theorem md_L_32 : decode code 32 = .ok (.tableswitch 1281 0 31 #[144, 167, 210, 243, 286, 329, 362, 405, 438, 461, 474, 497, 540, 583, 636, 689, 732, 775, 828, 861, 904, 957, 990, 1043, 1076, 1119, 1152, 1165, 1208, 1231, 1244, 1267], 144) := by decide +kernel
theorem md_L_1313 : decode code 1313 = .ok (.iinc 3 5, 3) := by decide +kernel
theorem md_L_1316 : decode code 1316 = .ok (.goto (-1298), 3) := by decide +kernel
theorem md_L_0 : decode code 0 = .ok (.new 7, 3) := by decide +kernel
theorem md_L_3 : decode code 3 = .ok (.dup, 1) := by decide +kernel
theorem md_L_4 : decode code 4 = .ok (.invokespecial 9, 3) := by decide +kernel
theorem md_L_7 : decode code 7 = .ok (.astore_n 1, 1) := by decide +kernel
theorem md_L_8 : decode code 8 = .ok (.new 10, 3) := by decide +kernel
theorem md_L_11 : decode code 11 = .ok (.dup, 1) := by decide +kernel
theorem md_L_12 : decode code 12 = .ok (.invokespecial 12, 3) := by decide +kernel
theorem md_L_15 : decode code 15 = .ok (.astore_n 2, 1) := by decide +kernel
theorem md_L_16 : decode code 16 = .ok (.iconst 0, 1) := by decide +kernel
theorem md_L_17 : decode code 17 = .ok (.istore_n 3, 1) := by decide +kernel
def lc_0 (Lx : Nat) (xs : Nat → Int) (x1 x2 : Nat) (x3 : Int) (rj : pw_Sto → Option (Unit × pw_Sto)) (σ : pw_Sto) : Option (Unit × pw_Sto) := (pw_sx Lx xs (x3 + (1 : Int))).bind (fun v1 => pw_bd (mf_W_setPrime x1 v1 σ) (fun v3 s2 => (pw_sx Lx xs (x3 + (1 : Int))).bind (fun v4 => pw_bd (mf_M_setPrime x2 v4 s2) (fun v6 s5 => if v3 = v6 then rj s5 else none))))
def lc_1 (Lx : Nat) (xs : Nat → Int) (x1 x2 : Nat) (x3 : Int) (rj : pw_Sto → Option (Unit × pw_Sto)) (σ : pw_Sto) : Option (Unit × pw_Sto) := (pw_sx Lx xs (x3 + (1 : Int))).bind (fun v1 => (pw_sx Lx xs (x3 + (2 : Int))).bind (fun v2 => (pw_sx Lx xs (x3 + (3 : Int))).bind (fun v3 => pw_bd (mf_W_set x1 v1 v2 v3 σ) (fun v5 s4 => (pw_sx Lx xs (x3 + (1 : Int))).bind (fun v6 => (pw_sx Lx xs (x3 + (2 : Int))).bind (fun v7 => (pw_sx Lx xs (x3 + (3 : Int))).bind (fun v8 => pw_bd (mf_M_set x2 v6 v7 v8 s4) (fun v10 s9 => if v5 = v10 then rj s9 else none))))))))
def lc_2 (Lx : Nat) (xs : Nat → Int) (x1 x2 : Nat) (x3 : Int) (rj : pw_Sto → Option (Unit × pw_Sto)) (σ : pw_Sto) : Option (Unit × pw_Sto) := (pw_sx Lx xs (x3 + (1 : Int))).bind (fun v1 => (pw_sx Lx xs (x3 + (2 : Int))).bind (fun v2 => pw_bd (mf_W_coefficient x1 v1 v2 σ) (fun v4 s3 => (pw_sx Lx xs (x3 + (1 : Int))).bind (fun v5 => (pw_sx Lx xs (x3 + (2 : Int))).bind (fun v6 => pw_bd (mf_M_coefficient x2 v5 v6 s3) (fun v8 s7 => if v4 = v8 then rj s7 else none))))))
def lc_3 (Lx : Nat) (xs : Nat → Int) (x1 x2 : Nat) (x3 : Int) (rj : pw_Sto → Option (Unit × pw_Sto)) (σ : pw_Sto) : Option (Unit × pw_Sto) := (pw_sx Lx xs (x3 + (1 : Int))).bind (fun v1 => (pw_sx Lx xs (x3 + (2 : Int))).bind (fun v2 => (pw_sx Lx xs (x3 + (3 : Int))).bind (fun v3 => pw_bd (mf_W_add x1 v1 v2 v3 σ) (fun v5 s4 => (pw_sx Lx xs (x3 + (1 : Int))).bind (fun v6 => (pw_sx Lx xs (x3 + (2 : Int))).bind (fun v7 => (pw_sx Lx xs (x3 + (3 : Int))).bind (fun v8 => pw_bd (mf_M_add x2 v6 v7 v8 s4) (fun v10 s9 => if v5 = v10 then rj s9 else none))))))))
def lc_4 (Lx : Nat) (xs : Nat → Int) (x1 x2 : Nat) (x3 : Int) (rj : pw_Sto → Option (Unit × pw_Sto)) (σ : pw_Sto) : Option (Unit × pw_Sto) := (pw_sx Lx xs (x3 + (1 : Int))).bind (fun v1 => (pw_sx Lx xs (x3 + (2 : Int))).bind (fun v2 => (pw_sx Lx xs (x3 + (3 : Int))).bind (fun v3 => pw_bd (mf_W_multiply x1 v1 v2 v3 σ) (fun v5 s4 => (pw_sx Lx xs (x3 + (1 : Int))).bind (fun v6 => (pw_sx Lx xs (x3 + (2 : Int))).bind (fun v7 => (pw_sx Lx xs (x3 + (3 : Int))).bind (fun v8 => pw_bd (mf_M_multiply x2 v6 v7 v8 s4) (fun v10 s9 => if v5 = v10 then rj s9 else none))))))))
def lc_5 (Lx : Nat) (xs : Nat → Int) (x1 x2 : Nat) (x3 : Int) (rj : pw_Sto → Option (Unit × pw_Sto)) (σ : pw_Sto) : Option (Unit × pw_Sto) := (pw_sx Lx xs (x3 + (1 : Int))).bind (fun v1 => (pw_sx Lx xs (x3 + (2 : Int))).bind (fun v2 => pw_bd (mf_W_invert x1 v1 v2 σ) (fun v4 s3 => (pw_sx Lx xs (x3 + (1 : Int))).bind (fun v5 => (pw_sx Lx xs (x3 + (2 : Int))).bind (fun v6 => pw_bd (mf_M_invert x2 v5 v6 s3) (fun v8 s7 => if v4 = v8 then rj s7 else none))))))
def lc_6 (Lx : Nat) (xs : Nat → Int) (x1 x2 : Nat) (x3 : Int) (rj : pw_Sto → Option (Unit × pw_Sto)) (σ : pw_Sto) : Option (Unit × pw_Sto) := (pw_sx Lx xs (x3 + (1 : Int))).bind (fun v1 => (pw_sx Lx xs (x3 + (2 : Int))).bind (fun v2 => (pw_sx Lx xs (x3 + (3 : Int))).bind (fun v3 => pw_bd (mf_W_substitute x1 v1 v2 v3 σ) (fun v5 s4 => (pw_sx Lx xs (x3 + (1 : Int))).bind (fun v6 => (pw_sx Lx xs (x3 + (2 : Int))).bind (fun v7 => (pw_sx Lx xs (x3 + (3 : Int))).bind (fun v8 => pw_bd (mf_M_substitute x2 v6 v7 v8 s4) (fun v10 s9 => if v5 = v10 then rj s9 else none))))))))
def lc_7 (Lx : Nat) (xs : Nat → Int) (x1 x2 : Nat) (x3 : Int) (rj : pw_Sto → Option (Unit × pw_Sto)) (σ : pw_Sto) : Option (Unit × pw_Sto) := (pw_sx Lx xs (x3 + (1 : Int))).bind (fun v1 => (pw_sx Lx xs (x3 + (2 : Int))).bind (fun v2 => pw_bd (mf_W_derivative x1 v1 v2 σ) (fun v4 s3 => (pw_sx Lx xs (x3 + (1 : Int))).bind (fun v5 => (pw_sx Lx xs (x3 + (2 : Int))).bind (fun v6 => pw_bd (mf_M_derivative x2 v5 v6 s3) (fun v8 s7 => if v4 = v8 then rj s7 else none))))))
def lc_8 (Lx : Nat) (xs : Nat → Int) (x1 x2 : Nat) (x3 : Int) (rj : pw_Sto → Option (Unit × pw_Sto)) (σ : pw_Sto) : Option (Unit × pw_Sto) := (pw_sx Lx xs (x3 + (1 : Int))).bind (fun v1 => pw_bd (mf_W_append x1 v1 σ) (fun v3 s2 => (pw_sx Lx xs (x3 + (1 : Int))).bind (fun v4 => pw_bd (mf_M_append x2 v4 s2) (fun v6 s5 => if v3 = v6 then rj s5 else none))))
def lc_9 (Lx : Nat) (xs : Nat → Int) (x1 x2 : Nat) (x3 : Int) (rj : pw_Sto → Option (Unit × pw_Sto)) (σ : pw_Sto) : Option (Unit × pw_Sto) := pw_bd (mf_W_clearText x1 σ) (fun v2 s1 => pw_bd (mf_M_clearText x2 s1) (fun v4 s3 => if v2 = v4 then rj s3 else none))
def lc_10 (Lx : Nat) (xs : Nat → Int) (x1 x2 : Nat) (x3 : Int) (rj : pw_Sto → Option (Unit × pw_Sto)) (σ : pw_Sto) : Option (Unit × pw_Sto) := (pw_sx Lx xs (x3 + (1 : Int))).bind (fun v1 => pw_bd (mf_W_parse x1 v1 σ) (fun v3 s2 => (pw_sx Lx xs (x3 + (1 : Int))).bind (fun v4 => pw_bd (mf_M_parse x2 v4 s2) (fun v6 s5 => if v3 = v6 then rj s5 else none))))
def lc_11 (Lx : Nat) (xs : Nat → Int) (x1 x2 : Nat) (x3 : Int) (rj : pw_Sto → Option (Unit × pw_Sto)) (σ : pw_Sto) : Option (Unit × pw_Sto) := (pw_sx Lx xs (x3 + (1 : Int))).bind (fun v1 => (pw_sx Lx xs (x3 + (2 : Int))).bind (fun v2 => (pw_sx Lx xs (x3 + (3 : Int))).bind (fun v3 => pw_bd (mf_W_numeratorDegree x1 v1 v2 v3 σ) (fun v5 s4 => (pw_sx Lx xs (x3 + (1 : Int))).bind (fun v6 => (pw_sx Lx xs (x3 + (2 : Int))).bind (fun v7 => (pw_sx Lx xs (x3 + (3 : Int))).bind (fun v8 => pw_bd (mf_M_numeratorDegree x2 v6 v7 v8 s4) (fun v10 s9 => if v5 = v10 then rj s9 else none))))))))
def lc_12 (Lx : Nat) (xs : Nat → Int) (x1 x2 : Nat) (x3 : Int) (rj : pw_Sto → Option (Unit × pw_Sto)) (σ : pw_Sto) : Option (Unit × pw_Sto) := (pw_sx Lx xs (x3 + (1 : Int))).bind (fun v1 => (pw_sx Lx xs (x3 + (2 : Int))).bind (fun v2 => (pw_sx Lx xs (x3 + (3 : Int))).bind (fun v3 => pw_bd (mf_W_denominatorDegree x1 v1 v2 v3 σ) (fun v5 s4 => (pw_sx Lx xs (x3 + (1 : Int))).bind (fun v6 => (pw_sx Lx xs (x3 + (2 : Int))).bind (fun v7 => (pw_sx Lx xs (x3 + (3 : Int))).bind (fun v8 => pw_bd (mf_M_denominatorDegree x2 v6 v7 v8 s4) (fun v10 s9 => if v5 = v10 then rj s9 else none))))))))
def lc_13 (Lx : Nat) (xs : Nat → Int) (x1 x2 : Nat) (x3 : Int) (rj : pw_Sto → Option (Unit × pw_Sto)) (σ : pw_Sto) : Option (Unit × pw_Sto) := (pw_sx Lx xs (x3 + (1 : Int))).bind (fun v1 => (pw_sx Lx xs (x3 + (2 : Int))).bind (fun v2 => (pw_sx Lx xs (x3 + (3 : Int))).bind (fun v3 => (pw_sx Lx xs (x3 + (4 : Int))).bind (fun v4 => pw_bd (mf_W_numerator x1 v1 v2 v3 v4 σ) (fun v6 s5 => (pw_sx Lx xs (x3 + (1 : Int))).bind (fun v7 => (pw_sx Lx xs (x3 + (2 : Int))).bind (fun v8 => (pw_sx Lx xs (x3 + (3 : Int))).bind (fun v9 => (pw_sx Lx xs (x3 + (4 : Int))).bind (fun v10 => pw_bd (mf_M_numerator x2 v7 v8 v9 v10 s5) (fun v12 s11 => if v6 = v12 then rj s11 else none))))))))))
def lc_14 (Lx : Nat) (xs : Nat → Int) (x1 x2 : Nat) (x3 : Int) (rj : pw_Sto → Option (Unit × pw_Sto)) (σ : pw_Sto) : Option (Unit × pw_Sto) := (pw_sx Lx xs (x3 + (1 : Int))).bind (fun v1 => (pw_sx Lx xs (x3 + (2 : Int))).bind (fun v2 => (pw_sx Lx xs (x3 + (3 : Int))).bind (fun v3 => (pw_sx Lx xs (x3 + (4 : Int))).bind (fun v4 => pw_bd (mf_W_denominator x1 v1 v2 v3 v4 σ) (fun v6 s5 => (pw_sx Lx xs (x3 + (1 : Int))).bind (fun v7 => (pw_sx Lx xs (x3 + (2 : Int))).bind (fun v8 => (pw_sx Lx xs (x3 + (3 : Int))).bind (fun v9 => (pw_sx Lx xs (x3 + (4 : Int))).bind (fun v10 => pw_bd (mf_M_denominator x2 v7 v8 v9 v10 s5) (fun v12 s11 => if v6 = v12 then rj s11 else none))))))))))
def lc_15 (Lx : Nat) (xs : Nat → Int) (x1 x2 : Nat) (x3 : Int) (rj : pw_Sto → Option (Unit × pw_Sto)) (σ : pw_Sto) : Option (Unit × pw_Sto) := (pw_sx Lx xs (x3 + (1 : Int))).bind (fun v1 => (pw_sx Lx xs (x3 + (2 : Int))).bind (fun v2 => (pw_sx Lx xs (x3 + (3 : Int))).bind (fun v3 => pw_bd (mf_W_order x1 v1 v2 v3 σ) (fun v5 s4 => (pw_sx Lx xs (x3 + (1 : Int))).bind (fun v6 => (pw_sx Lx xs (x3 + (2 : Int))).bind (fun v7 => (pw_sx Lx xs (x3 + (3 : Int))).bind (fun v8 => pw_bd (mf_M_order x2 v6 v7 v8 s4) (fun v10 s9 => if v5 = v10 then rj s9 else none))))))))
def lc_16 (Lx : Nat) (xs : Nat → Int) (x1 x2 : Nat) (x3 : Int) (rj : pw_Sto → Option (Unit × pw_Sto)) (σ : pw_Sto) : Option (Unit × pw_Sto) := (pw_sx Lx xs (x3 + (1 : Int))).bind (fun v1 => (pw_sx Lx xs (x3 + (2 : Int))).bind (fun v2 => (pw_sx Lx xs (x3 + (3 : Int))).bind (fun v3 => pw_bd (mf_W_blockSize x1 v1 v2 v3 σ) (fun v5 s4 => (pw_sx Lx xs (x3 + (1 : Int))).bind (fun v6 => (pw_sx Lx xs (x3 + (2 : Int))).bind (fun v7 => (pw_sx Lx xs (x3 + (3 : Int))).bind (fun v8 => pw_bd (mf_M_blockSize x2 v6 v7 v8 s4) (fun v10 s9 => if v5 = v10 then rj s9 else none))))))))
def lc_17 (Lx : Nat) (xs : Nat → Int) (x1 x2 : Nat) (x3 : Int) (rj : pw_Sto → Option (Unit × pw_Sto)) (σ : pw_Sto) : Option (Unit × pw_Sto) := (pw_sx Lx xs (x3 + (1 : Int))).bind (fun v1 => (pw_sx Lx xs (x3 + (2 : Int))).bind (fun v2 => (pw_sx Lx xs (x3 + (3 : Int))).bind (fun v3 => (pw_sx Lx xs (x3 + (4 : Int))).bind (fun v4 => pw_bd (mf_W_evaluate x1 v1 v2 v3 v4 σ) (fun v6 s5 => (pw_sx Lx xs (x3 + (1 : Int))).bind (fun v7 => (pw_sx Lx xs (x3 + (2 : Int))).bind (fun v8 => (pw_sx Lx xs (x3 + (3 : Int))).bind (fun v9 => (pw_sx Lx xs (x3 + (4 : Int))).bind (fun v10 => pw_bd (mf_M_evaluate x2 v7 v8 v9 v10 s5) (fun v12 s11 => if v6 = v12 then rj s11 else none))))))))))
def lc_18 (Lx : Nat) (xs : Nat → Int) (x1 x2 : Nat) (x3 : Int) (rj : pw_Sto → Option (Unit × pw_Sto)) (σ : pw_Sto) : Option (Unit × pw_Sto) := (pw_sx Lx xs (x3 + (1 : Int))).bind (fun v1 => (pw_sx Lx xs (x3 + (2 : Int))).bind (fun v2 => pw_bd (mf_W_normalCount x1 v1 v2 σ) (fun v4 s3 => (pw_sx Lx xs (x3 + (1 : Int))).bind (fun v5 => (pw_sx Lx xs (x3 + (2 : Int))).bind (fun v6 => pw_bd (mf_M_normalCount x2 v5 v6 s3) (fun v8 s7 => if v4 = v8 then rj s7 else none))))))
def lc_19 (Lx : Nat) (xs : Nat → Int) (x1 x2 : Nat) (x3 : Int) (rj : pw_Sto → Option (Unit × pw_Sto)) (σ : pw_Sto) : Option (Unit × pw_Sto) := (pw_sx Lx xs (x3 + (1 : Int))).bind (fun v1 => (pw_sx Lx xs (x3 + (2 : Int))).bind (fun v2 => (pw_sx Lx xs (x3 + (3 : Int))).bind (fun v3 => pw_bd (mf_W_determinant x1 v1 v2 v3 σ) (fun v5 s4 => (pw_sx Lx xs (x3 + (1 : Int))).bind (fun v6 => (pw_sx Lx xs (x3 + (2 : Int))).bind (fun v7 => (pw_sx Lx xs (x3 + (3 : Int))).bind (fun v8 => pw_bd (mf_M_determinant x2 v6 v7 v8 s4) (fun v10 s9 => if v5 = v10 then rj s9 else none))))))))
def lc_20 (Lx : Nat) (xs : Nat → Int) (x1 x2 : Nat) (x3 : Int) (rj : pw_Sto → Option (Unit × pw_Sto)) (σ : pw_Sto) : Option (Unit × pw_Sto) := (pw_sx Lx xs (x3 + (1 : Int))).bind (fun v1 => (pw_sx Lx xs (x3 + (2 : Int))).bind (fun v2 => (pw_sx Lx xs (x3 + (3 : Int))).bind (fun v3 => (pw_sx Lx xs (x3 + (4 : Int))).bind (fun v4 => pw_bd (mf_W_quotientDifference x1 v1 v2 v3 v4 σ) (fun v6 s5 => (pw_sx Lx xs (x3 + (1 : Int))).bind (fun v7 => (pw_sx Lx xs (x3 + (2 : Int))).bind (fun v8 => (pw_sx Lx xs (x3 + (3 : Int))).bind (fun v9 => (pw_sx Lx xs (x3 + (4 : Int))).bind (fun v10 => pw_bd (mf_M_quotientDifference x2 v7 v8 v9 v10 s5) (fun v12 s11 => if v6 = v12 then rj s11 else none))))))))))
def lc_21 (Lx : Nat) (xs : Nat → Int) (x1 x2 : Nat) (x3 : Int) (rj : pw_Sto → Option (Unit × pw_Sto)) (σ : pw_Sto) : Option (Unit × pw_Sto) := (pw_sx Lx xs (x3 + (1 : Int))).bind (fun v1 => (pw_sx Lx xs (x3 + (2 : Int))).bind (fun v2 => pw_bd (mf_W_quotientCount x1 v1 v2 σ) (fun v4 s3 => (pw_sx Lx xs (x3 + (1 : Int))).bind (fun v5 => (pw_sx Lx xs (x3 + (2 : Int))).bind (fun v6 => pw_bd (mf_M_quotientCount x2 v5 v6 s3) (fun v8 s7 => if v4 = v8 then rj s7 else none))))))
def lc_22 (Lx : Nat) (xs : Nat → Int) (x1 x2 : Nat) (x3 : Int) (rj : pw_Sto → Option (Unit × pw_Sto)) (σ : pw_Sto) : Option (Unit × pw_Sto) := (pw_sx Lx xs (x3 + (1 : Int))).bind (fun v1 => (pw_sx Lx xs (x3 + (2 : Int))).bind (fun v2 => (pw_sx Lx xs (x3 + (3 : Int))).bind (fun v3 => (pw_sx Lx xs (x3 + (4 : Int))).bind (fun v4 => pw_bd (mf_W_quotient x1 v1 v2 v3 v4 σ) (fun v6 s5 => (pw_sx Lx xs (x3 + (1 : Int))).bind (fun v7 => (pw_sx Lx xs (x3 + (2 : Int))).bind (fun v8 => (pw_sx Lx xs (x3 + (3 : Int))).bind (fun v9 => (pw_sx Lx xs (x3 + (4 : Int))).bind (fun v10 => pw_bd (mf_M_quotient x2 v7 v8 v9 v10 s5) (fun v12 s11 => if v6 = v12 then rj s11 else none))))))))))
def lc_23 (Lx : Nat) (xs : Nat → Int) (x1 x2 : Nat) (x3 : Int) (rj : pw_Sto → Option (Unit × pw_Sto)) (σ : pw_Sto) : Option (Unit × pw_Sto) := (pw_sx Lx xs (x3 + (1 : Int))).bind (fun v1 => (pw_sx Lx xs (x3 + (2 : Int))).bind (fun v2 => pw_bd (mf_W_complexity x1 v1 v2 σ) (fun v4 s3 => (pw_sx Lx xs (x3 + (1 : Int))).bind (fun v5 => (pw_sx Lx xs (x3 + (2 : Int))).bind (fun v6 => pw_bd (mf_M_complexity x2 v5 v6 s3) (fun v8 s7 => if v4 = v8 then rj s7 else none))))))
def lc_24 (Lx : Nat) (xs : Nat → Int) (x1 x2 : Nat) (x3 : Int) (rj : pw_Sto → Option (Unit × pw_Sto)) (σ : pw_Sto) : Option (Unit × pw_Sto) := (pw_sx Lx xs (x3 + (1 : Int))).bind (fun v1 => (pw_sx Lx xs (x3 + (2 : Int))).bind (fun v2 => (pw_sx Lx xs (x3 + (3 : Int))).bind (fun v3 => pw_bd (mf_W_recurrence x1 v1 v2 v3 σ) (fun v5 s4 => (pw_sx Lx xs (x3 + (1 : Int))).bind (fun v6 => (pw_sx Lx xs (x3 + (2 : Int))).bind (fun v7 => (pw_sx Lx xs (x3 + (3 : Int))).bind (fun v8 => pw_bd (mf_M_recurrence x2 v6 v7 v8 s4) (fun v10 s9 => if v5 = v10 then rj s9 else none))))))))
def lc_25 (Lx : Nat) (xs : Nat → Int) (x1 x2 : Nat) (x3 : Int) (rj : pw_Sto → Option (Unit × pw_Sto)) (σ : pw_Sto) : Option (Unit × pw_Sto) := (pw_sx Lx xs (x3 + (1 : Int))).bind (fun v1 => (pw_sx Lx xs (x3 + (2 : Int))).bind (fun v2 => pw_bd (mf_W_addPoint x1 v1 v2 σ) (fun v4 s3 => (pw_sx Lx xs (x3 + (1 : Int))).bind (fun v5 => (pw_sx Lx xs (x3 + (2 : Int))).bind (fun v6 => pw_bd (mf_M_addPoint x2 v5 v6 s3) (fun v8 s7 => if v4 = v8 then rj s7 else none))))))
def lc_26 (Lx : Nat) (xs : Nat → Int) (x1 x2 : Nat) (x3 : Int) (rj : pw_Sto → Option (Unit × pw_Sto)) (σ : pw_Sto) : Option (Unit × pw_Sto) := pw_bd (mf_W_clearPoints x1 σ) (fun v2 s1 => pw_bd (mf_M_clearPoints x2 s1) (fun v4 s3 => if v2 = v4 then rj s3 else none))
def lc_27 (Lx : Nat) (xs : Nat → Int) (x1 x2 : Nat) (x3 : Int) (rj : pw_Sto → Option (Unit × pw_Sto)) (σ : pw_Sto) : Option (Unit × pw_Sto) := (pw_sx Lx xs (x3 + (1 : Int))).bind (fun v1 => (pw_sx Lx xs (x3 + (2 : Int))).bind (fun v2 => (pw_sx Lx xs (x3 + (3 : Int))).bind (fun v3 => pw_bd (mf_W_interpolant x1 v1 v2 v3 σ) (fun v5 s4 => (pw_sx Lx xs (x3 + (1 : Int))).bind (fun v6 => (pw_sx Lx xs (x3 + (2 : Int))).bind (fun v7 => (pw_sx Lx xs (x3 + (3 : Int))).bind (fun v8 => pw_bd (mf_M_interpolant x2 v6 v7 v8 s4) (fun v10 s9 => if v5 = v10 then rj s9 else none))))))))
def lc_28 (Lx : Nat) (xs : Nat → Int) (x1 x2 : Nat) (x3 : Int) (rj : pw_Sto → Option (Unit × pw_Sto)) (σ : pw_Sto) : Option (Unit × pw_Sto) := (pw_sx Lx xs (x3 + (1 : Int))).bind (fun v1 => pw_bd (mf_W_unattainable x1 v1 σ) (fun v3 s2 => (pw_sx Lx xs (x3 + (1 : Int))).bind (fun v4 => pw_bd (mf_M_unattainable x2 v4 s2) (fun v6 s5 => if v3 = v6 then rj s5 else none))))
def lc_29 (Lx : Nat) (xs : Nat → Int) (x1 x2 : Nat) (x3 : Int) (rj : pw_Sto → Option (Unit × pw_Sto)) (σ : pw_Sto) : Option (Unit × pw_Sto) := pw_bd (mf_W_undo x1 σ) (fun v2 s1 => pw_bd (mf_M_undo x2 s1) (fun v4 s3 => if v2 = v4 then rj s3 else none))
def lc_30 (Lx : Nat) (xs : Nat → Int) (x1 x2 : Nat) (x3 : Int) (rj : pw_Sto → Option (Unit × pw_Sto)) (σ : pw_Sto) : Option (Unit × pw_Sto) := (pw_sx Lx xs (x3 + (1 : Int))).bind (fun v1 => pw_bd (mf_W_errorCount x1 v1 σ) (fun v3 s2 => (pw_sx Lx xs (x3 + (1 : Int))).bind (fun v4 => pw_bd (mf_M_errorCount x2 v4 s2) (fun v6 s5 => if v3 = v6 then rj s5 else none))))
def lc_31 (Lx : Nat) (xs : Nat → Int) (x1 x2 : Nat) (x3 : Int) (rj : pw_Sto → Option (Unit × pw_Sto)) (σ : pw_Sto) : Option (Unit × pw_Sto) := pw_bd (mf_W_digest x1 σ) (fun v2 s1 => pw_bd (mf_M_digest x2 s1) (fun v4 s3 => if v2 = v4 then rj s3 else none))
def lg_case (Lx : Nat) (xs : Nat → Int) (x1 x2 : Nat) (x3 : Int) (rj : pw_Sto → Option (Unit × pw_Sto)) (σ : pw_Sto) : Nat → Option (Unit × pw_Sto)
  | 0 => lc_0 Lx xs x1 x2 x3 rj σ
  | 1 => lc_1 Lx xs x1 x2 x3 rj σ
  | 2 => lc_2 Lx xs x1 x2 x3 rj σ
  | 3 => lc_3 Lx xs x1 x2 x3 rj σ
  | 4 => lc_4 Lx xs x1 x2 x3 rj σ
  | 5 => lc_5 Lx xs x1 x2 x3 rj σ
  | 6 => lc_6 Lx xs x1 x2 x3 rj σ
  | 7 => lc_7 Lx xs x1 x2 x3 rj σ
  | 8 => lc_8 Lx xs x1 x2 x3 rj σ
  | 9 => lc_9 Lx xs x1 x2 x3 rj σ
  | 10 => lc_10 Lx xs x1 x2 x3 rj σ
  | 11 => lc_11 Lx xs x1 x2 x3 rj σ
  | 12 => lc_12 Lx xs x1 x2 x3 rj σ
  | 13 => lc_13 Lx xs x1 x2 x3 rj σ
  | 14 => lc_14 Lx xs x1 x2 x3 rj σ
  | 15 => lc_15 Lx xs x1 x2 x3 rj σ
  | 16 => lc_16 Lx xs x1 x2 x3 rj σ
  | 17 => lc_17 Lx xs x1 x2 x3 rj σ
  | 18 => lc_18 Lx xs x1 x2 x3 rj σ
  | 19 => lc_19 Lx xs x1 x2 x3 rj σ
  | 20 => lc_20 Lx xs x1 x2 x3 rj σ
  | 21 => lc_21 Lx xs x1 x2 x3 rj σ
  | 22 => lc_22 Lx xs x1 x2 x3 rj σ
  | 23 => lc_23 Lx xs x1 x2 x3 rj σ
  | 24 => lc_24 Lx xs x1 x2 x3 rj σ
  | 25 => lc_25 Lx xs x1 x2 x3 rj σ
  | 26 => lc_26 Lx xs x1 x2 x3 rj σ
  | 27 => lc_27 Lx xs x1 x2 x3 rj σ
  | 28 => lc_28 Lx xs x1 x2 x3 rj σ
  | 29 => lc_29 Lx xs x1 x2 x3 rj σ
  | 30 => lc_30 Lx xs x1 x2 x3 rj σ
  | 31 => lc_31 Lx xs x1 x2 x3 rj σ
  | _ => none

set_option maxHeartbeats 4000000 in
set_option maxRecDepth 20000 in
theorem ls_0 {X : pw_X Unit} (hX : pw_Ok X code "PadeWorkbenchLaw" room_1 4) {bs Lx : Nat} {xs : Nat → Int} (hB : pw_Scr X bs Lx xs) {x1 x2 : Nat} {x3 : Int} {rj : pw_Sto → Option (Unit × pw_Sto)} (hJ : ∀ σ, pw_Sp X 109 2510 1313 [(0, Value.retAddr bs), (1, Value.ref x1), (2, Value.ref x2), (3, Value.int (iI x3))] [] σ (rj σ)) (σ : pw_Sto) : pw_Sp X 109 2510 176 [(0, Value.retAddr bs), (1, Value.ref x1), (2, Value.ref x2), (3, Value.int (iI x3))] [] σ (lc_0 Lx xs x1 x2 x3 rj σ) := by
  unfold lc_0
  refine sp_aload_n (pc := 176) (k := 1) (i := 1) hX rfl 1 rfl md_L_176 ?_
  refine sp_xload_n (pc := 177) (k := 0) (i := 0) hX rfl 0 rfl md_L_177 ?_
  refine sp_iload_n (pc := 178) (k := 3) (i := 3) hX rfl 3 rfl md_L_178 ?_
  refine sp_iconst (pc := 179) hX md_L_179 ?_
  refine sp_iadd (pc := 180) hX md_L_180 ?_
  refine sp_sld (pc := 181) hX hB md_L_181 (fun v1 => ?_)
  refine sp_callVI (pc := 182) (y := my_W_setPrime) (ccy := prog_1_method_2_code) (nLy := 3) (ret := (some .int)) (rmy := mr_W_setPrime) (n := 1) (idx := 13) (As := [.int (iI v1)]) (st := []) (o := x1) (cells' := 109) (slots' := 2510) hX (fun _ h => mc_W_setPrime h) mk_W_setPrime mv_W_setPrime mcl_9 (fun _ h => pw_gd_of h) mq_318 ⟨(Nat.le_of_ble_eq_true rfl), (Nat.le_of_ble_eq_true rfl)⟩ rfl rfl (Nat.le_of_ble_eq_true rfl) ⟨(Nat.le_of_ble_eq_true rfl), (Nat.le_of_ble_eq_true rfl)⟩ rfl rfl md_L_182 (fun v3 s2 => ?_)
  refine sp_aload_n (pc := 185) (k := 2) (i := 2) hX rfl 2 rfl md_L_185 ?_
  refine sp_xload_n (pc := 186) (k := 0) (i := 0) hX rfl 0 rfl md_L_186 ?_
  refine sp_iload_n (pc := 187) (k := 3) (i := 3) hX rfl 3 rfl md_L_187 ?_
  refine sp_iconst (pc := 188) hX md_L_188 ?_
  refine sp_iadd (pc := 189) hX md_L_189 ?_
  refine sp_sld (pc := 190) hX hB md_L_190 (fun v4 => ?_)
  refine sp_callVI (pc := 191) (y := my_M_setPrime) (ccy := prog_14_method_11_code) (nLy := 4) (ret := (some .int)) (rmy := mr_M_setPrime) (n := 1) (idx := 17) (As := [.int (iI v4)]) (st := [.int (iI v3)]) (o := x2) (cells' := 109) (slots' := 2510) hX (fun _ h => mc_M_setPrime h) mk_M_setPrime mv_M_setPrime mcl_10 (fun _ h => pw_gd_of h) mq_860 ⟨(Nat.le_of_ble_eq_true rfl), (Nat.le_of_ble_eq_true rfl)⟩ rfl rfl (Nat.le_of_ble_eq_true rfl) ⟨(Nat.le_of_ble_eq_true rfl), (Nat.le_of_ble_eq_true rfl)⟩ rfl rfl md_L_191 (fun v6 s5 => ?_)
  refine sp_icmp_eqN (pc := 194) hX 1313 (by decide) md_L_194 ?_
  exact hJ s5
set_option maxHeartbeats 4000000 in
set_option maxRecDepth 20000 in
theorem ls_1 {X : pw_X Unit} (hX : pw_Ok X code "PadeWorkbenchLaw" room_1 4) {bs Lx : Nat} {xs : Nat → Int} (hB : pw_Scr X bs Lx xs) {x1 x2 : Nat} {x3 : Int} {rj : pw_Sto → Option (Unit × pw_Sto)} (hJ : ∀ σ, pw_Sp X 109 2510 1313 [(0, Value.retAddr bs), (1, Value.ref x1), (2, Value.ref x2), (3, Value.int (iI x3))] [] σ (rj σ)) (σ : pw_Sto) : pw_Sp X 109 2510 199 [(0, Value.retAddr bs), (1, Value.ref x1), (2, Value.ref x2), (3, Value.int (iI x3))] [] σ (lc_1 Lx xs x1 x2 x3 rj σ) := by
  unfold lc_1
  refine sp_aload_n (pc := 199) (k := 1) (i := 1) hX rfl 1 rfl md_L_199 ?_
  refine sp_xload_n (pc := 200) (k := 0) (i := 0) hX rfl 0 rfl md_L_200 ?_
  refine sp_iload_n (pc := 201) (k := 3) (i := 3) hX rfl 3 rfl md_L_201 ?_
  refine sp_iconst (pc := 202) hX md_L_202 ?_
  refine sp_iadd (pc := 203) hX md_L_203 ?_
  refine sp_sld (pc := 204) hX hB md_L_204 (fun v1 => ?_)
  refine sp_xload_n (pc := 205) (k := 0) (i := 0) hX rfl 0 rfl md_L_205 ?_
  refine sp_iload_n (pc := 206) (k := 3) (i := 3) hX rfl 3 rfl md_L_206 ?_
  refine sp_iconst (pc := 207) hX md_L_207 ?_
  refine sp_iadd (pc := 208) hX md_L_208 ?_
  refine sp_sld (pc := 209) hX hB md_L_209 (fun v2 => ?_)
  refine sp_xload_n (pc := 210) (k := 0) (i := 0) hX rfl 0 rfl md_L_210 ?_
  refine sp_iload_n (pc := 211) (k := 3) (i := 3) hX rfl 3 rfl md_L_211 ?_
  refine sp_iconst (pc := 212) hX md_L_212 ?_
  refine sp_iadd (pc := 213) hX md_L_213 ?_
  refine sp_sld (pc := 214) hX hB md_L_214 (fun v3 => ?_)
  refine sp_callVI (pc := 215) (y := my_W_set) (ccy := prog_1_method_3_code) (nLy := 5) (ret := (some .int)) (rmy := mr_W_set) (n := 3) (idx := 18) (As := [.int (iI v1), .int (iI v2), .int (iI v3)]) (st := []) (o := x1) (cells' := 109) (slots' := 2510) hX (fun _ h => mc_W_set h) mk_W_set mv_W_set mcl_9 (fun _ h => pw_gd_of h) mq_347 ⟨(Nat.le_of_ble_eq_true rfl), (Nat.le_of_ble_eq_true rfl)⟩ rfl rfl (Nat.le_of_ble_eq_true rfl) ⟨(Nat.le_of_ble_eq_true rfl), (Nat.le_of_ble_eq_true rfl)⟩ rfl rfl md_L_215 (fun v5 s4 => ?_)
  refine sp_aload_n (pc := 218) (k := 2) (i := 2) hX rfl 2 rfl md_L_218 ?_
  refine sp_xload_n (pc := 219) (k := 0) (i := 0) hX rfl 0 rfl md_L_219 ?_
  refine sp_iload_n (pc := 220) (k := 3) (i := 3) hX rfl 3 rfl md_L_220 ?_
  refine sp_iconst (pc := 221) hX md_L_221 ?_
  refine sp_iadd (pc := 222) hX md_L_222 ?_
  refine sp_sld (pc := 223) hX hB md_L_223 (fun v6 => ?_)
  refine sp_xload_n (pc := 224) (k := 0) (i := 0) hX rfl 0 rfl md_L_224 ?_
  refine sp_iload_n (pc := 225) (k := 3) (i := 3) hX rfl 3 rfl md_L_225 ?_
  refine sp_iconst (pc := 226) hX md_L_226 ?_
  refine sp_iadd (pc := 227) hX md_L_227 ?_
  refine sp_sld (pc := 228) hX hB md_L_228 (fun v7 => ?_)
  refine sp_xload_n (pc := 229) (k := 0) (i := 0) hX rfl 0 rfl md_L_229 ?_
  refine sp_iload_n (pc := 230) (k := 3) (i := 3) hX rfl 3 rfl md_L_230 ?_
  refine sp_iconst (pc := 231) hX md_L_231 ?_
  refine sp_iadd (pc := 232) hX md_L_232 ?_
  refine sp_sld (pc := 233) hX hB md_L_233 (fun v8 => ?_)
  refine sp_callVI (pc := 234) (y := my_M_set) (ccy := prog_14_method_12_code) (nLy := 5) (ret := (some .int)) (rmy := mr_M_set) (n := 3) (idx := 22) (As := [.int (iI v6), .int (iI v7), .int (iI v8)]) (st := [.int (iI v5)]) (o := x2) (cells' := 109) (slots' := 2510) hX (fun _ h => mc_M_set h) mk_M_set mv_M_set mcl_10 (fun _ h => pw_gd_of h) mq_882 ⟨(Nat.le_of_ble_eq_true rfl), (Nat.le_of_ble_eq_true rfl)⟩ rfl rfl (Nat.le_of_ble_eq_true rfl) ⟨(Nat.le_of_ble_eq_true rfl), (Nat.le_of_ble_eq_true rfl)⟩ rfl rfl md_L_234 (fun v10 s9 => ?_)
  refine sp_icmp_eqN (pc := 237) hX 1313 (by decide) md_L_237 ?_
  exact hJ s9
set_option maxHeartbeats 4000000 in
set_option maxRecDepth 20000 in
theorem ls_2 {X : pw_X Unit} (hX : pw_Ok X code "PadeWorkbenchLaw" room_1 4) {bs Lx : Nat} {xs : Nat → Int} (hB : pw_Scr X bs Lx xs) {x1 x2 : Nat} {x3 : Int} {rj : pw_Sto → Option (Unit × pw_Sto)} (hJ : ∀ σ, pw_Sp X 109 2510 1313 [(0, Value.retAddr bs), (1, Value.ref x1), (2, Value.ref x2), (3, Value.int (iI x3))] [] σ (rj σ)) (σ : pw_Sto) : pw_Sp X 109 2510 242 [(0, Value.retAddr bs), (1, Value.ref x1), (2, Value.ref x2), (3, Value.int (iI x3))] [] σ (lc_2 Lx xs x1 x2 x3 rj σ) := by
  unfold lc_2
  refine sp_aload_n (pc := 242) (k := 1) (i := 1) hX rfl 1 rfl md_L_242 ?_
  refine sp_xload_n (pc := 243) (k := 0) (i := 0) hX rfl 0 rfl md_L_243 ?_
  refine sp_iload_n (pc := 244) (k := 3) (i := 3) hX rfl 3 rfl md_L_244 ?_
  refine sp_iconst (pc := 245) hX md_L_245 ?_
  refine sp_iadd (pc := 246) hX md_L_246 ?_
  refine sp_sld (pc := 247) hX hB md_L_247 (fun v1 => ?_)
  refine sp_xload_n (pc := 248) (k := 0) (i := 0) hX rfl 0 rfl md_L_248 ?_
  refine sp_iload_n (pc := 249) (k := 3) (i := 3) hX rfl 3 rfl md_L_249 ?_
  refine sp_iconst (pc := 250) hX md_L_250 ?_
  refine sp_iadd (pc := 251) hX md_L_251 ?_
  refine sp_sld (pc := 252) hX hB md_L_252 (fun v2 => ?_)
  refine sp_callVI (pc := 253) (y := my_W_coefficient) (ccy := prog_1_method_4_code) (nLy := 3) (ret := (some .int)) (rmy := mr_W_coefficient) (n := 2) (idx := 23) (As := [.int (iI v1), .int (iI v2)]) (st := []) (o := x1) (cells' := 109) (slots' := 2510) hX (fun _ h => mc_W_coefficient h) mk_W_coefficient mv_W_coefficient mcl_9 (fun _ h => pw_gd_of h) mq_361 ⟨(Nat.le_of_ble_eq_true rfl), (Nat.le_of_ble_eq_true rfl)⟩ rfl rfl (Nat.le_of_ble_eq_true rfl) ⟨(Nat.le_of_ble_eq_true rfl), (Nat.le_of_ble_eq_true rfl)⟩ rfl rfl md_L_253 (fun v4 s3 => ?_)
  refine sp_aload_n (pc := 256) (k := 2) (i := 2) hX rfl 2 rfl md_L_256 ?_
  refine sp_xload_n (pc := 257) (k := 0) (i := 0) hX rfl 0 rfl md_L_257 ?_
  refine sp_iload_n (pc := 258) (k := 3) (i := 3) hX rfl 3 rfl md_L_258 ?_
  refine sp_iconst (pc := 259) hX md_L_259 ?_
  refine sp_iadd (pc := 260) hX md_L_260 ?_
  refine sp_sld (pc := 261) hX hB md_L_261 (fun v5 => ?_)
  refine sp_xload_n (pc := 262) (k := 0) (i := 0) hX rfl 0 rfl md_L_262 ?_
  refine sp_iload_n (pc := 263) (k := 3) (i := 3) hX rfl 3 rfl md_L_263 ?_
  refine sp_iconst (pc := 264) hX md_L_264 ?_
  refine sp_iadd (pc := 265) hX md_L_265 ?_
  refine sp_sld (pc := 266) hX hB md_L_266 (fun v6 => ?_)
  refine sp_callVI (pc := 267) (y := my_M_coefficient) (ccy := prog_14_method_13_code) (nLy := 3) (ret := (some .int)) (rmy := mr_M_coefficient) (n := 2) (idx := 27) (As := [.int (iI v5), .int (iI v6)]) (st := [.int (iI v4)]) (o := x2) (cells' := 109) (slots' := 2510) hX (fun _ h => mc_M_coefficient h) mk_M_coefficient mv_M_coefficient mcl_10 (fun _ h => pw_gd_of h) mq_893 ⟨(Nat.le_of_ble_eq_true rfl), (Nat.le_of_ble_eq_true rfl)⟩ rfl rfl (Nat.le_of_ble_eq_true rfl) ⟨(Nat.le_of_ble_eq_true rfl), (Nat.le_of_ble_eq_true rfl)⟩ rfl rfl md_L_267 (fun v8 s7 => ?_)
  refine sp_icmp_eqN (pc := 270) hX 1313 (by decide) md_L_270 ?_
  exact hJ s7
set_option maxHeartbeats 4000000 in
set_option maxRecDepth 20000 in
theorem ls_3 {X : pw_X Unit} (hX : pw_Ok X code "PadeWorkbenchLaw" room_1 4) {bs Lx : Nat} {xs : Nat → Int} (hB : pw_Scr X bs Lx xs) {x1 x2 : Nat} {x3 : Int} {rj : pw_Sto → Option (Unit × pw_Sto)} (hJ : ∀ σ, pw_Sp X 109 2510 1313 [(0, Value.retAddr bs), (1, Value.ref x1), (2, Value.ref x2), (3, Value.int (iI x3))] [] σ (rj σ)) (σ : pw_Sto) : pw_Sp X 109 2510 275 [(0, Value.retAddr bs), (1, Value.ref x1), (2, Value.ref x2), (3, Value.int (iI x3))] [] σ (lc_3 Lx xs x1 x2 x3 rj σ) := by
  unfold lc_3
  refine sp_aload_n (pc := 275) (k := 1) (i := 1) hX rfl 1 rfl md_L_275 ?_
  refine sp_xload_n (pc := 276) (k := 0) (i := 0) hX rfl 0 rfl md_L_276 ?_
  refine sp_iload_n (pc := 277) (k := 3) (i := 3) hX rfl 3 rfl md_L_277 ?_
  refine sp_iconst (pc := 278) hX md_L_278 ?_
  refine sp_iadd (pc := 279) hX md_L_279 ?_
  refine sp_sld (pc := 280) hX hB md_L_280 (fun v1 => ?_)
  refine sp_xload_n (pc := 281) (k := 0) (i := 0) hX rfl 0 rfl md_L_281 ?_
  refine sp_iload_n (pc := 282) (k := 3) (i := 3) hX rfl 3 rfl md_L_282 ?_
  refine sp_iconst (pc := 283) hX md_L_283 ?_
  refine sp_iadd (pc := 284) hX md_L_284 ?_
  refine sp_sld (pc := 285) hX hB md_L_285 (fun v2 => ?_)
  refine sp_xload_n (pc := 286) (k := 0) (i := 0) hX rfl 0 rfl md_L_286 ?_
  refine sp_iload_n (pc := 287) (k := 3) (i := 3) hX rfl 3 rfl md_L_287 ?_
  refine sp_iconst (pc := 288) hX md_L_288 ?_
  refine sp_iadd (pc := 289) hX md_L_289 ?_
  refine sp_sld (pc := 290) hX hB md_L_290 (fun v3 => ?_)
  refine sp_callVI (pc := 291) (y := my_W_add) (ccy := prog_1_method_5_code) (nLy := 4) (ret := (some .int)) (rmy := mr_W_add) (n := 3) (idx := 28) (As := [.int (iI v1), .int (iI v2), .int (iI v3)]) (st := []) (o := x1) (cells' := 109) (slots' := 2510) hX (fun _ h => mc_W_add h) mk_W_add mv_W_add mcl_9 (fun _ h => pw_gd_of h) mq_365 ⟨(Nat.le_of_ble_eq_true rfl), (Nat.le_of_ble_eq_true rfl)⟩ rfl rfl (Nat.le_of_ble_eq_true rfl) ⟨(Nat.le_of_ble_eq_true rfl), (Nat.le_of_ble_eq_true rfl)⟩ rfl rfl md_L_291 (fun v5 s4 => ?_)
  refine sp_aload_n (pc := 294) (k := 2) (i := 2) hX rfl 2 rfl md_L_294 ?_
  refine sp_xload_n (pc := 295) (k := 0) (i := 0) hX rfl 0 rfl md_L_295 ?_
  refine sp_iload_n (pc := 296) (k := 3) (i := 3) hX rfl 3 rfl md_L_296 ?_
  refine sp_iconst (pc := 297) hX md_L_297 ?_
  refine sp_iadd (pc := 298) hX md_L_298 ?_
  refine sp_sld (pc := 299) hX hB md_L_299 (fun v6 => ?_)
  refine sp_xload_n (pc := 300) (k := 0) (i := 0) hX rfl 0 rfl md_L_300 ?_
  refine sp_iload_n (pc := 301) (k := 3) (i := 3) hX rfl 3 rfl md_L_301 ?_
  refine sp_iconst (pc := 302) hX md_L_302 ?_
  refine sp_iadd (pc := 303) hX md_L_303 ?_
  refine sp_sld (pc := 304) hX hB md_L_304 (fun v7 => ?_)
  refine sp_xload_n (pc := 305) (k := 0) (i := 0) hX rfl 0 rfl md_L_305 ?_
  refine sp_iload_n (pc := 306) (k := 3) (i := 3) hX rfl 3 rfl md_L_306 ?_
  refine sp_iconst (pc := 307) hX md_L_307 ?_
  refine sp_iadd (pc := 308) hX md_L_308 ?_
  refine sp_sld (pc := 309) hX hB md_L_309 (fun v8 => ?_)
  refine sp_callVI (pc := 310) (y := my_M_add) (ccy := prog_14_method_19_code) (nLy := 5) (ret := (some .int)) (rmy := mr_M_add) (n := 3) (idx := 31) (As := [.int (iI v6), .int (iI v7), .int (iI v8)]) (st := [.int (iI v5)]) (o := x2) (cells' := 109) (slots' := 2510) hX (fun _ h => mc_M_add h) mk_M_add mv_M_add mcl_10 (fun _ h => pw_gd_of h) mq_897 ⟨(Nat.le_of_ble_eq_true rfl), (Nat.le_of_ble_eq_true rfl)⟩ rfl rfl (Nat.le_of_ble_eq_true rfl) ⟨(Nat.le_of_ble_eq_true rfl), (Nat.le_of_ble_eq_true rfl)⟩ rfl rfl md_L_310 (fun v10 s9 => ?_)
  refine sp_icmp_eqN (pc := 313) hX 1313 (by decide) md_L_313 ?_
  exact hJ s9
set_option maxHeartbeats 4000000 in
set_option maxRecDepth 20000 in
theorem ls_4 {X : pw_X Unit} (hX : pw_Ok X code "PadeWorkbenchLaw" room_1 4) {bs Lx : Nat} {xs : Nat → Int} (hB : pw_Scr X bs Lx xs) {x1 x2 : Nat} {x3 : Int} {rj : pw_Sto → Option (Unit × pw_Sto)} (hJ : ∀ σ, pw_Sp X 109 2510 1313 [(0, Value.retAddr bs), (1, Value.ref x1), (2, Value.ref x2), (3, Value.int (iI x3))] [] σ (rj σ)) (σ : pw_Sto) : pw_Sp X 109 2510 318 [(0, Value.retAddr bs), (1, Value.ref x1), (2, Value.ref x2), (3, Value.int (iI x3))] [] σ (lc_4 Lx xs x1 x2 x3 rj σ) := by
  unfold lc_4
  refine sp_aload_n (pc := 318) (k := 1) (i := 1) hX rfl 1 rfl md_L_318 ?_
  refine sp_xload_n (pc := 319) (k := 0) (i := 0) hX rfl 0 rfl md_L_319 ?_
  refine sp_iload_n (pc := 320) (k := 3) (i := 3) hX rfl 3 rfl md_L_320 ?_
  refine sp_iconst (pc := 321) hX md_L_321 ?_
  refine sp_iadd (pc := 322) hX md_L_322 ?_
  refine sp_sld (pc := 323) hX hB md_L_323 (fun v1 => ?_)
  refine sp_xload_n (pc := 324) (k := 0) (i := 0) hX rfl 0 rfl md_L_324 ?_
  refine sp_iload_n (pc := 325) (k := 3) (i := 3) hX rfl 3 rfl md_L_325 ?_
  refine sp_iconst (pc := 326) hX md_L_326 ?_
  refine sp_iadd (pc := 327) hX md_L_327 ?_
  refine sp_sld (pc := 328) hX hB md_L_328 (fun v2 => ?_)
  refine sp_xload_n (pc := 329) (k := 0) (i := 0) hX rfl 0 rfl md_L_329 ?_
  refine sp_iload_n (pc := 330) (k := 3) (i := 3) hX rfl 3 rfl md_L_330 ?_
  refine sp_iconst (pc := 331) hX md_L_331 ?_
  refine sp_iadd (pc := 332) hX md_L_332 ?_
  refine sp_sld (pc := 333) hX hB md_L_333 (fun v3 => ?_)
  refine sp_callVI (pc := 334) (y := my_W_multiply) (ccy := prog_1_method_6_code) (nLy := 4) (ret := (some .int)) (rmy := mr_W_multiply) (n := 3) (idx := 32) (As := [.int (iI v1), .int (iI v2), .int (iI v3)]) (st := []) (o := x1) (cells' := 109) (slots' := 2510) hX (fun _ h => mc_W_multiply h) mk_W_multiply mv_W_multiply mcl_9 (fun _ h => pw_gd_of h) mq_383 ⟨(Nat.le_of_ble_eq_true rfl), (Nat.le_of_ble_eq_true rfl)⟩ rfl rfl (Nat.le_of_ble_eq_true rfl) ⟨(Nat.le_of_ble_eq_true rfl), (Nat.le_of_ble_eq_true rfl)⟩ rfl rfl md_L_334 (fun v5 s4 => ?_)
  refine sp_aload_n (pc := 337) (k := 2) (i := 2) hX rfl 2 rfl md_L_337 ?_
  refine sp_xload_n (pc := 338) (k := 0) (i := 0) hX rfl 0 rfl md_L_338 ?_
  refine sp_iload_n (pc := 339) (k := 3) (i := 3) hX rfl 3 rfl md_L_339 ?_
  refine sp_iconst (pc := 340) hX md_L_340 ?_
  refine sp_iadd (pc := 341) hX md_L_341 ?_
  refine sp_sld (pc := 342) hX hB md_L_342 (fun v6 => ?_)
  refine sp_xload_n (pc := 343) (k := 0) (i := 0) hX rfl 0 rfl md_L_343 ?_
  refine sp_iload_n (pc := 344) (k := 3) (i := 3) hX rfl 3 rfl md_L_344 ?_
  refine sp_iconst (pc := 345) hX md_L_345 ?_
  refine sp_iadd (pc := 346) hX md_L_346 ?_
  refine sp_sld (pc := 347) hX hB md_L_347 (fun v7 => ?_)
  refine sp_xload_n (pc := 348) (k := 0) (i := 0) hX rfl 0 rfl md_L_348 ?_
  refine sp_iload_n (pc := 349) (k := 3) (i := 3) hX rfl 3 rfl md_L_349 ?_
  refine sp_iconst (pc := 350) hX md_L_350 ?_
  refine sp_iadd (pc := 351) hX md_L_351 ?_
  refine sp_sld (pc := 352) hX hB md_L_352 (fun v8 => ?_)
  refine sp_callVI (pc := 353) (y := my_M_multiply) (ccy := prog_14_method_20_code) (nLy := 4) (ret := (some .int)) (rmy := mr_M_multiply) (n := 3) (idx := 35) (As := [.int (iI v6), .int (iI v7), .int (iI v8)]) (st := [.int (iI v5)]) (o := x2) (cells' := 109) (slots' := 2510) hX (fun _ h => mc_M_multiply h) mk_M_multiply mv_M_multiply mcl_10 (fun _ h => pw_gd_of h) mq_909 ⟨(Nat.le_of_ble_eq_true rfl), (Nat.le_of_ble_eq_true rfl)⟩ rfl rfl (Nat.le_of_ble_eq_true rfl) ⟨(Nat.le_of_ble_eq_true rfl), (Nat.le_of_ble_eq_true rfl)⟩ rfl rfl md_L_353 (fun v10 s9 => ?_)
  refine sp_icmp_eqN (pc := 356) hX 1313 (by decide) md_L_356 ?_
  exact hJ s9
set_option maxHeartbeats 4000000 in
set_option maxRecDepth 20000 in
theorem ls_5 {X : pw_X Unit} (hX : pw_Ok X code "PadeWorkbenchLaw" room_1 4) {bs Lx : Nat} {xs : Nat → Int} (hB : pw_Scr X bs Lx xs) {x1 x2 : Nat} {x3 : Int} {rj : pw_Sto → Option (Unit × pw_Sto)} (hJ : ∀ σ, pw_Sp X 109 2510 1313 [(0, Value.retAddr bs), (1, Value.ref x1), (2, Value.ref x2), (3, Value.int (iI x3))] [] σ (rj σ)) (σ : pw_Sto) : pw_Sp X 109 2510 361 [(0, Value.retAddr bs), (1, Value.ref x1), (2, Value.ref x2), (3, Value.int (iI x3))] [] σ (lc_5 Lx xs x1 x2 x3 rj σ) := by
  unfold lc_5
  refine sp_aload_n (pc := 361) (k := 1) (i := 1) hX rfl 1 rfl md_L_361 ?_
  refine sp_xload_n (pc := 362) (k := 0) (i := 0) hX rfl 0 rfl md_L_362 ?_
  refine sp_iload_n (pc := 363) (k := 3) (i := 3) hX rfl 3 rfl md_L_363 ?_
  refine sp_iconst (pc := 364) hX md_L_364 ?_
  refine sp_iadd (pc := 365) hX md_L_365 ?_
  refine sp_sld (pc := 366) hX hB md_L_366 (fun v1 => ?_)
  refine sp_xload_n (pc := 367) (k := 0) (i := 0) hX rfl 0 rfl md_L_367 ?_
  refine sp_iload_n (pc := 368) (k := 3) (i := 3) hX rfl 3 rfl md_L_368 ?_
  refine sp_iconst (pc := 369) hX md_L_369 ?_
  refine sp_iadd (pc := 370) hX md_L_370 ?_
  refine sp_sld (pc := 371) hX hB md_L_371 (fun v2 => ?_)
  refine sp_callVI (pc := 372) (y := my_W_invert) (ccy := prog_1_method_7_code) (nLy := 3) (ret := (some .int)) (rmy := mr_W_invert) (n := 2) (idx := 36) (As := [.int (iI v1), .int (iI v2)]) (st := []) (o := x1) (cells' := 109) (slots' := 2510) hX (fun _ h => mc_W_invert h) mk_W_invert mv_W_invert mcl_9 (fun _ h => pw_gd_of h) mq_390 ⟨(Nat.le_of_ble_eq_true rfl), (Nat.le_of_ble_eq_true rfl)⟩ rfl rfl (Nat.le_of_ble_eq_true rfl) ⟨(Nat.le_of_ble_eq_true rfl), (Nat.le_of_ble_eq_true rfl)⟩ rfl rfl md_L_372 (fun v4 s3 => ?_)
  refine sp_aload_n (pc := 375) (k := 2) (i := 2) hX rfl 2 rfl md_L_375 ?_
  refine sp_xload_n (pc := 376) (k := 0) (i := 0) hX rfl 0 rfl md_L_376 ?_
  refine sp_iload_n (pc := 377) (k := 3) (i := 3) hX rfl 3 rfl md_L_377 ?_
  refine sp_iconst (pc := 378) hX md_L_378 ?_
  refine sp_iadd (pc := 379) hX md_L_379 ?_
  refine sp_sld (pc := 380) hX hB md_L_380 (fun v5 => ?_)
  refine sp_xload_n (pc := 381) (k := 0) (i := 0) hX rfl 0 rfl md_L_381 ?_
  refine sp_iload_n (pc := 382) (k := 3) (i := 3) hX rfl 3 rfl md_L_382 ?_
  refine sp_iconst (pc := 383) hX md_L_383 ?_
  refine sp_iadd (pc := 384) hX md_L_384 ?_
  refine sp_sld (pc := 385) hX hB md_L_385 (fun v6 => ?_)
  refine sp_callVI (pc := 386) (y := my_M_invert) (ccy := prog_14_method_21_code) (nLy := 3) (ret := (some .int)) (rmy := mr_M_invert) (n := 2) (idx := 39) (As := [.int (iI v5), .int (iI v6)]) (st := [.int (iI v4)]) (o := x2) (cells' := 109) (slots' := 2510) hX (fun _ h => mc_M_invert h) mk_M_invert mv_M_invert mcl_10 (fun _ h => pw_gd_of h) mq_921 ⟨(Nat.le_of_ble_eq_true rfl), (Nat.le_of_ble_eq_true rfl)⟩ rfl rfl (Nat.le_of_ble_eq_true rfl) ⟨(Nat.le_of_ble_eq_true rfl), (Nat.le_of_ble_eq_true rfl)⟩ rfl rfl md_L_386 (fun v8 s7 => ?_)
  refine sp_icmp_eqN (pc := 389) hX 1313 (by decide) md_L_389 ?_
  exact hJ s7
set_option maxHeartbeats 4000000 in
set_option maxRecDepth 20000 in
theorem ls_6 {X : pw_X Unit} (hX : pw_Ok X code "PadeWorkbenchLaw" room_1 4) {bs Lx : Nat} {xs : Nat → Int} (hB : pw_Scr X bs Lx xs) {x1 x2 : Nat} {x3 : Int} {rj : pw_Sto → Option (Unit × pw_Sto)} (hJ : ∀ σ, pw_Sp X 109 2510 1313 [(0, Value.retAddr bs), (1, Value.ref x1), (2, Value.ref x2), (3, Value.int (iI x3))] [] σ (rj σ)) (σ : pw_Sto) : pw_Sp X 109 2510 394 [(0, Value.retAddr bs), (1, Value.ref x1), (2, Value.ref x2), (3, Value.int (iI x3))] [] σ (lc_6 Lx xs x1 x2 x3 rj σ) := by
  unfold lc_6
  refine sp_aload_n (pc := 394) (k := 1) (i := 1) hX rfl 1 rfl md_L_394 ?_
  refine sp_xload_n (pc := 395) (k := 0) (i := 0) hX rfl 0 rfl md_L_395 ?_
  refine sp_iload_n (pc := 396) (k := 3) (i := 3) hX rfl 3 rfl md_L_396 ?_
  refine sp_iconst (pc := 397) hX md_L_397 ?_
  refine sp_iadd (pc := 398) hX md_L_398 ?_
  refine sp_sld (pc := 399) hX hB md_L_399 (fun v1 => ?_)
  refine sp_xload_n (pc := 400) (k := 0) (i := 0) hX rfl 0 rfl md_L_400 ?_
  refine sp_iload_n (pc := 401) (k := 3) (i := 3) hX rfl 3 rfl md_L_401 ?_
  refine sp_iconst (pc := 402) hX md_L_402 ?_
  refine sp_iadd (pc := 403) hX md_L_403 ?_
  refine sp_sld (pc := 404) hX hB md_L_404 (fun v2 => ?_)
  refine sp_xload_n (pc := 405) (k := 0) (i := 0) hX rfl 0 rfl md_L_405 ?_
  refine sp_iload_n (pc := 406) (k := 3) (i := 3) hX rfl 3 rfl md_L_406 ?_
  refine sp_iconst (pc := 407) hX md_L_407 ?_
  refine sp_iadd (pc := 408) hX md_L_408 ?_
  refine sp_sld (pc := 409) hX hB md_L_409 (fun v3 => ?_)
  refine sp_callVI (pc := 410) (y := my_W_substitute) (ccy := prog_1_method_8_code) (nLy := 4) (ret := (some .int)) (rmy := mr_W_substitute) (n := 3) (idx := 40) (As := [.int (iI v1), .int (iI v2), .int (iI v3)]) (st := []) (o := x1) (cells' := 109) (slots' := 2510) hX (fun _ h => mc_W_substitute h) mk_W_substitute mv_W_substitute mcl_9 (fun _ h => pw_gd_of h) mq_407 ⟨(Nat.le_of_ble_eq_true rfl), (Nat.le_of_ble_eq_true rfl)⟩ rfl rfl (Nat.le_of_ble_eq_true rfl) ⟨(Nat.le_of_ble_eq_true rfl), (Nat.le_of_ble_eq_true rfl)⟩ rfl rfl md_L_410 (fun v5 s4 => ?_)
  refine sp_aload_n (pc := 413) (k := 2) (i := 2) hX rfl 2 rfl md_L_413 ?_
  refine sp_xload_n (pc := 414) (k := 0) (i := 0) hX rfl 0 rfl md_L_414 ?_
  refine sp_iload_n (pc := 415) (k := 3) (i := 3) hX rfl 3 rfl md_L_415 ?_
  refine sp_iconst (pc := 416) hX md_L_416 ?_
  refine sp_iadd (pc := 417) hX md_L_417 ?_
  refine sp_sld (pc := 418) hX hB md_L_418 (fun v6 => ?_)
  refine sp_xload_n (pc := 419) (k := 0) (i := 0) hX rfl 0 rfl md_L_419 ?_
  refine sp_iload_n (pc := 420) (k := 3) (i := 3) hX rfl 3 rfl md_L_420 ?_
  refine sp_iconst (pc := 421) hX md_L_421 ?_
  refine sp_iadd (pc := 422) hX md_L_422 ?_
  refine sp_sld (pc := 423) hX hB md_L_423 (fun v7 => ?_)
  refine sp_xload_n (pc := 424) (k := 0) (i := 0) hX rfl 0 rfl md_L_424 ?_
  refine sp_iload_n (pc := 425) (k := 3) (i := 3) hX rfl 3 rfl md_L_425 ?_
  refine sp_iconst (pc := 426) hX md_L_426 ?_
  refine sp_iadd (pc := 427) hX md_L_427 ?_
  refine sp_sld (pc := 428) hX hB md_L_428 (fun v8 => ?_)
  refine sp_callVI (pc := 429) (y := my_M_substitute) (ccy := prog_14_method_22_code) (nLy := 6) (ret := (some .int)) (rmy := mr_M_substitute) (n := 3) (idx := 43) (As := [.int (iI v6), .int (iI v7), .int (iI v8)]) (st := [.int (iI v5)]) (o := x2) (cells' := 109) (slots' := 2510) hX (fun _ h => mc_M_substitute h) mk_M_substitute mv_M_substitute mcl_10 (fun _ h => pw_gd_of h) mq_936 ⟨(Nat.le_of_ble_eq_true rfl), (Nat.le_of_ble_eq_true rfl)⟩ rfl rfl (Nat.le_of_ble_eq_true rfl) ⟨(Nat.le_of_ble_eq_true rfl), (Nat.le_of_ble_eq_true rfl)⟩ rfl rfl md_L_429 (fun v10 s9 => ?_)
  refine sp_icmp_eqN (pc := 432) hX 1313 (by decide) md_L_432 ?_
  exact hJ s9
set_option maxHeartbeats 4000000 in
set_option maxRecDepth 20000 in
theorem ls_7 {X : pw_X Unit} (hX : pw_Ok X code "PadeWorkbenchLaw" room_1 4) {bs Lx : Nat} {xs : Nat → Int} (hB : pw_Scr X bs Lx xs) {x1 x2 : Nat} {x3 : Int} {rj : pw_Sto → Option (Unit × pw_Sto)} (hJ : ∀ σ, pw_Sp X 109 2510 1313 [(0, Value.retAddr bs), (1, Value.ref x1), (2, Value.ref x2), (3, Value.int (iI x3))] [] σ (rj σ)) (σ : pw_Sto) : pw_Sp X 109 2510 437 [(0, Value.retAddr bs), (1, Value.ref x1), (2, Value.ref x2), (3, Value.int (iI x3))] [] σ (lc_7 Lx xs x1 x2 x3 rj σ) := by
  unfold lc_7
  refine sp_aload_n (pc := 437) (k := 1) (i := 1) hX rfl 1 rfl md_L_437 ?_
  refine sp_xload_n (pc := 438) (k := 0) (i := 0) hX rfl 0 rfl md_L_438 ?_
  refine sp_iload_n (pc := 439) (k := 3) (i := 3) hX rfl 3 rfl md_L_439 ?_
  refine sp_iconst (pc := 440) hX md_L_440 ?_
  refine sp_iadd (pc := 441) hX md_L_441 ?_
  refine sp_sld (pc := 442) hX hB md_L_442 (fun v1 => ?_)
  refine sp_xload_n (pc := 443) (k := 0) (i := 0) hX rfl 0 rfl md_L_443 ?_
  refine sp_iload_n (pc := 444) (k := 3) (i := 3) hX rfl 3 rfl md_L_444 ?_
  refine sp_iconst (pc := 445) hX md_L_445 ?_
  refine sp_iadd (pc := 446) hX md_L_446 ?_
  refine sp_sld (pc := 447) hX hB md_L_447 (fun v2 => ?_)
  refine sp_callVI (pc := 448) (y := my_W_derivative) (ccy := prog_1_method_9_code) (nLy := 3) (ret := (some .int)) (rmy := mr_W_derivative) (n := 2) (idx := 44) (As := [.int (iI v1), .int (iI v2)]) (st := []) (o := x1) (cells' := 109) (slots' := 2510) hX (fun _ h => mc_W_derivative h) mk_W_derivative mv_W_derivative mcl_9 (fun _ h => pw_gd_of h) mq_417 ⟨(Nat.le_of_ble_eq_true rfl), (Nat.le_of_ble_eq_true rfl)⟩ rfl rfl (Nat.le_of_ble_eq_true rfl) ⟨(Nat.le_of_ble_eq_true rfl), (Nat.le_of_ble_eq_true rfl)⟩ rfl rfl md_L_448 (fun v4 s3 => ?_)
  refine sp_aload_n (pc := 451) (k := 2) (i := 2) hX rfl 2 rfl md_L_451 ?_
  refine sp_xload_n (pc := 452) (k := 0) (i := 0) hX rfl 0 rfl md_L_452 ?_
  refine sp_iload_n (pc := 453) (k := 3) (i := 3) hX rfl 3 rfl md_L_453 ?_
  refine sp_iconst (pc := 454) hX md_L_454 ?_
  refine sp_iadd (pc := 455) hX md_L_455 ?_
  refine sp_sld (pc := 456) hX hB md_L_456 (fun v5 => ?_)
  refine sp_xload_n (pc := 457) (k := 0) (i := 0) hX rfl 0 rfl md_L_457 ?_
  refine sp_iload_n (pc := 458) (k := 3) (i := 3) hX rfl 3 rfl md_L_458 ?_
  refine sp_iconst (pc := 459) hX md_L_459 ?_
  refine sp_iadd (pc := 460) hX md_L_460 ?_
  refine sp_sld (pc := 461) hX hB md_L_461 (fun v6 => ?_)
  refine sp_callVI (pc := 462) (y := my_M_derivative) (ccy := prog_14_method_23_code) (nLy := 4) (ret := (some .int)) (rmy := mr_M_derivative) (n := 2) (idx := 47) (As := [.int (iI v5), .int (iI v6)]) (st := [.int (iI v4)]) (o := x2) (cells' := 109) (slots' := 2510) hX (fun _ h => mc_M_derivative h) mk_M_derivative mv_M_derivative mcl_10 (fun _ h => pw_gd_of h) mq_940 ⟨(Nat.le_of_ble_eq_true rfl), (Nat.le_of_ble_eq_true rfl)⟩ rfl rfl (Nat.le_of_ble_eq_true rfl) ⟨(Nat.le_of_ble_eq_true rfl), (Nat.le_of_ble_eq_true rfl)⟩ rfl rfl md_L_462 (fun v8 s7 => ?_)
  refine sp_icmp_eqN (pc := 465) hX 1313 (by decide) md_L_465 ?_
  exact hJ s7
set_option maxHeartbeats 4000000 in
set_option maxRecDepth 20000 in
theorem ls_8 {X : pw_X Unit} (hX : pw_Ok X code "PadeWorkbenchLaw" room_1 4) {bs Lx : Nat} {xs : Nat → Int} (hB : pw_Scr X bs Lx xs) {x1 x2 : Nat} {x3 : Int} {rj : pw_Sto → Option (Unit × pw_Sto)} (hJ : ∀ σ, pw_Sp X 109 2510 1313 [(0, Value.retAddr bs), (1, Value.ref x1), (2, Value.ref x2), (3, Value.int (iI x3))] [] σ (rj σ)) (σ : pw_Sto) : pw_Sp X 109 2510 470 [(0, Value.retAddr bs), (1, Value.ref x1), (2, Value.ref x2), (3, Value.int (iI x3))] [] σ (lc_8 Lx xs x1 x2 x3 rj σ) := by
  unfold lc_8
  refine sp_aload_n (pc := 470) (k := 1) (i := 1) hX rfl 1 rfl md_L_470 ?_
  refine sp_xload_n (pc := 471) (k := 0) (i := 0) hX rfl 0 rfl md_L_471 ?_
  refine sp_iload_n (pc := 472) (k := 3) (i := 3) hX rfl 3 rfl md_L_472 ?_
  refine sp_iconst (pc := 473) hX md_L_473 ?_
  refine sp_iadd (pc := 474) hX md_L_474 ?_
  refine sp_sld (pc := 475) hX hB md_L_475 (fun v1 => ?_)
  refine sp_callVI (pc := 476) (y := my_W_append) (ccy := prog_1_method_10_code) (nLy := 2) (ret := (some .int)) (rmy := mr_W_append) (n := 1) (idx := 48) (As := [.int (iI v1)]) (st := []) (o := x1) (cells' := 109) (slots' := 2510) hX (fun _ h => mc_W_append h) mk_W_append mv_W_append mcl_9 (fun _ h => pw_gd_of h) mq_424 ⟨(Nat.le_of_ble_eq_true rfl), (Nat.le_of_ble_eq_true rfl)⟩ rfl rfl (Nat.le_of_ble_eq_true rfl) ⟨(Nat.le_of_ble_eq_true rfl), (Nat.le_of_ble_eq_true rfl)⟩ rfl rfl md_L_476 (fun v3 s2 => ?_)
  refine sp_aload_n (pc := 479) (k := 2) (i := 2) hX rfl 2 rfl md_L_479 ?_
  refine sp_xload_n (pc := 480) (k := 0) (i := 0) hX rfl 0 rfl md_L_480 ?_
  refine sp_iload_n (pc := 481) (k := 3) (i := 3) hX rfl 3 rfl md_L_481 ?_
  refine sp_iconst (pc := 482) hX md_L_482 ?_
  refine sp_iadd (pc := 483) hX md_L_483 ?_
  refine sp_sld (pc := 484) hX hB md_L_484 (fun v4 => ?_)
  refine sp_callVI (pc := 485) (y := my_M_append) (ccy := prog_14_method_24_code) (nLy := 2) (ret := (some .int)) (rmy := mr_M_append) (n := 1) (idx := 51) (As := [.int (iI v4)]) (st := [.int (iI v3)]) (o := x2) (cells' := 109) (slots' := 2510) hX (fun _ h => mc_M_append h) mk_M_append mv_M_append mcl_10 (fun _ h => pw_gd_of h) mq_944 ⟨(Nat.le_of_ble_eq_true rfl), (Nat.le_of_ble_eq_true rfl)⟩ rfl rfl (Nat.le_of_ble_eq_true rfl) ⟨(Nat.le_of_ble_eq_true rfl), (Nat.le_of_ble_eq_true rfl)⟩ rfl rfl md_L_485 (fun v6 s5 => ?_)
  refine sp_icmp_eqN (pc := 488) hX 1313 (by decide) md_L_488 ?_
  exact hJ s5
set_option maxHeartbeats 4000000 in
set_option maxRecDepth 20000 in
theorem ls_9 {X : pw_X Unit} (hX : pw_Ok X code "PadeWorkbenchLaw" room_1 4) {bs Lx : Nat} {xs : Nat → Int} (hB : pw_Scr X bs Lx xs) {x1 x2 : Nat} {x3 : Int} {rj : pw_Sto → Option (Unit × pw_Sto)} (hJ : ∀ σ, pw_Sp X 109 2510 1313 [(0, Value.retAddr bs), (1, Value.ref x1), (2, Value.ref x2), (3, Value.int (iI x3))] [] σ (rj σ)) (σ : pw_Sto) : pw_Sp X 109 2510 493 [(0, Value.retAddr bs), (1, Value.ref x1), (2, Value.ref x2), (3, Value.int (iI x3))] [] σ (lc_9 Lx xs x1 x2 x3 rj σ) := by
  unfold lc_9
  refine sp_aload_n (pc := 493) (k := 1) (i := 1) hX rfl 1 rfl md_L_493 ?_
  refine sp_callVI (pc := 494) (y := my_W_clearText) (ccy := prog_1_method_11_code) (nLy := 2) (ret := (some .int)) (rmy := mr_W_clearText) (n := 0) (idx := 52) (As := []) (st := []) (o := x1) (cells' := 109) (slots' := 2510) hX (fun _ h => mc_W_clearText h) mk_W_clearText mv_W_clearText mcl_9 (fun _ h => pw_gd_of h) mq_432 ⟨(Nat.le_of_ble_eq_true rfl), (Nat.le_of_ble_eq_true rfl)⟩ rfl rfl (Nat.le_of_ble_eq_true rfl) ⟨(Nat.le_of_ble_eq_true rfl), (Nat.le_of_ble_eq_true rfl)⟩ rfl rfl md_L_494 (fun v2 s1 => ?_)
  refine sp_aload_n (pc := 497) (k := 2) (i := 2) hX rfl 2 rfl md_L_497 ?_
  refine sp_callVI (pc := 498) (y := my_M_clearText) (ccy := prog_14_method_25_code) (nLy := 2) (ret := (some .int)) (rmy := mr_M_clearText) (n := 0) (idx := 56) (As := []) (st := [.int (iI v2)]) (o := x2) (cells' := 109) (slots' := 2510) hX (fun _ h => mc_M_clearText h) mk_M_clearText mv_M_clearText mcl_10 (fun _ h => pw_gd_of h) mq_948 ⟨(Nat.le_of_ble_eq_true rfl), (Nat.le_of_ble_eq_true rfl)⟩ rfl rfl (Nat.le_of_ble_eq_true rfl) ⟨(Nat.le_of_ble_eq_true rfl), (Nat.le_of_ble_eq_true rfl)⟩ rfl rfl md_L_498 (fun v4 s3 => ?_)
  refine sp_icmp_eqN (pc := 501) hX 1313 (by decide) md_L_501 ?_
  exact hJ s3
set_option maxHeartbeats 4000000 in
set_option maxRecDepth 20000 in
theorem ls_10 {X : pw_X Unit} (hX : pw_Ok X code "PadeWorkbenchLaw" room_1 4) {bs Lx : Nat} {xs : Nat → Int} (hB : pw_Scr X bs Lx xs) {x1 x2 : Nat} {x3 : Int} {rj : pw_Sto → Option (Unit × pw_Sto)} (hJ : ∀ σ, pw_Sp X 109 2510 1313 [(0, Value.retAddr bs), (1, Value.ref x1), (2, Value.ref x2), (3, Value.int (iI x3))] [] σ (rj σ)) (σ : pw_Sto) : pw_Sp X 109 2510 506 [(0, Value.retAddr bs), (1, Value.ref x1), (2, Value.ref x2), (3, Value.int (iI x3))] [] σ (lc_10 Lx xs x1 x2 x3 rj σ) := by
  unfold lc_10
  refine sp_aload_n (pc := 506) (k := 1) (i := 1) hX rfl 1 rfl md_L_506 ?_
  refine sp_xload_n (pc := 507) (k := 0) (i := 0) hX rfl 0 rfl md_L_507 ?_
  refine sp_iload_n (pc := 508) (k := 3) (i := 3) hX rfl 3 rfl md_L_508 ?_
  refine sp_iconst (pc := 509) hX md_L_509 ?_
  refine sp_iadd (pc := 510) hX md_L_510 ?_
  refine sp_sld (pc := 511) hX hB md_L_511 (fun v1 => ?_)
  refine sp_callVI (pc := 512) (y := my_W_parse) (ccy := prog_1_method_12_code) (nLy := 2) (ret := (some .int)) (rmy := mr_W_parse) (n := 1) (idx := 57) (As := [.int (iI v1)]) (st := []) (o := x1) (cells' := 109) (slots' := 2510) hX (fun _ h => mc_W_parse h) mk_W_parse mv_W_parse mcl_9 (fun _ h => pw_gd_of h) mq_436 ⟨(Nat.le_of_ble_eq_true rfl), (Nat.le_of_ble_eq_true rfl)⟩ rfl rfl (Nat.le_of_ble_eq_true rfl) ⟨(Nat.le_of_ble_eq_true rfl), (Nat.le_of_ble_eq_true rfl)⟩ rfl rfl md_L_512 (fun v3 s2 => ?_)
  refine sp_aload_n (pc := 515) (k := 2) (i := 2) hX rfl 2 rfl md_L_515 ?_
  refine sp_xload_n (pc := 516) (k := 0) (i := 0) hX rfl 0 rfl md_L_516 ?_
  refine sp_iload_n (pc := 517) (k := 3) (i := 3) hX rfl 3 rfl md_L_517 ?_
  refine sp_iconst (pc := 518) hX md_L_518 ?_
  refine sp_iadd (pc := 519) hX md_L_519 ?_
  refine sp_sld (pc := 520) hX hB md_L_520 (fun v4 => ?_)
  refine sp_callVI (pc := 521) (y := my_M_parse) (ccy := prog_14_method_33_code) (nLy := 2) (ret := (some .int)) (rmy := mr_M_parse) (n := 1) (idx := 60) (As := [.int (iI v4)]) (st := [.int (iI v3)]) (o := x2) (cells' := 109) (slots' := 2510) hX (fun _ h => mc_M_parse h) mk_M_parse mv_M_parse mcl_10 (fun _ h => pw_gd_of h) mq_952 ⟨(Nat.le_of_ble_eq_true rfl), (Nat.le_of_ble_eq_true rfl)⟩ rfl rfl (Nat.le_of_ble_eq_true rfl) ⟨(Nat.le_of_ble_eq_true rfl), (Nat.le_of_ble_eq_true rfl)⟩ rfl rfl md_L_521 (fun v6 s5 => ?_)
  refine sp_icmp_eqN (pc := 524) hX 1313 (by decide) md_L_524 ?_
  exact hJ s5
set_option maxHeartbeats 4000000 in
set_option maxRecDepth 20000 in
theorem ls_11 {X : pw_X Unit} (hX : pw_Ok X code "PadeWorkbenchLaw" room_1 4) {bs Lx : Nat} {xs : Nat → Int} (hB : pw_Scr X bs Lx xs) {x1 x2 : Nat} {x3 : Int} {rj : pw_Sto → Option (Unit × pw_Sto)} (hJ : ∀ σ, pw_Sp X 109 2510 1313 [(0, Value.retAddr bs), (1, Value.ref x1), (2, Value.ref x2), (3, Value.int (iI x3))] [] σ (rj σ)) (σ : pw_Sto) : pw_Sp X 109 2510 529 [(0, Value.retAddr bs), (1, Value.ref x1), (2, Value.ref x2), (3, Value.int (iI x3))] [] σ (lc_11 Lx xs x1 x2 x3 rj σ) := by
  unfold lc_11
  refine sp_aload_n (pc := 529) (k := 1) (i := 1) hX rfl 1 rfl md_L_529 ?_
  refine sp_xload_n (pc := 530) (k := 0) (i := 0) hX rfl 0 rfl md_L_530 ?_
  refine sp_iload_n (pc := 531) (k := 3) (i := 3) hX rfl 3 rfl md_L_531 ?_
  refine sp_iconst (pc := 532) hX md_L_532 ?_
  refine sp_iadd (pc := 533) hX md_L_533 ?_
  refine sp_sld (pc := 534) hX hB md_L_534 (fun v1 => ?_)
  refine sp_xload_n (pc := 535) (k := 0) (i := 0) hX rfl 0 rfl md_L_535 ?_
  refine sp_iload_n (pc := 536) (k := 3) (i := 3) hX rfl 3 rfl md_L_536 ?_
  refine sp_iconst (pc := 537) hX md_L_537 ?_
  refine sp_iadd (pc := 538) hX md_L_538 ?_
  refine sp_sld (pc := 539) hX hB md_L_539 (fun v2 => ?_)
  refine sp_xload_n (pc := 540) (k := 0) (i := 0) hX rfl 0 rfl md_L_540 ?_
  refine sp_iload_n (pc := 541) (k := 3) (i := 3) hX rfl 3 rfl md_L_541 ?_
  refine sp_iconst (pc := 542) hX md_L_542 ?_
  refine sp_iadd (pc := 543) hX md_L_543 ?_
  refine sp_sld (pc := 544) hX hB md_L_544 (fun v3 => ?_)
  refine sp_callVI (pc := 545) (y := my_W_numeratorDegree) (ccy := prog_1_method_13_code) (nLy := 4) (ret := (some .int)) (rmy := mr_W_numeratorDegree) (n := 3) (idx := 61) (As := [.int (iI v1), .int (iI v2), .int (iI v3)]) (st := []) (o := x1) (cells' := 109) (slots' := 2510) hX (fun _ h => mc_W_numeratorDegree h) mk_W_numeratorDegree mv_W_numeratorDegree mcl_9 (fun _ h => pw_gd_of h) mq_477 ⟨(Nat.le_of_ble_eq_true rfl), (Nat.le_of_ble_eq_true rfl)⟩ rfl rfl (Nat.le_of_ble_eq_true rfl) ⟨(Nat.le_of_ble_eq_true rfl), (Nat.le_of_ble_eq_true rfl)⟩ rfl rfl md_L_545 (fun v5 s4 => ?_)
  refine sp_aload_n (pc := 548) (k := 2) (i := 2) hX rfl 2 rfl md_L_548 ?_
  refine sp_xload_n (pc := 549) (k := 0) (i := 0) hX rfl 0 rfl md_L_549 ?_
  refine sp_iload_n (pc := 550) (k := 3) (i := 3) hX rfl 3 rfl md_L_550 ?_
  refine sp_iconst (pc := 551) hX md_L_551 ?_
  refine sp_iadd (pc := 552) hX md_L_552 ?_
  refine sp_sld (pc := 553) hX hB md_L_553 (fun v6 => ?_)
  refine sp_xload_n (pc := 554) (k := 0) (i := 0) hX rfl 0 rfl md_L_554 ?_
  refine sp_iload_n (pc := 555) (k := 3) (i := 3) hX rfl 3 rfl md_L_555 ?_
  refine sp_iconst (pc := 556) hX md_L_556 ?_
  refine sp_iadd (pc := 557) hX md_L_557 ?_
  refine sp_sld (pc := 558) hX hB md_L_558 (fun v7 => ?_)
  refine sp_xload_n (pc := 559) (k := 0) (i := 0) hX rfl 0 rfl md_L_559 ?_
  refine sp_iload_n (pc := 560) (k := 3) (i := 3) hX rfl 3 rfl md_L_560 ?_
  refine sp_iconst (pc := 561) hX md_L_561 ?_
  refine sp_iadd (pc := 562) hX md_L_562 ?_
  refine sp_sld (pc := 563) hX hB md_L_563 (fun v8 => ?_)
  refine sp_callVI (pc := 564) (y := my_M_numeratorDegree) (ccy := prog_14_method_49_code) (nLy := 4) (ret := (some .int)) (rmy := mr_M_numeratorDegree) (n := 3) (idx := 64) (As := [.int (iI v6), .int (iI v7), .int (iI v8)]) (st := [.int (iI v5)]) (o := x2) (cells' := 109) (slots' := 2510) hX (fun _ h => mc_M_numeratorDegree h) mk_M_numeratorDegree mv_M_numeratorDegree mcl_10 (fun _ h => pw_gd_of h) mq_984 ⟨(Nat.le_of_ble_eq_true rfl), (Nat.le_of_ble_eq_true rfl)⟩ rfl rfl (Nat.le_of_ble_eq_true rfl) ⟨(Nat.le_of_ble_eq_true rfl), (Nat.le_of_ble_eq_true rfl)⟩ rfl rfl md_L_564 (fun v10 s9 => ?_)
  refine sp_icmp_eqN (pc := 567) hX 1313 (by decide) md_L_567 ?_
  exact hJ s9
set_option maxHeartbeats 4000000 in
set_option maxRecDepth 20000 in
theorem ls_12 {X : pw_X Unit} (hX : pw_Ok X code "PadeWorkbenchLaw" room_1 4) {bs Lx : Nat} {xs : Nat → Int} (hB : pw_Scr X bs Lx xs) {x1 x2 : Nat} {x3 : Int} {rj : pw_Sto → Option (Unit × pw_Sto)} (hJ : ∀ σ, pw_Sp X 109 2510 1313 [(0, Value.retAddr bs), (1, Value.ref x1), (2, Value.ref x2), (3, Value.int (iI x3))] [] σ (rj σ)) (σ : pw_Sto) : pw_Sp X 109 2510 572 [(0, Value.retAddr bs), (1, Value.ref x1), (2, Value.ref x2), (3, Value.int (iI x3))] [] σ (lc_12 Lx xs x1 x2 x3 rj σ) := by
  unfold lc_12
  refine sp_aload_n (pc := 572) (k := 1) (i := 1) hX rfl 1 rfl md_L_572 ?_
  refine sp_xload_n (pc := 573) (k := 0) (i := 0) hX rfl 0 rfl md_L_573 ?_
  refine sp_iload_n (pc := 574) (k := 3) (i := 3) hX rfl 3 rfl md_L_574 ?_
  refine sp_iconst (pc := 575) hX md_L_575 ?_
  refine sp_iadd (pc := 576) hX md_L_576 ?_
  refine sp_sld (pc := 577) hX hB md_L_577 (fun v1 => ?_)
  refine sp_xload_n (pc := 578) (k := 0) (i := 0) hX rfl 0 rfl md_L_578 ?_
  refine sp_iload_n (pc := 579) (k := 3) (i := 3) hX rfl 3 rfl md_L_579 ?_
  refine sp_iconst (pc := 580) hX md_L_580 ?_
  refine sp_iadd (pc := 581) hX md_L_581 ?_
  refine sp_sld (pc := 582) hX hB md_L_582 (fun v2 => ?_)
  refine sp_xload_n (pc := 583) (k := 0) (i := 0) hX rfl 0 rfl md_L_583 ?_
  refine sp_iload_n (pc := 584) (k := 3) (i := 3) hX rfl 3 rfl md_L_584 ?_
  refine sp_iconst (pc := 585) hX md_L_585 ?_
  refine sp_iadd (pc := 586) hX md_L_586 ?_
  refine sp_sld (pc := 587) hX hB md_L_587 (fun v3 => ?_)
  refine sp_callVI (pc := 588) (y := my_W_denominatorDegree) (ccy := prog_1_method_14_code) (nLy := 4) (ret := (some .int)) (rmy := mr_W_denominatorDegree) (n := 3) (idx := 65) (As := [.int (iI v1), .int (iI v2), .int (iI v3)]) (st := []) (o := x1) (cells' := 109) (slots' := 2510) hX (fun _ h => mc_W_denominatorDegree h) mk_W_denominatorDegree mv_W_denominatorDegree mcl_9 (fun _ h => pw_gd_of h) mq_571 ⟨(Nat.le_of_ble_eq_true rfl), (Nat.le_of_ble_eq_true rfl)⟩ rfl rfl (Nat.le_of_ble_eq_true rfl) ⟨(Nat.le_of_ble_eq_true rfl), (Nat.le_of_ble_eq_true rfl)⟩ rfl rfl md_L_588 (fun v5 s4 => ?_)
  refine sp_aload_n (pc := 591) (k := 2) (i := 2) hX rfl 2 rfl md_L_591 ?_
  refine sp_xload_n (pc := 592) (k := 0) (i := 0) hX rfl 0 rfl md_L_592 ?_
  refine sp_iload_n (pc := 593) (k := 3) (i := 3) hX rfl 3 rfl md_L_593 ?_
  refine sp_iconst (pc := 594) hX md_L_594 ?_
  refine sp_iadd (pc := 595) hX md_L_595 ?_
  refine sp_sld (pc := 596) hX hB md_L_596 (fun v6 => ?_)
  refine sp_xload_n (pc := 597) (k := 0) (i := 0) hX rfl 0 rfl md_L_597 ?_
  refine sp_iload_n (pc := 598) (k := 3) (i := 3) hX rfl 3 rfl md_L_598 ?_
  refine sp_iconst (pc := 599) hX md_L_599 ?_
  refine sp_iadd (pc := 600) hX md_L_600 ?_
  refine sp_sld (pc := 601) hX hB md_L_601 (fun v7 => ?_)
  refine sp_xload_n (pc := 602) (k := 0) (i := 0) hX rfl 0 rfl md_L_602 ?_
  refine sp_iload_n (pc := 603) (k := 3) (i := 3) hX rfl 3 rfl md_L_603 ?_
  refine sp_iconst (pc := 604) hX md_L_604 ?_
  refine sp_iadd (pc := 605) hX md_L_605 ?_
  refine sp_sld (pc := 606) hX hB md_L_606 (fun v8 => ?_)
  refine sp_callVI (pc := 607) (y := my_M_denominatorDegree) (ccy := prog_14_method_50_code) (nLy := 4) (ret := (some .int)) (rmy := mr_M_denominatorDegree) (n := 3) (idx := 68) (As := [.int (iI v6), .int (iI v7), .int (iI v8)]) (st := [.int (iI v5)]) (o := x2) (cells' := 109) (slots' := 2510) hX (fun _ h => mc_M_denominatorDegree h) mk_M_denominatorDegree mv_M_denominatorDegree mcl_10 (fun _ h => pw_gd_of h) mq_1034 ⟨(Nat.le_of_ble_eq_true rfl), (Nat.le_of_ble_eq_true rfl)⟩ rfl rfl (Nat.le_of_ble_eq_true rfl) ⟨(Nat.le_of_ble_eq_true rfl), (Nat.le_of_ble_eq_true rfl)⟩ rfl rfl md_L_607 (fun v10 s9 => ?_)
  refine sp_icmp_eqN (pc := 610) hX 1313 (by decide) md_L_610 ?_
  exact hJ s9
set_option maxHeartbeats 4000000 in
set_option maxRecDepth 20000 in
theorem ls_13 {X : pw_X Unit} (hX : pw_Ok X code "PadeWorkbenchLaw" room_1 4) {bs Lx : Nat} {xs : Nat → Int} (hB : pw_Scr X bs Lx xs) {x1 x2 : Nat} {x3 : Int} {rj : pw_Sto → Option (Unit × pw_Sto)} (hJ : ∀ σ, pw_Sp X 109 2510 1313 [(0, Value.retAddr bs), (1, Value.ref x1), (2, Value.ref x2), (3, Value.int (iI x3))] [] σ (rj σ)) (σ : pw_Sto) : pw_Sp X 109 2510 615 [(0, Value.retAddr bs), (1, Value.ref x1), (2, Value.ref x2), (3, Value.int (iI x3))] [] σ (lc_13 Lx xs x1 x2 x3 rj σ) := by
  unfold lc_13
  refine sp_aload_n (pc := 615) (k := 1) (i := 1) hX rfl 1 rfl md_L_615 ?_
  refine sp_xload_n (pc := 616) (k := 0) (i := 0) hX rfl 0 rfl md_L_616 ?_
  refine sp_iload_n (pc := 617) (k := 3) (i := 3) hX rfl 3 rfl md_L_617 ?_
  refine sp_iconst (pc := 618) hX md_L_618 ?_
  refine sp_iadd (pc := 619) hX md_L_619 ?_
  refine sp_sld (pc := 620) hX hB md_L_620 (fun v1 => ?_)
  refine sp_xload_n (pc := 621) (k := 0) (i := 0) hX rfl 0 rfl md_L_621 ?_
  refine sp_iload_n (pc := 622) (k := 3) (i := 3) hX rfl 3 rfl md_L_622 ?_
  refine sp_iconst (pc := 623) hX md_L_623 ?_
  refine sp_iadd (pc := 624) hX md_L_624 ?_
  refine sp_sld (pc := 625) hX hB md_L_625 (fun v2 => ?_)
  refine sp_xload_n (pc := 626) (k := 0) (i := 0) hX rfl 0 rfl md_L_626 ?_
  refine sp_iload_n (pc := 627) (k := 3) (i := 3) hX rfl 3 rfl md_L_627 ?_
  refine sp_iconst (pc := 628) hX md_L_628 ?_
  refine sp_iadd (pc := 629) hX md_L_629 ?_
  refine sp_sld (pc := 630) hX hB md_L_630 (fun v3 => ?_)
  refine sp_xload_n (pc := 631) (k := 0) (i := 0) hX rfl 0 rfl md_L_631 ?_
  refine sp_iload_n (pc := 632) (k := 3) (i := 3) hX rfl 3 rfl md_L_632 ?_
  refine sp_iconst (pc := 633) hX md_L_633 ?_
  refine sp_iadd (pc := 634) hX md_L_634 ?_
  refine sp_sld (pc := 635) hX hB md_L_635 (fun v4 => ?_)
  refine sp_callVI (pc := 636) (y := my_W_numerator) (ccy := prog_1_method_15_code) (nLy := 5) (ret := (some .int)) (rmy := mr_W_numerator) (n := 4) (idx := 69) (As := [.int (iI v1), .int (iI v2), .int (iI v3), .int (iI v4)]) (st := []) (o := x1) (cells' := 109) (slots' := 2510) hX (fun _ h => mc_W_numerator h) mk_W_numerator mv_W_numerator mcl_9 (fun _ h => pw_gd_of h) mq_575 ⟨(Nat.le_of_ble_eq_true rfl), (Nat.le_of_ble_eq_true rfl)⟩ rfl rfl (Nat.le_of_ble_eq_true rfl) ⟨(Nat.le_of_ble_eq_true rfl), (Nat.le_of_ble_eq_true rfl)⟩ rfl rfl md_L_636 (fun v6 s5 => ?_)
  refine sp_aload_n (pc := 639) (k := 2) (i := 2) hX rfl 2 rfl md_L_639 ?_
  refine sp_xload_n (pc := 640) (k := 0) (i := 0) hX rfl 0 rfl md_L_640 ?_
  refine sp_iload_n (pc := 641) (k := 3) (i := 3) hX rfl 3 rfl md_L_641 ?_
  refine sp_iconst (pc := 642) hX md_L_642 ?_
  refine sp_iadd (pc := 643) hX md_L_643 ?_
  refine sp_sld (pc := 644) hX hB md_L_644 (fun v7 => ?_)
  refine sp_xload_n (pc := 645) (k := 0) (i := 0) hX rfl 0 rfl md_L_645 ?_
  refine sp_iload_n (pc := 646) (k := 3) (i := 3) hX rfl 3 rfl md_L_646 ?_
  refine sp_iconst (pc := 647) hX md_L_647 ?_
  refine sp_iadd (pc := 648) hX md_L_648 ?_
  refine sp_sld (pc := 649) hX hB md_L_649 (fun v8 => ?_)
  refine sp_xload_n (pc := 650) (k := 0) (i := 0) hX rfl 0 rfl md_L_650 ?_
  refine sp_iload_n (pc := 651) (k := 3) (i := 3) hX rfl 3 rfl md_L_651 ?_
  refine sp_iconst (pc := 652) hX md_L_652 ?_
  refine sp_iadd (pc := 653) hX md_L_653 ?_
  refine sp_sld (pc := 654) hX hB md_L_654 (fun v9 => ?_)
  refine sp_xload_n (pc := 655) (k := 0) (i := 0) hX rfl 0 rfl md_L_655 ?_
  refine sp_iload_n (pc := 656) (k := 3) (i := 3) hX rfl 3 rfl md_L_656 ?_
  refine sp_iconst (pc := 657) hX md_L_657 ?_
  refine sp_iadd (pc := 658) hX md_L_658 ?_
  refine sp_sld (pc := 659) hX hB md_L_659 (fun v10 => ?_)
  refine sp_callVI (pc := 660) (y := my_M_numerator) (ccy := prog_14_method_51_code) (nLy := 5) (ret := (some .int)) (rmy := mr_M_numerator) (n := 4) (idx := 73) (As := [.int (iI v7), .int (iI v8), .int (iI v9), .int (iI v10)]) (st := [.int (iI v6)]) (o := x2) (cells' := 109) (slots' := 2510) hX (fun _ h => mc_M_numerator h) mk_M_numerator mv_M_numerator mcl_10 (fun _ h => pw_gd_of h) mq_1038 ⟨(Nat.le_of_ble_eq_true rfl), (Nat.le_of_ble_eq_true rfl)⟩ rfl rfl (Nat.le_of_ble_eq_true rfl) ⟨(Nat.le_of_ble_eq_true rfl), (Nat.le_of_ble_eq_true rfl)⟩ rfl rfl md_L_660 (fun v12 s11 => ?_)
  refine sp_icmp_eqN (pc := 663) hX 1313 (by decide) md_L_663 ?_
  exact hJ s11
set_option maxHeartbeats 4000000 in
set_option maxRecDepth 20000 in
theorem ls_14 {X : pw_X Unit} (hX : pw_Ok X code "PadeWorkbenchLaw" room_1 4) {bs Lx : Nat} {xs : Nat → Int} (hB : pw_Scr X bs Lx xs) {x1 x2 : Nat} {x3 : Int} {rj : pw_Sto → Option (Unit × pw_Sto)} (hJ : ∀ σ, pw_Sp X 109 2510 1313 [(0, Value.retAddr bs), (1, Value.ref x1), (2, Value.ref x2), (3, Value.int (iI x3))] [] σ (rj σ)) (σ : pw_Sto) : pw_Sp X 109 2510 668 [(0, Value.retAddr bs), (1, Value.ref x1), (2, Value.ref x2), (3, Value.int (iI x3))] [] σ (lc_14 Lx xs x1 x2 x3 rj σ) := by
  unfold lc_14
  refine sp_aload_n (pc := 668) (k := 1) (i := 1) hX rfl 1 rfl md_L_668 ?_
  refine sp_xload_n (pc := 669) (k := 0) (i := 0) hX rfl 0 rfl md_L_669 ?_
  refine sp_iload_n (pc := 670) (k := 3) (i := 3) hX rfl 3 rfl md_L_670 ?_
  refine sp_iconst (pc := 671) hX md_L_671 ?_
  refine sp_iadd (pc := 672) hX md_L_672 ?_
  refine sp_sld (pc := 673) hX hB md_L_673 (fun v1 => ?_)
  refine sp_xload_n (pc := 674) (k := 0) (i := 0) hX rfl 0 rfl md_L_674 ?_
  refine sp_iload_n (pc := 675) (k := 3) (i := 3) hX rfl 3 rfl md_L_675 ?_
  refine sp_iconst (pc := 676) hX md_L_676 ?_
  refine sp_iadd (pc := 677) hX md_L_677 ?_
  refine sp_sld (pc := 678) hX hB md_L_678 (fun v2 => ?_)
  refine sp_xload_n (pc := 679) (k := 0) (i := 0) hX rfl 0 rfl md_L_679 ?_
  refine sp_iload_n (pc := 680) (k := 3) (i := 3) hX rfl 3 rfl md_L_680 ?_
  refine sp_iconst (pc := 681) hX md_L_681 ?_
  refine sp_iadd (pc := 682) hX md_L_682 ?_
  refine sp_sld (pc := 683) hX hB md_L_683 (fun v3 => ?_)
  refine sp_xload_n (pc := 684) (k := 0) (i := 0) hX rfl 0 rfl md_L_684 ?_
  refine sp_iload_n (pc := 685) (k := 3) (i := 3) hX rfl 3 rfl md_L_685 ?_
  refine sp_iconst (pc := 686) hX md_L_686 ?_
  refine sp_iadd (pc := 687) hX md_L_687 ?_
  refine sp_sld (pc := 688) hX hB md_L_688 (fun v4 => ?_)
  refine sp_callVI (pc := 689) (y := my_W_denominator) (ccy := prog_1_method_16_code) (nLy := 5) (ret := (some .int)) (rmy := mr_W_denominator) (n := 4) (idx := 74) (As := [.int (iI v1), .int (iI v2), .int (iI v3), .int (iI v4)]) (st := []) (o := x1) (cells' := 109) (slots' := 2510) hX (fun _ h => mc_W_denominator h) mk_W_denominator mv_W_denominator mcl_9 (fun _ h => pw_gd_of h) mq_579 ⟨(Nat.le_of_ble_eq_true rfl), (Nat.le_of_ble_eq_true rfl)⟩ rfl rfl (Nat.le_of_ble_eq_true rfl) ⟨(Nat.le_of_ble_eq_true rfl), (Nat.le_of_ble_eq_true rfl)⟩ rfl rfl md_L_689 (fun v6 s5 => ?_)
  refine sp_aload_n (pc := 692) (k := 2) (i := 2) hX rfl 2 rfl md_L_692 ?_
  refine sp_xload_n (pc := 693) (k := 0) (i := 0) hX rfl 0 rfl md_L_693 ?_
  refine sp_iload_n (pc := 694) (k := 3) (i := 3) hX rfl 3 rfl md_L_694 ?_
  refine sp_iconst (pc := 695) hX md_L_695 ?_
  refine sp_iadd (pc := 696) hX md_L_696 ?_
  refine sp_sld (pc := 697) hX hB md_L_697 (fun v7 => ?_)
  refine sp_xload_n (pc := 698) (k := 0) (i := 0) hX rfl 0 rfl md_L_698 ?_
  refine sp_iload_n (pc := 699) (k := 3) (i := 3) hX rfl 3 rfl md_L_699 ?_
  refine sp_iconst (pc := 700) hX md_L_700 ?_
  refine sp_iadd (pc := 701) hX md_L_701 ?_
  refine sp_sld (pc := 702) hX hB md_L_702 (fun v8 => ?_)
  refine sp_xload_n (pc := 703) (k := 0) (i := 0) hX rfl 0 rfl md_L_703 ?_
  refine sp_iload_n (pc := 704) (k := 3) (i := 3) hX rfl 3 rfl md_L_704 ?_
  refine sp_iconst (pc := 705) hX md_L_705 ?_
  refine sp_iadd (pc := 706) hX md_L_706 ?_
  refine sp_sld (pc := 707) hX hB md_L_707 (fun v9 => ?_)
  refine sp_xload_n (pc := 708) (k := 0) (i := 0) hX rfl 0 rfl md_L_708 ?_
  refine sp_iload_n (pc := 709) (k := 3) (i := 3) hX rfl 3 rfl md_L_709 ?_
  refine sp_iconst (pc := 710) hX md_L_710 ?_
  refine sp_iadd (pc := 711) hX md_L_711 ?_
  refine sp_sld (pc := 712) hX hB md_L_712 (fun v10 => ?_)
  refine sp_callVI (pc := 713) (y := my_M_denominator) (ccy := prog_14_method_52_code) (nLy := 5) (ret := (some .int)) (rmy := mr_M_denominator) (n := 4) (idx := 77) (As := [.int (iI v7), .int (iI v8), .int (iI v9), .int (iI v10)]) (st := [.int (iI v6)]) (o := x2) (cells' := 109) (slots' := 2510) hX (fun _ h => mc_M_denominator h) mk_M_denominator mv_M_denominator mcl_10 (fun _ h => pw_gd_of h) mq_1042 ⟨(Nat.le_of_ble_eq_true rfl), (Nat.le_of_ble_eq_true rfl)⟩ rfl rfl (Nat.le_of_ble_eq_true rfl) ⟨(Nat.le_of_ble_eq_true rfl), (Nat.le_of_ble_eq_true rfl)⟩ rfl rfl md_L_713 (fun v12 s11 => ?_)
  refine sp_icmp_eqN (pc := 716) hX 1313 (by decide) md_L_716 ?_
  exact hJ s11
set_option maxHeartbeats 4000000 in
set_option maxRecDepth 20000 in
theorem ls_15 {X : pw_X Unit} (hX : pw_Ok X code "PadeWorkbenchLaw" room_1 4) {bs Lx : Nat} {xs : Nat → Int} (hB : pw_Scr X bs Lx xs) {x1 x2 : Nat} {x3 : Int} {rj : pw_Sto → Option (Unit × pw_Sto)} (hJ : ∀ σ, pw_Sp X 109 2510 1313 [(0, Value.retAddr bs), (1, Value.ref x1), (2, Value.ref x2), (3, Value.int (iI x3))] [] σ (rj σ)) (σ : pw_Sto) : pw_Sp X 109 2510 721 [(0, Value.retAddr bs), (1, Value.ref x1), (2, Value.ref x2), (3, Value.int (iI x3))] [] σ (lc_15 Lx xs x1 x2 x3 rj σ) := by
  unfold lc_15
  refine sp_aload_n (pc := 721) (k := 1) (i := 1) hX rfl 1 rfl md_L_721 ?_
  refine sp_xload_n (pc := 722) (k := 0) (i := 0) hX rfl 0 rfl md_L_722 ?_
  refine sp_iload_n (pc := 723) (k := 3) (i := 3) hX rfl 3 rfl md_L_723 ?_
  refine sp_iconst (pc := 724) hX md_L_724 ?_
  refine sp_iadd (pc := 725) hX md_L_725 ?_
  refine sp_sld (pc := 726) hX hB md_L_726 (fun v1 => ?_)
  refine sp_xload_n (pc := 727) (k := 0) (i := 0) hX rfl 0 rfl md_L_727 ?_
  refine sp_iload_n (pc := 728) (k := 3) (i := 3) hX rfl 3 rfl md_L_728 ?_
  refine sp_iconst (pc := 729) hX md_L_729 ?_
  refine sp_iadd (pc := 730) hX md_L_730 ?_
  refine sp_sld (pc := 731) hX hB md_L_731 (fun v2 => ?_)
  refine sp_xload_n (pc := 732) (k := 0) (i := 0) hX rfl 0 rfl md_L_732 ?_
  refine sp_iload_n (pc := 733) (k := 3) (i := 3) hX rfl 3 rfl md_L_733 ?_
  refine sp_iconst (pc := 734) hX md_L_734 ?_
  refine sp_iadd (pc := 735) hX md_L_735 ?_
  refine sp_sld (pc := 736) hX hB md_L_736 (fun v3 => ?_)
  refine sp_callVI (pc := 737) (y := my_W_order) (ccy := prog_1_method_17_code) (nLy := 4) (ret := (some .int)) (rmy := mr_W_order) (n := 3) (idx := 78) (As := [.int (iI v1), .int (iI v2), .int (iI v3)]) (st := []) (o := x1) (cells' := 109) (slots' := 2510) hX (fun _ h => mc_W_order h) mk_W_order mv_W_order mcl_9 (fun _ h => pw_gd_of h) mq_583 ⟨(Nat.le_of_ble_eq_true rfl), (Nat.le_of_ble_eq_true rfl)⟩ rfl rfl (Nat.le_of_ble_eq_true rfl) ⟨(Nat.le_of_ble_eq_true rfl), (Nat.le_of_ble_eq_true rfl)⟩ rfl rfl md_L_737 (fun v5 s4 => ?_)
  refine sp_aload_n (pc := 740) (k := 2) (i := 2) hX rfl 2 rfl md_L_740 ?_
  refine sp_xload_n (pc := 741) (k := 0) (i := 0) hX rfl 0 rfl md_L_741 ?_
  refine sp_iload_n (pc := 742) (k := 3) (i := 3) hX rfl 3 rfl md_L_742 ?_
  refine sp_iconst (pc := 743) hX md_L_743 ?_
  refine sp_iadd (pc := 744) hX md_L_744 ?_
  refine sp_sld (pc := 745) hX hB md_L_745 (fun v6 => ?_)
  refine sp_xload_n (pc := 746) (k := 0) (i := 0) hX rfl 0 rfl md_L_746 ?_
  refine sp_iload_n (pc := 747) (k := 3) (i := 3) hX rfl 3 rfl md_L_747 ?_
  refine sp_iconst (pc := 748) hX md_L_748 ?_
  refine sp_iadd (pc := 749) hX md_L_749 ?_
  refine sp_sld (pc := 750) hX hB md_L_750 (fun v7 => ?_)
  refine sp_xload_n (pc := 751) (k := 0) (i := 0) hX rfl 0 rfl md_L_751 ?_
  refine sp_iload_n (pc := 752) (k := 3) (i := 3) hX rfl 3 rfl md_L_752 ?_
  refine sp_iconst (pc := 753) hX md_L_753 ?_
  refine sp_iadd (pc := 754) hX md_L_754 ?_
  refine sp_sld (pc := 755) hX hB md_L_755 (fun v8 => ?_)
  refine sp_callVI (pc := 756) (y := my_M_order) (ccy := prog_14_method_53_code) (nLy := 4) (ret := (some .int)) (rmy := mr_M_order) (n := 3) (idx := 81) (As := [.int (iI v6), .int (iI v7), .int (iI v8)]) (st := [.int (iI v5)]) (o := x2) (cells' := 109) (slots' := 2510) hX (fun _ h => mc_M_order h) mk_M_order mv_M_order mcl_10 (fun _ h => pw_gd_of h) mq_1046 ⟨(Nat.le_of_ble_eq_true rfl), (Nat.le_of_ble_eq_true rfl)⟩ rfl rfl (Nat.le_of_ble_eq_true rfl) ⟨(Nat.le_of_ble_eq_true rfl), (Nat.le_of_ble_eq_true rfl)⟩ rfl rfl md_L_756 (fun v10 s9 => ?_)
  refine sp_icmp_eqN (pc := 759) hX 1313 (by decide) md_L_759 ?_
  exact hJ s9
set_option maxHeartbeats 4000000 in
set_option maxRecDepth 20000 in
theorem ls_16 {X : pw_X Unit} (hX : pw_Ok X code "PadeWorkbenchLaw" room_1 4) {bs Lx : Nat} {xs : Nat → Int} (hB : pw_Scr X bs Lx xs) {x1 x2 : Nat} {x3 : Int} {rj : pw_Sto → Option (Unit × pw_Sto)} (hJ : ∀ σ, pw_Sp X 109 2510 1313 [(0, Value.retAddr bs), (1, Value.ref x1), (2, Value.ref x2), (3, Value.int (iI x3))] [] σ (rj σ)) (σ : pw_Sto) : pw_Sp X 109 2510 764 [(0, Value.retAddr bs), (1, Value.ref x1), (2, Value.ref x2), (3, Value.int (iI x3))] [] σ (lc_16 Lx xs x1 x2 x3 rj σ) := by
  unfold lc_16
  refine sp_aload_n (pc := 764) (k := 1) (i := 1) hX rfl 1 rfl md_L_764 ?_
  refine sp_xload_n (pc := 765) (k := 0) (i := 0) hX rfl 0 rfl md_L_765 ?_
  refine sp_iload_n (pc := 766) (k := 3) (i := 3) hX rfl 3 rfl md_L_766 ?_
  refine sp_iconst (pc := 767) hX md_L_767 ?_
  refine sp_iadd (pc := 768) hX md_L_768 ?_
  refine sp_sld (pc := 769) hX hB md_L_769 (fun v1 => ?_)
  refine sp_xload_n (pc := 770) (k := 0) (i := 0) hX rfl 0 rfl md_L_770 ?_
  refine sp_iload_n (pc := 771) (k := 3) (i := 3) hX rfl 3 rfl md_L_771 ?_
  refine sp_iconst (pc := 772) hX md_L_772 ?_
  refine sp_iadd (pc := 773) hX md_L_773 ?_
  refine sp_sld (pc := 774) hX hB md_L_774 (fun v2 => ?_)
  refine sp_xload_n (pc := 775) (k := 0) (i := 0) hX rfl 0 rfl md_L_775 ?_
  refine sp_iload_n (pc := 776) (k := 3) (i := 3) hX rfl 3 rfl md_L_776 ?_
  refine sp_iconst (pc := 777) hX md_L_777 ?_
  refine sp_iadd (pc := 778) hX md_L_778 ?_
  refine sp_sld (pc := 779) hX hB md_L_779 (fun v3 => ?_)
  refine sp_callVI (pc := 780) (y := my_W_blockSize) (ccy := prog_1_method_18_code) (nLy := 4) (ret := (some .int)) (rmy := mr_W_blockSize) (n := 3) (idx := 82) (As := [.int (iI v1), .int (iI v2), .int (iI v3)]) (st := []) (o := x1) (cells' := 109) (slots' := 2510) hX (fun _ h => mc_W_blockSize h) mk_W_blockSize mv_W_blockSize mcl_9 (fun _ h => pw_gd_of h) mq_592 ⟨(Nat.le_of_ble_eq_true rfl), (Nat.le_of_ble_eq_true rfl)⟩ rfl rfl (Nat.le_of_ble_eq_true rfl) ⟨(Nat.le_of_ble_eq_true rfl), (Nat.le_of_ble_eq_true rfl)⟩ rfl rfl md_L_780 (fun v5 s4 => ?_)
  refine sp_aload_n (pc := 783) (k := 2) (i := 2) hX rfl 2 rfl md_L_783 ?_
  refine sp_xload_n (pc := 784) (k := 0) (i := 0) hX rfl 0 rfl md_L_784 ?_
  refine sp_iload_n (pc := 785) (k := 3) (i := 3) hX rfl 3 rfl md_L_785 ?_
  refine sp_iconst (pc := 786) hX md_L_786 ?_
  refine sp_iadd (pc := 787) hX md_L_787 ?_
  refine sp_sld (pc := 788) hX hB md_L_788 (fun v6 => ?_)
  refine sp_xload_n (pc := 789) (k := 0) (i := 0) hX rfl 0 rfl md_L_789 ?_
  refine sp_iload_n (pc := 790) (k := 3) (i := 3) hX rfl 3 rfl md_L_790 ?_
  refine sp_iconst (pc := 791) hX md_L_791 ?_
  refine sp_iadd (pc := 792) hX md_L_792 ?_
  refine sp_sld (pc := 793) hX hB md_L_793 (fun v7 => ?_)
  refine sp_xload_n (pc := 794) (k := 0) (i := 0) hX rfl 0 rfl md_L_794 ?_
  refine sp_iload_n (pc := 795) (k := 3) (i := 3) hX rfl 3 rfl md_L_795 ?_
  refine sp_iconst (pc := 796) hX md_L_796 ?_
  refine sp_iadd (pc := 797) hX md_L_797 ?_
  refine sp_sld (pc := 798) hX hB md_L_798 (fun v8 => ?_)
  refine sp_callVI (pc := 799) (y := my_M_blockSize) (ccy := prog_14_method_54_code) (nLy := 4) (ret := (some .int)) (rmy := mr_M_blockSize) (n := 3) (idx := 85) (As := [.int (iI v6), .int (iI v7), .int (iI v8)]) (st := [.int (iI v5)]) (o := x2) (cells' := 109) (slots' := 2510) hX (fun _ h => mc_M_blockSize h) mk_M_blockSize mv_M_blockSize mcl_10 (fun _ h => pw_gd_of h) mq_1054 ⟨(Nat.le_of_ble_eq_true rfl), (Nat.le_of_ble_eq_true rfl)⟩ rfl rfl (Nat.le_of_ble_eq_true rfl) ⟨(Nat.le_of_ble_eq_true rfl), (Nat.le_of_ble_eq_true rfl)⟩ rfl rfl md_L_799 (fun v10 s9 => ?_)
  refine sp_icmp_eqN (pc := 802) hX 1313 (by decide) md_L_802 ?_
  exact hJ s9
set_option maxHeartbeats 4000000 in
set_option maxRecDepth 20000 in
theorem ls_17 {X : pw_X Unit} (hX : pw_Ok X code "PadeWorkbenchLaw" room_1 4) {bs Lx : Nat} {xs : Nat → Int} (hB : pw_Scr X bs Lx xs) {x1 x2 : Nat} {x3 : Int} {rj : pw_Sto → Option (Unit × pw_Sto)} (hJ : ∀ σ, pw_Sp X 109 2510 1313 [(0, Value.retAddr bs), (1, Value.ref x1), (2, Value.ref x2), (3, Value.int (iI x3))] [] σ (rj σ)) (σ : pw_Sto) : pw_Sp X 109 2510 807 [(0, Value.retAddr bs), (1, Value.ref x1), (2, Value.ref x2), (3, Value.int (iI x3))] [] σ (lc_17 Lx xs x1 x2 x3 rj σ) := by
  unfold lc_17
  refine sp_aload_n (pc := 807) (k := 1) (i := 1) hX rfl 1 rfl md_L_807 ?_
  refine sp_xload_n (pc := 808) (k := 0) (i := 0) hX rfl 0 rfl md_L_808 ?_
  refine sp_iload_n (pc := 809) (k := 3) (i := 3) hX rfl 3 rfl md_L_809 ?_
  refine sp_iconst (pc := 810) hX md_L_810 ?_
  refine sp_iadd (pc := 811) hX md_L_811 ?_
  refine sp_sld (pc := 812) hX hB md_L_812 (fun v1 => ?_)
  refine sp_xload_n (pc := 813) (k := 0) (i := 0) hX rfl 0 rfl md_L_813 ?_
  refine sp_iload_n (pc := 814) (k := 3) (i := 3) hX rfl 3 rfl md_L_814 ?_
  refine sp_iconst (pc := 815) hX md_L_815 ?_
  refine sp_iadd (pc := 816) hX md_L_816 ?_
  refine sp_sld (pc := 817) hX hB md_L_817 (fun v2 => ?_)
  refine sp_xload_n (pc := 818) (k := 0) (i := 0) hX rfl 0 rfl md_L_818 ?_
  refine sp_iload_n (pc := 819) (k := 3) (i := 3) hX rfl 3 rfl md_L_819 ?_
  refine sp_iconst (pc := 820) hX md_L_820 ?_
  refine sp_iadd (pc := 821) hX md_L_821 ?_
  refine sp_sld (pc := 822) hX hB md_L_822 (fun v3 => ?_)
  refine sp_xload_n (pc := 823) (k := 0) (i := 0) hX rfl 0 rfl md_L_823 ?_
  refine sp_iload_n (pc := 824) (k := 3) (i := 3) hX rfl 3 rfl md_L_824 ?_
  refine sp_iconst (pc := 825) hX md_L_825 ?_
  refine sp_iadd (pc := 826) hX md_L_826 ?_
  refine sp_sld (pc := 827) hX hB md_L_827 (fun v4 => ?_)
  refine sp_callVI (pc := 828) (y := my_W_evaluate) (ccy := prog_1_method_19_code) (nLy := 6) (ret := (some .int)) (rmy := mr_W_evaluate) (n := 4) (idx := 86) (As := [.int (iI v1), .int (iI v2), .int (iI v3), .int (iI v4)]) (st := []) (o := x1) (cells' := 109) (slots' := 2510) hX (fun _ h => mc_W_evaluate h) mk_W_evaluate mv_W_evaluate mcl_9 (fun _ h => pw_gd_of h) mq_600 ⟨(Nat.le_of_ble_eq_true rfl), (Nat.le_of_ble_eq_true rfl)⟩ rfl rfl (Nat.le_of_ble_eq_true rfl) ⟨(Nat.le_of_ble_eq_true rfl), (Nat.le_of_ble_eq_true rfl)⟩ rfl rfl md_L_828 (fun v6 s5 => ?_)
  refine sp_aload_n (pc := 831) (k := 2) (i := 2) hX rfl 2 rfl md_L_831 ?_
  refine sp_xload_n (pc := 832) (k := 0) (i := 0) hX rfl 0 rfl md_L_832 ?_
  refine sp_iload_n (pc := 833) (k := 3) (i := 3) hX rfl 3 rfl md_L_833 ?_
  refine sp_iconst (pc := 834) hX md_L_834 ?_
  refine sp_iadd (pc := 835) hX md_L_835 ?_
  refine sp_sld (pc := 836) hX hB md_L_836 (fun v7 => ?_)
  refine sp_xload_n (pc := 837) (k := 0) (i := 0) hX rfl 0 rfl md_L_837 ?_
  refine sp_iload_n (pc := 838) (k := 3) (i := 3) hX rfl 3 rfl md_L_838 ?_
  refine sp_iconst (pc := 839) hX md_L_839 ?_
  refine sp_iadd (pc := 840) hX md_L_840 ?_
  refine sp_sld (pc := 841) hX hB md_L_841 (fun v8 => ?_)
  refine sp_xload_n (pc := 842) (k := 0) (i := 0) hX rfl 0 rfl md_L_842 ?_
  refine sp_iload_n (pc := 843) (k := 3) (i := 3) hX rfl 3 rfl md_L_843 ?_
  refine sp_iconst (pc := 844) hX md_L_844 ?_
  refine sp_iadd (pc := 845) hX md_L_845 ?_
  refine sp_sld (pc := 846) hX hB md_L_846 (fun v9 => ?_)
  refine sp_xload_n (pc := 847) (k := 0) (i := 0) hX rfl 0 rfl md_L_847 ?_
  refine sp_iload_n (pc := 848) (k := 3) (i := 3) hX rfl 3 rfl md_L_848 ?_
  refine sp_iconst (pc := 849) hX md_L_849 ?_
  refine sp_iadd (pc := 850) hX md_L_850 ?_
  refine sp_sld (pc := 851) hX hB md_L_851 (fun v10 => ?_)
  refine sp_callVI (pc := 852) (y := my_M_evaluate) (ccy := prog_14_method_55_code) (nLy := 6) (ret := (some .int)) (rmy := mr_M_evaluate) (n := 4) (idx := 89) (As := [.int (iI v7), .int (iI v8), .int (iI v9), .int (iI v10)]) (st := [.int (iI v6)]) (o := x2) (cells' := 109) (slots' := 2510) hX (fun _ h => mc_M_evaluate h) mk_M_evaluate mv_M_evaluate mcl_10 (fun _ h => pw_gd_of h) mq_1062 ⟨(Nat.le_of_ble_eq_true rfl), (Nat.le_of_ble_eq_true rfl)⟩ rfl rfl (Nat.le_of_ble_eq_true rfl) ⟨(Nat.le_of_ble_eq_true rfl), (Nat.le_of_ble_eq_true rfl)⟩ rfl rfl md_L_852 (fun v12 s11 => ?_)
  refine sp_icmp_eqN (pc := 855) hX 1313 (by decide) md_L_855 ?_
  exact hJ s11
set_option maxHeartbeats 4000000 in
set_option maxRecDepth 20000 in
theorem ls_18 {X : pw_X Unit} (hX : pw_Ok X code "PadeWorkbenchLaw" room_1 4) {bs Lx : Nat} {xs : Nat → Int} (hB : pw_Scr X bs Lx xs) {x1 x2 : Nat} {x3 : Int} {rj : pw_Sto → Option (Unit × pw_Sto)} (hJ : ∀ σ, pw_Sp X 109 2510 1313 [(0, Value.retAddr bs), (1, Value.ref x1), (2, Value.ref x2), (3, Value.int (iI x3))] [] σ (rj σ)) (σ : pw_Sto) : pw_Sp X 109 2510 860 [(0, Value.retAddr bs), (1, Value.ref x1), (2, Value.ref x2), (3, Value.int (iI x3))] [] σ (lc_18 Lx xs x1 x2 x3 rj σ) := by
  unfold lc_18
  refine sp_aload_n (pc := 860) (k := 1) (i := 1) hX rfl 1 rfl md_L_860 ?_
  refine sp_xload_n (pc := 861) (k := 0) (i := 0) hX rfl 0 rfl md_L_861 ?_
  refine sp_iload_n (pc := 862) (k := 3) (i := 3) hX rfl 3 rfl md_L_862 ?_
  refine sp_iconst (pc := 863) hX md_L_863 ?_
  refine sp_iadd (pc := 864) hX md_L_864 ?_
  refine sp_sld (pc := 865) hX hB md_L_865 (fun v1 => ?_)
  refine sp_xload_n (pc := 866) (k := 0) (i := 0) hX rfl 0 rfl md_L_866 ?_
  refine sp_iload_n (pc := 867) (k := 3) (i := 3) hX rfl 3 rfl md_L_867 ?_
  refine sp_iconst (pc := 868) hX md_L_868 ?_
  refine sp_iadd (pc := 869) hX md_L_869 ?_
  refine sp_sld (pc := 870) hX hB md_L_870 (fun v2 => ?_)
  refine sp_callVI (pc := 871) (y := my_W_normalCount) (ccy := prog_1_method_20_code) (nLy := 5) (ret := (some .int)) (rmy := mr_W_normalCount) (n := 2) (idx := 90) (As := [.int (iI v1), .int (iI v2)]) (st := []) (o := x1) (cells' := 109) (slots' := 2510) hX (fun _ h => mc_W_normalCount h) mk_W_normalCount mv_W_normalCount mcl_9 (fun _ h => pw_gd_of h) mq_610 ⟨(Nat.le_of_ble_eq_true rfl), (Nat.le_of_ble_eq_true rfl)⟩ rfl rfl (Nat.le_of_ble_eq_true rfl) ⟨(Nat.le_of_ble_eq_true rfl), (Nat.le_of_ble_eq_true rfl)⟩ rfl rfl md_L_871 (fun v4 s3 => ?_)
  refine sp_aload_n (pc := 874) (k := 2) (i := 2) hX rfl 2 rfl md_L_874 ?_
  refine sp_xload_n (pc := 875) (k := 0) (i := 0) hX rfl 0 rfl md_L_875 ?_
  refine sp_iload_n (pc := 876) (k := 3) (i := 3) hX rfl 3 rfl md_L_876 ?_
  refine sp_iconst (pc := 877) hX md_L_877 ?_
  refine sp_iadd (pc := 878) hX md_L_878 ?_
  refine sp_sld (pc := 879) hX hB md_L_879 (fun v5 => ?_)
  refine sp_xload_n (pc := 880) (k := 0) (i := 0) hX rfl 0 rfl md_L_880 ?_
  refine sp_iload_n (pc := 881) (k := 3) (i := 3) hX rfl 3 rfl md_L_881 ?_
  refine sp_iconst (pc := 882) hX md_L_882 ?_
  refine sp_iadd (pc := 883) hX md_L_883 ?_
  refine sp_sld (pc := 884) hX hB md_L_884 (fun v6 => ?_)
  refine sp_callVI (pc := 885) (y := my_M_normalCount) (ccy := prog_14_method_57_code) (nLy := 3) (ret := (some .int)) (rmy := mr_M_normalCount) (n := 2) (idx := 93) (As := [.int (iI v5), .int (iI v6)]) (st := [.int (iI v4)]) (o := x2) (cells' := 109) (slots' := 2510) hX (fun _ h => mc_M_normalCount h) mk_M_normalCount mv_M_normalCount mcl_10 (fun _ h => pw_gd_of h) mq_1070 ⟨(Nat.le_of_ble_eq_true rfl), (Nat.le_of_ble_eq_true rfl)⟩ rfl rfl (Nat.le_of_ble_eq_true rfl) ⟨(Nat.le_of_ble_eq_true rfl), (Nat.le_of_ble_eq_true rfl)⟩ rfl rfl md_L_885 (fun v8 s7 => ?_)
  refine sp_icmp_eqN (pc := 888) hX 1313 (by decide) md_L_888 ?_
  exact hJ s7
set_option maxHeartbeats 4000000 in
set_option maxRecDepth 20000 in
theorem ls_19 {X : pw_X Unit} (hX : pw_Ok X code "PadeWorkbenchLaw" room_1 4) {bs Lx : Nat} {xs : Nat → Int} (hB : pw_Scr X bs Lx xs) {x1 x2 : Nat} {x3 : Int} {rj : pw_Sto → Option (Unit × pw_Sto)} (hJ : ∀ σ, pw_Sp X 109 2510 1313 [(0, Value.retAddr bs), (1, Value.ref x1), (2, Value.ref x2), (3, Value.int (iI x3))] [] σ (rj σ)) (σ : pw_Sto) : pw_Sp X 109 2510 893 [(0, Value.retAddr bs), (1, Value.ref x1), (2, Value.ref x2), (3, Value.int (iI x3))] [] σ (lc_19 Lx xs x1 x2 x3 rj σ) := by
  unfold lc_19
  refine sp_aload_n (pc := 893) (k := 1) (i := 1) hX rfl 1 rfl md_L_893 ?_
  refine sp_xload_n (pc := 894) (k := 0) (i := 0) hX rfl 0 rfl md_L_894 ?_
  refine sp_iload_n (pc := 895) (k := 3) (i := 3) hX rfl 3 rfl md_L_895 ?_
  refine sp_iconst (pc := 896) hX md_L_896 ?_
  refine sp_iadd (pc := 897) hX md_L_897 ?_
  refine sp_sld (pc := 898) hX hB md_L_898 (fun v1 => ?_)
  refine sp_xload_n (pc := 899) (k := 0) (i := 0) hX rfl 0 rfl md_L_899 ?_
  refine sp_iload_n (pc := 900) (k := 3) (i := 3) hX rfl 3 rfl md_L_900 ?_
  refine sp_iconst (pc := 901) hX md_L_901 ?_
  refine sp_iadd (pc := 902) hX md_L_902 ?_
  refine sp_sld (pc := 903) hX hB md_L_903 (fun v2 => ?_)
  refine sp_xload_n (pc := 904) (k := 0) (i := 0) hX rfl 0 rfl md_L_904 ?_
  refine sp_iload_n (pc := 905) (k := 3) (i := 3) hX rfl 3 rfl md_L_905 ?_
  refine sp_iconst (pc := 906) hX md_L_906 ?_
  refine sp_iadd (pc := 907) hX md_L_907 ?_
  refine sp_sld (pc := 908) hX hB md_L_908 (fun v3 => ?_)
  refine sp_callVI (pc := 909) (y := my_W_determinant) (ccy := prog_1_method_21_code) (nLy := 4) (ret := (some .int)) (rmy := mr_W_determinant) (n := 3) (idx := 94) (As := [.int (iI v1), .int (iI v2), .int (iI v3)]) (st := []) (o := x1) (cells' := 109) (slots' := 2510) hX (fun _ h => mc_W_determinant h) mk_W_determinant mv_W_determinant mcl_9 (fun _ h => pw_gd_of h) mq_614 ⟨(Nat.le_of_ble_eq_true rfl), (Nat.le_of_ble_eq_true rfl)⟩ rfl rfl (Nat.le_of_ble_eq_true rfl) ⟨(Nat.le_of_ble_eq_true rfl), (Nat.le_of_ble_eq_true rfl)⟩ rfl rfl md_L_909 (fun v5 s4 => ?_)
  refine sp_aload_n (pc := 912) (k := 2) (i := 2) hX rfl 2 rfl md_L_912 ?_
  refine sp_xload_n (pc := 913) (k := 0) (i := 0) hX rfl 0 rfl md_L_913 ?_
  refine sp_iload_n (pc := 914) (k := 3) (i := 3) hX rfl 3 rfl md_L_914 ?_
  refine sp_iconst (pc := 915) hX md_L_915 ?_
  refine sp_iadd (pc := 916) hX md_L_916 ?_
  refine sp_sld (pc := 917) hX hB md_L_917 (fun v6 => ?_)
  refine sp_xload_n (pc := 918) (k := 0) (i := 0) hX rfl 0 rfl md_L_918 ?_
  refine sp_iload_n (pc := 919) (k := 3) (i := 3) hX rfl 3 rfl md_L_919 ?_
  refine sp_iconst (pc := 920) hX md_L_920 ?_
  refine sp_iadd (pc := 921) hX md_L_921 ?_
  refine sp_sld (pc := 922) hX hB md_L_922 (fun v7 => ?_)
  refine sp_xload_n (pc := 923) (k := 0) (i := 0) hX rfl 0 rfl md_L_923 ?_
  refine sp_iload_n (pc := 924) (k := 3) (i := 3) hX rfl 3 rfl md_L_924 ?_
  refine sp_iconst (pc := 925) hX md_L_925 ?_
  refine sp_iadd (pc := 926) hX md_L_926 ?_
  refine sp_sld (pc := 927) hX hB md_L_927 (fun v8 => ?_)
  refine sp_callVI (pc := 928) (y := my_M_determinant) (ccy := prog_14_method_58_code) (nLy := 9) (ret := (some .int)) (rmy := mr_M_determinant) (n := 3) (idx := 97) (As := [.int (iI v6), .int (iI v7), .int (iI v8)]) (st := [.int (iI v5)]) (o := x2) (cells' := 109) (slots' := 2510) hX (fun _ h => mc_M_determinant h) mk_M_determinant mv_M_determinant mcl_10 (fun _ h => pw_gd_of h) mq_1078 ⟨(Nat.le_of_ble_eq_true rfl), (Nat.le_of_ble_eq_true rfl)⟩ rfl rfl (Nat.le_of_ble_eq_true rfl) ⟨(Nat.le_of_ble_eq_true rfl), (Nat.le_of_ble_eq_true rfl)⟩ rfl rfl md_L_928 (fun v10 s9 => ?_)
  refine sp_icmp_eqN (pc := 931) hX 1313 (by decide) md_L_931 ?_
  exact hJ s9
set_option maxHeartbeats 4000000 in
set_option maxRecDepth 20000 in
theorem ls_20 {X : pw_X Unit} (hX : pw_Ok X code "PadeWorkbenchLaw" room_1 4) {bs Lx : Nat} {xs : Nat → Int} (hB : pw_Scr X bs Lx xs) {x1 x2 : Nat} {x3 : Int} {rj : pw_Sto → Option (Unit × pw_Sto)} (hJ : ∀ σ, pw_Sp X 109 2510 1313 [(0, Value.retAddr bs), (1, Value.ref x1), (2, Value.ref x2), (3, Value.int (iI x3))] [] σ (rj σ)) (σ : pw_Sto) : pw_Sp X 109 2510 936 [(0, Value.retAddr bs), (1, Value.ref x1), (2, Value.ref x2), (3, Value.int (iI x3))] [] σ (lc_20 Lx xs x1 x2 x3 rj σ) := by
  unfold lc_20
  refine sp_aload_n (pc := 936) (k := 1) (i := 1) hX rfl 1 rfl md_L_936 ?_
  refine sp_xload_n (pc := 937) (k := 0) (i := 0) hX rfl 0 rfl md_L_937 ?_
  refine sp_iload_n (pc := 938) (k := 3) (i := 3) hX rfl 3 rfl md_L_938 ?_
  refine sp_iconst (pc := 939) hX md_L_939 ?_
  refine sp_iadd (pc := 940) hX md_L_940 ?_
  refine sp_sld (pc := 941) hX hB md_L_941 (fun v1 => ?_)
  refine sp_xload_n (pc := 942) (k := 0) (i := 0) hX rfl 0 rfl md_L_942 ?_
  refine sp_iload_n (pc := 943) (k := 3) (i := 3) hX rfl 3 rfl md_L_943 ?_
  refine sp_iconst (pc := 944) hX md_L_944 ?_
  refine sp_iadd (pc := 945) hX md_L_945 ?_
  refine sp_sld (pc := 946) hX hB md_L_946 (fun v2 => ?_)
  refine sp_xload_n (pc := 947) (k := 0) (i := 0) hX rfl 0 rfl md_L_947 ?_
  refine sp_iload_n (pc := 948) (k := 3) (i := 3) hX rfl 3 rfl md_L_948 ?_
  refine sp_iconst (pc := 949) hX md_L_949 ?_
  refine sp_iadd (pc := 950) hX md_L_950 ?_
  refine sp_sld (pc := 951) hX hB md_L_951 (fun v3 => ?_)
  refine sp_xload_n (pc := 952) (k := 0) (i := 0) hX rfl 0 rfl md_L_952 ?_
  refine sp_iload_n (pc := 953) (k := 3) (i := 3) hX rfl 3 rfl md_L_953 ?_
  refine sp_iconst (pc := 954) hX md_L_954 ?_
  refine sp_iadd (pc := 955) hX md_L_955 ?_
  refine sp_sld (pc := 956) hX hB md_L_956 (fun v4 => ?_)
  refine sp_callVI (pc := 957) (y := my_W_quotientDifference) (ccy := prog_1_method_22_code) (nLy := 5) (ret := (some .int)) (rmy := mr_W_quotientDifference) (n := 4) (idx := 98) (As := [.int (iI v1), .int (iI v2), .int (iI v3), .int (iI v4)]) (st := []) (o := x1) (cells' := 109) (slots' := 2510) hX (fun _ h => mc_W_quotientDifference h) mk_W_quotientDifference mv_W_quotientDifference mcl_9 (fun _ h => pw_gd_of h) mq_643 ⟨(Nat.le_of_ble_eq_true rfl), (Nat.le_of_ble_eq_true rfl)⟩ rfl rfl (Nat.le_of_ble_eq_true rfl) ⟨(Nat.le_of_ble_eq_true rfl), (Nat.le_of_ble_eq_true rfl)⟩ rfl rfl md_L_957 (fun v6 s5 => ?_)
  refine sp_aload_n (pc := 960) (k := 2) (i := 2) hX rfl 2 rfl md_L_960 ?_
  refine sp_xload_n (pc := 961) (k := 0) (i := 0) hX rfl 0 rfl md_L_961 ?_
  refine sp_iload_n (pc := 962) (k := 3) (i := 3) hX rfl 3 rfl md_L_962 ?_
  refine sp_iconst (pc := 963) hX md_L_963 ?_
  refine sp_iadd (pc := 964) hX md_L_964 ?_
  refine sp_sld (pc := 965) hX hB md_L_965 (fun v7 => ?_)
  refine sp_xload_n (pc := 966) (k := 0) (i := 0) hX rfl 0 rfl md_L_966 ?_
  refine sp_iload_n (pc := 967) (k := 3) (i := 3) hX rfl 3 rfl md_L_967 ?_
  refine sp_iconst (pc := 968) hX md_L_968 ?_
  refine sp_iadd (pc := 969) hX md_L_969 ?_
  refine sp_sld (pc := 970) hX hB md_L_970 (fun v8 => ?_)
  refine sp_xload_n (pc := 971) (k := 0) (i := 0) hX rfl 0 rfl md_L_971 ?_
  refine sp_iload_n (pc := 972) (k := 3) (i := 3) hX rfl 3 rfl md_L_972 ?_
  refine sp_iconst (pc := 973) hX md_L_973 ?_
  refine sp_iadd (pc := 974) hX md_L_974 ?_
  refine sp_sld (pc := 975) hX hB md_L_975 (fun v9 => ?_)
  refine sp_xload_n (pc := 976) (k := 0) (i := 0) hX rfl 0 rfl md_L_976 ?_
  refine sp_iload_n (pc := 977) (k := 3) (i := 3) hX rfl 3 rfl md_L_977 ?_
  refine sp_iconst (pc := 978) hX md_L_978 ?_
  refine sp_iadd (pc := 979) hX md_L_979 ?_
  refine sp_sld (pc := 980) hX hB md_L_980 (fun v10 => ?_)
  refine sp_callVI (pc := 981) (y := my_M_quotientDifference) (ccy := prog_14_method_61_code) (nLy := 7) (ret := (some .int)) (rmy := mr_M_quotientDifference) (n := 4) (idx := 101) (As := [.int (iI v7), .int (iI v8), .int (iI v9), .int (iI v10)]) (st := [.int (iI v6)]) (o := x2) (cells' := 109) (slots' := 2510) hX (fun _ h => mc_M_quotientDifference h) mk_M_quotientDifference mv_M_quotientDifference mcl_10 (fun _ h => pw_gd_of h) mq_1082 ⟨(Nat.le_of_ble_eq_true rfl), (Nat.le_of_ble_eq_true rfl)⟩ rfl rfl (Nat.le_of_ble_eq_true rfl) ⟨(Nat.le_of_ble_eq_true rfl), (Nat.le_of_ble_eq_true rfl)⟩ rfl rfl md_L_981 (fun v12 s11 => ?_)
  refine sp_icmp_eqN (pc := 984) hX 1313 (by decide) md_L_984 ?_
  exact hJ s11
set_option maxHeartbeats 4000000 in
set_option maxRecDepth 20000 in
theorem ls_21 {X : pw_X Unit} (hX : pw_Ok X code "PadeWorkbenchLaw" room_1 4) {bs Lx : Nat} {xs : Nat → Int} (hB : pw_Scr X bs Lx xs) {x1 x2 : Nat} {x3 : Int} {rj : pw_Sto → Option (Unit × pw_Sto)} (hJ : ∀ σ, pw_Sp X 109 2510 1313 [(0, Value.retAddr bs), (1, Value.ref x1), (2, Value.ref x2), (3, Value.int (iI x3))] [] σ (rj σ)) (σ : pw_Sto) : pw_Sp X 109 2510 989 [(0, Value.retAddr bs), (1, Value.ref x1), (2, Value.ref x2), (3, Value.int (iI x3))] [] σ (lc_21 Lx xs x1 x2 x3 rj σ) := by
  unfold lc_21
  refine sp_aload_n (pc := 989) (k := 1) (i := 1) hX rfl 1 rfl md_L_989 ?_
  refine sp_xload_n (pc := 990) (k := 0) (i := 0) hX rfl 0 rfl md_L_990 ?_
  refine sp_iload_n (pc := 991) (k := 3) (i := 3) hX rfl 3 rfl md_L_991 ?_
  refine sp_iconst (pc := 992) hX md_L_992 ?_
  refine sp_iadd (pc := 993) hX md_L_993 ?_
  refine sp_sld (pc := 994) hX hB md_L_994 (fun v1 => ?_)
  refine sp_xload_n (pc := 995) (k := 0) (i := 0) hX rfl 0 rfl md_L_995 ?_
  refine sp_iload_n (pc := 996) (k := 3) (i := 3) hX rfl 3 rfl md_L_996 ?_
  refine sp_iconst (pc := 997) hX md_L_997 ?_
  refine sp_iadd (pc := 998) hX md_L_998 ?_
  refine sp_sld (pc := 999) hX hB md_L_999 (fun v2 => ?_)
  refine sp_callVI (pc := 1000) (y := my_W_quotientCount) (ccy := prog_1_method_23_code) (nLy := 4) (ret := (some .int)) (rmy := mr_W_quotientCount) (n := 2) (idx := 102) (As := [.int (iI v1), .int (iI v2)]) (st := []) (o := x1) (cells' := 109) (slots' := 2510) hX (fun _ h => mc_W_quotientCount h) mk_W_quotientCount mv_W_quotientCount mcl_9 (fun _ h => pw_gd_of h) mq_673 ⟨(Nat.le_of_ble_eq_true rfl), (Nat.le_of_ble_eq_true rfl)⟩ rfl rfl (Nat.le_of_ble_eq_true rfl) ⟨(Nat.le_of_ble_eq_true rfl), (Nat.le_of_ble_eq_true rfl)⟩ rfl rfl md_L_1000 (fun v4 s3 => ?_)
  refine sp_aload_n (pc := 1003) (k := 2) (i := 2) hX rfl 2 rfl md_L_1003 ?_
  refine sp_xload_n (pc := 1004) (k := 0) (i := 0) hX rfl 0 rfl md_L_1004 ?_
  refine sp_iload_n (pc := 1005) (k := 3) (i := 3) hX rfl 3 rfl md_L_1005 ?_
  refine sp_iconst (pc := 1006) hX md_L_1006 ?_
  refine sp_iadd (pc := 1007) hX md_L_1007 ?_
  refine sp_sld (pc := 1008) hX hB md_L_1008 (fun v5 => ?_)
  refine sp_xload_n (pc := 1009) (k := 0) (i := 0) hX rfl 0 rfl md_L_1009 ?_
  refine sp_iload_n (pc := 1010) (k := 3) (i := 3) hX rfl 3 rfl md_L_1010 ?_
  refine sp_iconst (pc := 1011) hX md_L_1011 ?_
  refine sp_iadd (pc := 1012) hX md_L_1012 ?_
  refine sp_sld (pc := 1013) hX hB md_L_1013 (fun v6 => ?_)
  refine sp_callVI (pc := 1014) (y := my_M_quotientCount) (ccy := prog_14_method_64_code) (nLy := 3) (ret := (some .int)) (rmy := mr_M_quotientCount) (n := 2) (idx := 105) (As := [.int (iI v5), .int (iI v6)]) (st := [.int (iI v4)]) (o := x2) (cells' := 109) (slots' := 2510) hX (fun _ h => mc_M_quotientCount h) mk_M_quotientCount mv_M_quotientCount mcl_10 (fun _ h => pw_gd_of h) mq_1093 ⟨(Nat.le_of_ble_eq_true rfl), (Nat.le_of_ble_eq_true rfl)⟩ rfl rfl (Nat.le_of_ble_eq_true rfl) ⟨(Nat.le_of_ble_eq_true rfl), (Nat.le_of_ble_eq_true rfl)⟩ rfl rfl md_L_1014 (fun v8 s7 => ?_)
  refine sp_icmp_eqN (pc := 1017) hX 1313 (by decide) md_L_1017 ?_
  exact hJ s7
set_option maxHeartbeats 4000000 in
set_option maxRecDepth 20000 in
theorem ls_22 {X : pw_X Unit} (hX : pw_Ok X code "PadeWorkbenchLaw" room_1 4) {bs Lx : Nat} {xs : Nat → Int} (hB : pw_Scr X bs Lx xs) {x1 x2 : Nat} {x3 : Int} {rj : pw_Sto → Option (Unit × pw_Sto)} (hJ : ∀ σ, pw_Sp X 109 2510 1313 [(0, Value.retAddr bs), (1, Value.ref x1), (2, Value.ref x2), (3, Value.int (iI x3))] [] σ (rj σ)) (σ : pw_Sto) : pw_Sp X 109 2510 1022 [(0, Value.retAddr bs), (1, Value.ref x1), (2, Value.ref x2), (3, Value.int (iI x3))] [] σ (lc_22 Lx xs x1 x2 x3 rj σ) := by
  unfold lc_22
  refine sp_aload_n (pc := 1022) (k := 1) (i := 1) hX rfl 1 rfl md_L_1022 ?_
  refine sp_xload_n (pc := 1023) (k := 0) (i := 0) hX rfl 0 rfl md_L_1023 ?_
  refine sp_iload_n (pc := 1024) (k := 3) (i := 3) hX rfl 3 rfl md_L_1024 ?_
  refine sp_iconst (pc := 1025) hX md_L_1025 ?_
  refine sp_iadd (pc := 1026) hX md_L_1026 ?_
  refine sp_sld (pc := 1027) hX hB md_L_1027 (fun v1 => ?_)
  refine sp_xload_n (pc := 1028) (k := 0) (i := 0) hX rfl 0 rfl md_L_1028 ?_
  refine sp_iload_n (pc := 1029) (k := 3) (i := 3) hX rfl 3 rfl md_L_1029 ?_
  refine sp_iconst (pc := 1030) hX md_L_1030 ?_
  refine sp_iadd (pc := 1031) hX md_L_1031 ?_
  refine sp_sld (pc := 1032) hX hB md_L_1032 (fun v2 => ?_)
  refine sp_xload_n (pc := 1033) (k := 0) (i := 0) hX rfl 0 rfl md_L_1033 ?_
  refine sp_iload_n (pc := 1034) (k := 3) (i := 3) hX rfl 3 rfl md_L_1034 ?_
  refine sp_iconst (pc := 1035) hX md_L_1035 ?_
  refine sp_iadd (pc := 1036) hX md_L_1036 ?_
  refine sp_sld (pc := 1037) hX hB md_L_1037 (fun v3 => ?_)
  refine sp_xload_n (pc := 1038) (k := 0) (i := 0) hX rfl 0 rfl md_L_1038 ?_
  refine sp_iload_n (pc := 1039) (k := 3) (i := 3) hX rfl 3 rfl md_L_1039 ?_
  refine sp_iconst (pc := 1040) hX md_L_1040 ?_
  refine sp_iadd (pc := 1041) hX md_L_1041 ?_
  refine sp_sld (pc := 1042) hX hB md_L_1042 (fun v4 => ?_)
  refine sp_callVI (pc := 1043) (y := my_W_quotient) (ccy := prog_1_method_24_code) (nLy := 6) (ret := (some .int)) (rmy := mr_W_quotient) (n := 4) (idx := 106) (As := [.int (iI v1), .int (iI v2), .int (iI v3), .int (iI v4)]) (st := []) (o := x1) (cells' := 109) (slots' := 2510) hX (fun _ h => mc_W_quotient h) mk_W_quotient mv_W_quotient mcl_9 (fun _ h => pw_gd_of h) mq_678 ⟨(Nat.le_of_ble_eq_true rfl), (Nat.le_of_ble_eq_true rfl)⟩ rfl rfl (Nat.le_of_ble_eq_true rfl) ⟨(Nat.le_of_ble_eq_true rfl), (Nat.le_of_ble_eq_true rfl)⟩ rfl rfl md_L_1043 (fun v6 s5 => ?_)
  refine sp_aload_n (pc := 1046) (k := 2) (i := 2) hX rfl 2 rfl md_L_1046 ?_
  refine sp_xload_n (pc := 1047) (k := 0) (i := 0) hX rfl 0 rfl md_L_1047 ?_
  refine sp_iload_n (pc := 1048) (k := 3) (i := 3) hX rfl 3 rfl md_L_1048 ?_
  refine sp_iconst (pc := 1049) hX md_L_1049 ?_
  refine sp_iadd (pc := 1050) hX md_L_1050 ?_
  refine sp_sld (pc := 1051) hX hB md_L_1051 (fun v7 => ?_)
  refine sp_xload_n (pc := 1052) (k := 0) (i := 0) hX rfl 0 rfl md_L_1052 ?_
  refine sp_iload_n (pc := 1053) (k := 3) (i := 3) hX rfl 3 rfl md_L_1053 ?_
  refine sp_iconst (pc := 1054) hX md_L_1054 ?_
  refine sp_iadd (pc := 1055) hX md_L_1055 ?_
  refine sp_sld (pc := 1056) hX hB md_L_1056 (fun v8 => ?_)
  refine sp_xload_n (pc := 1057) (k := 0) (i := 0) hX rfl 0 rfl md_L_1057 ?_
  refine sp_iload_n (pc := 1058) (k := 3) (i := 3) hX rfl 3 rfl md_L_1058 ?_
  refine sp_iconst (pc := 1059) hX md_L_1059 ?_
  refine sp_iadd (pc := 1060) hX md_L_1060 ?_
  refine sp_sld (pc := 1061) hX hB md_L_1061 (fun v9 => ?_)
  refine sp_xload_n (pc := 1062) (k := 0) (i := 0) hX rfl 0 rfl md_L_1062 ?_
  refine sp_iload_n (pc := 1063) (k := 3) (i := 3) hX rfl 3 rfl md_L_1063 ?_
  refine sp_iconst (pc := 1064) hX md_L_1064 ?_
  refine sp_iadd (pc := 1065) hX md_L_1065 ?_
  refine sp_sld (pc := 1066) hX hB md_L_1066 (fun v10 => ?_)
  refine sp_callVI (pc := 1067) (y := my_M_quotient) (ccy := prog_14_method_65_code) (nLy := 5) (ret := (some .int)) (rmy := mr_M_quotient) (n := 4) (idx := 109) (As := [.int (iI v7), .int (iI v8), .int (iI v9), .int (iI v10)]) (st := [.int (iI v6)]) (o := x2) (cells' := 109) (slots' := 2510) hX (fun _ h => mc_M_quotient h) mk_M_quotient mv_M_quotient mcl_10 (fun _ h => pw_gd_of h) mq_1105 ⟨(Nat.le_of_ble_eq_true rfl), (Nat.le_of_ble_eq_true rfl)⟩ rfl rfl (Nat.le_of_ble_eq_true rfl) ⟨(Nat.le_of_ble_eq_true rfl), (Nat.le_of_ble_eq_true rfl)⟩ rfl rfl md_L_1067 (fun v12 s11 => ?_)
  refine sp_icmp_eqN (pc := 1070) hX 1313 (by decide) md_L_1070 ?_
  exact hJ s11
set_option maxHeartbeats 4000000 in
set_option maxRecDepth 20000 in
theorem ls_23 {X : pw_X Unit} (hX : pw_Ok X code "PadeWorkbenchLaw" room_1 4) {bs Lx : Nat} {xs : Nat → Int} (hB : pw_Scr X bs Lx xs) {x1 x2 : Nat} {x3 : Int} {rj : pw_Sto → Option (Unit × pw_Sto)} (hJ : ∀ σ, pw_Sp X 109 2510 1313 [(0, Value.retAddr bs), (1, Value.ref x1), (2, Value.ref x2), (3, Value.int (iI x3))] [] σ (rj σ)) (σ : pw_Sto) : pw_Sp X 109 2510 1075 [(0, Value.retAddr bs), (1, Value.ref x1), (2, Value.ref x2), (3, Value.int (iI x3))] [] σ (lc_23 Lx xs x1 x2 x3 rj σ) := by
  unfold lc_23
  refine sp_aload_n (pc := 1075) (k := 1) (i := 1) hX rfl 1 rfl md_L_1075 ?_
  refine sp_xload_n (pc := 1076) (k := 0) (i := 0) hX rfl 0 rfl md_L_1076 ?_
  refine sp_iload_n (pc := 1077) (k := 3) (i := 3) hX rfl 3 rfl md_L_1077 ?_
  refine sp_iconst (pc := 1078) hX md_L_1078 ?_
  refine sp_iadd (pc := 1079) hX md_L_1079 ?_
  refine sp_sld (pc := 1080) hX hB md_L_1080 (fun v1 => ?_)
  refine sp_xload_n (pc := 1081) (k := 0) (i := 0) hX rfl 0 rfl md_L_1081 ?_
  refine sp_iload_n (pc := 1082) (k := 3) (i := 3) hX rfl 3 rfl md_L_1082 ?_
  refine sp_iconst (pc := 1083) hX md_L_1083 ?_
  refine sp_iadd (pc := 1084) hX md_L_1084 ?_
  refine sp_sld (pc := 1085) hX hB md_L_1085 (fun v2 => ?_)
  refine sp_callVI (pc := 1086) (y := my_W_complexity) (ccy := prog_1_method_25_code) (nLy := 3) (ret := (some .int)) (rmy := mr_W_complexity) (n := 2) (idx := 110) (As := [.int (iI v1), .int (iI v2)]) (st := []) (o := x1) (cells' := 109) (slots' := 2510) hX (fun _ h => mc_W_complexity h) mk_W_complexity mv_W_complexity mcl_9 (fun _ h => pw_gd_of h) mq_682 ⟨(Nat.le_of_ble_eq_true rfl), (Nat.le_of_ble_eq_true rfl)⟩ rfl rfl (Nat.le_of_ble_eq_true rfl) ⟨(Nat.le_of_ble_eq_true rfl), (Nat.le_of_ble_eq_true rfl)⟩ rfl rfl md_L_1086 (fun v4 s3 => ?_)
  refine sp_aload_n (pc := 1089) (k := 2) (i := 2) hX rfl 2 rfl md_L_1089 ?_
  refine sp_xload_n (pc := 1090) (k := 0) (i := 0) hX rfl 0 rfl md_L_1090 ?_
  refine sp_iload_n (pc := 1091) (k := 3) (i := 3) hX rfl 3 rfl md_L_1091 ?_
  refine sp_iconst (pc := 1092) hX md_L_1092 ?_
  refine sp_iadd (pc := 1093) hX md_L_1093 ?_
  refine sp_sld (pc := 1094) hX hB md_L_1094 (fun v5 => ?_)
  refine sp_xload_n (pc := 1095) (k := 0) (i := 0) hX rfl 0 rfl md_L_1095 ?_
  refine sp_iload_n (pc := 1096) (k := 3) (i := 3) hX rfl 3 rfl md_L_1096 ?_
  refine sp_iconst (pc := 1097) hX md_L_1097 ?_
  refine sp_iadd (pc := 1098) hX md_L_1098 ?_
  refine sp_sld (pc := 1099) hX hB md_L_1099 (fun v6 => ?_)
  refine sp_callVI (pc := 1100) (y := my_M_complexity) (ccy := prog_14_method_68_code) (nLy := 3) (ret := (some .int)) (rmy := mr_M_complexity) (n := 2) (idx := 113) (As := [.int (iI v5), .int (iI v6)]) (st := [.int (iI v4)]) (o := x2) (cells' := 109) (slots' := 2510) hX (fun _ h => mc_M_complexity h) mk_M_complexity mv_M_complexity mcl_10 (fun _ h => pw_gd_of h) mq_1109 ⟨(Nat.le_of_ble_eq_true rfl), (Nat.le_of_ble_eq_true rfl)⟩ rfl rfl (Nat.le_of_ble_eq_true rfl) ⟨(Nat.le_of_ble_eq_true rfl), (Nat.le_of_ble_eq_true rfl)⟩ rfl rfl md_L_1100 (fun v8 s7 => ?_)
  refine sp_icmp_eqN (pc := 1103) hX 1313 (by decide) md_L_1103 ?_
  exact hJ s7
set_option maxHeartbeats 4000000 in
set_option maxRecDepth 20000 in
theorem ls_24 {X : pw_X Unit} (hX : pw_Ok X code "PadeWorkbenchLaw" room_1 4) {bs Lx : Nat} {xs : Nat → Int} (hB : pw_Scr X bs Lx xs) {x1 x2 : Nat} {x3 : Int} {rj : pw_Sto → Option (Unit × pw_Sto)} (hJ : ∀ σ, pw_Sp X 109 2510 1313 [(0, Value.retAddr bs), (1, Value.ref x1), (2, Value.ref x2), (3, Value.int (iI x3))] [] σ (rj σ)) (σ : pw_Sto) : pw_Sp X 109 2510 1108 [(0, Value.retAddr bs), (1, Value.ref x1), (2, Value.ref x2), (3, Value.int (iI x3))] [] σ (lc_24 Lx xs x1 x2 x3 rj σ) := by
  unfold lc_24
  refine sp_aload_n (pc := 1108) (k := 1) (i := 1) hX rfl 1 rfl md_L_1108 ?_
  refine sp_xload_n (pc := 1109) (k := 0) (i := 0) hX rfl 0 rfl md_L_1109 ?_
  refine sp_iload_n (pc := 1110) (k := 3) (i := 3) hX rfl 3 rfl md_L_1110 ?_
  refine sp_iconst (pc := 1111) hX md_L_1111 ?_
  refine sp_iadd (pc := 1112) hX md_L_1112 ?_
  refine sp_sld (pc := 1113) hX hB md_L_1113 (fun v1 => ?_)
  refine sp_xload_n (pc := 1114) (k := 0) (i := 0) hX rfl 0 rfl md_L_1114 ?_
  refine sp_iload_n (pc := 1115) (k := 3) (i := 3) hX rfl 3 rfl md_L_1115 ?_
  refine sp_iconst (pc := 1116) hX md_L_1116 ?_
  refine sp_iadd (pc := 1117) hX md_L_1117 ?_
  refine sp_sld (pc := 1118) hX hB md_L_1118 (fun v2 => ?_)
  refine sp_xload_n (pc := 1119) (k := 0) (i := 0) hX rfl 0 rfl md_L_1119 ?_
  refine sp_iload_n (pc := 1120) (k := 3) (i := 3) hX rfl 3 rfl md_L_1120 ?_
  refine sp_iconst (pc := 1121) hX md_L_1121 ?_
  refine sp_iadd (pc := 1122) hX md_L_1122 ?_
  refine sp_sld (pc := 1123) hX hB md_L_1123 (fun v3 => ?_)
  refine sp_callVI (pc := 1124) (y := my_W_recurrence) (ccy := prog_1_method_26_code) (nLy := 4) (ret := (some .int)) (rmy := mr_W_recurrence) (n := 3) (idx := 114) (As := [.int (iI v1), .int (iI v2), .int (iI v3)]) (st := []) (o := x1) (cells' := 109) (slots' := 2510) hX (fun _ h => mc_W_recurrence h) mk_W_recurrence mv_W_recurrence mcl_9 (fun _ h => pw_gd_of h) mq_706 ⟨(Nat.le_of_ble_eq_true rfl), (Nat.le_of_ble_eq_true rfl)⟩ rfl rfl (Nat.le_of_ble_eq_true rfl) ⟨(Nat.le_of_ble_eq_true rfl), (Nat.le_of_ble_eq_true rfl)⟩ rfl rfl md_L_1124 (fun v5 s4 => ?_)
  refine sp_aload_n (pc := 1127) (k := 2) (i := 2) hX rfl 2 rfl md_L_1127 ?_
  refine sp_xload_n (pc := 1128) (k := 0) (i := 0) hX rfl 0 rfl md_L_1128 ?_
  refine sp_iload_n (pc := 1129) (k := 3) (i := 3) hX rfl 3 rfl md_L_1129 ?_
  refine sp_iconst (pc := 1130) hX md_L_1130 ?_
  refine sp_iadd (pc := 1131) hX md_L_1131 ?_
  refine sp_sld (pc := 1132) hX hB md_L_1132 (fun v6 => ?_)
  refine sp_xload_n (pc := 1133) (k := 0) (i := 0) hX rfl 0 rfl md_L_1133 ?_
  refine sp_iload_n (pc := 1134) (k := 3) (i := 3) hX rfl 3 rfl md_L_1134 ?_
  refine sp_iconst (pc := 1135) hX md_L_1135 ?_
  refine sp_iadd (pc := 1136) hX md_L_1136 ?_
  refine sp_sld (pc := 1137) hX hB md_L_1137 (fun v7 => ?_)
  refine sp_xload_n (pc := 1138) (k := 0) (i := 0) hX rfl 0 rfl md_L_1138 ?_
  refine sp_iload_n (pc := 1139) (k := 3) (i := 3) hX rfl 3 rfl md_L_1139 ?_
  refine sp_iconst (pc := 1140) hX md_L_1140 ?_
  refine sp_iadd (pc := 1141) hX md_L_1141 ?_
  refine sp_sld (pc := 1142) hX hB md_L_1142 (fun v8 => ?_)
  refine sp_callVI (pc := 1143) (y := my_M_recurrence) (ccy := prog_14_method_69_code) (nLy := 5) (ret := (some .int)) (rmy := mr_M_recurrence) (n := 3) (idx := 117) (As := [.int (iI v6), .int (iI v7), .int (iI v8)]) (st := [.int (iI v5)]) (o := x2) (cells' := 109) (slots' := 2510) hX (fun _ h => mc_M_recurrence h) mk_M_recurrence mv_M_recurrence mcl_10 (fun _ h => pw_gd_of h) mq_1121 ⟨(Nat.le_of_ble_eq_true rfl), (Nat.le_of_ble_eq_true rfl)⟩ rfl rfl (Nat.le_of_ble_eq_true rfl) ⟨(Nat.le_of_ble_eq_true rfl), (Nat.le_of_ble_eq_true rfl)⟩ rfl rfl md_L_1143 (fun v10 s9 => ?_)
  refine sp_icmp_eqN (pc := 1146) hX 1313 (by decide) md_L_1146 ?_
  exact hJ s9
set_option maxHeartbeats 4000000 in
set_option maxRecDepth 20000 in
theorem ls_25 {X : pw_X Unit} (hX : pw_Ok X code "PadeWorkbenchLaw" room_1 4) {bs Lx : Nat} {xs : Nat → Int} (hB : pw_Scr X bs Lx xs) {x1 x2 : Nat} {x3 : Int} {rj : pw_Sto → Option (Unit × pw_Sto)} (hJ : ∀ σ, pw_Sp X 109 2510 1313 [(0, Value.retAddr bs), (1, Value.ref x1), (2, Value.ref x2), (3, Value.int (iI x3))] [] σ (rj σ)) (σ : pw_Sto) : pw_Sp X 109 2510 1151 [(0, Value.retAddr bs), (1, Value.ref x1), (2, Value.ref x2), (3, Value.int (iI x3))] [] σ (lc_25 Lx xs x1 x2 x3 rj σ) := by
  unfold lc_25
  refine sp_aload_n (pc := 1151) (k := 1) (i := 1) hX rfl 1 rfl md_L_1151 ?_
  refine sp_xload_n (pc := 1152) (k := 0) (i := 0) hX rfl 0 rfl md_L_1152 ?_
  refine sp_iload_n (pc := 1153) (k := 3) (i := 3) hX rfl 3 rfl md_L_1153 ?_
  refine sp_iconst (pc := 1154) hX md_L_1154 ?_
  refine sp_iadd (pc := 1155) hX md_L_1155 ?_
  refine sp_sld (pc := 1156) hX hB md_L_1156 (fun v1 => ?_)
  refine sp_xload_n (pc := 1157) (k := 0) (i := 0) hX rfl 0 rfl md_L_1157 ?_
  refine sp_iload_n (pc := 1158) (k := 3) (i := 3) hX rfl 3 rfl md_L_1158 ?_
  refine sp_iconst (pc := 1159) hX md_L_1159 ?_
  refine sp_iadd (pc := 1160) hX md_L_1160 ?_
  refine sp_sld (pc := 1161) hX hB md_L_1161 (fun v2 => ?_)
  refine sp_callVI (pc := 1162) (y := my_W_addPoint) (ccy := prog_1_method_27_code) (nLy := 3) (ret := (some .int)) (rmy := mr_W_addPoint) (n := 2) (idx := 118) (As := [.int (iI v1), .int (iI v2)]) (st := []) (o := x1) (cells' := 109) (slots' := 2510) hX (fun _ h => mc_W_addPoint h) mk_W_addPoint mv_W_addPoint mcl_9 (fun _ h => pw_gd_of h) mq_711 ⟨(Nat.le_of_ble_eq_true rfl), (Nat.le_of_ble_eq_true rfl)⟩ rfl rfl (Nat.le_of_ble_eq_true rfl) ⟨(Nat.le_of_ble_eq_true rfl), (Nat.le_of_ble_eq_true rfl)⟩ rfl rfl md_L_1162 (fun v4 s3 => ?_)
  refine sp_aload_n (pc := 1165) (k := 2) (i := 2) hX rfl 2 rfl md_L_1165 ?_
  refine sp_xload_n (pc := 1166) (k := 0) (i := 0) hX rfl 0 rfl md_L_1166 ?_
  refine sp_iload_n (pc := 1167) (k := 3) (i := 3) hX rfl 3 rfl md_L_1167 ?_
  refine sp_iconst (pc := 1168) hX md_L_1168 ?_
  refine sp_iadd (pc := 1169) hX md_L_1169 ?_
  refine sp_sld (pc := 1170) hX hB md_L_1170 (fun v5 => ?_)
  refine sp_xload_n (pc := 1171) (k := 0) (i := 0) hX rfl 0 rfl md_L_1171 ?_
  refine sp_iload_n (pc := 1172) (k := 3) (i := 3) hX rfl 3 rfl md_L_1172 ?_
  refine sp_iconst (pc := 1173) hX md_L_1173 ?_
  refine sp_iadd (pc := 1174) hX md_L_1174 ?_
  refine sp_sld (pc := 1175) hX hB md_L_1175 (fun v6 => ?_)
  refine sp_callVI (pc := 1176) (y := my_M_addPoint) (ccy := prog_14_method_71_code) (nLy := 4) (ret := (some .int)) (rmy := mr_M_addPoint) (n := 2) (idx := 121) (As := [.int (iI v5), .int (iI v6)]) (st := [.int (iI v4)]) (o := x2) (cells' := 109) (slots' := 2510) hX (fun _ h => mc_M_addPoint h) mk_M_addPoint mv_M_addPoint mcl_10 (fun _ h => pw_gd_of h) mq_1125 ⟨(Nat.le_of_ble_eq_true rfl), (Nat.le_of_ble_eq_true rfl)⟩ rfl rfl (Nat.le_of_ble_eq_true rfl) ⟨(Nat.le_of_ble_eq_true rfl), (Nat.le_of_ble_eq_true rfl)⟩ rfl rfl md_L_1176 (fun v8 s7 => ?_)
  refine sp_icmp_eqN (pc := 1179) hX 1313 (by decide) md_L_1179 ?_
  exact hJ s7
set_option maxHeartbeats 4000000 in
set_option maxRecDepth 20000 in
theorem ls_26 {X : pw_X Unit} (hX : pw_Ok X code "PadeWorkbenchLaw" room_1 4) {bs Lx : Nat} {xs : Nat → Int} (hB : pw_Scr X bs Lx xs) {x1 x2 : Nat} {x3 : Int} {rj : pw_Sto → Option (Unit × pw_Sto)} (hJ : ∀ σ, pw_Sp X 109 2510 1313 [(0, Value.retAddr bs), (1, Value.ref x1), (2, Value.ref x2), (3, Value.int (iI x3))] [] σ (rj σ)) (σ : pw_Sto) : pw_Sp X 109 2510 1184 [(0, Value.retAddr bs), (1, Value.ref x1), (2, Value.ref x2), (3, Value.int (iI x3))] [] σ (lc_26 Lx xs x1 x2 x3 rj σ) := by
  unfold lc_26
  refine sp_aload_n (pc := 1184) (k := 1) (i := 1) hX rfl 1 rfl md_L_1184 ?_
  refine sp_callVI (pc := 1185) (y := my_W_clearPoints) (ccy := prog_1_method_28_code) (nLy := 2) (ret := (some .int)) (rmy := mr_W_clearPoints) (n := 0) (idx := 122) (As := []) (st := []) (o := x1) (cells' := 109) (slots' := 2510) hX (fun _ h => mc_W_clearPoints h) mk_W_clearPoints mv_W_clearPoints mcl_9 (fun _ h => pw_gd_of h) mq_723 ⟨(Nat.le_of_ble_eq_true rfl), (Nat.le_of_ble_eq_true rfl)⟩ rfl rfl (Nat.le_of_ble_eq_true rfl) ⟨(Nat.le_of_ble_eq_true rfl), (Nat.le_of_ble_eq_true rfl)⟩ rfl rfl md_L_1185 (fun v2 s1 => ?_)
  refine sp_aload_n (pc := 1188) (k := 2) (i := 2) hX rfl 2 rfl md_L_1188 ?_
  refine sp_callVI (pc := 1189) (y := my_M_clearPoints) (ccy := prog_14_method_72_code) (nLy := 3) (ret := (some .int)) (rmy := mr_M_clearPoints) (n := 0) (idx := 125) (As := []) (st := [.int (iI v2)]) (o := x2) (cells' := 109) (slots' := 2510) hX (fun _ h => mc_M_clearPoints h) mk_M_clearPoints mv_M_clearPoints mcl_10 (fun _ h => pw_gd_of h) mq_1133 ⟨(Nat.le_of_ble_eq_true rfl), (Nat.le_of_ble_eq_true rfl)⟩ rfl rfl (Nat.le_of_ble_eq_true rfl) ⟨(Nat.le_of_ble_eq_true rfl), (Nat.le_of_ble_eq_true rfl)⟩ rfl rfl md_L_1189 (fun v4 s3 => ?_)
  refine sp_icmp_eqN (pc := 1192) hX 1313 (by decide) md_L_1192 ?_
  exact hJ s3
set_option maxHeartbeats 4000000 in
set_option maxRecDepth 20000 in
theorem ls_27 {X : pw_X Unit} (hX : pw_Ok X code "PadeWorkbenchLaw" room_1 4) {bs Lx : Nat} {xs : Nat → Int} (hB : pw_Scr X bs Lx xs) {x1 x2 : Nat} {x3 : Int} {rj : pw_Sto → Option (Unit × pw_Sto)} (hJ : ∀ σ, pw_Sp X 109 2510 1313 [(0, Value.retAddr bs), (1, Value.ref x1), (2, Value.ref x2), (3, Value.int (iI x3))] [] σ (rj σ)) (σ : pw_Sto) : pw_Sp X 109 2510 1197 [(0, Value.retAddr bs), (1, Value.ref x1), (2, Value.ref x2), (3, Value.int (iI x3))] [] σ (lc_27 Lx xs x1 x2 x3 rj σ) := by
  unfold lc_27
  refine sp_aload_n (pc := 1197) (k := 1) (i := 1) hX rfl 1 rfl md_L_1197 ?_
  refine sp_xload_n (pc := 1198) (k := 0) (i := 0) hX rfl 0 rfl md_L_1198 ?_
  refine sp_iload_n (pc := 1199) (k := 3) (i := 3) hX rfl 3 rfl md_L_1199 ?_
  refine sp_iconst (pc := 1200) hX md_L_1200 ?_
  refine sp_iadd (pc := 1201) hX md_L_1201 ?_
  refine sp_sld (pc := 1202) hX hB md_L_1202 (fun v1 => ?_)
  refine sp_xload_n (pc := 1203) (k := 0) (i := 0) hX rfl 0 rfl md_L_1203 ?_
  refine sp_iload_n (pc := 1204) (k := 3) (i := 3) hX rfl 3 rfl md_L_1204 ?_
  refine sp_iconst (pc := 1205) hX md_L_1205 ?_
  refine sp_iadd (pc := 1206) hX md_L_1206 ?_
  refine sp_sld (pc := 1207) hX hB md_L_1207 (fun v2 => ?_)
  refine sp_xload_n (pc := 1208) (k := 0) (i := 0) hX rfl 0 rfl md_L_1208 ?_
  refine sp_iload_n (pc := 1209) (k := 3) (i := 3) hX rfl 3 rfl md_L_1209 ?_
  refine sp_iconst (pc := 1210) hX md_L_1210 ?_
  refine sp_iadd (pc := 1211) hX md_L_1211 ?_
  refine sp_sld (pc := 1212) hX hB md_L_1212 (fun v3 => ?_)
  refine sp_callVI (pc := 1213) (y := my_W_interpolant) (ccy := prog_1_method_29_code) (nLy := 4) (ret := (some .int)) (rmy := mr_W_interpolant) (n := 3) (idx := 126) (As := [.int (iI v1), .int (iI v2), .int (iI v3)]) (st := []) (o := x1) (cells' := 109) (slots' := 2510) hX (fun _ h => mc_W_interpolant h) mk_W_interpolant mv_W_interpolant mcl_9 (fun _ h => pw_gd_of h) mq_727 ⟨(Nat.le_of_ble_eq_true rfl), (Nat.le_of_ble_eq_true rfl)⟩ rfl rfl (Nat.le_of_ble_eq_true rfl) ⟨(Nat.le_of_ble_eq_true rfl), (Nat.le_of_ble_eq_true rfl)⟩ rfl rfl md_L_1213 (fun v5 s4 => ?_)
  refine sp_aload_n (pc := 1216) (k := 2) (i := 2) hX rfl 2 rfl md_L_1216 ?_
  refine sp_xload_n (pc := 1217) (k := 0) (i := 0) hX rfl 0 rfl md_L_1217 ?_
  refine sp_iload_n (pc := 1218) (k := 3) (i := 3) hX rfl 3 rfl md_L_1218 ?_
  refine sp_iconst (pc := 1219) hX md_L_1219 ?_
  refine sp_iadd (pc := 1220) hX md_L_1220 ?_
  refine sp_sld (pc := 1221) hX hB md_L_1221 (fun v6 => ?_)
  refine sp_xload_n (pc := 1222) (k := 0) (i := 0) hX rfl 0 rfl md_L_1222 ?_
  refine sp_iload_n (pc := 1223) (k := 3) (i := 3) hX rfl 3 rfl md_L_1223 ?_
  refine sp_iconst (pc := 1224) hX md_L_1224 ?_
  refine sp_iadd (pc := 1225) hX md_L_1225 ?_
  refine sp_sld (pc := 1226) hX hB md_L_1226 (fun v7 => ?_)
  refine sp_xload_n (pc := 1227) (k := 0) (i := 0) hX rfl 0 rfl md_L_1227 ?_
  refine sp_iload_n (pc := 1228) (k := 3) (i := 3) hX rfl 3 rfl md_L_1228 ?_
  refine sp_iconst (pc := 1229) hX md_L_1229 ?_
  refine sp_iadd (pc := 1230) hX md_L_1230 ?_
  refine sp_sld (pc := 1231) hX hB md_L_1231 (fun v8 => ?_)
  refine sp_callVI (pc := 1232) (y := my_M_interpolant) (ccy := prog_14_method_75_code) (nLy := 4) (ret := (some .int)) (rmy := mr_M_interpolant) (n := 3) (idx := 129) (As := [.int (iI v6), .int (iI v7), .int (iI v8)]) (st := [.int (iI v5)]) (o := x2) (cells' := 109) (slots' := 2510) hX (fun _ h => mc_M_interpolant h) mk_M_interpolant mv_M_interpolant mcl_10 (fun _ h => pw_gd_of h) mq_1137 ⟨(Nat.le_of_ble_eq_true rfl), (Nat.le_of_ble_eq_true rfl)⟩ rfl rfl (Nat.le_of_ble_eq_true rfl) ⟨(Nat.le_of_ble_eq_true rfl), (Nat.le_of_ble_eq_true rfl)⟩ rfl rfl md_L_1232 (fun v10 s9 => ?_)
  refine sp_icmp_eqN (pc := 1235) hX 1313 (by decide) md_L_1235 ?_
  exact hJ s9
set_option maxHeartbeats 4000000 in
set_option maxRecDepth 20000 in
theorem ls_28 {X : pw_X Unit} (hX : pw_Ok X code "PadeWorkbenchLaw" room_1 4) {bs Lx : Nat} {xs : Nat → Int} (hB : pw_Scr X bs Lx xs) {x1 x2 : Nat} {x3 : Int} {rj : pw_Sto → Option (Unit × pw_Sto)} (hJ : ∀ σ, pw_Sp X 109 2510 1313 [(0, Value.retAddr bs), (1, Value.ref x1), (2, Value.ref x2), (3, Value.int (iI x3))] [] σ (rj σ)) (σ : pw_Sto) : pw_Sp X 109 2510 1240 [(0, Value.retAddr bs), (1, Value.ref x1), (2, Value.ref x2), (3, Value.int (iI x3))] [] σ (lc_28 Lx xs x1 x2 x3 rj σ) := by
  unfold lc_28
  refine sp_aload_n (pc := 1240) (k := 1) (i := 1) hX rfl 1 rfl md_L_1240 ?_
  refine sp_xload_n (pc := 1241) (k := 0) (i := 0) hX rfl 0 rfl md_L_1241 ?_
  refine sp_iload_n (pc := 1242) (k := 3) (i := 3) hX rfl 3 rfl md_L_1242 ?_
  refine sp_iconst (pc := 1243) hX md_L_1243 ?_
  refine sp_iadd (pc := 1244) hX md_L_1244 ?_
  refine sp_sld (pc := 1245) hX hB md_L_1245 (fun v1 => ?_)
  refine sp_callVI (pc := 1246) (y := my_W_unattainable) (ccy := prog_1_method_30_code) (nLy := 2) (ret := (some .int)) (rmy := mr_W_unattainable) (n := 1) (idx := 130) (As := [.int (iI v1)]) (st := []) (o := x1) (cells' := 109) (slots' := 2510) hX (fun _ h => mc_W_unattainable h) mk_W_unattainable mv_W_unattainable mcl_9 (fun _ h => pw_gd_of h) mq_751 ⟨(Nat.le_of_ble_eq_true rfl), (Nat.le_of_ble_eq_true rfl)⟩ rfl rfl (Nat.le_of_ble_eq_true rfl) ⟨(Nat.le_of_ble_eq_true rfl), (Nat.le_of_ble_eq_true rfl)⟩ rfl rfl md_L_1246 (fun v3 s2 => ?_)
  refine sp_aload_n (pc := 1249) (k := 2) (i := 2) hX rfl 2 rfl md_L_1249 ?_
  refine sp_xload_n (pc := 1250) (k := 0) (i := 0) hX rfl 0 rfl md_L_1250 ?_
  refine sp_iload_n (pc := 1251) (k := 3) (i := 3) hX rfl 3 rfl md_L_1251 ?_
  refine sp_iconst (pc := 1252) hX md_L_1252 ?_
  refine sp_iadd (pc := 1253) hX md_L_1253 ?_
  refine sp_sld (pc := 1254) hX hB md_L_1254 (fun v4 => ?_)
  refine sp_callVI (pc := 1255) (y := my_M_unattainable) (ccy := prog_14_method_76_code) (nLy := 2) (ret := (some .int)) (rmy := mr_M_unattainable) (n := 1) (idx := 133) (As := [.int (iI v4)]) (st := [.int (iI v3)]) (o := x2) (cells' := 109) (slots' := 2510) hX (fun _ h => mc_M_unattainable h) mk_M_unattainable mv_M_unattainable mcl_10 (fun _ h => pw_gd_of h) mq_1145 ⟨(Nat.le_of_ble_eq_true rfl), (Nat.le_of_ble_eq_true rfl)⟩ rfl rfl (Nat.le_of_ble_eq_true rfl) ⟨(Nat.le_of_ble_eq_true rfl), (Nat.le_of_ble_eq_true rfl)⟩ rfl rfl md_L_1255 (fun v6 s5 => ?_)
  refine sp_icmp_eqN (pc := 1258) hX 1313 (by decide) md_L_1258 ?_
  exact hJ s5
set_option maxHeartbeats 4000000 in
set_option maxRecDepth 20000 in
theorem ls_29 {X : pw_X Unit} (hX : pw_Ok X code "PadeWorkbenchLaw" room_1 4) {bs Lx : Nat} {xs : Nat → Int} (hB : pw_Scr X bs Lx xs) {x1 x2 : Nat} {x3 : Int} {rj : pw_Sto → Option (Unit × pw_Sto)} (hJ : ∀ σ, pw_Sp X 109 2510 1313 [(0, Value.retAddr bs), (1, Value.ref x1), (2, Value.ref x2), (3, Value.int (iI x3))] [] σ (rj σ)) (σ : pw_Sto) : pw_Sp X 109 2510 1263 [(0, Value.retAddr bs), (1, Value.ref x1), (2, Value.ref x2), (3, Value.int (iI x3))] [] σ (lc_29 Lx xs x1 x2 x3 rj σ) := by
  unfold lc_29
  refine sp_aload_n (pc := 1263) (k := 1) (i := 1) hX rfl 1 rfl md_L_1263 ?_
  refine sp_callVI (pc := 1264) (y := my_W_undo) (ccy := prog_1_method_31_code) (nLy := 1) (ret := (some .int)) (rmy := mr_W_undo) (n := 0) (idx := 134) (As := []) (st := []) (o := x1) (cells' := 109) (slots' := 2510) hX (fun _ h => mc_W_undo h) mk_W_undo mv_W_undo mcl_9 (fun _ h => pw_gd_of h) mq_764 ⟨(Nat.le_of_ble_eq_true rfl), (Nat.le_of_ble_eq_true rfl)⟩ rfl rfl (Nat.le_of_ble_eq_true rfl) ⟨(Nat.le_of_ble_eq_true rfl), (Nat.le_of_ble_eq_true rfl)⟩ rfl rfl md_L_1264 (fun v2 s1 => ?_)
  refine sp_aload_n (pc := 1267) (k := 2) (i := 2) hX rfl 2 rfl md_L_1267 ?_
  refine sp_callVI (pc := 1268) (y := my_M_undo) (ccy := prog_14_method_77_code) (nLy := 2) (ret := (some .int)) (rmy := mr_M_undo) (n := 0) (idx := 137) (As := []) (st := [.int (iI v2)]) (o := x2) (cells' := 109) (slots' := 2510) hX (fun _ h => mc_M_undo h) mk_M_undo mv_M_undo mcl_10 (fun _ h => pw_gd_of h) mq_1153 ⟨(Nat.le_of_ble_eq_true rfl), (Nat.le_of_ble_eq_true rfl)⟩ rfl rfl (Nat.le_of_ble_eq_true rfl) ⟨(Nat.le_of_ble_eq_true rfl), (Nat.le_of_ble_eq_true rfl)⟩ rfl rfl md_L_1268 (fun v4 s3 => ?_)
  refine sp_icmp_eqN (pc := 1271) hX 1313 (by decide) md_L_1271 ?_
  exact hJ s3
set_option maxHeartbeats 4000000 in
set_option maxRecDepth 20000 in
theorem ls_30 {X : pw_X Unit} (hX : pw_Ok X code "PadeWorkbenchLaw" room_1 4) {bs Lx : Nat} {xs : Nat → Int} (hB : pw_Scr X bs Lx xs) {x1 x2 : Nat} {x3 : Int} {rj : pw_Sto → Option (Unit × pw_Sto)} (hJ : ∀ σ, pw_Sp X 109 2510 1313 [(0, Value.retAddr bs), (1, Value.ref x1), (2, Value.ref x2), (3, Value.int (iI x3))] [] σ (rj σ)) (σ : pw_Sto) : pw_Sp X 109 2510 1276 [(0, Value.retAddr bs), (1, Value.ref x1), (2, Value.ref x2), (3, Value.int (iI x3))] [] σ (lc_30 Lx xs x1 x2 x3 rj σ) := by
  unfold lc_30
  refine sp_aload_n (pc := 1276) (k := 1) (i := 1) hX rfl 1 rfl md_L_1276 ?_
  refine sp_xload_n (pc := 1277) (k := 0) (i := 0) hX rfl 0 rfl md_L_1277 ?_
  refine sp_iload_n (pc := 1278) (k := 3) (i := 3) hX rfl 3 rfl md_L_1278 ?_
  refine sp_iconst (pc := 1279) hX md_L_1279 ?_
  refine sp_iadd (pc := 1280) hX md_L_1280 ?_
  refine sp_sld (pc := 1281) hX hB md_L_1281 (fun v1 => ?_)
  refine sp_callVI (pc := 1282) (y := my_W_errorCount) (ccy := prog_1_method_32_code) (nLy := 2) (ret := (some .int)) (rmy := mr_W_errorCount) (n := 1) (idx := 138) (As := [.int (iI v1)]) (st := []) (o := x1) (cells' := 109) (slots' := 2510) hX (fun _ h => mc_W_errorCount h) mk_W_errorCount mv_W_errorCount mcl_9 (fun _ h => pw_gd_of h) mq_772 ⟨(Nat.le_of_ble_eq_true rfl), (Nat.le_of_ble_eq_true rfl)⟩ rfl rfl (Nat.le_of_ble_eq_true rfl) ⟨(Nat.le_of_ble_eq_true rfl), (Nat.le_of_ble_eq_true rfl)⟩ rfl rfl md_L_1282 (fun v3 s2 => ?_)
  refine sp_aload_n (pc := 1285) (k := 2) (i := 2) hX rfl 2 rfl md_L_1285 ?_
  refine sp_xload_n (pc := 1286) (k := 0) (i := 0) hX rfl 0 rfl md_L_1286 ?_
  refine sp_iload_n (pc := 1287) (k := 3) (i := 3) hX rfl 3 rfl md_L_1287 ?_
  refine sp_iconst (pc := 1288) hX md_L_1288 ?_
  refine sp_iadd (pc := 1289) hX md_L_1289 ?_
  refine sp_sld (pc := 1290) hX hB md_L_1290 (fun v4 => ?_)
  refine sp_callVI (pc := 1291) (y := my_M_errorCount) (ccy := prog_14_method_78_code) (nLy := 2) (ret := (some .int)) (rmy := mr_M_errorCount) (n := 1) (idx := 141) (As := [.int (iI v4)]) (st := [.int (iI v3)]) (o := x2) (cells' := 109) (slots' := 2510) hX (fun _ h => mc_M_errorCount h) mk_M_errorCount mv_M_errorCount mcl_10 (fun _ h => pw_gd_of h) mq_1157 ⟨(Nat.le_of_ble_eq_true rfl), (Nat.le_of_ble_eq_true rfl)⟩ rfl rfl (Nat.le_of_ble_eq_true rfl) ⟨(Nat.le_of_ble_eq_true rfl), (Nat.le_of_ble_eq_true rfl)⟩ rfl rfl md_L_1291 (fun v6 s5 => ?_)
  refine sp_icmp_eqN (pc := 1294) hX 1313 (by decide) md_L_1294 ?_
  exact hJ s5
set_option maxHeartbeats 4000000 in
set_option maxRecDepth 20000 in
theorem ls_31 {X : pw_X Unit} (hX : pw_Ok X code "PadeWorkbenchLaw" room_1 4) {bs Lx : Nat} {xs : Nat → Int} (hB : pw_Scr X bs Lx xs) {x1 x2 : Nat} {x3 : Int} {rj : pw_Sto → Option (Unit × pw_Sto)} (hJ : ∀ σ, pw_Sp X 109 2510 1313 [(0, Value.retAddr bs), (1, Value.ref x1), (2, Value.ref x2), (3, Value.int (iI x3))] [] σ (rj σ)) (σ : pw_Sto) : pw_Sp X 109 2510 1299 [(0, Value.retAddr bs), (1, Value.ref x1), (2, Value.ref x2), (3, Value.int (iI x3))] [] σ (lc_31 Lx xs x1 x2 x3 rj σ) := by
  unfold lc_31
  refine sp_aload_n (pc := 1299) (k := 1) (i := 1) hX rfl 1 rfl md_L_1299 ?_
  refine sp_callVL (pc := 1300) (y := my_W_digest) (ccy := prog_1_method_33_code) (nLy := 4) (ret := (some .long)) (rmy := mr_W_digest) (n := 0) (idx := 142) (As := []) (st := []) (o := x1) (cells' := 109) (slots' := 2510) hX (fun _ h => mc_W_digest h) mk_W_digest mv_W_digest mcl_9 (fun _ h => pw_gd_of h) mq_776 ⟨(Nat.le_of_ble_eq_true rfl), (Nat.le_of_ble_eq_true rfl)⟩ rfl rfl (Nat.le_of_ble_eq_true rfl) ⟨(Nat.le_of_ble_eq_true rfl), (Nat.le_of_ble_eq_true rfl)⟩ rfl rfl md_L_1300 (fun v2 s1 => ?_)
  refine sp_aload_n (pc := 1303) (k := 2) (i := 2) hX rfl 2 rfl md_L_1303 ?_
  refine sp_callVL (pc := 1304) (y := my_M_digest) (ccy := prog_14_method_79_code) (nLy := 5) (ret := (some .long)) (rmy := mr_M_digest) (n := 0) (idx := 146) (As := []) (st := [.long v2]) (o := x2) (cells' := 109) (slots' := 2510) hX (fun _ h => mc_M_digest h) mk_M_digest mv_M_digest mcl_10 (fun _ h => pw_gd_of h) mq_1161 ⟨(Nat.le_of_ble_eq_true rfl), (Nat.le_of_ble_eq_true rfl)⟩ rfl rfl (Nat.le_of_ble_eq_true rfl) ⟨(Nat.le_of_ble_eq_true rfl), (Nat.le_of_ble_eq_true rfl)⟩ rfl rfl md_L_1304 (fun v4 s3 => ?_)
  refine sp_lcmp (pc := 1307) hX md_L_1307 ?_
  refine sp_lif_eqN (pc := 1308) hX 1313 (by decide) md_L_1308 ?_
  exact hJ s3
def lb_law (Lx : Nat) (xs : Nat → Int) (rc : Nat → Nat → Int → pw_Sto → Option (Unit × pw_Sto)) : Nat → Nat → Int → pw_Sto → Option (Unit × pw_Sto) := fun x1 x2 x3 σ => pw_ck x3 ((Lx : Int) - 5) (if (Lx : Int) - 5 < x3 then some ((), σ) else (pw_sx Lx xs x3).bind (fun v => lg_case Lx xs x1 x2 x3 (fun s => rc x1 x2 (x3 + 5) s) σ (v % 32).toNat))
def ll_law (Lx : Nat) (xs : Nat → Int) : Nat → Nat → Nat → Int → pw_Sto → Option (Unit × pw_Sto) := pw_lp (fun _ _ _ _ => none) (lb_law Lx xs)
def lg_tg : Nat → Nat := fun k => match k with | 0 => 176 | 1 => 199 | 2 => 242 | 3 => 275 | 4 => 318 | 5 => 361 | 6 => 394 | 7 => 437 | 8 => 470 | 9 => 493 | 10 => 506 | 11 => 529 | 12 => 572 | 13 => 615 | 14 => 668 | 15 => 721 | 16 => 764 | 17 => 807 | 18 => 860 | 19 => 893 | 20 => 936 | 21 => 989 | 22 => 1022 | 23 => 1075 | 24 => 1108 | 25 => 1151 | 26 => 1184 | 27 => 1197 | 28 => 1240 | 29 => 1263 | 30 => 1276 | 31 => 1299 | _ => 0
theorem lg_tg_ok : ∀ k, k < 32 → ∃ off, (#[144, 167, 210, 243, 286, 329, 362, 405, 438, 461, 474, 497, 540, 583, 636, 689, 732, 775, 828, 861, 904, 957, 990, 1043, 1076, 1119, 1152, 1165, 1208, 1231, 1244, 1267] : Array Int)[k]? = some off ∧ ((32 : Nat) : Int) + off = (lg_tg k : Int) := by
  intro k hk
  have h : (#[144, 167, 210, 243, 286, 329, 362, 405, 438, 461, 474, 497, 540, 583, 636, 689, 732, 775, 828, 861, 904, 957, 990, 1043, 1076, 1119, 1152, 1165, 1208, 1231, 1244, 1267] : Array Int)[k]? = some ((lg_tg k : Int) - 32) := by
    revert k
    decide +kernel
  exact ⟨_, h, by omega⟩
def pw_RW (X : pw_X Unit) : Prop := ∀ (ls : Array Slot) (σ : pw_Sto) (H : Heap) (locs : List Loc) (cells slots : Nat), cells ≤ 600000 → slots ≤ 7302250 → some ((), σ) = some X.2.2.2.1 → va_S (fun q => X.2.2.1.1 ≤ q) X.1.2.2.2.2.1.heap H locs → pw_W X H locs cells slots (F0 X.1.2.2.2.2.2.1 1320 ls [.int 1])

set_option maxHeartbeats 4000000 in
set_option maxRecDepth 20000 in
theorem lsl_law {X : pw_X Unit} (hX : pw_Ok X code "PadeWorkbenchLaw" room_1 4) (hR : pw_RW X) {bs Lx : Nat} {xs : Nat → Int} (hB : pw_Scr X bs Lx xs) : ∀ (n : Nat) (x1 x2 : Nat) (x3 : Int) (σ : pw_Sto), pw_Sp X 109 2510 18 [(0, Value.retAddr bs), (1, Value.ref x1), (2, Value.ref x2), (3, Value.int (iI x3))] [] σ (ll_law Lx xs n x1 x2 x3 σ) := by
  intro n
  induction n with
  | zero => intros; exact pw_none
  | succ n ih =>
    intro x1 x2 x3 σ
    show pw_Sp X 109 2510 18 _ _ σ (lb_law Lx xs (ll_law Lx xs n) x1 x2 x3 σ)
    unfold lb_law
    refine sp_iload_n (pc := 18) (k := 3) (i := 3) hX rfl 3 rfl md_L_18 ?_
    refine sp_xload_n (pc := 19) (k := 0) (i := 0) hX rfl 0 rfl md_L_19 ?_
    refine sp_slen (pc := 20) hX hB md_L_20 ?_
    refine sp_iconst (pc := 21) hX md_L_21 ?_
    refine sp_isub (pc := 22) hX md_L_22 ?_
    refine sp_icmp_gt (pc := 23) hX 1319 (by decide) md_L_23 (fun _ => ?_) (fun _ => ?_)
    · refine sp_iconst (pc := 1319) hX md_L_1319 ?_
      intro hF hN H locs ls hl hH hS
      exact hR ls σ H locs 109 2510 (Nat.le_of_ble_eq_true rfl) (Nat.le_of_ble_eq_true rfl) hF hS
    · refine sp_xload_n (pc := 26) (k := 0) (i := 0) hX rfl 0 rfl md_L_26 ?_
      refine sp_iload_n (pc := 27) (k := 3) (i := 3) hX rfl 3 rfl md_L_27 ?_
      refine sp_sld (pc := 28) hX hB md_L_28 (fun v => ?_)
      refine sp_bipush (pc := 29) hX (by decide) md_L_29 ?_
      refine sp_iand31 (pc := 31) hX md_L_31 ?_
      refine sp_table (pc := 32) hX md_L_32 lg_tg lg_tg_ok (by omega) (g := fun k => lg_case Lx xs x1 x2 x3 (fun s => ll_law Lx xs n x1 x2 (x3 + 5) s) σ k) (fun k hk => ?_)
      have hJ : ∀ σ, pw_Sp X 109 2510 1313 [(0, Value.retAddr bs), (1, Value.ref x1), (2, Value.ref x2), (3, Value.int (iI x3))] [] σ (ll_law Lx xs n x1 x2 (x3 + 5) σ) := by
        intro σ
        refine sp_iinc (pc := 1313) (i := 3) (L' := [(3, Value.int (iI (x3 + 5))), (0, Value.retAddr bs), (1, Value.ref x1), (2, Value.ref x2)]) hX 3 rfl (by decide) rfl md_L_1313 ?_
        refine sp_goto (pc := 1316) hX 18 (by decide) md_L_1316 ?_
        refine sp_sub [1, 2, 3, 0] (L' := [(0, Value.retAddr bs), (1, Value.ref x1), (2, Value.ref x2), (3, Value.int (iI (x3 + 5)))]) rfl ?_
        exact ih x1 x2 (x3 + 5) σ
      have hk2 : k = 0 ∨ k = 1 ∨ k = 2 ∨ k = 3 ∨ k = 4 ∨ k = 5 ∨ k = 6 ∨ k = 7 ∨ k = 8 ∨ k = 9 ∨ k = 10 ∨ k = 11 ∨ k = 12 ∨ k = 13 ∨ k = 14 ∨ k = 15 ∨ k = 16 ∨ k = 17 ∨ k = 18 ∨ k = 19 ∨ k = 20 ∨ k = 21 ∨ k = 22 ∨ k = 23 ∨ k = 24 ∨ k = 25 ∨ k = 26 ∨ k = 27 ∨ k = 28 ∨ k = 29 ∨ k = 30 ∨ k = 31 := by omega
      rcases hk2 with rfl | rfl | rfl | rfl | rfl | rfl | rfl | rfl | rfl | rfl | rfl | rfl | rfl | rfl | rfl | rfl | rfl | rfl | rfl | rfl | rfl | rfl | rfl | rfl | rfl | rfl | rfl | rfl | rfl | rfl | rfl | rfl
      · exact ls_0 hX hB hJ σ
      · exact ls_1 hX hB hJ σ
      · exact ls_2 hX hB hJ σ
      · exact ls_3 hX hB hJ σ
      · exact ls_4 hX hB hJ σ
      · exact ls_5 hX hB hJ σ
      · exact ls_6 hX hB hJ σ
      · exact ls_7 hX hB hJ σ
      · exact ls_8 hX hB hJ σ
      · exact ls_9 hX hB hJ σ
      · exact ls_10 hX hB hJ σ
      · exact ls_11 hX hB hJ σ
      · exact ls_12 hX hB hJ σ
      · exact ls_13 hX hB hJ σ
      · exact ls_14 hX hB hJ σ
      · exact ls_15 hX hB hJ σ
      · exact ls_16 hX hB hJ σ
      · exact ls_17 hX hB hJ σ
      · exact ls_18 hX hB hJ σ
      · exact ls_19 hX hB hJ σ
      · exact ls_20 hX hB hJ σ
      · exact ls_21 hX hB hJ σ
      · exact ls_22 hX hB hJ σ
      · exact ls_23 hX hB hJ σ
      · exact ls_24 hX hB hJ σ
      · exact ls_25 hX hB hJ σ
      · exact ls_26 hX hB hJ σ
      · exact ls_27 hX hB hJ σ
      · exact ls_28 hX hB hJ σ
      · exact ls_29 hX hB hJ σ
      · exact ls_30 hX hB hJ σ
      · exact ls_31 hX hB hJ σ

def lf_law (Lx : Nat) (xs : Nat → Int) (σ : pw_Sto) : Option (Unit × pw_Sto) := pw_bd (pw_nw 9 σ) (fun v1 s1 => pw_bd (mf_W_init v1 s1) (fun _ s2 => pw_bd (pw_nw 10 s2) (fun v2 s3 => pw_bd (mf_M_init v2 s3) (fun _ s4 => ll_law Lx xs 1000 v1 v2 0 s4))))

set_option maxHeartbeats 4000000 in
set_option maxRecDepth 20000 in
theorem lss_law {X : pw_X Unit} (hX : pw_Ok X code "PadeWorkbenchLaw" room_1 4) (hR : pw_RW X) {bs Lx : Nat} {xs : Nat → Int} (hB : pw_Scr X bs Lx xs) (σ : pw_Sto) : pw_Sp X 0 0 0 [(0, Value.retAddr bs)] [] σ (lf_law Lx xs σ) := by
  unfold lf_law
  refine sp_new (pc := 0) (ci := 9) (idx := 7) (slots' := 11) hX mcl_9 mdf_9 mq_84 mq_85 mq_69 (Nat.le_of_ble_eq_true rfl) (Nat.le_of_ble_eq_true rfl) rfl md_L_0 (fun v1 s1 => ?_)
  refine sp_dup (pc := 3) hX rfl md_L_3 ?_
  refine sp_callIV (pc := 4) (y := my_W_init) (ccy := prog_1_method_1_code) (nLy := 1) (rmy := mr_W_init) (n := 0) (idx := 9) (As := []) (st := [.ref v1]) (o := v1) (cells' := 91) (slots' := 1139) hX (fun _ h => mc_W_init h) mk_W_init mq_87 rfl mq_86 ⟨(Nat.le_of_ble_eq_true rfl), (Nat.le_of_ble_eq_true rfl)⟩ rfl rfl (Nat.le_of_ble_eq_true rfl) ⟨(Nat.le_of_ble_eq_true rfl), (Nat.le_of_ble_eq_true rfl)⟩ rfl rfl md_L_4 (fun s2 => ?_)
  refine sp_astore_n (pc := 7) (k := 1) (i := 1) (L' := [(1, Value.ref v1), (0, Value.retAddr bs)]) hX rfl (by decide) rfl md_L_7 ?_
  refine sp_new (pc := 8) (ci := 10) (idx := 10) (slots' := 1159) hX mcl_10 mdf_10 mq_793 mq_794 mq_79 (Nat.le_of_ble_eq_true rfl) (Nat.le_of_ble_eq_true rfl) rfl md_L_8 (fun v2 s3 => ?_)
  refine sp_dup (pc := 11) hX rfl md_L_11 ?_
  refine sp_callIV (pc := 12) (y := my_M_init) (ccy := prog_14_method_1_code) (nLy := 1) (rmy := mr_M_init) (n := 0) (idx := 12) (As := []) (st := [.ref v2]) (o := v2) (cells' := 109) (slots' := 2510) hX (fun _ h => mc_M_init h) mk_M_init mq_796 rfl mq_795 ⟨(Nat.le_of_ble_eq_true rfl), (Nat.le_of_ble_eq_true rfl)⟩ rfl rfl (Nat.le_of_ble_eq_true rfl) ⟨(Nat.le_of_ble_eq_true rfl), (Nat.le_of_ble_eq_true rfl)⟩ rfl rfl md_L_12 (fun s4 => ?_)
  refine sp_astore_n (pc := 15) (k := 2) (i := 2) (L' := [(2, Value.ref v2), (1, Value.ref v1), (0, Value.retAddr bs)]) hX rfl (by decide) rfl md_L_15 ?_
  refine sp_iconst (pc := 16) hX md_L_16 ?_
  refine sp_istore_n (pc := 17) (k := 3) (i := 3) (L' := [(3, Value.int (iI 0)), (2, Value.ref v2), (1, Value.ref v1), (0, Value.retAddr bs)]) hX rfl (by decide) rfl md_L_17 ?_
  refine sp_sub [3, 2, 1, 0] (L' := [(0, Value.retAddr bs), (1, Value.ref v1), (2, Value.ref v2), (3, Value.int (iI 0))]) rfl ?_
  exact lsl_law hX hR hB 1000 v1 v2 0 s4

