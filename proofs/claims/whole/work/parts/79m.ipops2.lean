section
theorem e_W_isInt {A : ASt} {m : Int} {σ : pw_Sto} {T : Nat → Int} {len : Nat} {E : Nat → Int} {Hs : List ASt} (hC : CR σ A T len E Hs) (hV : VA A) (hm : pw_R m) : mf_W_isInterpolant 0 m σ = some (if 0 ≤ m ∧ m < A.2.2.1 then 1 else 0, σ) := by
  have hN := hC.1.1
  have h10 := hV.2.2.1
  have s0 := sh_0
  have s1 := sh_1
  have a1 : σ.2.1 1 2 = A.2.2.1 := hC.2.2.1.2.2.1
  unfold mf_W_isInterpolant
  rw [ex_gd (by omega) (by omega), pw_ck_ok hm (by omega)]
  by_cases c1 : m < 0
  · rw [if_pos c1, if_neg (by omega)]
  · rw [if_neg c1, ex_gr (by omega) (by omega), lr_0_0 hC.1, Option.bind_some, ex_gi (by omega) (by omega), Option.bind_some, a1, pw_ck_ok hm (by omega)]
    by_cases c2 : (A.2.2.1 : Int) ≤ m
    · rw [if_pos c2, if_neg (by omega)]
    · rw [if_neg c2, if_pos (by omega)]
theorem op_unattainable {m : Int} (hm : pw_R m) : OpOk (mf_W_unattainable 0 m) (mf_M_unattainable 91 m) := by
  apply op_ro
  intro A T len E Hs hV
  haveI := nz_of hV.1.1
  have hp2 := isPb_le hV.1.1
  have h10 := hV.1.2.2.1
  have s0 := sh_0
  have s91 := sh_91
  by_cases h : 0 ≤ m ∧ m < A.2.2.1
  · right
    obtain ⟨m, rfl⟩ : ∃ k : Nat, m = k := ⟨m.toNat, by omega⟩
    refine ⟨msC (ptX A) (ptY A) A.2.2.1 (ipW (ptX A) (ptY A) A.2.2.1 m), fun σ hC => ?_, fun σ hM => ?_⟩
    · have hN := hC.1.1
      obtain ⟨s, t, C1, H1, P1, Q1⟩ := e_W_ip hC hV.1 (m := m) (by omega)
      refine ⟨s, ?_, C1, H1⟩
      unfold mf_W_unattainable
      rw [ex_gd (by omega) (by omega), e_W_isInt hC hV.1 hm, ex_bd, if_pos h, pw_ck_ok (by omega) (by omega), if_neg (by omega), t, ex_bd, e_W_missed hV.1 C1 P1 Q1, ex_bd]
    · have hN := hM.1.1
      have hNp : σ.2.1 92 65 = A.2.2.1 := by
        have := hM.2.1.2.2.1
        rw [show 0 + 65 = 65 by omega] at this
        exact this
      obtain ⟨s, t, X⟩ := e_M_missed hV.1 (m := m) (by omega) hM
      refine ⟨s, ?_, X⟩
      unfold mf_M_unattainable
      rw [ex_gd (by omega) (by omega), e_M_points hM.1, ex_bd, hNp, e_M_in hm (by omega) (by omega), ex_bd, if_pos (by omega), pw_ck_ok (by omega) (by omega), if_neg (by omega), t, ex_bd]
  · left
    refine ⟨fun σ hC => ?_, fun σ hM => ?_⟩
    · have hN := hC.1.1
      unfold mf_W_unattainable
      rw [ex_gd (by omega) (by omega), e_W_isInt hC hV.1 hm, ex_bd, if_neg h, pw_ck_ok (by omega) (by omega), if_pos rfl]
    · have hN := hM.1.1
      have hNp : σ.2.1 92 65 = A.2.2.1 := by
        have := hM.2.1.2.2.1
        rw [show 0 + 65 = 65 by omega] at this
        exact this
      unfold mf_M_unattainable
      rw [ex_gd (by omega) (by omega), e_M_points hM.1, ex_bd, hNp, e_M_in hm (by omega) (by omega), ex_bd, if_neg (by omega), pw_ck_ok (by omega) (by omega), if_pos rfl]
theorem op_interpolant {m c i : Int} (hm : pw_R m) (hc : pw_R c) (hi : pw_R i) : OpOk (mf_W_interpolant 0 m c i) (mf_M_interpolant 91 m c i) := by
  apply op_ro
  intro A T len E Hs hV
  haveI := nz_of hV.1.1
  have hp2 := isPb_le hV.1.1
  have h10 := hV.1.2.2.1
  have s0 := sh_0
  have s58 := sh_58
  have s59 := sh_59
  have s60 := sh_60
  have s61 := sh_61
  have s62 := sh_62
  have s91 := sh_91
  have s102 := sh_102
  have s103 := sh_103
  by_cases h : 0 ≤ m ∧ m < A.2.2.1
  · by_cases h2 : (0 ≤ c ∧ c ≤ 1) ∧ 0 ≤ i ∧ i < 10
    · right
      obtain ⟨m, rfl⟩ : ∃ k : Nat, m = k := ⟨m.toNat, by omega⟩
      refine ⟨if c = 0 then vv ((ipW (ptX A) (ptY A) A.2.2.1 m).1 i.toNat) else vv ((ipW (ptX A) (ptY A) A.2.2.1 m).2 i.toNat), fun σ hC => ?_, fun σ hM => ?_⟩
      · have hN := hC.1.1
        obtain ⟨s, t, C1, H1, P1, Q1⟩ := e_W_ip hC hV.1 (m := m) (by omega)
        have n1 := C1.1.1
        refine ⟨s, ?_, C1, H1⟩
        unfold mf_W_interpolant
        rw [ex_gd (by omega) (by omega), e_W_isInt hC hV.1 hm, ex_bd, if_pos h, pw_ck_ok (by omega) (by omega), if_neg (by omega), pw_ck_ok hc (by omega), if_neg (by omega), pw_ck_ok hc (by omega), if_neg (by omega), pw_ck_ok hi (by omega), if_neg (by omega), pw_ck_ok hi (by omega), if_pos (by omega), t, ex_bd, pw_ck_ok hc (by omega)]
        by_cases c0 : c = 0
        · rw [if_pos c0, if_pos c0]
          simp (disch := omega) only [ex_gr, ex_ai, lr_0_4 C1.1, lr_58_0 C1.1, lr_59_0 C1.1, Option.bind_some]
          rw [P1.1.1 i.toNat (by omega)]
        · rw [if_neg c0, if_neg c0]
          simp (disch := omega) only [ex_gr, ex_ai, lr_0_4 C1.1, lr_58_1 C1.1, lr_61_0 C1.1, Option.bind_some]
          rw [Q1.1.1 i.toNat (by omega)]
      · have hN := hM.1.1
        have hNp : σ.2.1 92 65 = A.2.2.1 := by
          have := hM.2.1.2.2.1
          rw [show 0 + 65 = 65 by omega] at this
          exact this
        obtain ⟨s, t, X, P1, Q1, _, _⟩ := e_M_ip hV.1 (m := m) (by omega) hM
        have M1 := hM.ms X
        have n1 := M1.1.1
        refine ⟨s, ?_, X⟩
        unfold mf_M_interpolant
        rw [ex_gd (by omega) (by omega), e_M_points hM.1, ex_bd, hNp, e_M_in hm (by omega) (by omega), ex_bd, if_pos (by omega), pw_ck_ok (by omega) (by omega), if_neg (by omega), e_M_in hc (by omega) (by omega), ex_bd, if_pos (by omega), pw_ck_ok (by omega) (by omega), if_neg (by omega), e_M_in hi (by omega) (by omega), ex_bd, if_pos (by omega), pw_ck_ok (by omega) (by omega), if_neg (by omega), t, ex_bd, pw_ck_ok hc (by omega)]
        by_cases c0 : c = 0
        · rw [if_pos c0, if_pos c0, ex_gr (by omega) (by omega), lr_91_13 M1.1, Option.bind_some, ex_ai (by omega) (by omega) (by omega) (by omega), Option.bind_some, P1.1 i.toNat (by omega)]
        · rw [if_neg c0, if_neg c0, ex_gr (by omega) (by omega), lr_91_14 M1.1, Option.bind_some, ex_ai (by omega) (by omega) (by omega) (by omega), Option.bind_some, Q1.1 i.toNat (by omega)]
    · left
      refine ⟨fun σ hC => ?_, fun σ hM => ?_⟩
      · have hN := hC.1.1
        unfold mf_W_interpolant mj_W_interpolant_27
        rw [ex_gd (by omega) (by omega), e_W_isInt hC hV.1 hm, ex_bd, if_pos h, pw_ck_ok (by omega) (by omega), if_neg (by omega), pw_ck_ok hc (by omega)]
        by_cases c1 : c < 0
        · rw [if_pos c1]
        · rw [if_neg c1, pw_ck_ok hc (by omega)]
          by_cases c2 : 1 < c
          · rw [if_pos c2]
          · rw [if_neg c2, pw_ck_ok hi (by omega)]
            by_cases c3 : i < 0
            · rw [if_pos c3]
            · rw [if_neg c3, pw_ck_ok hi (by omega), if_neg (by omega)]
      · have hN := hM.1.1
        have hNp : σ.2.1 92 65 = A.2.2.1 := by
          have := hM.2.1.2.2.1
          rw [show 0 + 65 = 65 by omega] at this
          exact this
        unfold mf_M_interpolant mj_M_interpolant_33
        rw [ex_gd (by omega) (by omega), e_M_points hM.1, ex_bd, hNp, e_M_in hm (by omega) (by omega), ex_bd, if_pos (by omega), pw_ck_ok (by omega) (by omega), if_neg (by omega), e_M_in hc (by omega) (by omega), ex_bd]
        by_cases c1 : 0 ≤ c ∧ c ≤ 1
        · rw [if_pos c1, pw_ck_ok (by omega) (by omega), if_neg (by omega), e_M_in hi (by omega) (by omega), ex_bd, if_neg (by omega), pw_ck_ok (by omega) (by omega), if_pos rfl]
        · rw [if_neg c1, pw_ck_ok (by omega) (by omega), if_pos rfl]
  · left
    refine ⟨fun σ hC => ?_, fun σ hM => ?_⟩
    · have hN := hC.1.1
      unfold mf_W_interpolant mj_W_interpolant_27
      rw [ex_gd (by omega) (by omega), e_W_isInt hC hV.1 hm, ex_bd, if_neg h, pw_ck_ok (by omega) (by omega), if_pos rfl]
    · have hN := hM.1.1
      have hNp : σ.2.1 92 65 = A.2.2.1 := by
        have := hM.2.1.2.2.1
        rw [show 0 + 65 = 65 by omega] at this
        exact this
      unfold mf_M_interpolant mj_M_interpolant_33
      rw [ex_gd (by omega) (by omega), e_M_points hM.1, ex_bd, hNp, e_M_in hm (by omega) (by omega), ex_bd, if_neg (by omega), pw_ck_ok (by omega) (by omega), if_pos rfl]
end
