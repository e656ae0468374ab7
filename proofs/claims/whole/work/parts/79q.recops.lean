section
noncomputable def cxN {p : Nat} [NeZero p] (f : PS (Fin p)) (N : Nat) : Nat := @Classical.epsilon _ ⟨0⟩ (fun L => pCx f N L)
theorem cx_is {p : Nat} [NeZero p] {f : PS (Fin p)} {N L : Nat} (h : pCx f N L) : L = cxN f N := cx_uniq h (Classical.epsilon_spec (p := fun L => pCx f N L) ⟨L, h⟩)
theorem e_W_fit {A : ASt} [NeZero A.1] {σ : pw_Sto} {T : Nat → Int} {len : Nat} {E : Nat → Int} {Hs : List ASt} (hC : CR σ A T len E Hs) (hV : VA A) {x : Int} (hx : 0 ≤ x ∧ x < 4) {N : Nat} (hN : N ≤ 16) : ∃ s, ∃ L : Nat, ∃ C, mf_B_fit 84 (3 + x.toNat) N A.1 σ = some ((), s) ∧ CR s A T len E Hs ∧ Hi σ s ∧ (Fb σ s ∧ s.2.1 84 3 = L ∧ ∀ k, k < 17 → s.2.1 85 k = vv (C k)) ∧ pCx (srs A.1 (A.2.1 x.toNat)) N L ∧ pRc (srs A.1 (A.2.1 x.toNat)) N L C ∧ L ≤ N := by
  have hx4 : x.toNat < 4 := by omega
  obtain ⟨s, L, C, O, o, sp, sh, g, t, F, R, B⟩ := e_B_fit hV.1 (f := srs A.1 (A.2.1 x.toNat)) (a := 3 + x.toNat) (len := N) (by omega) (sh_rowp hx4) hN hC.1 hC.2.1 (fun k hk => by rw [srs_vv hk (hV.2.1 _ k hx4 hk)]; exact hC.2.2.1.2.1 x.toNat k hx4 hk)
  have hD : Dyn s := by
    obtain ⟨_, hos, hrf, _⟩ := R
    refine ⟨?_, ?_, ?_⟩
    · rw [F.2.2 47 0 (by omega), F.2.2 47 1 (by omega)]; exact hC.2.1.1
    · rw [F.2.2 47 2 (by omega), F.2.2 47 3 (by omega)]; exact hC.2.1.2.1
    · rw [hrf.1, hrf.2]
      rcases hos with z | z
      · left; rw [z.1, z.2]; exact ⟨rfl, rfl⟩
      · right; rw [z.1, z.2]; exact ⟨rfl, rfl⟩
  exact ⟨s, L, C, t, hC.fc F.1 (fun i k _ h2 => F.2.2 i k h2) (fun i hi => F.2.1 i (by omega)) hD, ⟨F.1, fun i hi => F.2.1 i (by omega)⟩, ⟨F, R.2.2.2.2.2, R.2.2.2.1⟩, ⟨⟨C, B.1.1⟩, B.2.2⟩, B.1.1, B.1.2⟩
def cxC (x N : Int) : Prop := (0 ≤ x ∧ x < 4) ∧ 1 ≤ N ∧ N ≤ 16
theorem op_complexity {x N : Int} (hx : pw_R x) (hN : pw_R N) : OpOk (mf_W_complexity 0 x N) (mf_M_complexity 91 x N) := by
  apply op_ro
  intro A T len E Hs hV
  haveI := nz_of hV.1.1
  have hp2 := isPb_le hV.1.1
  have s0 := sh_0
  have s1' := sh_1
  have s84 := sh_84
  have s91 := sh_91
  by_cases h : cxC x N
  · right
    have hx4 := h.1
    have h2 := h.2
    obtain ⟨N, rfl⟩ : ∃ k : Nat, N = k := ⟨N.toNat, by omega⟩
    refine ⟨((cxN (srs A.1 (A.2.1 x.toNat)) N : Nat) : Int), fun σ hC => ?_, fun σ hM => ?_⟩
    · have n0 := hC.1.1
      obtain ⟨s, L, C, t, C1, H1, ⟨F, e3, _⟩, cx, _, _⟩ := e_W_fit hC hV.1 hx4 (N := N) (by omega)
      have n1 := C1.1.1
      have p0 : σ.2.1 1 0 = A.1 := hC.2.2.1.1
      refine ⟨s, ?_, C1, H1⟩
      unfold mf_W_complexity
      rw [ex_gd (by omega) (by omega), e_W_isSlot hx, ex_bd, if_pos hx4, pw_ck_ok (by omega) (by omega), if_neg (by omega), pw_ck_ok hN (by omega), if_neg (by omega), pw_ck_ok hN (by omega), if_pos (by omega)]
      simp (disch := omega) only [ex_gr, ex_gi, lr_0_7 hC.1, lr_0_0 hC.1, lr_1_1 hC.1, e_ser hC.1, Option.bind_some, p0, t, ex_bd, lr_0_7 C1.1, e3]
      rw [← cx_is cx]
    · have n0 := hM.1.1
      obtain ⟨s, d, Y, pv, ρ, t, X, _, cx, _⟩ := e_M_cx hV.1 hx4 (N := N) (by omega) hM
      refine ⟨s, ?_, X⟩
      unfold mf_M_complexity
      rw [ex_gd (by omega) (by omega), e_M_isSlot hx, ex_bd, if_pos hx4, pw_ck_ok (by omega) (by omega), if_neg (by omega), e_M_in hN (by omega) (by omega), ex_bd, if_pos (by omega), pw_ck_ok (by omega) (by omega), if_neg (by omega), t, ex_bd, ← cx_is cx]
  · left
    refine ⟨fun σ hC => ?_, fun σ hM => ?_⟩
    · have n0 := hC.1.1
      unfold mf_W_complexity mj_W_complexity_18
      rw [ex_gd (by omega) (by omega), e_W_isSlot hx, ex_bd]
      by_cases c1 : 0 ≤ x ∧ x < 4
      · rw [if_pos c1, pw_ck_ok (by omega) (by omega), if_neg (by omega), pw_ck_ok hN (by omega)]
        by_cases c2 : N < 1
        · rw [if_pos c2]
        · rw [if_neg c2, pw_ck_ok hN (by omega), if_neg (by unfold cxC at h; omega)]
      · rw [if_neg c1, pw_ck_ok (by omega) (by omega), if_pos rfl]
    · have n0 := hM.1.1
      unfold mf_M_complexity mj_M_complexity_26
      rw [ex_gd (by omega) (by omega), e_M_isSlot hx, ex_bd]
      by_cases c1 : 0 ≤ x ∧ x < 4
      · rw [if_pos c1, pw_ck_ok (by omega) (by omega), if_neg (by omega), e_M_in hN (by omega) (by omega), ex_bd, if_neg (by unfold cxC at h; omega), pw_ck_ok (by omega) (by omega), if_pos rfl]
      · rw [if_neg c1, pw_ck_ok (by omega) (by omega), if_pos rfl]
theorem op_recurrence {x N i : Int} (hx : pw_R x) (hN : pw_R N) (hi : pw_R i) : OpOk (mf_W_recurrence 0 x N i) (mf_M_recurrence 91 x N i) := by
  apply op_bt
  intro A T len E Hs hV
  haveI := nz_of hV.1.1
  have hp := hV.1.1
  have hp2 := isPb_le hp
  have s0 := sh_0
  have s1' := sh_1
  have s84 := sh_84
  have s85 := sh_85
  have s91 := sh_91
  have s99 := sh_99
  have s100 := sh_100
  by_cases h : cxC x N
  · by_cases hi1 : 1 ≤ i
    · right
      intro σ σ' hC hM
      have hx4 := h.1
      have h2 := h.2
      obtain ⟨N, rfl⟩ : ∃ k : Nat, N = k := ⟨N.toNat, by omega⟩
      have n0 := hC.1.1
      have n0' := hM.1.1
      obtain ⟨s, L, C, t, C1, H1, ⟨F, e3, e85⟩, cx, rc, hLN⟩ := e_W_fit hC hV.1 hx4 (N := N) (by omega)
      have n1 := C1.1.1
      have p0 : σ.2.1 1 0 = A.1 := hC.2.2.1.1
      have p1 : s.2.1 1 0 = A.1 := C1.2.2.1.1
      obtain ⟨s', d, Y, pv, ρ, t', X, hdN, cx', hz, Z, P, RF, KQ⟩ := e_M_cx hV.1 hx4 (N := N) (by omega) hM
      have hdL : d = L := cx_uniq cx' cx
      subst hdL
      have M1 := hM.ms X
      have n1' := M1.1.1
      have eW : mf_W_recurrence 0 x N i σ = pw_ck ((2 : Int) * (d : Int)) (N : Int) (if (N : Int) < (2 : Int) * (d : Int) then some ((-1 : Int), s) else pw_ck i (d : Int) (if (d : Int) < i then some ((-1 : Int), s) else pw_ck i (17 : Int) (if i < (17 : Int) then (pw_ai 85 i s).bind (fun v18 => pw_bd (mf_K_negative v18 A.1 s) (fun v22 s21 => some (v22, s21))) else some ((-1 : Int), s)))) := by
        unfold mf_W_recurrence
        rw [ex_gd (by omega) (by omega), e_W_isSlot hx, ex_bd, if_pos hx4, pw_ck_ok (by omega) (by omega), if_neg (by omega), pw_ck_ok hN (by omega), if_neg (by omega), pw_ck_ok hN (by omega), if_neg (by omega), pw_ck_ok hi (by omega), if_pos hi1]
        simp (disch := omega) only [ex_gr, ex_gi, lr_0_7 hC.1, lr_0_0 hC.1, lr_1_1 hC.1, e_ser hC.1, Option.bind_some, p0, t, ex_bd, lr_0_7 C1.1, lr_0_0 C1.1, lr_84_0 C1.1, e3, p1]
      have eM : mf_M_recurrence 91 x N i σ' = pw_ck ((2 : Int) * (d : Int)) (N : Int) (if (N : Int) < (2 : Int) * (d : Int) then some ((-1 : Int), s') else pw_ck i (d : Int) (if i ≤ (d : Int) then (pw_ai 100 (i - (1 : Int)) s').bind (fun v11 => (pw_ai 99 (((18 : Int) * v11) + (d : Int)) s').bind (fun v12 => some (v12, s'))) else some ((-1 : Int), s'))) := by
        unfold mf_M_recurrence
        rw [ex_gd (by omega) (by omega), e_M_isSlot hx, ex_bd, if_pos hx4, pw_ck_ok (by omega) (by omega), if_neg (by omega), e_M_in hN (by omega) (by omega), ex_bd, if_pos (by omega), pw_ck_ok (by omega) (by omega), if_neg (by omega), pw_ck_ok hi (by omega), if_pos hi1, t', ex_bd]
        simp (disch := omega) only [ex_gr, lr_91_10 M1.1, lr_91_11 M1.1, Option.bind_some]
      have k1 : ∀ F : Option (Int × pw_Sto), pw_ck ((2 : Int) * (d : Int)) (N : Int) F = F := fun F => pw_ck_ok (by omega) (by omega)
      have k2 : ∀ F : Option (Int × pw_Sto), pw_ck i (d : Int) F = F := fun F => pw_ck_ok hi (by omega)
      have k3 : ∀ F : Option (Int × pw_Sto), pw_ck i (17 : Int) F = F := fun F => pw_ck_ok hi (by omega)
      rw [eW, eM]
      simp only [k1, k2, k3]
      by_cases c2 : (N : Int) < (2 : Int) * (d : Int)
      · rw [if_pos c2, if_pos c2]
        exact ⟨-1, s, s', rfl, C1, H1, rfl, X⟩
      · rw [if_neg c2, if_neg c2]
        by_cases c3 : (d : Int) < i
        · rw [if_pos c3, if_neg (by omega)]
          exact ⟨-1, s, s', rfl, C1, H1, rfl, X⟩
        · rw [if_neg c3, if_pos (by omega), if_pos (by omega)]
          obtain ⟨c, hc⟩ : ∃ c : Nat, i = (c : Int) + 1 := ⟨(i - 1).toNat, by omega⟩
          obtain ⟨r, r1, r2, r3⟩ := rec_val hp cx (by omega) rc RF KQ hz (c := c) (by omega)
          have rr := vv_rng (C (c + 1))
          have hrow : r < 18 := by have := RF.1; omega
          refine ⟨vv (-(C (c + 1))), s, s', ?_, C1, H1, ?_, X⟩
          · rw [ex_ai (by omega) (by omega) (by omega) (by omega), Option.bind_some, show i.toNat = c + 1 by omega, e85 (c + 1) (by omega), e_K_negative rr.1 rr.2 (by omega), ex_bd, ← vv_neg]
          · rw [ex_ai (by omega) (by omega) (by omega) (by omega), Option.bind_some, show (i - 1).toNat = c by omega, P c (by omega), r1, ex_ai (by omega) (by omega) (by omega) (by omega), Option.bind_some, show ((18 : Int) * (r : Int) + (d : Int)).toNat = 18 * r + d by omega, Z r d hrow (by omega), r3]
    · left
      have hx4 := h.1
      have h2 := h.2
      refine ⟨fun σ hC => ?_, fun σ hM => ?_⟩
      · have n0 := hC.1.1
        unfold mf_W_recurrence mj_W_recurrence_23
        rw [ex_gd (by omega) (by omega), e_W_isSlot hx, ex_bd, if_pos hx4, pw_ck_ok (by omega) (by omega), if_neg (by omega), pw_ck_ok hN (by omega), if_neg (by omega), pw_ck_ok hN (by omega), if_neg (by omega), pw_ck_ok hi (by omega), if_neg hi1]
      · have n0 := hM.1.1
        unfold mf_M_recurrence mj_M_recurrence_22
        rw [ex_gd (by omega) (by omega), e_M_isSlot hx, ex_bd, if_pos hx4, pw_ck_ok (by omega) (by omega), if_neg (by omega), e_M_in hN (by omega) (by omega), ex_bd, if_pos (by omega), pw_ck_ok (by omega) (by omega), if_neg (by omega), pw_ck_ok hi (by omega), if_neg hi1]
  · left
    refine ⟨fun σ hC => ?_, fun σ hM => ?_⟩
    · have n0 := hC.1.1
      unfold mf_W_recurrence mj_W_recurrence_23
      rw [ex_gd (by omega) (by omega), e_W_isSlot hx, ex_bd]
      by_cases c1 : 0 ≤ x ∧ x < 4
      · rw [if_pos c1, pw_ck_ok (by omega) (by omega), if_neg (by omega), pw_ck_ok hN (by omega)]
        by_cases c2 : N < 1
        · rw [if_pos c2]
        · rw [if_neg c2, pw_ck_ok hN (by omega), if_pos (by unfold cxC at h; omega)]
      · rw [if_neg c1, pw_ck_ok (by omega) (by omega), if_pos rfl]
    · have n0 := hM.1.1
      unfold mf_M_recurrence mj_M_recurrence_22
      rw [ex_gd (by omega) (by omega), e_M_isSlot hx, ex_bd]
      by_cases c1 : 0 ≤ x ∧ x < 4
      · rw [if_pos c1, pw_ck_ok (by omega) (by omega), if_neg (by omega), e_M_in hN (by omega) (by omega), ex_bd, if_neg (by unfold cxC at h; omega), pw_ck_ok (by omega) (by omega), if_pos rfl]
      · rw [if_neg c1, pw_ck_ok (by omega) (by omega), if_pos rfl]
end
