section
theorem e_M_dtRow {A : ASt} [NeZero A.1] (hV : VA A) {x : Int} (hx : 0 ≤ x ∧ x < 4) {m n r : Nat} (hmn : m + n ≤ 16) (hr : r < n) {σ : pw_Sto} {T : Nat → Int} {len : Nat} {E : Nat → Int} {Hs : List ASt} (hM : MR σ A T len E Hs) (hX : Mt σ (fun r' c => if r' < r ∧ c < n then dtX (srs A.1 (A.2.1 x.toNat)) m r' c else 0)) (r46 : Nat → Int → Int → Int → Int → pw_Sto → Option (Int × pw_Sto)) : ∃ t, ml_M_determinant_55 r46 1000 91 x m n r 0 σ = r46 91 x m n ((r : Int) + 1) t ∧ Fq σ t 99 ∧ Mt t (fun r' c => if r' < r + 1 ∧ c < n then dtX (srs A.1 (A.2.1 x.toNat)) m r' c else 0) := by
  have hp2 := isPb_le hV.1
  have s91 := sh_91
  have s99 := sh_99
  generalize hf : srs A.1 (A.2.1 x.toNat) = f at *
  obtain ⟨q, t, e1, f1, g⟩ := lp_ex (S := pw_Sto) (O := Int × pw_Sto) (fun q k t => ml_M_determinant_55 r46 q 91 x m n r k t) (fun j => (j : Int)) n (fun k t => Fq σ t 99 ∧ Mt t (fun r' c => if (r' < r ∧ c < n) ∨ (r' = r ∧ c < k) then dtX f m r' c else 0))
    (by
      intro q k t hk hI
      obtain ⟨f1, g⟩ := hI
      have M1 := hM.ms (Ms.fq f1 (by omega))
      have L1 := M1.1
      have n1 := L1.1
      refine ⟨pw_st t 99 (fun j => if j = 18 * r + k then vv (dtX f m r k) else t.2.1 99 j), ?_, ⟨f1.1, f1.2.1, fun i hi => by rw [st_ne hi]; exact f1.2.2 i hi⟩, fun r' c h1 h2 => ?_⟩
      · try dsimp only
        rw [us_M_determinant_55]
        unfold mb_M_determinant_55 dtX
        rw [pw_ck_ok (by omega) (by omega), if_neg (by omega), ex_gr (by omega) (by omega), lr_91_10 L1, Option.bind_some, pw_ck_ok (by omega) (by omega)]
        by_cases c : m + r < k
        · rw [if_neg (by omega), if_pos c, xs_si (by omega) (by omega) (by omega) (by omega), Option.bind_some, show ((18 : Int) * (r : Int) + (k : Int)).toNat = 18 * r + k by omega, vv_0]
          rfl
        · have tt := e_M_termF L1 M1.2.1 hV hx (k := m + r - k) (by omega)
          rw [hf] at tt
          rw [if_pos (by omega), if_neg c, show (m : Int) + (r : Int) - (k : Int) = ((m + r - k : Nat) : Int) by omega, tt, ex_bd, xs_si (by omega) (by omega) (by omega) (by omega), Option.bind_some, show ((18 : Int) * (r : Int) + (k : Int)).toNat = 18 * r + k by omega]
          rfl
      · rw [st_eq]
        try dsimp only
        by_cases e : r' = r ∧ c = k
        · rw [if_pos (by omega), if_pos (by omega), e.1, e.2]
        · rw [if_neg (by omega), g r' c h1 h2]
          try dsimp only
          by_cases e2 : (r' < r ∧ c < n) ∨ (r' = r ∧ c < k)
          · rw [if_pos e2, if_pos (by omega)]
          · rw [if_neg e2, if_neg (by omega)]) n 0 1000 σ (by omega) (by omega) ⟨⟨rfl, rfl, fun _ _ => rfl⟩, fun r' c h1 h2 => by
            rw [hX r' c h1 h2]
            try dsimp only
            by_cases e : r' < r ∧ c < n
            · rw [if_pos e, if_pos (by omega)]
            · rw [if_neg e, if_neg (by omega)]⟩
  refine ⟨t, Eq.trans e1 ?_, f1, fun r' c h1 h2 => ?_⟩
  · try dsimp only
    rw [us_M_determinant_55]
    unfold mb_M_determinant_55
    rw [pw_ck_ok (by omega) (by omega), if_pos (by omega)]
  · rw [g r' c h1 h2]
    try dsimp only
    by_cases e : r' < r + 1 ∧ c < n
    · rw [if_pos e, if_pos (by omega)]
    · rw [if_neg e, if_neg (by omega)]
def dtC (x m n : Int) : Prop := (0 ≤ x ∧ x < 4) ∧ (0 ≤ m ∧ m ≤ 16) ∧ 0 ≤ n ∧ n ≤ 16 - m
theorem op_determinant {x m n : Int} (hx : pw_R x) (hm : pw_R m) (hn : pw_R n) : OpOk (mf_W_determinant 0 x m n) (mf_M_determinant 91 x m n) := by
  apply op_ro
  intro A T len E Hs hV
  haveI := nz_of hV.1.1
  have hp := hV.1.1
  have hp2 := isPb_le hp
  have s0 := sh_0
  have s1' := sh_1
  have s63 := sh_63
  have s91 := sh_91
  by_cases h : dtC x m n
  · right
    have hx4 := h.1
    have h2 := h.2.1
    have h3 := h.2.2
    have hx4' : x.toNat < 4 := by omega
    obtain ⟨m, rfl⟩ : ∃ k : Nat, m = k := ⟨m.toNat, by omega⟩
    obtain ⟨n, rfl⟩ : ∃ k : Nat, n = k := ⟨n.toNat, by omega⟩
    refine ⟨vv (dvF n n 0 1 (dtX (srs A.1 (A.2.1 x.toNat)) m)), fun σ hC => ?_, fun σ hM => ?_⟩
    · have hN := hC.1.1
      obtain ⟨s1, t1, g1, g2, g3, g4⟩ := e_D_fill (σ := σ) hC.1 (b := x.toNat) (m := m) (n := n) hx4' (by omega) (by omega)
      have F1 : Fdt σ s1 := ⟨g1, g2, fun i hi => g3 i (by omega)⟩
      have D1 : Dt s1 n (dtX (srs A.1 (A.2.1 x.toNat)) m) := fun r c hr hc => by
        rw [g4 r c hr hc]
        unfold tz dtX
        by_cases c1 : m + r < c
        · rw [if_neg (by omega), if_pos c1, vv_0]
        · rw [if_pos (by omega), if_neg c1, show ((m : Int) + (r : Int) - (c : Int)).toNat = m + r - c by omega, srs_vv (by omega) (hV.1.2.1 _ _ hx4' (by omega))]
          exact hC.2.2.1.2.1 x.toNat (m + r - c) hx4' (by omega)
      obtain ⟨s2, t2, F2⟩ := e_D_loop hp (n := n) (by omega) n 1000 0 1 s1 (dtX (srs A.1 (A.2.1 x.toNat)) m) (by omega) (by omega) (hC.1.fdt F1) D1
      rw [vv_1 (by omega)] at t2
      have F := F1.trans F2
      refine ⟨s2, ?_, hC.scr F.1 F.2.1 (fun i hi => F.2.2 i (by omega)), F.1, fun i hi => F.2.2 i (by omega)⟩
      have p0 : σ.2.1 1 0 = A.1 := hC.2.2.1.1
      unfold mf_W_determinant mf_D_valueOf
      rw [ex_gd (by omega) (by omega), e_W_isSlot hx, ex_bd, if_pos hx4, pw_ck_ok (by omega) (by omega), if_neg (by omega), pw_ck_ok hm (by omega), if_neg (by omega), pw_ck_ok hm (by omega), if_neg (by omega), pw_ck_ok hn (by omega), if_neg (by omega), pw_ck_ok hn (by omega), if_pos (by omega)]
      simp (disch := omega) only [ex_gr, ex_gi, lr_0_5 hC.1, lr_0_0 hC.1, lr_1_1 hC.1, e_ser hC.1, Option.bind_some, p0, ex_gd, t1, ex_bd]
      rw [show (0 : Int) = ((0 : Nat) : Int) from rfl, t2, ex_bd]
    · have hN := hM.1.1
      obtain ⟨s1, t1, F1, Z1⟩ := e_M_clearMt (p := A.1) hM.1
      have M1 := hM.ms (Ms.fq F1 (by omega))
      generalize hf : srs A.1 (A.2.1 x.toNat) = f
      obtain ⟨q2, s2, e2, F2, Z2⟩ := lp_ex (S := pw_Sto) (O := Int × pw_Sto) (fun q k t => ml_M_determinant_46 q 91 x m n k t) (fun j => (j : Int)) n (fun k t => Fq s1 t 99 ∧ Mt t (fun r' c => if r' < k ∧ c < n then dtX f m r' c else 0))
        (by
          intro q k t hk hI
          obtain ⟨f1, g⟩ := hI
          rw [← hf] at g
          obtain ⟨t', e, f2, g2⟩ := e_M_dtRow hV.1 hx4 (by omega) hk (M1.ms (Ms.fq f1 (by omega))) g (ml_M_determinant_46 q)
          rw [hf] at g2
          refine ⟨t', ?_, ⟨f2.1.trans f1.1, f2.2.1.trans f1.2.1, fun i hi => (f2.2.2 i hi).trans (f1.2.2 i hi)⟩, g2⟩
          try dsimp only
          rw [us_M_determinant_46]
          unfold mb_M_determinant_46
          rw [pw_ck_ok (by omega) (by omega), if_neg (by omega), e]
          rfl) n 0 1000 s1 (by omega) (by omega) ⟨⟨rfl, rfl, fun _ _ => rfl⟩, fun r' c h1 h2 => by
            try dsimp only
            rw [if_neg (by omega)]
            exact Z1 r' c h1 h2⟩
      have M2 := M1.ms (Ms.fq F2 (by omega))
      obtain ⟨s3, t3, X3⟩ := e_M_dloop hp (n := n) (by omega) n 1000 0 1 s2 _ (by omega) (by omega) M2.1 M2.2.1.1 Z2 (fp_one (by omega))
      rw [vv_1 (by omega), dvF_cg (m := n) (k := 0) (Y := dtX f m) (by omega) (fun i c _ h4 _ h6 => if_pos ⟨h4, h6⟩)] at t3
      refine ⟨s3, ?_, ((Ms.fq F1 (by omega)).trans (Ms.fq F2 (by omega))).trans X3⟩
      unfold mf_M_determinant
      rw [ex_gd (by omega) (by omega), e_M_isSlot hx, ex_bd, if_pos hx4, pw_ck_ok (by omega) (by omega), if_neg (by omega), e_M_in hm (by omega) (by omega), ex_bd, if_pos (by omega), pw_ck_ok (by omega) (by omega), if_neg (by omega), e_M_in hn (by omega) (by omega), ex_bd, if_pos (by omega), pw_ck_ok (by omega) (by omega), if_neg (by omega), ex_gr (by omega) (by omega), lr_91_10 hM.1, Option.bind_some, t1, ex_bd]
      refine Eq.trans e2 ?_
      try dsimp only
      rw [us_M_determinant_46]
      unfold mb_M_determinant_46
      rw [pw_ck_ok (by omega) (by omega), if_pos (by omega)]
      exact t3
  · left
    refine ⟨fun σ hC => ?_, fun σ hM => ?_⟩
    · have hN := hC.1.1
      unfold mf_W_determinant mj_W_determinant_29
      rw [ex_gd (by omega) (by omega), e_W_isSlot hx, ex_bd]
      by_cases c1 : 0 ≤ x ∧ x < 4
      · rw [if_pos c1, pw_ck_ok (by omega) (by omega), if_neg (by omega), pw_ck_ok hm (by omega)]
        by_cases c2 : m < 0
        · rw [if_pos c2]
        · rw [if_neg c2, pw_ck_ok hm (by omega)]
          by_cases c3 : 16 < m
          · rw [if_pos c3]
          · rw [if_neg c3, pw_ck_ok hn (by omega)]
            by_cases c4 : n < 0
            · rw [if_pos c4]
            · rw [if_neg c4, pw_ck_ok hn (by omega), if_neg (by unfold dtC at h; omega)]
      · rw [if_neg c1, pw_ck_ok (by omega) (by omega), if_pos rfl]
    · have hN := hM.1.1
      unfold mf_M_determinant mj_M_determinant_29
      rw [ex_gd (by omega) (by omega), e_M_isSlot hx, ex_bd]
      by_cases c1 : 0 ≤ x ∧ x < 4
      · rw [if_pos c1, pw_ck_ok (by omega) (by omega), if_neg (by omega), e_M_in hm (by omega) (by omega), ex_bd]
        by_cases c2 : 0 ≤ m ∧ m ≤ 16
        · rw [if_pos c2, pw_ck_ok (by omega) (by omega), if_neg (by omega), e_M_in hn (by omega) (by omega), ex_bd, if_neg (by unfold dtC at h; omega), pw_ck_ok (by omega) (by omega), if_pos rfl]
        · rw [if_neg c2, pw_ck_ok (by omega) (by omega), if_pos rfl]
      · rw [if_neg c1, pw_ck_ok (by omega) (by omega), if_pos rfl]
end
