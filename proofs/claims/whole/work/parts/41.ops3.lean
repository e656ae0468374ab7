theorem e_A_fill {a : Nat} {v : Int} {σ : pw_Sto} (ha : a < σ.1) (hk : (pw_sh a).1 = 11) : mf_A_fill a v σ = some ((), pw_st σ a (fun j => if j < (pw_sh a).2 then v else σ.2.1 a j)) := by
  unfold mf_A_fill
  have hle := pw_sh_le a
  rw [ex_al ha hk, Option.bind_some]
  have h := e_A_fill_loop (v := v) ha hk 1000 0 (by omega) (by omega)
  have h' : ml_A_fill_5 1000 a v 0 (pw_sh a).2 σ = _ := h
  rw [h']
  have e : (fun j => if 0 ≤ j ∧ j < (pw_sh a).2 then v else σ.2.1 a j) = (fun j => if j < (pw_sh a).2 then v else σ.2.1 a j) := by
    funext j
    simp
  rw [e]
  rfl
theorem e_Z_restart {σ : pw_Sto} (hL : Lay σ) (x : Int) : ∃ σ', mf_Z_restart 1 x σ = some ((), σ') ∧ σ'.1 = σ.1 ∧ σ'.2.2 = σ.2.2 ∧ (∀ i, ¬ (1 ≤ i ∧ i < 9) → σ'.2.1 i = σ.2.1 i) ∧ σ'.2.1 1 0 = x ∧ σ'.2.1 1 2 = 0 ∧ ∀ s k, s < 4 → k < 16 → σ'.2.1 (3 + s) k = 0 := by
  have hN := hL.1
  have := sh_1
  have := sh_2
  unfold mf_Z_restart
  rw [ex_gd (by omega) (by omega), xs_pi (by omega) (by omega), Option.bind_some]
  generalize hs0 : pw_st σ 1 (fun j => if j = 0 then x else σ.2.1 1 j) = s0
  have z1 : s0.1 = σ.1 := by rw [← hs0]; rfl
  have z2 : s0.2.2 = σ.2.2 := by rw [← hs0]; rfl
  have z3 : ∀ i, i ≠ 1 → s0.2.1 i = σ.2.1 i := fun i hi => by rw [← hs0]; exact st_ne hi
  have z4 : s0.2.1 1 0 = x := by rw [← hs0, st_eq]; rfl
  obtain ⟨s', h1, q1, q2, q3, q4⟩ := lp_up (S := pw_Sto) (O := Unit × pw_Sto) (fun n k s => ml_Z_restart_7 n 1 k s) 4 (fun k s => pw_st s (3 + k) (fun j => if j < (pw_sh (3 + k)).2 then 0 else s.2.1 (3 + k) j))
    (fun s => (pw_pi 7 1 2 (0 : Int) s).bind (fun s2 => some ((), s2)))
    (fun k s => s.1 = s0.1 ∧ s.2.2 = s0.2.2 ∧ (∀ i, ¬ (3 ≤ i ∧ i < 3 + k) → s.2.1 i = s0.2.1 i) ∧ ∀ q, q < k → ∀ j, j < 16 → s.2.1 (3 + q) j = 0)
    (by
      intro n k s hk hI
      obtain ⟨i1, i2, i3, i4⟩ := hI
      have p1 := sh_row (s := k) hk
      have hLs : Lay s := ⟨by rw [i1, z1]; exact hN, fun q hq => by rw [i2, z2]; exact hL.2 q hq⟩
      refine ⟨?_, i1, i2, fun i hi => ?_, fun q hq j hj => ?_⟩
      · show mb_Z_restart_7 (ml_Z_restart_7 n) 1 k s = _
        unfold mb_Z_restart_7
        rw [pw_ck_ok (by omega) (by omega), if_neg (by omega), ex_gr (by omega) (by omega), lr_1_1 hLs, Option.bind_some, e_row hLs (by omega) (by omega), Option.bind_some, Int.toNat_natCast, e_A_fill (by omega) (by omega), ex_bd]
        rfl
      · rw [st_ne (by omega)]
        exact i3 i (by omega)
      · by_cases hqk : q = k
        · subst hqk
          rw [st_eq, if_pos (by omega)]
        · rw [st_ne (by omega)]
          exact i4 q (by omega) j hj)
    (by
      intro n s _
      show mb_Z_restart_7 (ml_Z_restart_7 n) 1 ((4 : Nat) : Int) s = _
      unfold mb_Z_restart_7
      rw [pw_ck_ok (by omega) (by omega), if_pos (by omega)]) 1000 0 s0 (by omega) (by omega) ⟨rfl, rfl, fun _ _ => rfl, fun q hq => by omega⟩
  have h2 : ml_Z_restart_7 1000 1 0 s0 = _ := h1
  rw [h2, xs_pi (by omega) (by omega), Option.bind_some]
  refine ⟨_, rfl, by rw [st_1, q1, z1], by rw [st_2, q2, z2], fun i hi => by rw [st_ne (by omega), q3 i (by omega), z3 i (by omega)], ?_, ?_, fun s k hs hk => by rw [st_ne (by omega)]; exact q4 s hs k hk⟩
  · rw [st_eq, if_neg (by omega), q3 1 (by omega), z4]
  · rw [st_eq, if_pos rfl]
theorem op_setPrime {x : Int} (hx : pw_R x) : OpOk (mf_W_setPrime 0 x) (mf_M_setPrime 91 x) := by
  apply op_of
  intro A T len E Hs hV
  have hp := isPb_le hV.1.1
  by_cases h : 0 ≤ x ∧ isPb x.toNat = true
  · have hx2 := isPb_le h.2
    have hVA : VA ((x.toNat, (fun _ _ => 0), 0, A.2.2.2) : ASt) := ⟨h.2, fun s k hs hk => ⟨Int.le_refl 0, by show (0 : Int) < (x.toNat : Int); omega⟩, Nat.zero_le _, fun i hi => absurd hi (Nat.not_lt_zero i), fun i j hi => absurd hi (Nat.not_lt_zero i)⟩
    refine ⟨A.1, (x.toNat, (fun _ _ => 0), 0, A.2.2.2), T, len, E, (A :: Hs).take 4, fun σ hC => ?_, fun σ hM => ?_, hV.saved hVA⟩
    · obtain ⟨hL, h2, h3, h4, h5, h6⟩ := id hC
      obtain ⟨s1, e1, c1, d1, d2, d3⟩ := e_H_keep hC hV
      have hL1 := c1.1
      have hN := hL.1
      have hN1 := hL1.1
      have := sh_0
      have := sh_1
      obtain ⟨s2, e2, f1, f2, f3, f4, f5, f6⟩ := e_Z_restart hL1 x
      refine ⟨s2, ?_, c1.now f1 f2 (fun i a b => Or.inl (f3 i (by omega))) ⟨by rw [f4]; show x = ((x.toNat : Nat) : Int); omega, fun s k hs hk => f6 s k hs hk, f5, fun i hi => absurd hi (Nat.not_lt_zero i)⟩, ⟨f1.trans d1, fun i hi => (f3 i (by omega)).trans (d3 i (by omega))⟩⟩
      unfold mf_W_setPrime
      rw [ex_gd (by omega) (by omega), e_W_isPrime hx, ex_bd, if_pos h, pw_ck_ok (by omega) (by omega), if_neg (by omega)]
      simp (disch := omega) only [ex_gr, lr_0_0 hL, lr_0_1 hL, ex_gi, Option.bind_some, e1, ex_bd, lr_0_0 hL1, e2, h3.1]
    · obtain ⟨hL, h2, h3, h4, h5, h6⟩ := id hM
      obtain ⟨s1, e1, c1, d1, d2, d3⟩ := e_M_save hM hV
      have hL1 := c1.1
      have hN := hL.1
      have hN1 := hL1.1
      have := sh_91
      have := sh_92
      have hlp := lp_fill (O := Int × pw_Sto) (fun n k s => ml_M_setPrime_25 n 91 x A.1 k s) s1 92 0 86 (fun _ => 0) (fun s => (pw_gr 10 91 0 s).bind (fun v6 => (pw_si v6 (0 : Int) x s).bind (fun s7 => some ((A.1 : Int), s7))))
        (by
          intro n k hh hk0 hk g1 g2
          show mb_M_setPrime_25 (ml_M_setPrime_25 n) 91 x A.1 k (pw_st s1 92 hh) = _
          unfold mb_M_setPrime_25
          rw [pw_ck_ok (by omega) (by omega), if_neg (by omega), ex_gr (by rw [st_1]; omega) (by omega), st_2, lr_91_0 hL1, Option.bind_some, xs_si (by rw [st_1]; omega) (by omega) (by omega) (by omega), Option.bind_some, st_st, st_eq, Int.toNat_natCast]
          rfl)
        (by
          intro n hh
          show mb_M_setPrime_25 (ml_M_setPrime_25 n) 91 x A.1 ((86 : Nat) : Int) (pw_st s1 92 hh) = _
          unfold mb_M_setPrime_25
          rw [pw_ck_ok (by omega) (by omega), if_pos (by omega)]) 1000 (by omega) (by omega)
      have hlp' : ml_M_setPrime_25 1000 91 x A.1 0 s1 = _ := hlp
      unfold mf_M_setPrime
      rw [ex_gd (by omega) (by omega), e_M_isPrime hx, ex_bd, if_pos h, pw_ck_ok (by omega) (by omega), if_neg (by omega), e1, ex_bd, e_M_prime hL1, ex_bd, c1.2.1.1, hlp', ex_gr (by rw [st_1]; omega) (by omega), st_2, lr_91_0 hL1, Option.bind_some, xs_si (by rw [st_1]; omega) (by omega) (by omega) (by omega), Option.bind_some, st_st, st_eq]
      refine ⟨_, rfl, ?_, ⟨d1, d2, fun i hi => by rw [st_ne (by omega), d3 i (by omega) (by omega)]⟩⟩
      refine c1.now (σ := s1) rfl rfl ⟨st_ne (by omega), st_ne (by omega), st_ne (by omega), by rw [st_ne (by omega)], by rw [st_ne (by omega)]⟩ ⟨?_, fun s k hs hk => ?_, ?_, fun i hi => absurd hi (Nat.not_lt_zero i)⟩
      · rw [st_eq, if_pos (by omega)]
        show x = ((x.toNat : Nat) : Int)
        omega
      · rw [st_eq, if_neg (by omega), if_pos (by omega)]
      · rw [st_eq, if_neg (by omega), if_pos (by omega)]
        rfl
  · refine ⟨-2 - ((0 : Nat) : Int), A, T, len, bump E 0, Hs, w_cong (w_fail A T len E Hs 0 (by omega)) (fun σ hC => ?_), m_cong (m_fail A T len E Hs 0 (by omega)) (fun σ hM => ?_), hV⟩
    · have hN := hC.1.1
      have := sh_0
      unfold mf_W_setPrime
      rw [ex_gd (by omega) (by omega), e_W_isPrime hx, ex_bd, if_neg h, pw_ck_ok (by omega) (by omega), if_pos rfl]
      rfl
    · have hN := hM.1.1
      have := sh_91
      unfold mf_M_setPrime
      rw [ex_gd (by omega) (by omega), e_M_isPrime hx, ex_bd, if_neg h, pw_ck_ok (by omega) (by omega), if_pos rfl]
      rfl
theorem e_M_points {σ : pw_Sto} (hL : Lay σ) : mf_M_points 91 σ = some (σ.2.1 92 65, σ) := by
  have hN := hL.1
  have := sh_91
  have := sh_92
  unfold mf_M_points
  simp (disch := omega) only [ex_gd, ex_gr, ex_ai, lr_91_0 hL, Option.bind_some]
  rfl
theorem op_clearPoints : OpOk (mf_W_clearPoints 0) (mf_M_clearPoints 91) := by
  apply op_of
  intro A T len E Hs hV
  have hVA : VA ((A.1, A.2.1, 0, A.2.2.2) : ASt) := ⟨hV.1.1, hV.1.2.1, Nat.zero_le _, fun i hi => absurd hi (Nat.not_lt_zero i), fun i j hi => absurd hi (Nat.not_lt_zero i)⟩
  refine ⟨A.2.2.1, (A.1, A.2.1, 0, A.2.2.2), T, len, E, (A :: Hs).take 4, fun σ hC => ?_, fun σ hM => ?_, hV.saved hVA⟩
  · obtain ⟨hL, h2, h3, h4, h5, h6⟩ := id hC
    obtain ⟨s1, e1, c1, d1, d2, d3⟩ := e_H_keep hC hV
    have hL1 := c1.1
    have hN := hL.1
    have hN1 := hL1.1
    have := sh_0
    have := sh_1
    obtain ⟨b1, b2, b3, b4⟩ := c1.2.2.1
    refine ⟨pw_st s1 1 (fun j => if j = 2 then 0 else s1.2.1 1 j), ?_, ?_, ⟨d1, fun i hi => by rw [st_ne (by omega), d3 i (by omega)]⟩⟩
    · unfold mf_W_clearPoints
      simp (disch := omega) only [ex_gd, ex_gr, lr_0_0 hL, lr_0_1 hL, ex_gi, Option.bind_some, e1, ex_bd, lr_0_0 hL1, xs_pi, b3]
    · refine c1.now (σ := s1) rfl rfl (fun i a b => Or.inl (st_ne (by omega))) ⟨by rw [st_eq]; exact b1, fun s k hs hk => by rw [st_ne (by omega)]; exact b2 s k hs hk, by rw [st_eq]; rfl, fun i hi => absurd hi (Nat.not_lt_zero i)⟩
  · obtain ⟨hL, h2, h3, h4, h5, h6⟩ := id hM
    obtain ⟨s1, e1, c1, d1, d2, d3⟩ := e_M_save hM hV
    have hL1 := c1.1
    have hN := hL.1
    have hN1 := hL1.1
    have := sh_91
    have := sh_92
    obtain ⟨b1, b2, b3, b4⟩ := c1.2.1
    have hlp := lp_fill (O := Int × pw_Sto) (fun n k s => ml_M_clearPoints_12 n 91 A.2.2.1 k s) s1 92 65 86 (fun _ => 0) (fun s => some ((A.2.2.1 : Int), s))
      (by
        intro n k hh hk0 hk g1 g2
        show mb_M_clearPoints_12 (ml_M_clearPoints_12 n) 91 A.2.2.1 k (pw_st s1 92 hh) = _
        unfold mb_M_clearPoints_12
        rw [pw_ck_ok (by omega) (by omega), if_neg (by omega), ex_gr (by rw [st_1]; omega) (by omega), st_2, lr_91_0 hL1, Option.bind_some, xs_si (by rw [st_1]; omega) (by omega) (by omega) (by omega), Option.bind_some, st_st, st_eq, Int.toNat_natCast]
        rfl)
      (by
        intro n hh
        show mb_M_clearPoints_12 (ml_M_clearPoints_12 n) 91 A.2.2.1 ((86 : Nat) : Int) (pw_st s1 92 hh) = _
        unfold mb_M_clearPoints_12
        rw [pw_ck_ok (by omega) (by omega), if_pos (by omega)]) 1000 (by omega) (by omega)
    have hlp' : ml_M_clearPoints_12 1000 91 A.2.2.1 65 s1 = _ := hlp
    refine ⟨pw_st s1 92 (fun j => if 65 ≤ j ∧ j < 86 then 0 else s1.2.1 92 j), ?_, ?_, ⟨d1, d2, fun i hi => by rw [st_ne (by omega), d3 i (by omega) (by omega)]⟩⟩
    · unfold mf_M_clearPoints
      rw [ex_gd (by omega) (by omega), e1, ex_bd, e_M_points hL1, ex_bd, show s1.2.1 92 65 = _ from b3, hlp']
    · refine c1.now (σ := s1) rfl rfl ⟨st_ne (by omega), st_ne (by omega), st_ne (by omega), by rw [st_ne (by omega)], by rw [st_ne (by omega)]⟩ ⟨?_, fun s k hs hk => ?_, ?_, fun i hi => absurd hi (Nat.not_lt_zero i)⟩
      · rw [st_eq, if_neg (by omega)]; exact b1
      · rw [st_eq, if_neg (by omega)]; exact b2 s k hs hk
      · rw [st_eq, if_pos (by omega)]; rfl
