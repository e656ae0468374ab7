section
/-! ### more of the class's polynomials -/
theorem e_P_scaleBy {p : Nat} [NeZero p] (hp : p ≤ 251) {σ : pw_Sto} {o : Nat} (hO : PO σ o) {a : PS (Fin p)} (hR : Pr σ o a) (φ : Fin p) : ∃ s', mf_P_scaleBy o (vv φ) p σ = some ((), s') ∧ (Fr σ s' o ∧ s'.2.1 o = σ.2.1 o) ∧ Pr s' o (cv (cc φ) a) := by
  obtain ⟨o1, o2', o3, o4, o5, o6⟩ := id hO
  have hpp : 0 < p := Nat.pos_of_ne_zero (NeZero.ne p)
  have hl := lp_fill (O := Unit × pw_Sto) (fun n k t => ml_P_scaleBy_2 n o (vv φ) p k t) σ (o + 1) 0 17 (fun k => vv (a k * φ)) (fun t => some ((), t))
    (by
      intro n k h _ hk w1 w2
      have e3 : (pw_st σ (o + 1) h).2.2 o 0 = some (o + 1) := o4
      have e1 : (pw_st σ (o + 1) h).1 = 109 := o1
      have e4 : h k = vv (a k) := by rw [w1 k (Or.inl (Nat.le_refl _))]; exact hR.1 k hk
      have r1 := vv_mm hp (a k) φ
      try dsimp only
      rw [us_P_scaleBy_2]
      unfold mb_P_scaleBy_2
      rw [pw_ck_ok (by omega) (by omega), if_neg (by omega), ex_gr (by omega) (by omega), e3]
      simp only [Option.bind_some]
      rw [ex_ai (by omega) (by omega) (by omega) (by omega), Option.bind_some, Int.toNat_natCast, st_eq, e4, e_K_times (by omega) (by omega) (by omega) (by omega), ex_bd, ← vv_mul, xs_si (by omega) (by omega) (by omega) (by omega), Option.bind_some, st_st, st_eq, Int.toNat_natCast]
      rfl)
    (by
      intro n h
      try dsimp only
      rw [us_P_scaleBy_2]
      unfold mb_P_scaleBy_2
      rw [pw_ck_ok (by omega) (by omega), if_pos (by omega)]) 1000 (by omega) (by omega)
  refine ⟨pw_st σ (o + 1) (fun j => if 0 ≤ j ∧ j < 17 then vv (a j * φ) else σ.2.1 (o + 1) j), ?_, ⟨Fr.st (Or.inr rfl), st_ne (by omega)⟩, ⟨fun k hk => ?_, fun k hk => ?_⟩⟩
  · unfold mf_P_scaleBy
    rw [ex_gd (by omega) (by omega)]
    exact hl
  · rw [st_eq, if_pos (by omega), cv_cc]
    congr 1
    grind
  · rw [cv_cc]
    show φ * a k = 0
    rw [hR.2 k hk]; grind
theorem e_P_multiplyByRoot {p : Nat} [NeZero p] (hp : p ≤ 251) {σ : pw_Sto} {o : Nat} (hO : PO σ o) {a : PS (Fin p)} (hR : Pr σ o a) (hb : pBd a 16) (r : Fin p) : ∃ s', mf_P_multiplyByRoot o (vv r) p σ = some ((), s') ∧ Fr σ s' o ∧ Pc s' o (cv (pXr r) a) := by
  obtain ⟨o1, o2', o3, o4, o5, o6⟩ := id hO
  have hpp : 0 < p := Nat.pos_of_ne_zero (NeZero.ne p)
  have rr := vv_rng r
  obtain ⟨n, s', e1, hP'⟩ := lp_ex (S := pw_Sto) (O := Unit × pw_Sto) (fun n k t => ml_P_multiplyByRoot_10 n o p (vv (-r)) k t) (fun j => (16 : Int) - (j : Int)) 17 (fun i t => Fr σ t o ∧ ∀ j, j < 17 → t.2.1 (o + 1) j = vv (if 17 - i ≤ j then cv (pXr r) a j else a j))
    (by
      intro n i t hk hI
      obtain ⟨f1, g⟩ := hI
      obtain ⟨p1, p2, p3, p4, p5, p6⟩ := hO.fr f1
      have e4 := g (16 - i) (by omega)
      rw [if_neg (by omega)] at e4
      have r1 := vv_mm hp (-r) (a (16 - i))
      refine ⟨pw_st t (o + 1) (fun j => if j = 16 - i then vv (cv (pXr r) a (16 - i)) else t.2.1 (o + 1) j), ?_, f1.trans (Fr.st (Or.inr rfl)), fun j hj => ?_⟩
      · try dsimp only
        rw [us_P_multiplyByRoot_10]
        unfold mb_P_multiplyByRoot_10 mj_P_multiplyByRoot_33
        rw [pw_ck_ok (by omega) (by omega), if_neg (by omega), pw_ck_ok (by omega) (by omega)]
        by_cases c : i = 16
        · subst c
          rw [if_pos (by omega), ex_gr (by omega) (by omega), p4]
          simp only [Option.bind_some]
          rw [ex_ai (by omega) (by omega) (by omega) (by omega), Option.bind_some, show ((16 : Int) - ((16 : Nat) : Int)).toNat = 16 - 16 by omega, e4, e_K_reduce (by omega) (by omega) (by omega) (by omega), ex_bd, xs_si (by omega) (by omega) (by omega) (by omega), Option.bind_some, show ((16 : Int) - ((16 : Nat) : Int)).toNat = 16 - 16 by omega, show (16 : Int) - ((16 : Nat) : Int) + -1 = 16 - ((16 + 1 : Nat) : Int) by omega]
          have ev : ((0 : Int) + vv (-r) * vv (a (16 - 16))) % p = vv (cv (pXr r) a (16 - 16)) := by
            rw [Int.zero_add, ← vv_mul]
            show _ = vv (cv (pXr r) a 0)
            rw [xr_c0]
          rw [ev]
        · obtain ⟨w, hw⟩ : ∃ w, 16 - i = w + 1 := ⟨15 - i, by omega⟩
          have e5 := g w (by omega)
          rw [if_neg (by omega)] at e5
          have r2 := vv_rng (a w)
          rw [if_neg (by omega), ex_gr (by omega) (by omega), p4]
          simp only [Option.bind_some]
          rw [ex_ai (by omega) (by omega) (by omega) (by omega), Option.bind_some, show ((16 : Int) - (i : Int) - 1).toNat = w by omega, e5, ex_ai (by omega) (by omega) (by omega) (by omega), Option.bind_some, show ((16 : Int) - (i : Int)).toNat = 16 - i by omega, e4, e_K_reduce (by omega) (by omega) (by omega) (by omega), ex_bd, ← vv_am, xs_si (by omega) (by omega) (by omega) (by omega), Option.bind_some, show ((16 : Int) - (i : Int)).toNat = 16 - i by omega, show (16 : Int) - (i : Int) + -1 = 16 - ((i + 1 : Nat) : Int) by omega]
          have ev : a w + -r * a (16 - i) = cv (pXr r) a (16 - i) := by
            rw [hw, xr_cs]
            grind
          rw [ev]
      · rw [st_eq]
        by_cases c : j = 16 - i
        · rw [if_pos c, if_pos (by omega), c]
        · rw [if_neg c, g j hj]
          by_cases c2 : 17 - i ≤ j
          · rw [if_pos c2, if_pos (by omega)]
          · rw [if_neg c2, if_neg (by omega)]) 17 0 1000 σ (by omega) (by omega) ⟨Fr.refl σ o, fun j hj => by rw [if_neg (by omega)]; exact hR.1 j hj⟩
  obtain ⟨f1, g⟩ := hP'
  have hR' : Pr s' o (cv (pXr r) a) := ⟨fun k hk => by rw [g k hk, if_pos (by omega)], (bd_cv (xr_bd r) hb).mono (by omega)⟩
  have t3 := e_P_measure hp (hO.fr f1) hR'
  refine ⟨_, ?_, f1.trans (mes_Pc hR').2, (mes_Pc hR').1⟩
  unfold mf_P_multiplyByRoot
  rw [ex_gd (by omega) (by omega), e_K_negative rr.1 rr.2 (by omega), ex_bd, ← vv_neg]
  refine Eq.trans e1 ?_
  try dsimp only
  rw [us_P_multiplyByRoot_10]
  unfold mb_P_multiplyByRoot_10
  rw [pw_ck_ok (by omega) (by omega), if_pos (by omega), t3, ex_bd]
theorem e_P_divideByRoot {p : Nat} [NeZero p] (hp : p ≤ 251) {σ : pw_Sto} {o : Nat} (hO : PO σ o) {a : PS (Fin p)} (hR : Pr σ o a) (r : Fin p) : ∃ s', mf_P_divideByRoot o (vv r) p σ = some ((), s') ∧ Fr σ s' o ∧ Pc s' o (pQd a r 17) := by
  obtain ⟨o1, o2', o3, o4, o5, o6⟩ := id hO
  have hpp : 0 < p := Nat.pos_of_ne_zero (NeZero.ne p)
  have key : ∀ (d i n : Nat) (t : pw_Sto), i + d = 17 → d < n → Fr σ t o → (∀ j, j < 17 → t.2.1 (o + 1) j = vv (if 17 - i ≤ j then pQd a r 17 j else a j)) → ∃ m t', ml_P_divideByRoot_6 n o (vv r) p (vv (pHs a r 17 i)) ((16 : Int) - (i : Int)) t = mb_P_divideByRoot_6 (ml_P_divideByRoot_6 m) o (vv r) p (vv (pHs a r 17 17)) (-1) t' ∧ Fr σ t' o ∧ ∀ j, j < 17 → t'.2.1 (o + 1) j = vv (pQd a r 17 j) := by
    intro d
    induction d with
    | zero =>
      intro i n t h1 h2 f1 g
      obtain ⟨n, rfl⟩ : ∃ k, n = k + 1 := ⟨n - 1, by omega⟩
      refine ⟨n, t, ?_, f1, fun j hj => by rw [g j hj, if_pos (by omega)]⟩
      rw [us_P_divideByRoot_6, show i = 17 by omega]
      rfl
    | succ d ih =>
      intro i n t h1 h2 f1 g
      obtain ⟨n, rfl⟩ : ∃ k, n = k + 1 := ⟨n - 1, by omega⟩
      obtain ⟨p1, p2, p3, p4, p5, p6⟩ := hO.fr f1
      have e4 := g (16 - i) (by omega)
      rw [if_neg (by omega)] at e4
      have r1 := vv_mm hp r (pHs a r 17 i)
      have r2 := vv_rng (a (16 - i))
      obtain ⟨m, t', ee, ff, gg⟩ := ih (i + 1) n (pw_st t (o + 1) (fun j => if j = 16 - i then vv (pHs a r 17 i) else t.2.1 (o + 1) j)) (by omega) (by omega) (f1.trans (Fr.st (Or.inr rfl))) (fun j hj => by
        rw [st_eq]
        by_cases c : j = 16 - i
        · rw [if_pos c, if_pos (by omega), c]
          show vv (pHs a r 17 i) = vv (if 16 - i < 17 then pHs a r 17 (17 - 1 - (16 - i)) else 0)
          rw [if_pos (by omega), show 17 - 1 - (16 - i) = i by omega]
        · rw [if_neg c, g j hj]
          by_cases c2 : 17 - i ≤ j
          · rw [if_pos c2, if_pos (by omega)]
          · rw [if_neg c2, if_neg (by omega)])
      refine ⟨m, t', ?_, ff, gg⟩
      rw [← ee, us_P_divideByRoot_6]
      conv => lhs; unfold mb_P_divideByRoot_6
      rw [pw_ck_ok (by omega) (by omega), if_neg (by omega), ex_gr (by omega) (by omega), p4]
      simp only [Option.bind_some]
      rw [ex_ai (by omega) (by omega) (by omega) (by omega), Option.bind_some, xs_si (by omega) (by omega) (by omega) (by omega), Option.bind_some, show ((16 : Int) - (i : Int)).toNat = 16 - i by omega, e4, e_K_reduce (by omega) (by omega) (by omega) (by omega), ex_bd, ← vv_am, show (16 : Int) - (i : Int) + -1 = 16 - ((i + 1 : Nat) : Int) by omega]
      have ev : a (16 - i) + r * pHs a r 17 i = pHs a r 17 (i + 1) := by
        rw [hs_s, show 17 - 1 - i = 16 - i by omega]
        grind
      rw [ev]
  obtain ⟨m, s', e1, f1, g⟩ := key 17 0 1000 σ (by omega) (by omega) (Fr.refl σ o) (fun j hj => by rw [if_neg (by omega)]; exact hR.1 j hj)
  have hR' : Pr s' o (pQd a r 17) := ⟨g, (qd_bd a r 17).mono (by omega)⟩
  have t3 := e_P_measure hp (hO.fr f1) hR'
  refine ⟨_, ?_, f1.trans (mes_Pc hR').2, (mes_Pc hR').1⟩
  unfold mf_P_divideByRoot
  rw [ex_gd (by omega) (by omega)]
  rw [hs_0, vv_0] at e1
  refine Eq.trans e1 ?_
  unfold mb_P_divideByRoot_6
  rw [pw_ck_ok (by omega) (by omega), if_pos (by omega), t3, ex_bd]
theorem e_P_lowest {p : Nat} [NeZero p] (hp : p ≤ 251) {σ : pw_Sto} {o : Nat} (hO : PO σ o) {a : PS (Fin p)} (hR : Pr σ o a) (hz : pNz a) : ∃ k, a k ≠ 0 ∧ (∀ j, j < k → a j = 0) ∧ mf_P_lowest o σ = some (vv (a k), σ) := by
  obtain ⟨o1, o2', o3, o4, o5, o6⟩ := id hO
  obtain ⟨k0, hk0⟩ := hz
  obtain ⟨k, hk, hk2⟩ := p_low k0 hk0
  have hk17 : k < 17 := Classical.byContradiction (fun c => hk (hR.2 k (by omega)))
  refine ⟨k, hk, hk2, ?_⟩
  have key : ∀ (d j n : Nat), j + d = k → d < n → ml_P_lowest_2 n o (j : Nat) σ = some (vv (a k), σ) := by
    intro d
    induction d with
    | zero =>
      intro j n h1 h2
      obtain ⟨n, rfl⟩ : ∃ k, n = k + 1 := ⟨n - 1, by omega⟩
      have hj : j = k := by omega
      subst hj
      have r1 := vv_rng (a j)
      have r2 : vv (a j) ≠ 0 := fun q => hk (vv_z.mp q)
      rw [us_P_lowest_2]
      unfold mb_P_lowest_2
      rw [pw_ck_ok (by omega) (by omega), if_neg (by omega), ex_gr (by omega) (by omega), o4]
      simp only [Option.bind_some]
      rw [ex_ai (by omega) (by omega) (by omega) (by omega)]
      simp only [Option.bind_some]
      rw [Int.toNat_natCast, hR.1 j hk17, pw_ck_ok (by omega) (by omega), if_neg r2]
    | succ d ih =>
      intro j n h1 h2
      obtain ⟨n, rfl⟩ : ∃ k, n = k + 1 := ⟨n - 1, by omega⟩
      have r2 : vv (a j) = 0 := vv_z.mpr (hk2 j (by omega))
      rw [us_P_lowest_2]
      unfold mb_P_lowest_2
      rw [pw_ck_ok (by omega) (by omega), if_neg (by omega), ex_gr (by omega) (by omega), o4]
      simp only [Option.bind_some]
      rw [ex_ai (by omega) (by omega) (by omega) (by omega)]
      simp only [Option.bind_some]
      rw [Int.toNat_natCast, hR.1 j (by omega), r2, pw_ck_ok (by omega) (by omega), if_pos rfl, show (j : Int) + 1 = ((j + 1 : Nat) : Int) by omega]
      exact ih (j + 1) n (by omega) (by omega)
  unfold mf_P_lowest
  rw [ex_gd (by omega) (by omega)]
  exact key k 0 1000 (by omega) (by omega)
end
