/-! ### exchanging rows, model -/
def xg (o : Nat → Int) (a b k : Nat) : Nat → Int := fun j => if j % 18 < k then (if j / 18 = a then o (18 * b + j % 18) else if j / 18 = b then o (18 * a + j % 18) else o j) else o j
theorem e_M_exchange {σ : pw_Sto} (hL : Lay σ) {a b : Nat} (ha : 18 * a + 18 ≤ (pw_sh 99).2) (hb : 18 * b + 18 ≤ (pw_sh 99).2) : mf_M_exchange 91 a b σ = some ((), pw_st σ 99 (xg (σ.2.1 99) a b 18)) := by
  have hN := hL.1
  have := sh_91
  have s99 := sh_99
  have key : ∀ (d m k : Nat), k + d = 18 → d < m → ml_M_exchange_2 m 91 a b k (pw_st σ 99 (xg (σ.2.1 99) a b k)) = some ((), pw_st σ 99 (xg (σ.2.1 99) a b 18)) := by
    intro d
    induction d with
    | zero =>
      intro m k h1 h2
      obtain ⟨m, rfl⟩ : ∃ k, m = k + 1 := ⟨m - 1, by omega⟩
      rw [us_M_exchange_2]
      unfold mb_M_exchange_2
      rw [pw_ck_ok (by omega) (by omega), if_pos (by omega), show k = 18 by omega]
    | succ d ih =>
      intro m k h1 h2
      obtain ⟨m, rfl⟩ : ∃ k, m = k + 1 := ⟨m - 1, by omega⟩
      have hL1 : Lay (pw_st σ 99 (xg (σ.2.1 99) a b k)) := hL
      have hN1 := hL1.1
      rw [us_M_exchange_2]
      unfold mb_M_exchange_2
      rw [pw_ck_ok (by omega) (by omega), if_neg (by omega), ex_gr (by omega) (by omega), lr_91_10 hL1]
      simp (disch := omega) only [Option.bind_some, ex_ai, xs_si]
      rw [show ((18 : Int) * (a : Int) + (k : Int)).toNat = 18 * a + k by omega, show ((18 : Int) * (b : Int) + (k : Int)).toNat = 18 * b + k by omega, st_st, st_eq]
      generalize hh : (fun j => if j = 18 * a + k then xg (σ.2.1 99) a b k (18 * b + k) else xg (σ.2.1 99) a b k j) = h1'
      have hL2 : Lay (pw_st σ 99 h1') := hL
      have hN2 := hL2.1
      rw [ex_gr (by omega) (by omega), lr_91_10 hL2]
      simp (disch := omega) only [Option.bind_some, xs_si]
      rw [show ((18 : Int) * (b : Int) + (k : Int)).toNat = 18 * b + k by omega, st_st, st_eq]
      have x1 : ∀ r, xg (σ.2.1 99) a b k (18 * r + k) = σ.2.1 99 (18 * r + k) := fun r => by
        unfold xg
        rw [if_neg (by omega)]
      have es : pw_st σ 99 (fun j => if j = 18 * b + k then xg (σ.2.1 99) a b k (18 * a + k) else h1' j) = pw_st σ 99 (xg (σ.2.1 99) a b (k + 1)) := by
        refine st_congr fun j => ?_
        rw [← hh]
        try dsimp only
        rw [x1, x1]
        unfold xg
        by_cases q1 : j = 18 * b + k
        · rw [if_pos q1, if_pos (by omega)]
          by_cases q2 : j / 18 = a
          · rw [if_pos q2]
            have : a = b := by omega
            subst this
            exact congrArg (σ.2.1 99) (by omega)
          · rw [if_neg q2, if_pos (by omega)]
            exact congrArg (σ.2.1 99) (by omega)
        · rw [if_neg q1]
          by_cases q2 : j = 18 * a + k
          · rw [if_pos q2, if_pos (by omega), if_pos (by omega)]
            exact congrArg (σ.2.1 99) (by omega)
          · rw [if_neg q2]
            by_cases q3 : j % 18 < k
            · rw [if_pos q3, if_pos (show j % 18 < k + 1 by omega)]
            · rw [if_neg q3]
              by_cases q4 : j % 18 < k + 1
              · rw [if_pos q4, if_neg (by omega), if_neg (by omega)]
              · rw [if_neg q4]
      rw [es, show (k : Int) + 1 = ((k + 1 : Nat) : Int) by omega]
      exact ih m (k + 1) (by omega) (by omega)
  have h0 : pw_st σ 99 (xg (σ.2.1 99) a b 0) = σ := by
    rw [st_congr (σ := σ) (g := σ.2.1 99) (fun j => by unfold xg; rw [if_neg (by omega)]), st_self]
  have h := key 18 1000 0 (by omega) (by omega)
  rw [h0] at h
  unfold mf_M_exchange
  rw [ex_gd (by omega) (by omega)]
  exact h
