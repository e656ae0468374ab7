/-! ### exchanging rows -/
def swS (σ : pw_Sto) (a b k : Nat) : pw_Sto := pw_st (pw_st σ (65 + a) (fun j => if j < k then σ.2.1 (65 + b) j else σ.2.1 (65 + a) j)) (65 + b) (fun j => if j < k then σ.2.1 (65 + a) j else σ.2.1 (65 + b) j)
theorem swS_a {σ : pw_Sto} {a b k : Nat} (h : a ≠ b) (j : Nat) : (swS σ a b k).2.1 (65 + a) j = if j < k then σ.2.1 (65 + b) j else σ.2.1 (65 + a) j := by
  unfold swS
  rw [st_ne (by omega), st_eq]
theorem swS_b {σ : pw_Sto} {a b k : Nat} (j : Nat) : (swS σ a b k).2.1 (65 + b) j = if j < k then σ.2.1 (65 + a) j else σ.2.1 (65 + b) j := by
  unfold swS
  rw [st_eq]
theorem e_D_swapRows {σ : pw_Sto} (hL : Lay σ) {a b : Nat} (ha : a < 16) (hb : b < 16) (hab : a ≠ b) : mf_D_swapRows 63 a b σ = some ((), swS σ a b 16) := by
  have hN := hL.1
  have := sh_63
  have sa := sh_drow ha
  have sb := sh_drow hb
  have key : ∀ (d m k : Nat), k + d = 16 → d < m → ml_D_swapRows_2 m 63 a b k (swS σ a b k) = some ((), swS σ a b 16) := by
    intro d
    induction d with
    | zero =>
      intro m k h1 h2
      obtain ⟨m, rfl⟩ : ∃ k, m = k + 1 := ⟨m - 1, by omega⟩
      rw [us_D_swapRows_2]
      unfold mb_D_swapRows_2
      rw [pw_ck_ok (by omega) (by omega), if_pos (by omega), show k = 16 by omega]
    | succ d ih =>
      intro m k h1 h2
      obtain ⟨m, rfl⟩ : ∃ k, m = k + 1 := ⟨m - 1, by omega⟩
      have hL1 : Lay (swS σ a b k) := hL
      have hN1 := hL1.1
      rw [us_D_swapRows_2]
      unfold mb_D_swapRows_2
      rw [pw_ck_ok (by omega) (by omega), if_neg (by omega), ex_gr (by omega) (by omega), lr_63_0 hL1]
      simp (disch := omega) only [Option.bind_some, e_drow hL1, Int.toNat_natCast, ex_ai, xs_si]
      generalize hs1 : pw_st (swS σ a b k) (65 + a) (fun j => if j = k then (swS σ a b k).2.1 (65 + b) k else (swS σ a b k).2.1 (65 + a) j) = s1
      have hL2 : Lay s1 := by rw [← hs1]; exact hL1
      have hN2 := hL2.1
      rw [ex_gr (by omega) (by omega), lr_63_0 hL2]
      simp (disch := omega) only [Option.bind_some, e_drow hL2, Int.toNat_natCast, xs_si]
      have es : pw_st s1 (65 + b) (fun j => if j = k then (swS σ a b k).2.1 (65 + a) k else s1.2.1 (65 + b) j) = swS σ a b (k + 1) := by
        rw [← hs1]
        unfold swS
        rw [st_cm (σ := pw_st σ (65 + a) _) (a := 65 + b) (b := 65 + a) (by omega), st_st, st_st]
        rw [st_congr (σ := σ) (a := 65 + a) (g := fun j => if j < k + 1 then σ.2.1 (65 + b) j else σ.2.1 (65 + a) j) (fun j => ?_)]
        · refine st_congr fun j => ?_
          simp (disch := omega) only [st_eq, st_ne]
          by_cases q : j = k
          · rw [if_pos q, if_neg (by omega), if_pos (by omega), q]
          · by_cases q2 : j < k
            · rw [if_neg q, if_pos q2, if_pos (by omega)]
            · rw [if_neg q, if_neg q2, if_neg (by omega)]
        · rw [st_eq, st_ne (by omega), st_eq]
          by_cases q : j = k
          · rw [if_pos q, if_neg (by omega), if_pos (by omega), q]
          · by_cases q2 : j < k
            · rw [if_neg q, if_pos q2, if_pos (by omega)]
            · rw [if_neg q, if_neg q2, if_neg (by omega)]
      rw [es, show (k : Int) + 1 = ((k + 1 : Nat) : Int) by omega]
      exact ih m (k + 1) (by omega) (by omega)
  have h0 : swS σ a b 0 = σ := by
    unfold swS
    rw [st_congr (σ := σ) (g := σ.2.1 (65 + a)) (fun j => if_neg (by omega)), st_self, st_congr (g := σ.2.1 (65 + b)) (fun j => if_neg (by omega)), st_self]
  have h := key 16 1000 0 (by omega) (by omega)
  rw [h0] at h
  unfold mf_D_swapRows
  rw [ex_gd (by omega) (by omega)]
  exact h
