/-! ### a row less a multiple of another, model -/
def lw (o : Nat → Int) (p : Nat) (a b : Nat) (f : Int) (k : Nat) : Nat → Int := fun j => if j / 18 = a ∧ j % 18 < k then (o j - f * o (18 * b + j % 18)) % p else o j
theorem e_M_lessRow {σ : pw_Sto} (hL : Lay σ) {p : Nat} (hp : σ.2.1 92 0 = p) (hp1 : 2 ≤ p) (hp2 : p ≤ 251) {a b : Nat} (hab : a ≠ b) (ha : 18 * a + 18 ≤ (pw_sh 99).2) (hb : 18 * b + 18 ≤ (pw_sh 99).2) {f : Int} (hf : 0 ≤ f) (hf2 : f ≤ 250) (va : ∀ c, c < 18 → 0 ≤ σ.2.1 99 (18 * a + c) ∧ σ.2.1 99 (18 * a + c) ≤ 250) (vb : ∀ c, c < 18 → 0 ≤ σ.2.1 99 (18 * b + c) ∧ σ.2.1 99 (18 * b + c) ≤ 250) : mf_M_lessRow 91 a b f σ = some ((), pw_st σ 99 (lw (σ.2.1 99) p a b f 18)) := by
  have hN := hL.1
  have := sh_91
  have s99 := sh_99
  have key : ∀ (d m k : Nat), k + d = 18 → d < m → ml_M_lessRow_3 m 91 a b f k (pw_st σ 99 (lw (σ.2.1 99) p a b f k)) = some ((), pw_st σ 99 (lw (σ.2.1 99) p a b f 18)) := by
    intro d
    induction d with
    | zero =>
      intro m k h1 h2
      obtain ⟨m, rfl⟩ : ∃ k, m = k + 1 := ⟨m - 1, by omega⟩
      rw [us_M_lessRow_3]
      unfold mb_M_lessRow_3
      rw [pw_ck_ok (by omega) (by omega), if_pos (by omega), show k = 18 by omega]
    | succ d ih =>
      intro m k h1 h2
      obtain ⟨m, rfl⟩ : ∃ k, m = k + 1 := ⟨m - 1, by omega⟩
      have hL1 : Lay (pw_st σ 99 (lw (σ.2.1 99) p a b f k)) := hL
      have hN1 := hL1.1
      have hp' : (pw_st σ 99 (lw (σ.2.1 99) p a b f k)).2.1 92 0 = p := by rw [st_ne (by omega)]; exact hp
      have x1 : ∀ r, lw (σ.2.1 99) p a b f k (18 * r + k) = σ.2.1 99 (18 * r + k) := fun r => by
        unfold lw
        rw [if_neg (by omega)]
      have w1 := va k (by omega)
      have w2 := vb k (by omega)
      have w3 := imul250 (a := f) hf (by omega) w2.1 (by omega)
      rw [us_M_lessRow_3]
      unfold mb_M_lessRow_3
      rw [pw_ck_ok (by omega) (by omega), if_neg (by omega), ex_gr (by omega) (by omega), lr_91_10 hL1]
      simp (disch := omega) only [Option.bind_some, ex_ai]
      rw [show ((18 : Int) * (a : Int) + (k : Int)).toNat = 18 * a + k by omega, show ((18 : Int) * (b : Int) + (k : Int)).toNat = 18 * b + k by omega, st_eq, x1, x1, e_M_mod hL1 hp' hp1 hp2 (by omega), ex_bd, xs_si (by omega) (by omega) (by omega) (by omega), Option.bind_some, st_st, st_eq, show ((18 : Int) * (a : Int) + (k : Int)).toNat = 18 * a + k by omega]
      have es : pw_st σ 99 (fun j => if j = 18 * a + k then (σ.2.1 99 (18 * a + k) - f * σ.2.1 99 (18 * b + k)) % p else lw (σ.2.1 99) p a b f k j) = pw_st σ 99 (lw (σ.2.1 99) p a b f (k + 1)) := by
        refine st_congr fun j => ?_
        unfold lw
        by_cases q1 : j = 18 * a + k
        · rw [if_pos q1, if_pos (by omega), show j % 18 = k by omega, q1]
        · rw [if_neg q1]
          by_cases q2 : j / 18 = a ∧ j % 18 < k
          · rw [if_pos q2, if_pos (by omega)]
          · rw [if_neg q2, if_neg (by omega)]
      rw [es, show (k : Int) + 1 = ((k + 1 : Nat) : Int) by omega]
      exact ih m (k + 1) (by omega) (by omega)
  have h0 : pw_st σ 99 (lw (σ.2.1 99) p a b f 0) = σ := by
    rw [st_congr (σ := σ) (g := σ.2.1 99) (fun j => by unfold lw; rw [if_neg (by omega)]), st_self]
  have h := key 18 1000 0 (by omega) (by omega)
  rw [h0] at h
  unfold mf_M_lessRow
  rw [ex_gd (by omega) (by omega)]
  exact h
