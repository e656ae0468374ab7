/-! ### clearing below the pivot, class -/
theorem imul251 {f w : Int} (h1 : 0 ≤ f) (h2 : f ≤ 251) (h3 : 0 ≤ w) (h4 : w ≤ 250) : 0 ≤ f * w ∧ f * w ≤ 62750 := by
  have a := Int.mul_nonneg h1 h3
  have b : f * w ≤ 251 * 250 := Int.mul_le_mul h2 h4 h3 (by omega)
  omega
theorem e_D_clearRow {σ : pw_Sto} (hL : Lay σ) {p : Nat} (hp1 : 2 ≤ p) (hp2 : p ≤ 251) {k n r : Nat} (hk : k ≤ n) (hn : n ≤ 16) (hr : r < 16) (hkr : k < r) {w f : Int} (hf : 0 ≤ f) (hf2 : f ≤ 251) (va : ∀ c, c < n → 0 ≤ σ.2.1 (65 + r) c ∧ σ.2.1 (65 + r) c ≤ 250) (vb : ∀ c, c < n → 0 ≤ σ.2.1 (65 + k) c ∧ σ.2.1 (65 + k) c ≤ 250) (rc : Nat → Int → Int → Int → Int → Int → pw_Sto → Option (Unit × pw_Sto)) : ml_D_clearBelow_54 rc 1000 63 k n p w r f k σ = rc 63 k n p w ((r : Int) + 1) (pw_st σ (65 + r) (fun j => if k ≤ j ∧ j < n then (σ.2.1 (65 + r) j + f * σ.2.1 (65 + k) j) % p else σ.2.1 (65 + r) j)) := by
  have hN := hL.1
  have := sh_63
  have sr := sh_drow hr
  have sk' := sh_drow (r := k) (by omega)
  exact lp_fill (O := Unit × pw_Sto) (fun m c s => ml_D_clearBelow_54 rc m 63 k n p w r f c s) σ (65 + r) k n (fun j => (σ.2.1 (65 + r) j + f * σ.2.1 (65 + k) j) % p) (fun s => rc 63 k n p w ((r : Int) + 1) s)
    (by
      intro m c hh hc0 hc w1 w2
      have hL1 : Lay (pw_st σ (65 + r) hh) := hL
      have hN1 := hL1.1
      have u1 := va c hc
      have u2 := vb c hc
      have u3 := imul251 hf hf2 u2.1 u2.2
      have e1 := w1 c (Or.inl (Nat.le_refl _))
      try dsimp only
      rw [us_D_clearBelow_54]
      unfold mb_D_clearBelow_54
      rw [pw_ck_ok (by omega) (by omega), if_neg (by omega), pw_ck_ok (by omega) (by omega), if_neg (by omega), ex_gr (by omega) (by omega), lr_63_0 hL1]
      simp (disch := omega) only [Option.bind_some, e_drow hL1, Int.toNat_natCast, ex_ai]
      rw [st_eq, st_ne (show 65 + k ≠ 65 + r by omega), e1, e_K_reduce (by omega) (by omega) (by omega) (by omega), ex_bd, xs_si (by omega) (by omega) (by omega) (by omega), Option.bind_some, st_st, st_eq, Int.toNat_natCast]
      rfl)
    (by
      intro m hh
      try dsimp only
      rw [us_D_clearBelow_54]
      unfold mb_D_clearBelow_54
      rw [pw_ck_ok (by omega) (by omega), if_pos (by omega)]) 1000 (by omega) hk
