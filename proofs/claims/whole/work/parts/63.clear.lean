/-! ### clearing below the pivot, class -/
theorem imul251 {f w : Int} (h1 : 0 ≤ f) (h2 : f ≤ 251) (h3 : 0 ≤ w) (h4 : w ≤ 250) : 0 ≤ f * w ∧ f * w ≤ 62750 := by
  have a := Int.mul_nonneg h1 h3
  have b : f * w ≤ 251 * 250 := Int.mul_le_mul h2 h4 h3 (by omega)
  omega
theorem e_D_clearRow {σ : pw_Sto} (hL : Lay σ) {p : Nat} (hp1 : 2 ≤ p) (hp2 : p ≤ 251) {k n r : Nat} (hk : k ≤ n) (hn : n ≤ 16) (hr : r < 16) (hkr : k < r) {w f : Int} (hf : 0 ≤ f) (hf2 : f ≤ 251) (va : ∀ c, c < n → 0 ≤ σ.2.1 (65 + r) c ∧ σ.2.1 (65 + r) c ≤ 250) (vb : ∀ c, c < n → 0 ≤ σ.2.1 (65 + k) c ∧ σ.2.1 (65 + k) c ≤ 250) (rc : Nat → Int → Int → Int → Int → Int → pw_Sto → Option (Unit × pw_Sto)) : ml_D_clearBelow_54 rc 1000 63 k n p w r f k σ = rc 63 k n p w ((r : Int) + 1) (pw_st σ (65 + r) (fun j => if k ≤ j ∧ j < n then (σ.2.1 (65 + r) j + f * σ.2.1 (65 + k) j) % p else σ.2.1 (65 + r) j)) := by
  have hN := hL.1
  have := sh_63
  have sr := sh_drow hr
  have sk' := sh_drow (r := k) (by omega)
  exact lp_fill (O := Unit × pw_Sto) (fun m c s => ml_D_clearBelow_54 rc m 63 k n p w r f c s) σ (65 + r) k n (fun j => (σ.2.1 (65 + r) j + f * σ.2.1 (65 + k) j) % p) (fun s => rc 63 k n p w ((r : Int) + 1) s)
    (by
      intro m c hh hc0 hc w1 w2
      have hL1 : Lay (pw_st σ (65 + r) hh) := hL
      have hN1 := hL1.1
      have u1 := va c hc
      have u2 := vb c hc
      have u3 := imul251 hf hf2 u2.1 u2.2
      have e1 := w1 c (Or.inl (Nat.le_refl _))
      try dsimp only
      rw [us_D_clearBelow_54]
      unfold mb_D_clearBelow_54
      rw [pw_ck_ok (by omega) (by omega), if_neg (by omega), pw_ck_ok (by omega) (by omega), if_neg (by omega), ex_gr (by omega) (by omega), lr_63_0 hL1]
      simp (disch := omega) only [Option.bind_some, e_drow hL1, Int.toNat_natCast, ex_ai]
      rw [st_eq, st_ne (show 65 + k ≠ 65 + r by omega), e1, e_K_reduce (by omega) (by omega) (by omega) (by omega), ex_bd, xs_si (by omega) (by omega) (by omega) (by omega), Option.bind_some, st_st, st_eq, Int.toNat_natCast]
      rfl)
    (by
      intro m hh
      try dsimp only
      rw [us_D_clearBelow_54]
      unfold mb_D_clearBelow_54
      rw [pw_ck_ok (by omega) (by omega), if_pos (by omega)]) 1000 (by omega) hk
theorem e_D_clearBelow {σ : pw_Sto} (hL : Lay σ) {p : Nat} (hp : isPb p = true) {k n : Nat} (hk : k < n) (hn : n ≤ 16) (vX : ∀ r c, r < n → c < n → 0 ≤ σ.2.1 (65 + r) c ∧ σ.2.1 (65 + r) c < p) (h0 : σ.2.1 (65 + k) k ≠ 0) : ∃ s, mf_D_clearBelow 63 k n p σ = some ((), s) ∧ s.1 = σ.1 ∧ s.2.2 = σ.2.2 ∧ (∀ i, ¬ (65 + k < i ∧ i < 65 + n) → s.2.1 i = σ.2.1 i) ∧ ∀ i c, k < i → i < n → s.2.1 (65 + i) c = if k ≤ c ∧ c < n then (σ.2.1 (65 + i) c + ((p : Int) - σ.2.1 (65 + i) k * ((iv p (σ.2.1 (65 + k) k).toNat : Nat) : Int) % p) * σ.2.1 (65 + k) c) % p else σ.2.1 (65 + i) c := by
  have hp2 := isPb_le hp
  have hN := hL.1
  have := sh_63
  have skk := sh_drow (r := k) (by omega)
  have hkk := vX k k hk hk
  have hiv := iv_lt (a := (σ.2.1 (65 + k) k).toNat) hp
  generalize hw : ((iv p (σ.2.1 (65 + k) k).toNat : Nat) : Int) = w
  have hw1 : 0 ≤ w ∧ w < p := by omega
  obtain ⟨m, s', e1, hP⟩ := lp_ex (S := pw_Sto) (O := Unit × pw_Sto) (fun m r s => ml_D_clearBelow_19 m 63 k n p w r s) (fun j => ((k + 1 + j : Nat) : Int)) (n - (k + 1)) (fun j s => s.1 = σ.1 ∧ s.2.2 = σ.2.2 ∧ (∀ i, ¬ (65 + k < i ∧ i < 65 + (k + 1 + j)) → s.2.1 i = σ.2.1 i) ∧ ∀ i c, k < i → i < k + 1 + j → s.2.1 (65 + i) c = if k ≤ c ∧ c < n then (σ.2.1 (65 + i) c + ((p : Int) - σ.2.1 (65 + i) k * w % p) * σ.2.1 (65 + k) c) % p else σ.2.1 (65 + i) c)
    (by
      intro m j s hj hP
      obtain ⟨p1, p2, p3, p4⟩ := hP
      have hL1 : Lay s := ⟨p1.trans hL.1, fun q hq => by rw [p2]; exact hL.2 q hq⟩
      have hN1 := hL1.1
      have sr := sh_drow (r := k + 1 + j) (by omega)
      have er := p3 (65 + (k + 1 + j)) (by omega)
      have ek := p3 (65 + k) (by omega)
      have v1 := vX (k + 1 + j) k (by omega) hk
      have v2 := imul250 (a := σ.2.1 (65 + (k + 1 + j)) k) v1.1 (by omega) hw1.1 (by omega)
      have v3 := mod_rng (p := p) (by omega) (σ.2.1 (65 + (k + 1 + j)) k * w)
      refine ⟨pw_st s (65 + (k + 1 + j)) (fun c => if k ≤ c ∧ c < n then (s.2.1 (65 + (k + 1 + j)) c + ((p : Int) - σ.2.1 (65 + (k + 1 + j)) k * w % p) * s.2.1 (65 + k) c) % p else s.2.1 (65 + (k + 1 + j)) c), ?_, ?_⟩
      · try dsimp only
        rw [us_D_clearBelow_19]
        unfold mb_D_clearBelow_19
        rw [pw_ck_ok (by omega) (by omega), if_neg (by omega), pw_ck_ok (by omega) (by omega), if_neg (by omega), ex_gr (by omega) (by omega), lr_63_0 hL1, Option.bind_some, e_drow hL1 (by omega) (by omega), Option.bind_some, Int.toNat_natCast, ex_ai (by omega) (by omega) (by omega) (by omega), Option.bind_some, Int.toNat_natCast, er, e_K_times v2.1 (by omega) (by omega) (by omega), ex_bd, e_D_clearRow hL1 (by omega) (by omega) (by omega) hn (by omega) (by omega) (by omega) (by omega) (fun c hc => by rw [er]; have := vX (k + 1 + j) c (by omega) hc; omega) (fun c hc => by rw [ek]; have := vX k c hk hc; omega), er, show ((k + 1 + j : Nat) : Int) + 1 = ((k + 1 + (j + 1) : Nat) : Int) by omega]
      · refine ⟨p1, p2, fun i hi => ?_, fun i c h1 h2 => ?_⟩
        · rw [st_ne (by omega)]; exact p3 i (by omega)
        · by_cases q : i = k + 1 + j
          · subst q
            rw [st_eq, er, ek]
          · rw [st_ne (by omega)]; exact p4 i c h1 (by omega)) (n - (k + 1)) 0 1000 σ (by omega) (by omega) ⟨rfl, rfl, fun _ _ => rfl, fun i c h1 h2 => by omega⟩
  obtain ⟨p1, p2, p3, p4⟩ := hP
  refine ⟨s', ?_, p1, p2, fun i hi => p3 i (by omega), fun i c h1 h2 => p4 i c h1 (by omega)⟩
  unfold mf_D_clearBelow
  rw [ex_gd (by omega) (by omega), ex_gr (by omega) (by omega), lr_63_0 hL, Option.bind_some, e_drow hL (by omega) (by omega), Option.bind_some, Int.toNat_natCast, ex_ai (by omega) (by omega) (by omega) (by omega), Option.bind_some, Int.toNat_natCast]
  have hinv := e_K_inverse (p := p) (a := (σ.2.1 (65 + k) k).toNat) (σ := σ) (by omega) (by omega) (by omega)
  rw [show (((σ.2.1 (65 + k) k).toNat : Nat) : Int) = σ.2.1 (65 + k) k by omega, hw] at hinv
  rw [hinv, ex_bd, show (k : Int) + 1 = ((k + 1 + 0 : Nat) : Int) by omega]
  refine Eq.trans e1 ?_
  try dsimp only
  rw [us_D_clearBelow_19]
  unfold mb_D_clearBelow_19
  rw [pw_ck_ok (by omega) (by omega), if_pos (by omega)]
