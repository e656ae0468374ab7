/-! ### the matrix, class -/
def tz (a : Nat → Int) (d : Int) : Int := if 0 ≤ d ∧ d < 16 then a d.toNat else 0
theorem e_D_fillRow {σ : pw_Sto} (hL : Lay σ) {b m n r : Nat} (hb : b < 4) (hm : m ≤ 16) (hn : n ≤ 16) (hr : r < 16) (rc : Nat → Nat → Int → Int → Int → pw_Sto → Option (Unit × pw_Sto)) : ml_D_fill_19 rc 1000 63 (3 + b) m n r 0 σ = rc 63 (3 + b) m n ((r : Int) + 1) (pw_st σ (65 + r) (fun j => if 0 ≤ j ∧ j < n then tz (σ.2.1 (3 + b)) ((m : Int) + r - j) else σ.2.1 (65 + r) j)) := by
  have hN := hL.1
  have := sh_63
  have sr := sh_drow hr
  have sb := sh_row hb
  exact lp_fill (O := Unit × pw_Sto) (fun q c s => ml_D_fill_19 rc q 63 (3 + b) m n r c s) σ (65 + r) 0 n (fun j => tz (σ.2.1 (3 + b)) ((m : Int) + r - j)) (fun s => rc 63 (3 + b) m n ((r : Int) + 1) s)
    (by
      intro q c hh hc0 hc w1 w2
      have hL1 : Lay (pw_st σ (65 + r) hh) := hL
      have hN1 := hL1.1
      try dsimp only
      rw [us_D_fill_19]
      unfold mb_D_fill_19
      rw [pw_ck_ok (by omega) (by omega), if_neg (by omega), pw_ck_ok (by omega) (by omega), if_neg (by omega), ex_gr (by omega) (by omega), lr_63_0 hL1, Option.bind_some, e_drow hL1 (by omega) (by omega), Option.bind_some, Int.toNat_natCast, e_W_isTerm (by omega), ex_bd]
      unfold tz
      by_cases z : 0 ≤ (m : Int) + r - c ∧ (m : Int) + r - c < 16
      · rw [if_pos z, pw_ck_ok (by omega) (by omega), if_neg (show ¬ (1 : Int) = 0 by omega), ex_ai (by omega) (by omega) (by omega) (by omega), Option.bind_some, st_ne (by omega), xs_si (by omega) (by omega) (by omega) (by omega), Option.bind_some, st_st, st_eq, Int.toNat_natCast, if_pos z]
        rfl
      · rw [if_neg z, pw_ck_ok (by omega) (by omega), if_pos rfl, xs_si (by omega) (by omega) (by omega) (by omega), Option.bind_some, st_st, st_eq, Int.toNat_natCast, if_neg z]
        rfl)
    (by
      intro q hh
      try dsimp only
      rw [us_D_fill_19]
      unfold mb_D_fill_19
      rw [pw_ck_ok (by omega) (by omega), if_pos (by omega)]) 1000 (by omega) (by omega)
theorem e_D_fill {σ : pw_Sto} (hL : Lay σ) {b m n : Nat} (hb : b < 4) (hm : m ≤ 16) (hn : n ≤ 16) : ∃ s, mf_D_fill 63 (3 + b) m n σ = some ((), s) ∧ s.1 = σ.1 ∧ s.2.2 = σ.2.2 ∧ (∀ i, ¬ (65 ≤ i ∧ i < 65 + n) → s.2.1 i = σ.2.1 i) ∧ ∀ r c, r < n → c < n → s.2.1 (65 + r) c = tz (σ.2.1 (3 + b)) ((m : Int) + r - c) := by
  have hN := hL.1
  have := sh_63
  obtain ⟨q, s', e1, hP⟩ := lp_ex (S := pw_Sto) (O := Unit × pw_Sto) (fun q r s => ml_D_fill_3 q 63 (3 + b) m n r s) (fun j => (j : Int)) n (fun j s => s.1 = σ.1 ∧ s.2.2 = σ.2.2 ∧ (∀ i, ¬ (65 ≤ i ∧ i < 65 + j) → s.2.1 i = σ.2.1 i) ∧ ∀ r c, r < j → c < n → s.2.1 (65 + r) c = tz (σ.2.1 (3 + b)) ((m : Int) + r - c))
    (by
      intro q j s hj hP
      obtain ⟨p1, p2, p3, p4⟩ := hP
      have hL1 : Lay s := ⟨p1.trans hL.1, fun q hq => by rw [p2]; exact hL.2 q hq⟩
      have hN1 := hL1.1
      have eb := p3 (3 + b) (by omega)
      refine ⟨pw_st s (65 + j) (fun c => if 0 ≤ c ∧ c < n then tz (s.2.1 (3 + b)) ((m : Int) + j - c) else s.2.1 (65 + j) c), ?_, p1, p2, fun i hi => ?_, fun r c h1 h2 => ?_⟩
      · try dsimp only
        rw [us_D_fill_3]
        unfold mb_D_fill_3
        rw [pw_ck_ok (by omega) (by omega), if_neg (by omega), pw_ck_ok (by omega) (by omega), if_neg (by omega), e_D_fillRow hL1 hb hm hn (by omega)]
        rfl
      · rw [st_ne (by omega)]; exact p3 i (by omega)
      · by_cases z : r = j
        · subst z
          rw [st_eq, if_pos (by omega), eb]
        · rw [st_ne (by omega)]; exact p4 r c (by omega) h2) n 0 1000 σ (by omega) (by omega) ⟨rfl, rfl, fun _ _ => rfl, fun r c h1 h2 => by omega⟩
  obtain ⟨p1, p2, p3, p4⟩ := hP
  refine ⟨s', ?_, p1, p2, p3, p4⟩
  unfold mf_D_fill
  rw [ex_gd (by omega) (by omega)]
  refine Eq.trans e1 ?_
  try dsimp only
  rw [us_D_fill_3]
  unfold mb_D_fill_3
  rw [pw_ck_ok (by omega) (by omega), if_pos (by omega)]
