def qtV (p : Nat) (w : Int) (a b : Nat → Int) : Nat → (Nat → Int) → Int := fun k f => ((a k + sm (fun i => -(f i * b (k - i))) k) % p * w) % p
theorem qtV_ok (p : Nat) (w : Int) (a b : Nat → Int) : ∀ k f g, (∀ j, j < k → f j = g j) → qtV p w a b k f = qtV p w a b k g := by
  intro k f g h
  unfold qtV
  rw [sm_congr (g := fun i => -(g i * b (k - i))) (fun i hi => by rw [h _ hi])]
theorem qt_rng {p : Nat} (hp : 2 ≤ p) (w : Int) (a b : Nat → Int) (k : Nat) : 0 ≤ cov (qtV p w a b) k ∧ cov (qtV p w a b) k < p := by
  rw [cov_eq (qtV_ok p w a b)]
  exact mod_rng hp _
theorem e_M_makeQuotient {σ : pw_Sto} (hL : Lay σ) {p : Nat} (hp0 : σ.2.1 92 0 = p) (hp : isPb p = true) (va : ∀ k, k < 16 → 0 ≤ σ.2.1 97 k ∧ σ.2.1 97 k < p) (vb : ∀ k, k < 16 → 0 ≤ σ.2.1 98 k ∧ σ.2.1 98 k < p) (hb0 : σ.2.1 98 0 ≠ 0) : mf_M_makeQuotient 91 σ = some ((), pw_st σ 96 (fun j => if j < 16 then cov (qtV p ((iv p (σ.2.1 98 0).toNat : Nat) : Int) (σ.2.1 97) (σ.2.1 98)) j else σ.2.1 96 j)) := by
  have hp2 := isPb_le hp
  have hN := hL.1
  have := sh_91
  have := sh_96
  have := sh_97
  have := sh_98
  have w0 := vb 0 (by omega)
  have hil := iv_lt (a := (σ.2.1 98 0).toNat) hp
  generalize hw : ((iv p (σ.2.1 98 0).toNat : Nat) : Int) = w
  have hwr : 0 ≤ w ∧ w < p := by rw [← hw]; omega
  have h := lp_fill (O := Unit × pw_Sto) (fun n k s => ml_M_makeQuotient_13 n 91 w k s) σ 96 0 16 (fun k => cov (qtV p w (σ.2.1 97) (σ.2.1 98)) k) (fun s => some ((), s))
    (by
      intro n k hh hk0 hk g1 g2
      have hL' : Lay (pw_st σ 96 hh) := hL
      have hp0' : (pw_st σ 96 hh).2.1 92 0 = p := by rw [st_ne (by omega)]; exact hp0
      have wk := va k hk
      try dsimp only
      rw [us_M_makeQuotient_13]
      unfold mb_M_makeQuotient_13
      rw [pw_ck_ok (by omega) (by omega), if_neg (by omega), ex_gr (by rw [st_1]; omega) (by omega), lr_91_7 hL', Option.bind_some, ex_ai (by rw [st_1]; omega) (by omega) (by omega) (by omega), Option.bind_some, st_ne (by omega), Int.toNat_natCast]
      have hl := lp_smod (O := Unit × pw_Sto) (fun m i z => ml_M_makeQuotient_29 (ml_M_makeQuotient_13 n) m 91 w k z i (pw_st σ 96 hh)) p k (σ.2.1 97 k) (fun i => -(cov (qtV p w (σ.2.1 97) (σ.2.1 98)) i * σ.2.1 98 (k - i))) (fun z => (pw_gr 10 91 6 (pw_st σ 96 hh)).bind (fun v7 => pw_bd (mf_M_mod 91 (z * w) (pw_st σ 96 hh)) (fun v9 s8 => (pw_si v7 k v9 s8).bind (fun s10 => ml_M_makeQuotient_13 n 91 w ((k : Int) + 1) s10))))
        (by
          intro m i hi
          have m1 := mod_rng (p := p) (by omega) (σ.2.1 97 k + sm (fun i => -(cov (qtV p w (σ.2.1 97) (σ.2.1 98)) i * σ.2.1 98 (k - i))) i)
          have w1 := qt_rng (p := p) (by omega) w (σ.2.1 97) (σ.2.1 98) i
          have w2 := vb (k - i) (by omega)
          have w3 := imul250 w1.1 (by omega) w2.1 (by omega)
          try dsimp only
          rw [us_M_makeQuotient_29]
          unfold mb_M_makeQuotient_29
          rw [pw_ck_ok (by omega) (by omega), if_neg (by omega), ex_gr (by rw [st_1]; omega) (by omega), lr_91_6 hL', Option.bind_some, ex_ai (by rw [st_1]; omega) (by omega) (by omega) (by omega), Option.bind_some, ex_gr (by rw [st_1]; omega) (by omega), lr_91_8 hL', Option.bind_some, ex_ai (by rw [st_1]; omega) (by omega) (by omega) (by omega), Option.bind_some, st_eq, st_ne (by omega), Int.toNat_natCast, show ((k : Int) - i).toNat = k - i by omega, g2 i (by omega) (by omega), e_M_mod hL' hp0' (by omega) (by omega) (by omega), ex_bd]
          rw [Int.sub_eq_add_neg]
          rfl)
        (by
          intro m z
          try dsimp only
          rw [us_M_makeQuotient_29]
          unfold mb_M_makeQuotient_29
          rw [pw_ck_ok (by omega) (by omega), if_pos (by omega)]) 1000 (by omega)
      have hl' : ml_M_makeQuotient_29 (ml_M_makeQuotient_13 n) 1000 91 w k (σ.2.1 97 k % (p : Int)) 0 (pw_st σ 96 hh) = _ := hl
      rw [Int.emod_eq_of_lt wk.1 wk.2] at hl'
      have m2 := mod_rng (p := p) (by omega) (σ.2.1 97 k + sm (fun i => -(cov (qtV p w (σ.2.1 97) (σ.2.1 98)) i * σ.2.1 98 (k - i))) k)
      have m3 := imul250 m2.1 (by omega) hwr.1 (by omega)
      rw [hl', ex_gr (by rw [st_1]; omega) (by omega), lr_91_6 hL', Option.bind_some, e_M_mod hL' hp0' (by omega) (by omega) (by omega), ex_bd, xs_si (by rw [st_1]; omega) (by omega) (by omega) (by omega), Option.bind_some, st_st, st_eq, Int.toNat_natCast]
      have ek : cov (qtV p w (σ.2.1 97) (σ.2.1 98)) k = ((σ.2.1 97 k + sm (fun i => -(cov (qtV p w (σ.2.1 97) (σ.2.1 98)) i * σ.2.1 98 (k - i))) k) % p * w) % p := cov_eq (qtV_ok p w _ _) k
      rw [← ek]
      rfl)
    (by
      intro n hh
      try dsimp only
      rw [us_M_makeQuotient_13]
      unfold mb_M_makeQuotient_13
      rw [pw_ck_ok (by omega) (by omega), if_pos (by omega)]) 1000 (by omega) (by omega)
  unfold mf_M_makeQuotient
  have ei := e_M_inverse hL hp0 hp (a := (σ.2.1 98 0).toNat) (by omega) (by omega)
  rw [show (((σ.2.1 98 0).toNat : Nat) : Int) = σ.2.1 98 0 by omega, hw] at ei
  have h' : ml_M_makeQuotient_13 1000 91 w 0 σ = _ := h
  rw [ex_gd (by omega) (by omega), ex_gr (by omega) (by omega), lr_91_8 hL, Option.bind_some, ex_ai (by omega) (by omega) (by omega) (by omega), Option.bind_some, show (0 : Int).toNat = 0 from rfl, ei, ex_bd, h']
  exact congrArg (fun z => some ((), z)) (st_congr fun j => by simp)
theorem MR.scr {σ σ' : pw_Sto} {A : ASt} {T : Nat → Int} {len : Nat} {E : Nat → Int} {Hs : List ASt} (h : MR σ A T len E Hs) (h1 : σ'.1 = σ.1) (h2 : σ'.2.2 = σ.2.2) (h3 : ∀ i, ¬ (96 ≤ i) → i ≠ 91 → σ'.2.1 i = σ.2.1 i) (h4 : ∀ k, k ≠ 9 → σ'.2.1 91 k = σ.2.1 91 k) : MR σ' A T len E Hs := h.now h1 h2 ⟨h3 93 (by omega) (by omega), h3 94 (by omega) (by omega), h3 95 (by omega) (by omega), h4 2 (by omega), h4 5 (by omega)⟩ (h.2.1.kept (h3 92 (by omega) (by omega)))
theorem e_M_store {σ : pw_Sto} {A : ASt} {T : Nat → Int} {len : Nat} {E : Nat → Int} {Hs : List ASt} (hM : MR σ A T len E Hs) (hV : VR A T len Hs) {to : Int} (h1 : 0 ≤ to) (h2 : to < 4) {f : Nat → Int} (hf : ∀ k, k < 16 → σ.2.1 96 k = f k) (hf2 : ∀ k, k < 16 → 0 ≤ f k ∧ f k < A.1) : ∃ σ', mf_M_store 91 to σ = some (cnt f, σ') ∧ MR σ' (A.1, setRow A.2.1 to.toNat f, A.2.2) T len E ((A :: Hs).take 4) ∧ Lo σ σ' := by
  obtain ⟨hL, _, h3, h4, h5, h6⟩ := id hM
  obtain ⟨s1, e1, c1, d1, d2, d3⟩ := e_M_save hM hV
  have hp := isPb_le hV.1.1
  have hL1 := c1.1
  have hN := hL.1
  have hN1 := hL1.1
  have := sh_91
  have := sh_92
  have := sh_96
  obtain ⟨b1, b2, b3, b4⟩ := c1.2.1
  have h96 : ∀ k, k < 16 → s1.2.1 96 k = f k := fun k hk => by rw [d3 96 (by omega) (by omega)]; exact hf k hk
  obtain ⟨⟨z, s'⟩, g1, g2, g3⟩ := lp_up (S := Int × pw_Sto) (O := Int × pw_Sto) (fun n k s => ml_M_store_8 n 91 to s.1 k s.2) 16 (fun k s => (s.1 + (if f k = 0 then 0 else 1), pw_st s1 92 (fun j => if 1 + 16 * to.toNat ≤ j ∧ j < 1 + 16 * to.toNat + (k + 1) then f (j - (1 + 16 * to.toNat)) else s1.2.1 92 j))) (fun s => some (s.1, s.2))
    (fun k s => s.1 = sm (fun k => if f k = 0 then 0 else 1) k ∧ s.2 = pw_st s1 92 (fun j => if 1 + 16 * to.toNat ≤ j ∧ j < 1 + 16 * to.toNat + k then f (j - (1 + 16 * to.toNat)) else s1.2.1 92 j))
    (by
      intro n k s hk hI
      obtain ⟨z, s⟩ := s
      obtain ⟨i1, i2⟩ := hI
      dsimp only at i1 i2
      subst i2
      refine ⟨?_, by show z + _ = sm _ k + _; rw [i1], rfl⟩
      try dsimp only
      rw [us_M_store_8]
      unfold mb_M_store_8 mj_M_store_48
      have w := hf2 k hk
      rw [pw_ck_ok (by omega) (by omega), if_neg (by omega), ex_gr (by rw [st_1]; omega) (by omega), st_2, lr_91_0 hL1, Option.bind_some, ex_gr (by rw [st_1]; omega) (by omega), st_2, lr_91_6 hL1, Option.bind_some, ex_ai (by rw [st_1]; omega) (by omega) (by omega) (by omega), Option.bind_some, st_ne (by omega), Int.toNat_natCast, h96 k hk, xs_si (by rw [st_1]; omega) (by omega) (by omega) (by omega), Option.bind_some, st_st, st_eq, ex_gr (by rw [st_1]; omega) (by omega), st_2, lr_91_6 hL1, Option.bind_some, ex_ai (by rw [st_1]; omega) (by omega) (by omega) (by omega), Option.bind_some, st_ne (by omega), Int.toNat_natCast, h96 k hk, pw_ck_ok (by omega) (by omega)]
      have est : pw_st s1 92 (fun j => if j = (1 + 16 * to + (k : Int)).toNat then f k else if 1 + 16 * to.toNat ≤ j ∧ j < 1 + 16 * to.toNat + k then f (j - (1 + 16 * to.toNat)) else s1.2.1 92 j) = pw_st s1 92 (fun j => if 1 + 16 * to.toNat ≤ j ∧ j < 1 + 16 * to.toNat + (k + 1) then f (j - (1 + 16 * to.toNat)) else s1.2.1 92 j) := st_congr (fun j => by
        by_cases q : j = (1 + 16 * to + (k : Int)).toNat
        · rw [if_pos q, if_pos (by omega), show j - (1 + 16 * to.toNat) = k by omega]
        · rw [if_neg q]
          by_cases q2 : 1 + 16 * to.toNat ≤ j ∧ j < 1 + 16 * to.toNat + k
          · rw [if_pos q2, if_pos (by omega)]
          · rw [if_neg q2, if_neg (by omega)])
      rw [est]
      by_cases q : f k = 0
      · rw [if_pos q, if_pos q]; rfl
      · rw [if_neg q, if_neg q]; rfl)
    (by
      intro n s _
      try dsimp only
      rw [us_M_store_8]
      unfold mb_M_store_8
      rw [pw_ck_ok (by omega) (by omega), if_pos (by omega)]) 1000 0 (0, s1) (by omega) (by omega) ⟨rfl, by
        dsimp only
        have e9 : (fun j => if 1 + 16 * to.toNat ≤ j ∧ j < 1 + 16 * to.toNat + 0 then f (j - (1 + 16 * to.toNat)) else s1.2.1 92 j) = s1.2.1 92 := by
          funext j
          rw [if_neg (by omega)]
        rw [e9, st_self]⟩
  dsimp only at g1 g2 g3
  have g1' : ml_M_store_8 1000 91 to 0 0 s1 = some (z, s') := g1
  subst g3
  refine ⟨pw_st s1 92 (fun j => if 1 + 16 * to.toNat ≤ j ∧ j < 1 + 16 * to.toNat + 16 then f (j - (1 + 16 * to.toNat)) else s1.2.1 92 j), ?_, ?_⟩
  · unfold mf_M_store
    rw [ex_gd (by omega) (by omega), e1, ex_bd, g1', g2]
    rfl
  · refine ⟨c1.now (σ := s1) rfl rfl ⟨st_ne (by omega), st_ne (by omega), st_ne (by omega), by rw [st_ne (by omega)], by rw [st_ne (by omega)]⟩ ⟨?_, fun s k hs hk => ?_, ?_, fun i hi => ⟨?_, ?_⟩⟩, ⟨d1, d2, fun i hi => by rw [st_ne (by omega), d3 i (by omega) (by omega)]⟩⟩
    · rw [st_eq, if_neg (by omega)]; exact b1
    · show _ = setRow A.2.1 to.toNat f s k
      unfold setRow
      rw [st_eq]
      by_cases q : s = to.toNat
      · rw [if_pos q, if_pos (by omega), show 0 + 1 + 16 * s + k - (1 + 16 * to.toNat) = k by omega]
      · rw [if_neg q, if_neg (by omega)]
        exact b2 s k hs hk
    · rw [st_eq, if_neg (by omega)]; exact b3
    · have hi9 : i < A.2.2.1 := hi
      have := hV.1.2.2.1
      rw [st_eq, if_neg (by omega)]; exact (b4 i hi).1
    · have hi9 : i < A.2.2.1 := hi
      have := hV.1.2.2.1
      rw [st_eq, if_neg (by omega)]; exact (b4 i hi).2
