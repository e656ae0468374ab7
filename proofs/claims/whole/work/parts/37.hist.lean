/-! ## saved states: the class's ring -/
def isSt (o : Nat) : Prop := o = 1 ∨ o = 11 ∨ o = 19 ∨ o = 27 ∨ o = 35
theorem st_refs {σ : pw_Sto} (hL : Lay σ) {o : Nat} (h : isSt o) : σ.2.2 o 1 = some (o + 1) ∧ σ.2.2 o 3 = some (o + 6) ∧ σ.2.2 o 4 = some (o + 7) ∧ ∀ s, s < 4 → σ.2.2 (o + 1) s = some (o + 2 + s) := by
  refine ⟨?_, ?_, ?_, fun s hs => ?_⟩
  · rcases h with rfl | rfl | rfl | rfl | rfl
    · exact lr_1_1 hL
    · exact lr_11_1 hL
    · exact lr_19_1 hL
    · exact lr_27_1 hL
    · exact lr_35_1 hL
  · rcases h with rfl | rfl | rfl | rfl | rfl
    · exact lr_1_3 hL
    · exact lr_11_3 hL
    · exact lr_19_3 hL
    · exact lr_27_3 hL
    · exact lr_35_3 hL
  · rcases h with rfl | rfl | rfl | rfl | rfl
    · exact lr_1_4 hL
    · exact lr_11_4 hL
    · exact lr_19_4 hL
    · exact lr_27_4 hL
    · exact lr_35_4 hL
  · have hs4 : s = 0 ∨ s = 1 ∨ s = 2 ∨ s = 3 := by omega
    rcases h with rfl | rfl | rfl | rfl | rfl <;> rcases hs4 with rfl | rfl | rfl | rfl <;> exact hL.2 (_, _, _) (by decide)
theorem st_shp {o : Nat} (h : isSt o) : o + 7 < 109 ∧ (pw_sh o).1 = 7 ∧ (pw_sh (o + 1)).1 = 13 ∧ (pw_sh (o + 1)).2 = 4 ∧ (pw_sh (o + 6)).1 = 11 ∧ (pw_sh (o + 6)).2 = 10 ∧ (pw_sh (o + 7)).1 = 11 ∧ (pw_sh (o + 7)).2 = 10 ∧ ∀ s, s < 4 → (pw_sh (o + 2 + s)).1 = 11 ∧ (pw_sh (o + 2 + s)).2 = 16 := by
  have key : ∀ s, s < 4 → s = 0 ∨ s = 1 ∨ s = 2 ∨ s = 3 := by omega
  rcases h with rfl | rfl | rfl | rfl | rfl <;> refine ⟨by decide, by decide, by decide, by decide, by decide, by decide, by decide, by decide, fun s hs => ?_⟩ <;> rcases key s hs with rfl | rfl | rfl | rfl <;> decide
theorem e_Z_copyFrom {σ : pw_Sto} (hL : Lay σ) {a b : Nat} (ha : isSt a) (hb : isSt b) (hab : a ≠ b) : ∃ σ', mf_Z_copyFrom a b σ = some ((), σ') ∧ σ'.1 = σ.1 ∧ σ'.2.2 = σ.2.2 ∧ (∀ i, ¬ (a ≤ i ∧ i < a + 8) → σ'.2.1 i = σ.2.1 i) ∧ ∀ A, VA A → StC σ b A → StC σ' a A := by
  have hN := hL.1
  obtain ⟨ra1, ra3, ra4, ras⟩ := st_refs hL ha
  obtain ⟨rb1, rb3, rb4, rbs⟩ := st_refs hL hb
  obtain ⟨a0, a1, a2, a3, a4, a5, a6, a7, a8⟩ := st_shp ha
  obtain ⟨b0, b1, b2, b3, b4, b5, b6, b7, b8⟩ := st_shp hb
  have hd : a + 8 ≤ b ∨ b + 8 ≤ a := by unfold isSt at ha hb; omega
  unfold mf_Z_copyFrom
  simp (disch := omega) only [ex_gd, ex_gi, xs_pi, Option.bind_some]
  generalize hs0 : pw_st σ a (fun j => if j = 0 then σ.2.1 b 0 else σ.2.1 a j) = s0
  have z1 : s0.1 = σ.1 := by rw [← hs0]; rfl
  have z2 : s0.2.2 = σ.2.2 := by rw [← hs0]; rfl
  have z3 : ∀ i, i ≠ a → s0.2.1 i = σ.2.1 i := fun i hi => by rw [← hs0]; exact st_ne hi
  have z4 : s0.2.1 a 0 = σ.2.1 b 0 := by rw [← hs0, st_eq]; rfl
  obtain ⟨s', h1, q1, q2, q3, q4⟩ := lp_up (S := pw_Sto) (O := Unit × pw_Sto) (fun n k s => ml_Z_copyFrom_10 n a b k s) 4 (fun k s => pw_st s (a + 2 + k) (va_cpy (s.2.1 (b + 2 + k)) (s.2.1 (a + 2 + k)) 0 0 16))
    (fun s => (pw_gi 7 b 2 s).bind (fun v3 => (pw_pi 7 a 2 v3 s).bind (fun s4 => (pw_gr 7 b 3 s4).bind (fun v5 => (pw_gr 7 a 3 s4).bind (fun v6 => (pw_cp v5 (0 : Int) v6 (0 : Int) (10 : Int) s4).bind (fun s7 => (pw_gr 7 b 4 s7).bind (fun v8 => (pw_gr 7 a 4 s7).bind (fun v9 => (pw_cp v8 (0 : Int) v9 (0 : Int) (10 : Int) s7).bind (fun s10 => some ((), s10))))))))))
    (fun k s => s.1 = s0.1 ∧ s.2.2 = s0.2.2 ∧ (∀ i, ¬ (a + 2 ≤ i ∧ i < a + 2 + k) → s.2.1 i = s0.2.1 i) ∧ ∀ q, q < k → ∀ j, j < 16 → s.2.1 (a + 2 + q) j = s0.2.1 (b + 2 + q) j)
    (by
      intro n k s hk hI
      obtain ⟨i1, i2, i3, i4⟩ := hI
      have p1 := a8 k hk
      have p2 := b8 k hk
      refine ⟨?_, i1, i2, fun i hi => ?_, fun q hq j hj => ?_⟩
      · show mb_Z_copyFrom_10 (ml_Z_copyFrom_10 n) a b k s = _
        unfold mb_Z_copyFrom_10
        rw [pw_ck_ok (by omega) (by omega), if_neg (by omega), ex_gr (by omega) (by omega), i2, z2, rb1, Option.bind_some, ex_ar (by omega) (by omega) (by omega) (by omega), i2, z2, Int.toNat_natCast, rbs k hk, Option.bind_some, ex_gr (by omega) (by omega), i2, z2, ra1, Option.bind_some, ex_ar (by omega) (by omega) (by omega) (by omega), i2, z2, Int.toNat_natCast, ras k hk, Option.bind_some, xs_cp (by omega) (by omega) (by omega) (by omega) (by omega) (by omega) (by omega) (by omega) (by omega), Option.bind_some]
        rfl
      · rw [st_ne (by omega)]
        exact i3 i (by omega)
      · by_cases hqk : q = k
        · subst hqk
          rw [st_eq]
          unfold va_cpy
          rw [if_pos (by omega), i3 _ (by omega), show 0 + (j - 0) = j by omega]
        · rw [st_ne (by omega)]
          exact i4 q (by omega) j hj)
    (by
      intro n s _
      show mb_Z_copyFrom_10 (ml_Z_copyFrom_10 n) a b ((4 : Nat) : Int) s = _
      unfold mb_Z_copyFrom_10
      rw [pw_ck_ok (by omega) (by omega), if_pos (by omega)]) 1000 0 s0 (by omega) (by omega) ⟨rfl, rfl, fun _ _ => rfl, fun q hq => by omega⟩
  have h2 : ml_Z_copyFrom_10 1000 a b 0 s0 = _ := h1
  rw [h2, ex_gi (by omega) (by omega), Option.bind_some, xs_pi (by omega) (by omega), Option.bind_some, ex_gr (by rw [st_1]; omega) (by omega), st_2, q2, z2, rb3, Option.bind_some, ex_gr (by rw [st_1]; omega) (by omega), st_2, q2, z2, ra3, Option.bind_some, xs_cp (by rw [st_1]; omega) (by omega) (by rw [st_1]; omega) (by omega) (by omega) (by omega) (by omega) (by omega) (by omega), Option.bind_some, ex_gr (by rw [st_1, st_1]; omega) (by omega), st_2, st_2, q2, z2, rb4, Option.bind_some, ex_gr (by rw [st_1, st_1]; omega) (by omega), st_2, st_2, q2, z2, ra4, Option.bind_some, xs_cp (by rw [st_1, st_1]; omega) (by omega) (by rw [st_1, st_1]; omega) (by omega) (by omega) (by omega) (by omega) (by omega) (by omega), Option.bind_some]
  refine ⟨_, rfl, by rw [st_1, st_1, st_1, q1, z1], by rw [st_2, st_2, st_2, q2, z2], fun i hi => ?_, fun A hV hA => ?_⟩
  · rw [st_ne (by omega), st_ne (by omega), st_ne (by omega), q3 i (by omega), z3 i (by omega)]
  · obtain ⟨h1, h2, h3, h4⟩ := hA
    have hN10 := hV.2.2.1
    refine ⟨?_, fun s k hs hk => ?_, ?_, fun i hi => ⟨?_, ?_⟩⟩
    · rw [st_ne (by omega), st_ne (by omega), st_eq]
      show (if 0 = 2 then _ else s'.2.1 a 0) = _
      rw [if_neg (by omega), q3 a (by omega), z4]
      exact h1
    · rw [st_ne (by omega), st_ne (by omega), st_ne (by omega), q4 s hs k hk, z3 _ (by omega)]
      exact h2 s k hs hk
    · rw [st_ne (by omega), st_ne (by omega), st_eq]
      show (if 2 = 2 then s'.2.1 b 2 else _) = _
      rw [if_pos rfl, q3 b (by omega), z3 b (by omega)]
      exact h3
    · rw [st_ne (by omega), st_eq]
      unfold va_cpy
      rw [if_pos (by omega), st_ne (by omega), q3 _ (by omega), z3 _ (by omega)]
      have := (h4 i hi).1
      rw [← this]
      simp
    · rw [st_eq]
      unfold va_cpy
      rw [if_pos (by omega), st_ne (by omega), st_ne (by omega), q3 _ (by omega), z3 _ (by omega)]
      have := (h4 i hi).2
      rw [← this]
      simp
