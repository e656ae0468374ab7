/-! ## series: canonical functions over Int -/
theorem sm_bd {f : Nat → Int} {C : Int} {n : Nat} (h : ∀ i, i < n → 0 ≤ f i ∧ f i ≤ C) : 0 ≤ sm f n ∧ sm f n ≤ n * C := by
  induction n with
  | zero => exact ⟨Int.le_refl 0, by show (0 : Int) ≤ ((0 : Nat) : Int) * C; omega⟩
  | succ n ih =>
    have h1 := ih (fun i hi => h i (by omega))
    have h2 := h n (by omega)
    show 0 ≤ sm f n + f n ∧ sm f n + f n ≤ ((n + 1 : Nat) : Int) * C
    have e : ((n + 1 : Nat) : Int) * C = n * C + C := by rw [Int.natCast_add, Int.add_mul]; simp
    omega
def cvI (p : Nat) (a b : Nat → Int) (k : Nat) : Int := (sm (fun i => a i * b (k - i)) (k + 1)) % p
theorem mod_rng {p : Nat} (hp : 2 ≤ p) (x : Int) : 0 ≤ x % p ∧ x % p < p := ⟨Int.emod_nonneg x (by omega), Int.emod_lt_of_pos x (by omega)⟩
theorem e_S_sum {σ : pw_Sto} {a b t p : Nat} (ha : a < σ.1) (hb : b < σ.1) (ht : t < σ.1) (sa : pw_sh a = (11, 16)) (sb : pw_sh b = (11, 16)) (s3 : pw_sh t = (11, 16)) (hta : t ≠ a) (htb : t ≠ b) (hp : 2 ≤ p) (hp2 : p ≤ 251) (va : ∀ k, k < 16 → 0 ≤ σ.2.1 a k ∧ σ.2.1 a k ≤ 250) (vb : ∀ k, k < 16 → 0 ≤ σ.2.1 b k ∧ σ.2.1 b k ≤ 250) : mf_S_sum a b t p σ = some ((), pw_st σ t (fun j => if j < 16 then (σ.2.1 a j + σ.2.1 b j) % p else σ.2.1 t j)) := by
  have ea : (pw_sh a).1 = 11 ∧ (pw_sh a).2 = 16 := by rw [sa]; exact ⟨rfl, rfl⟩
  have eb : (pw_sh b).1 = 11 ∧ (pw_sh b).2 = 16 := by rw [sb]; exact ⟨rfl, rfl⟩
  have et : (pw_sh t).1 = 11 ∧ (pw_sh t).2 = 16 := by rw [s3]; exact ⟨rfl, rfl⟩
  have h := lp_fill (O := Unit × pw_Sto) (fun n k s => ml_S_sum_3 n a b t p k s) σ t 0 16 (fun k => (σ.2.1 a k + σ.2.1 b k) % p) (fun s => some ((), s))
    (by
      intro n k hh hk0 hk g1 g2
      have w1 := va k hk
      have w2 := vb k hk
      show mb_S_sum_3 (ml_S_sum_3 n) a b t p k (pw_st σ t hh) = _
      unfold mb_S_sum_3
      rw [pw_ck_ok (by omega) (by omega), if_neg (by omega), ex_ai (by rw [st_1]; omega) (by omega) (by omega) (by omega), Option.bind_some, ex_ai (by rw [st_1]; omega) (by omega) (by omega) (by omega), Option.bind_some, st_ne (Ne.symm hta), st_ne (Ne.symm htb), Int.toNat_natCast, e_K_reduce (by omega) (by omega) (by omega) (by omega), ex_bd, xs_si (by rw [st_1]; omega) (by omega) (by omega) (by omega), Option.bind_some, st_st, st_eq, Int.toNat_natCast]
      rfl)
    (by
      intro n hh
      show mb_S_sum_3 (ml_S_sum_3 n) a b t p ((16 : Nat) : Int) (pw_st σ t hh) = _
      unfold mb_S_sum_3
      rw [pw_ck_ok (by omega) (by omega), if_pos (by omega)]) 1000 (by omega) (by omega)
  unfold mf_S_sum
  have h' : ml_S_sum_3 1000 a b t p 0 σ = _ := h
  rw [h']
  exact congrArg (fun z => some ((), z)) (st_congr fun j => by simp)
theorem e_S_product {σ : pw_Sto} {a b t p : Nat} (ha : a < σ.1) (hb : b < σ.1) (ht : t < σ.1) (sa : pw_sh a = (11, 16)) (sb : pw_sh b = (11, 16)) (s3 : pw_sh t = (11, 16)) (hta : t ≠ a) (htb : t ≠ b) (hp : 2 ≤ p) (hp2 : p ≤ 251) (va : ∀ k, k < 16 → 0 ≤ σ.2.1 a k ∧ σ.2.1 a k ≤ 250) (vb : ∀ k, k < 16 → 0 ≤ σ.2.1 b k ∧ σ.2.1 b k ≤ 250) : mf_S_product a b t p σ = some ((), pw_st σ t (fun j => if j < 16 then cvI p (σ.2.1 a) (σ.2.1 b) j else σ.2.1 t j)) := by
  have ea : (pw_sh a).1 = 11 ∧ (pw_sh a).2 = 16 := by rw [sa]; exact ⟨rfl, rfl⟩
  have eb : (pw_sh b).1 = 11 ∧ (pw_sh b).2 = 16 := by rw [sb]; exact ⟨rfl, rfl⟩
  have et : (pw_sh t).1 = 11 ∧ (pw_sh t).2 = 16 := by rw [s3]; exact ⟨rfl, rfl⟩
  have h := lp_fill (O := Unit × pw_Sto) (fun n k s => ml_S_product_3 n a b t p k s) σ t 0 16 (fun k => cvI p (σ.2.1 a) (σ.2.1 b) k) (fun s => some ((), s))
    (by
      intro n k hh hk0 hk g1 g2
      show mb_S_product_3 (ml_S_product_3 n) a b t p k (pw_st σ t hh) = _
      unfold mb_S_product_3
      rw [pw_ck_ok (by omega) (by omega), if_neg (by omega)]
      have hl := lp_sum0 (O := Unit × pw_Sto) (fun m i z => ml_S_product_16 (ml_S_product_3 n) m a b t p k z i (pw_st σ t hh)) (k + 1) (fun i => σ.2.1 a i * σ.2.1 b (k - i)) (fun z => pw_bd (mf_K_reduce z p (pw_st σ t hh)) (fun v2 s1 => (pw_si t k v2 s1).bind (fun s3 => ml_S_product_3 n a b t p ((k : Int) + 1) s3)))
        (by
          intro m i z hi
          show mb_S_product_16 (ml_S_product_3 n) (ml_S_product_16 (ml_S_product_3 n) m) a b t p k z i (pw_st σ t hh) = _
          unfold mb_S_product_16
          rw [pw_ck_ok (by omega) (by omega), if_neg (by omega), ex_ai (by rw [st_1]; omega) (by omega) (by omega) (by omega), Option.bind_some, ex_ai (by rw [st_1]; omega) (by omega) (by omega) (by omega), Option.bind_some, st_ne (Ne.symm hta), st_ne (Ne.symm htb), Int.toNat_natCast, show ((k : Int) - i).toNat = k - i by omega]
          rfl)
        (by
          intro m z
          try dsimp only
          rw [us_S_product_16]
          unfold mb_S_product_16
          rw [pw_ck_ok (by omega) (by omega), if_pos (by omega)]) 1000 0 (by omega)
      have hl' : ml_S_product_16 (ml_S_product_3 n) 1000 a b t p k 0 0 (pw_st σ t hh) = _ := hl
      have bd := sm_bd (f := fun i => σ.2.1 a i * σ.2.1 b (k - i)) (C := 63001) (n := k + 1) (fun i hi => by
        have w1 := va i (by omega)
        have w2 := vb (k - i) (by omega)
        exact imul250 w1.1 (by omega) w2.1 (by omega))
      have hk2 : ((k + 1 : Nat) : Int) * 63001 ≤ 16 * 63001 := Int.mul_le_mul_of_nonneg_right (by omega) (by omega)
      rw [hl', Int.zero_add, e_K_reduce bd.1 (by omega) (by omega) (by omega), ex_bd, xs_si (by rw [st_1]; omega) (by omega) (by omega) (by omega), Option.bind_some, st_st, st_eq, Int.toNat_natCast]
      rfl)
    (by
      intro n hh
      show mb_S_product_3 (ml_S_product_3 n) a b t p ((16 : Nat) : Int) (pw_st σ t hh) = _
      unfold mb_S_product_3
      rw [pw_ck_ok (by omega) (by omega), if_pos (by omega)]) 1000 (by omega) (by omega)
  unfold mf_S_product
  have h' : ml_S_product_3 1000 a b t p 0 σ = _ := h
  rw [h']
  exact congrArg (fun z => some ((), z)) (st_congr fun j => by simp)
/-- values each made out of those before -/
def covF (val : Nat → (Nat → Int) → Int) : Nat → Nat → Int
  | 0 => fun _ => 0
  | n + 1 => fun j => if j = n then val n (covF val n) else covF val n j
def cov (val : Nat → (Nat → Int) → Int) (k : Nat) : Int := covF val (k + 1) k
theorem covF_eq {val : Nat → (Nat → Int) → Int} : ∀ (n j : Nat), j < n → covF val n j = cov val j := by
  intro n
  induction n with
  | zero => intro j h; omega
  | succ n ih =>
    intro j h
    by_cases hj : j = n
    · subst hj; rfl
    · show (if j = n then _ else covF val n j) = _
      rw [if_neg hj]
      exact ih j (by omega)
theorem cov_eq {val : Nat → (Nat → Int) → Int} (hv : ∀ k f g, (∀ j, j < k → f j = g j) → val k f = val k g) (k : Nat) : cov val k = val k (cov val) := by
  show (if k = k then val k (covF val k) else _) = _
  rw [if_pos rfl]
  exact hv k _ _ (fun j hj => covF_eq k j hj)
def rcpV (p : Nat) (a : Nat → Int) : Nat → (Nat → Int) → Int := fun k f => if k = 0 then ((iv p (a 0).toNat : Nat) : Int) else ((p : Int) - ((sm (fun i => a (i + 1) * f (k - (i + 1))) k) % p * ((iv p (a 0).toNat : Nat) : Int)) % p) % p
theorem rcpV_ok (p : Nat) (a : Nat → Int) : ∀ k f g, (∀ j, j < k → f j = g j) → rcpV p a k f = rcpV p a k g := by
  intro k f g h
  unfold rcpV
  by_cases hk : k = 0
  · rw [if_pos hk, if_pos hk]
  · rw [if_neg hk, if_neg hk, sm_congr (g := fun i => a (i + 1) * g (k - (i + 1))) (fun i hi => by rw [h _ (by omega)])]
theorem rcp_rng {p : Nat} (hp : isPb p = true) (a : Nat → Int) (k : Nat) : 0 ≤ cov (rcpV p a) k ∧ cov (rcpV p a) k < p := by
  have hp2 := isPb_le hp
  rw [cov_eq (rcpV_ok p a)]
  unfold rcpV
  by_cases hk : k = 0
  · rw [if_pos hk]
    have := iv_lt (a := (a 0).toNat) hp
    omega
  · rw [if_neg hk]
    exact mod_rng (by omega) _
/-- a loop counting up from 1 that adds -/
theorem lp_sum1 {O : Type} (f : Nat → Int → Int → Option O) (e : Nat) (t : Nat → Int) (out : Int → Option O) (hs : ∀ n (k : Nat) z, k < e → f (n + 1) ((k + 1 : Nat) : Int) z = f n ((k + 1 + 1 : Nat) : Int) (z + t k)) (hx : ∀ n z, f (n + 1) ((e + 1 : Nat) : Int) z = out z) (n : Nat) (z : Int) (hn : e < n) : f n 1 z = out (z + sm t e) := by
  have h := lp_sum0 (fun n k z => f n (k + 1) z) e t out (fun n k z hk => by
    have := hs n k z hk
    rw [show (((k + 1 : Nat) : Int)) = (k : Int) + 1 by omega, show ((k + 1 + 1 : Nat) : Int) = ((k + 1 : Nat) : Int) + 1 by omega] at this
    exact this) (fun n z => by
    have := hx n z
    rw [show ((e + 1 : Nat) : Int) = (e : Int) + 1 by omega] at this
    exact this) n z hn
  exact h
theorem e_S_reciprocal {σ : pw_Sto} {a t p : Nat} (ha : a < σ.1) (ht : t < σ.1) (sa : pw_sh a = (11, 16)) (s3 : pw_sh t = (11, 16)) (hta : t ≠ a) (hp : isPb p = true) (va : ∀ k, k < 16 → 0 ≤ σ.2.1 a k ∧ σ.2.1 a k < p) : mf_S_reciprocal a t p σ = some ((), pw_st σ t (fun j => if j < 16 then cov (rcpV p (σ.2.1 a)) j else σ.2.1 t j)) := by
  have hp2 := isPb_le hp
  have ea : (pw_sh a).1 = 11 ∧ (pw_sh a).2 = 16 := by rw [sa]; exact ⟨rfl, rfl⟩
  have et : (pw_sh t).1 = 11 ∧ (pw_sh t).2 = 16 := by rw [s3]; exact ⟨rfl, rfl⟩
  have w0 := va 0 (by omega)
  have hivl := iv_lt (a := (σ.2.1 a 0).toNat) hp
  unfold mf_S_reciprocal
  rw [ex_ai (by omega) (by omega) (by omega) (by omega), Option.bind_some, show (0 : Int).toNat = 0 from rfl]
  have ei := e_K_inverse (σ := σ) (p := p) (a := (σ.2.1 a 0).toNat) (by omega) (by omega) (by omega)
  rw [show (((σ.2.1 a 0).toNat : Nat) : Int) = σ.2.1 a 0 by omega] at ei
  rw [ei, ex_bd, xs_si (by omega) (by omega) (by omega) (by omega), Option.bind_some]
  generalize hs0 : pw_st σ t (fun j => if j = (0 : Int).toNat then ((iv p (σ.2.1 a 0).toNat : Nat) : Int) else σ.2.1 t j) = s0
  have z1 : s0.1 = σ.1 := by rw [← hs0]; rfl
  have za : s0.2.1 a = σ.2.1 a := by rw [← hs0]; exact st_ne (Ne.symm hta)
  have zt : ∀ j, s0.2.1 t j = if j = 0 then ((iv p (σ.2.1 a 0).toNat : Nat) : Int) else σ.2.1 t j := fun j => by rw [← hs0, st_eq]; rfl
  have h := lp_fill (O := Unit × pw_Sto) (fun n k s => ml_S_reciprocal_15 n a t p ((iv p (σ.2.1 a 0).toNat : Nat) : Int) k s) s0 t 1 16 (fun k => cov (rcpV p (σ.2.1 a)) k) (fun s => some ((), s))
    (by
      intro n k hh hk0 hk g1 g2
      have hv0 : ∀ j, j < k → hh j = cov (rcpV p (σ.2.1 a)) j := fun j hj => by
        by_cases h0 : j = 0
        · subst h0
          rw [g1 0 (by omega), zt 0, if_pos rfl, cov_eq (rcpV_ok p _)]
          rfl
        · exact g2 j (by omega) hj
      try dsimp only
      rw [us_S_reciprocal_15]
      unfold mb_S_reciprocal_15
      rw [pw_ck_ok (by omega) (by omega), if_neg (by omega)]
      have hl := lp_sum1 (O := Unit × pw_Sto) (fun m i z => ml_S_reciprocal_28 (ml_S_reciprocal_15 n) m a t p ((iv p (σ.2.1 a 0).toNat : Nat) : Int) k z i (pw_st s0 t hh)) k (fun i => σ.2.1 a (i + 1) * cov (rcpV p (σ.2.1 a)) (k - (i + 1))) (fun z => pw_bd (mf_K_reduce z p (pw_st s0 t hh)) (fun v6 s5 => pw_bd (mf_K_times v6 ((iv p (σ.2.1 a 0).toNat : Nat) : Int) p s5) (fun v8 s7 => pw_bd (mf_K_negative v8 p s7) (fun v10 s9 => (pw_si t k v10 s9).bind (fun s11 => ml_S_reciprocal_15 n a t p ((iv p (σ.2.1 a 0).toNat : Nat) : Int) ((k : Int) + 1) s11)))))
        (by
          intro m i z hi
          try dsimp only
          rw [us_S_reciprocal_28]
          unfold mb_S_reciprocal_28
          rw [pw_ck_ok (by omega) (by omega), if_neg (by omega), ex_ai (by rw [st_1]; omega) (by omega) (by omega) (by omega), Option.bind_some, ex_ai (by rw [st_1]; omega) (by omega) (by omega) (by omega), Option.bind_some, st_ne (Ne.symm hta), za, st_eq, Int.toNat_natCast, show ((k : Int) - ((i + 1 : Nat) : Int)).toNat = k - (i + 1) by omega, hv0 _ (by omega)]
          rfl)
        (by
          intro m z
          try dsimp only
          rw [us_S_reciprocal_28]
          unfold mb_S_reciprocal_28
          rw [pw_ck_ok (by omega) (by omega), if_pos (by omega)]) 1000 0 (by omega)
      have hl' : ml_S_reciprocal_28 (ml_S_reciprocal_15 n) 1000 a t p ((iv p (σ.2.1 a 0).toNat : Nat) : Int) k 0 1 (pw_st s0 t hh) = _ := hl
      have bd := sm_bd (f := fun i => σ.2.1 a (i + 1) * cov (rcpV p (σ.2.1 a)) (k - (i + 1))) (C := 63001) (n := k) (fun i hi => by
        have w1 := va (i + 1) (by omega)
        have w2 := rcp_rng hp (σ.2.1 a) (k - (i + 1))
        exact imul250 w1.1 (by omega) w2.1 (by omega))
      have hk2 : (k : Int) * 63001 ≤ 16 * 63001 := Int.mul_le_mul_of_nonneg_right (by omega) (by omega)
      have m1 := mod_rng (p := p) (by omega) (sm (fun i => σ.2.1 a (i + 1) * cov (rcpV p (σ.2.1 a)) (k - (i + 1))) k)
      have m2 := imul250 m1.1 (by omega) (b := ((iv p (σ.2.1 a 0).toNat : Nat) : Int)) (by omega) (by omega)
      have m3 := mod_rng (p := p) (by omega) ((sm (fun i => σ.2.1 a (i + 1) * cov (rcpV p (σ.2.1 a)) (k - (i + 1))) k) % p * ((iv p (σ.2.1 a 0).toNat : Nat) : Int))
      rw [hl', Int.zero_add, e_K_reduce bd.1 (by omega) (by omega) (by omega), ex_bd, e_K_times m2.1 (by omega) (by omega) (by omega), ex_bd, e_K_negative m3.1 m3.2 (by omega), ex_bd, xs_si (by rw [st_1]; omega) (by omega) (by omega) (by omega), Option.bind_some, st_st, st_eq, Int.toNat_natCast]
      have ek : cov (rcpV p (σ.2.1 a)) k = ((p : Int) - ((sm (fun i => σ.2.1 a (i + 1) * cov (rcpV p (σ.2.1 a)) (k - (i + 1))) k) % p * ((iv p (σ.2.1 a 0).toNat : Nat) : Int)) % p) % p := by
        rw [cov_eq (rcpV_ok p _)]
        unfold rcpV
        rw [if_neg (by omega)]
      rw [← ek]
      rfl)
    (by
      intro n hh
      try dsimp only
      rw [us_S_reciprocal_15]
      unfold mb_S_reciprocal_15
      rw [pw_ck_ok (by omega) (by omega), if_pos (by omega)]) 1000 (by omega) (by omega)
  have h' : ml_S_reciprocal_15 1000 a t p ((iv p (σ.2.1 a 0).toNat : Nat) : Int) 1 s0 = _ := h
  rw [h', ← hs0, st_st]
  refine congrArg (fun z => some ((), z)) (st_congr fun j => ?_)
  rw [st_eq]
  by_cases h0 : j = 0
  · subst h0
    rw [if_neg (by omega), if_pos (show (0 : Nat) = Int.toNat 0 from rfl), if_pos (by omega), cov_eq (rcpV_ok p _)]
    rfl
  · by_cases h1 : j < 16
    · rw [if_pos (by omega), if_pos h1]
    · rw [if_neg (by omega), if_neg h1, if_neg (by rw [show Int.toNat 0 = 0 from rfl]; exact h0)]
