/-! ## small methods -/
theorem mul250 {a b : Nat} (ha : a ≤ 250) (hb : b ≤ 250) : a * b ≤ 62500 := Nat.mul_le_mul ha hb
theorem imul250 {a b : Int} (ha : 0 ≤ a) (ha2 : a ≤ 251) (hb : 0 ≤ b) (hb2 : b ≤ 251) : 0 ≤ a * b ∧ a * b ≤ 63001 := by
  have h1 := Int.mul_nonneg ha hb
  have h2 : a * b ≤ 251 * 251 := Int.mul_le_mul ha2 hb2 hb (by omega)
  exact ⟨h1, by omega⟩
theorem e_K_times {x y p : Int} {σ : pw_Sto} (h1 : 0 ≤ x * y) (h2 : x * y ≤ 2147483647) (h3 : 0 < p) (h4 : p ≤ 2147483647) : mf_K_times x y p σ = some ((x * y) % p, σ) := by
  unfold mf_K_times
  rw [e_K_reduce h1 h2 h3 h4, ex_bd]
theorem e_K_negative {x p : Int} {σ : pw_Sto} (h1 : 0 ≤ x) (h2 : x < p) (h4 : p ≤ 2147483647) : mf_K_negative x p σ = some ((p - x) % p, σ) := by
  unfold mf_K_negative
  rw [pw_ck_ok (by omega) (by omega)]
  by_cases h : x = 0
  · rw [if_pos h, h, Int.sub_zero, Int.emod_self]
  · rw [if_neg h, Int.emod_eq_of_lt (by omega) (by omega)]
theorem e_K_inverse_loop {p : Nat} (hp : 2 ≤ p) (hp2 : p ≤ 251) {σ : pw_Sto} : ∀ (n N pw sq rest : Nat), rest ≤ 1000 → rest < 2 ^ n → n < N → pw < p → sq < p → ml_K_inverse_9 N p pw sq rest σ = some (((kpN n p pw sq rest : Nat) : Int), σ) := by
  intro n
  induction n with
  | zero =>
    intro N pw sq rest hb h1 h2 h3 h4
    obtain ⟨M, rfl⟩ : ∃ M, N = M + 1 := ⟨N - 1, by omega⟩
    have h0 : rest = 0 := by
      have : (2 : Nat) ^ 0 = 1 := rfl
      omega
    subst h0
    show mb_K_inverse_9 (ml_K_inverse_9 M) p pw sq ((0 : Nat) : Int) σ = _
    unfold mb_K_inverse_9
    simp (disch := omega) only [pw_ck_ok, if_pos]
    rfl
  | succ n ih =>
    intro N pw sq rest hb h1 h2 h3 h4
    obtain ⟨M, rfl⟩ : ∃ M, N = M + 1 := ⟨N - 1, by omega⟩
    show mb_K_inverse_9 (ml_K_inverse_9 M) p pw sq rest σ = _
    unfold mb_K_inverse_9
    have q1 := mul250 (a := pw) (b := sq) (by omega) (by omega)
    have q2 := mul250 (a := sq) (b := sq) (by omega) (by omega)
    have q1' : ((pw : Int) * sq) = ((pw * sq : Nat) : Int) := by rw [Int.natCast_mul]
    have q2' : ((sq : Int) * sq) = ((sq * sq : Nat) : Int) := by rw [Int.natCast_mul]
    have hr : rest / 2 < 2 ^ n := by
      rw [Nat.pow_succ] at h1
      omega
    unfold kpN
    by_cases h0 : rest = 0
    · rw [if_pos h0, pw_ck_ok (by omega) (by omega), if_pos (by omega)]
    · rw [if_neg h0, pw_ck_ok (by omega) (by omega), if_neg (by omega), pw_ck_ok (by omega) (by omega)]
      have hstep : ∀ w : Nat, w < p → mj_K_inverse_30 (ml_K_inverse_9 M) p w sq rest σ = some (((kpN n p w (sq * sq % p) (rest / 2) : Nat) : Int), σ) := by
        intro w hw
        unfold mj_K_inverse_30
        rw [q2', e_K_reduce (by omega) (by omega) (by omega) (by omega), ex_bd]
        unfold pw_shr
        rw [if_pos (by omega), Option.bind_some]
        have := ih M w (sq * sq % p) (rest / 2) (by omega) hr (by omega) hw (Nat.mod_lt _ (by omega))
        rw [Int.natCast_emod, Int.natCast_ediv] at this
        exact this
      by_cases h5 : rest % 2 = 1
      · rw [if_pos h5, if_pos (by omega), q1', e_K_reduce (by omega) (by omega) (by omega) (by omega), ex_bd]
        have := hstep (pw * sq % p) (Nat.mod_lt _ (by omega))
        rw [Int.natCast_emod] at this
        exact this
      · rw [if_neg h5, if_neg (by omega)]
        exact hstep pw h3
theorem e_K_inverse {p a : Nat} {σ : pw_Sto} (hp : 2 ≤ p) (hp2 : p ≤ 251) (ha : a < p) : mf_K_inverse a p σ = some (((iv p a : Nat) : Int), σ) := by
  unfold mf_K_inverse iv
  have h := e_K_inverse_loop hp hp2 (σ := σ) 8 1000 1 a (p - 2) (by omega) (by have : (2 : Nat) ^ 8 = 256 := rfl; omega) (by omega) (by omega) ha
  rw [show ((p - 2 : Nat) : Int) = (p : Int) - 2 by omega] at h
  exact h
theorem e_K_over {p a b : Nat} {σ : pw_Sto} (h : isPb p = true) (ha : a < p) (hb : b < p) : mf_K_over a b p σ = some (((a * iv p b % p : Nat) : Int), σ) := by
  have hp := isPb_le h
  have hi := iv_lt (a := b) h
  unfold mf_K_over
  rw [e_K_inverse (by omega) (by omega) hb, ex_bd]
  have q := mul250 (a := a) (b := iv p b) (by omega) (by omega)
  rw [e_K_times (by rw [← Int.natCast_mul]; omega) (by rw [← Int.natCast_mul]; omega) (by omega) (by omega), ex_bd, ← Int.natCast_mul, ← Int.natCast_emod]
/-! the model's -/
theorem e_M_prime {σ : pw_Sto} (hL : Lay σ) : mf_M_prime 91 σ = some (σ.2.1 92 0, σ) := by
  have hN := hL.1
  have := sh_91
  have := sh_92
  unfold mf_M_prime
  simp (disch := omega) only [ex_gd, ex_gr, ex_ai, lr_91_0 hL, Option.bind_some]
  rfl
theorem e_M_mod {σ : pw_Sto} (hL : Lay σ) {p : Nat} (hp : σ.2.1 92 0 = p) (h1 : 2 ≤ p) (h2 : p ≤ 251) {x : Int} (hx : pw_R x) : mf_M_mod 91 x σ = some (x % p, σ) := by
  have hN := hL.1
  have := sh_91
  unfold mf_M_mod
  simp (disch := omega) only [ex_gd, e_M_prime hL, ex_bd, hp]
  unfold pw_rem
  rw [if_pos ⟨hx, by omega, by omega⟩, Option.bind_some]
  have hb := Int.emod_nonneg x (show (p : Int) ≠ 0 by omega)
  have hb2 := Int.emod_lt_of_pos x (show (0 : Int) < p by omega)
  by_cases h0 : 0 ≤ x
  · rw [Int.tmod_eq_emod_of_nonneg h0, pw_ck_ok (by omega) (by omega), if_pos hb]
  · have h3 : x.tmod p = -((-x) % p) := by
      rw [← Int.tmod_eq_emod_of_nonneg (show 0 ≤ -x by omega), Int.neg_tmod, Int.neg_neg]
    have hc := Int.emod_nonneg (-x) (show (p : Int) ≠ 0 by omega)
    have hc2 := Int.emod_lt_of_pos (-x) (show (0 : Int) < p by omega)
    rw [h3, pw_ck_ok (by omega) (by omega)]
    have h4 : x % p = (p - (-x) % p) % p := by
      have e1 : x % p = (p - (-x)) % p := by
        have := Int.neg_emod_eq_sub_emod (a := -x) (b := p)
        rw [Int.neg_neg] at this
        exact this
      rw [e1, Int.sub_emod p (-x), Int.sub_emod p ((-x) % p), Int.emod_emod]
    by_cases h5 : (-x) % p = 0
    · rw [h5] at h4 ⊢
      rw [if_pos (by omega), h4, Int.sub_zero, Int.emod_self]
      rfl
    · rw [if_neg (by omega), h4, Int.emod_eq_of_lt (a := p - (-x) % p) (b := p) (by omega) (by omega)]
      congr 2
      omega
