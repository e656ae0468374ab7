/-! ## primes -/
def wpF : Nat → Nat → Nat → Bool
  | 0, _, _ => true
  | n + 1, x, d => if x < d * d then true else if x % d = 0 then false else wpF n x (d + 1)
def mpF : Nat → Nat → Bool → Nat → Bool
  | 0, _, b, _ => b
  | n + 1, x, b, k => if x ≤ k then b else if b = false then b else mpF n x (!(x % k == 0)) (k + 1)
theorem wpF_all : ∀ x, x < 252 → 2 ≤ x → wpF 20 x 2 = isPb x := by decide +kernel
theorem mpF_all : ∀ x, x < 252 → 2 ≤ x → mpF 300 x true 2 = isPb x := by decide +kernel
def b2i (b : Bool) : Int := if b then 1 else 0
theorem e_W_isPrime_loop {σ : pw_Sto} {x : Nat} (hx : x ≤ 251) : ∀ (n m d : Nat), 2 ≤ d → 17 ≤ n + d → d ≤ 16 → n ≤ m → ml_W_isPrime_16 m x d σ = some (b2i (wpF n x d), σ) := by
  intro n
  induction n with
  | zero => intro m d h1 h2 h3; omega
  | succ n ih =>
    intro m d h1 h2 h3 h4
    obtain ⟨m', rfl⟩ : ∃ m', m = m' + 1 := ⟨m - 1, by omega⟩
    show mb_W_isPrime_16 (ml_W_isPrime_16 m') x d σ = _
    unfold mb_W_isPrime_16 wpF
    have hd : d * d ≤ 16 * 16 := Nat.mul_le_mul h3 h3
    have hdd : ((d : Int) * d) = ((d * d : Nat) : Int) := by rw [Int.natCast_mul]
    rw [hdd, pw_ck_ok (by omega) (by omega)]
    by_cases h5 : x < d * d
    · rw [if_pos (by omega), if_pos h5]; rfl
    · rw [if_neg (by omega), if_neg h5, ex_rem (by omega) (by omega) (by omega) (by omega), Option.bind_some, ← Int.natCast_emod]
      have hlt : x % d < d := Nat.mod_lt _ (by omega)
      rw [pw_ck_ok (by omega) (by omega)]
      by_cases h6 : x % d = 0
      · rw [if_pos (by omega), if_pos h6]; rfl
      · rw [if_neg (by omega), if_neg h6]
        by_cases h7 : d = 16
        · subst h7
          omega
        · exact ih m' (d + 1) (by omega) (by omega) (by omega) (by omega)
theorem e_W_isPrime {σ : pw_Sto} {x : Int} (hx : pw_R x) : mf_W_isPrime x σ = some (if 0 ≤ x ∧ isPb x.toNat = true then 1 else 0, σ) := by
  unfold mf_W_isPrime
  rw [pw_ck_ok hx (by omega), pw_ck_ok hx (by omega)]
  by_cases h1 : x < 2
  · rw [if_pos h1, if_neg (fun q => by have := isPb_le q.2; omega)]
  · rw [if_neg h1]
    by_cases h2 : x ≤ 251
    · rw [if_pos h2]
      obtain ⟨y, rfl⟩ : ∃ y : Nat, x = y := ⟨x.toNat, by omega⟩
      have h := e_W_isPrime_loop (σ := σ) (x := y) (by omega) 20 1000 2 (by omega) (by omega) (by omega) (by omega)
      have h' : ml_W_isPrime_16 1000 y 2 σ = _ := h
      rw [h', wpF_all y (by omega) (by omega), Int.toNat_natCast]
      cases isPb y
      · rw [if_neg (by simp)]; rfl
      · rw [if_pos ⟨by omega, rfl⟩]; rfl
    · rw [if_neg h2, if_neg (fun q => by have := isPb_le q.2; omega)]
theorem e_M_isPrime_loop {σ : pw_Sto} {x : Nat} (hx : x ≤ 251) : ∀ (n m : Nat) (b : Bool) (k : Nat), 2 ≤ k → k ≤ 300 → x < n + k → n < m → ml_M_isPrime_11 m x (b2i b) k σ = some (b2i (mpF n x b k), σ) := by
  intro n
  induction n with
  | zero =>
    intro m b k h1 h2 h3 h4
    obtain ⟨m', rfl⟩ : ∃ m', m = m' + 1 := ⟨m - 1, by omega⟩
    show mb_M_isPrime_11 (ml_M_isPrime_11 m') x (b2i b) k σ = _
    unfold mb_M_isPrime_11 mpF
    rw [pw_ck_ok (by omega) (by omega), if_pos (by omega)]
    cases b <;> rfl
  | succ n ih =>
    intro m b k h1 h2 h3 h4
    obtain ⟨m', rfl⟩ : ∃ m', m = m' + 1 := ⟨m - 1, by omega⟩
    show mb_M_isPrime_11 (ml_M_isPrime_11 m') x (b2i b) k σ = _
    unfold mb_M_isPrime_11 mpF
    rw [pw_ck_ok (by omega) (by omega)]
    have hz : pw_z (b2i b) σ = some (b2i b, σ) := by cases b <;> rfl
    by_cases h5 : x ≤ k
    · rw [if_pos (by omega), if_pos h5, hz]
    · rw [if_neg (by omega), if_neg h5]
      cases b
      · rw [if_pos rfl]
        exact hz
      · have hb1 : b2i true = 1 := rfl
        rw [hb1, if_neg (show ¬ (true = false) by decide)]
        have hlt : x % k < k := Nat.mod_lt _ (by omega)
        rw [pw_ck_ok (by omega) (by omega), if_neg (show ¬ (1 : Int) = 0 by omega), ex_rem (by omega) (by omega) (by omega) (by omega), Option.bind_some, ← Int.natCast_emod, pw_ck_ok (by omega) (by omega)]
        by_cases h6 : x % k = 0
        · rw [if_pos (by omega), h6]
          exact ih m' false (k + 1) (by omega) (by omega) (by omega) (by omega)
        · rw [if_neg (by omega)]
          have e9 : (!(x % k == 0)) = true := by simp [h6]
          rw [e9]
          exact ih m' true (k + 1) (by omega) (by omega) (by omega) (by omega)
theorem e_M_isPrime {σ : pw_Sto} {x : Int} (hx : pw_R x) : mf_M_isPrime x σ = some (if 0 ≤ x ∧ isPb x.toNat = true then 1 else 0, σ) := by
  unfold mf_M_isPrime
  rw [e_M_in hx (by omega) (by omega), ex_bd]
  by_cases h : 2 ≤ x ∧ x ≤ 251
  · rw [if_pos h]
    obtain ⟨y, rfl⟩ : ∃ y : Nat, x = y := ⟨x.toNat, by omega⟩
    have h1 := e_M_isPrime_loop (σ := σ) (x := y) (by omega) 300 1000 true 2 (by omega) (by omega) (by omega) (by omega)
    have h' : ml_M_isPrime_11 1000 y 1 2 σ = _ := h1
    rw [h', mpF_all y (by omega) (by omega), Int.toNat_natCast]
    cases isPb y
    · rw [if_neg (by simp)]; rfl
    · rw [if_pos ⟨by omega, rfl⟩]; rfl
  · rw [if_neg h, if_neg (fun q => by have := isPb_le q.2; omega)]
    show mb_M_isPrime_11 (ml_M_isPrime_11 999) x 0 2 σ = _
    unfold mb_M_isPrime_11
    rw [pw_ck_ok (by omega) hx, pw_ck_ok (by omega) (by omega), if_pos rfl]
    by_cases h2 : x ≤ 2
    · rw [if_pos h2]; rfl
    · rw [if_neg h2]; rfl
/-! setting series and points of the present state -/
theorem CR.now {σ σ' : pw_Sto} {A A' : ASt} {T : Nat → Int} {len : Nat} {E : Nat → Int} {Hs : List ASt} (h : CR σ A T len E Hs) (h1 : σ'.1 = σ.1) (h2 : σ'.2.2 = σ.2.2) (h3 : ∀ i, 9 ≤ i → i < 91 → σ'.2.1 i = σ.2.1 i ∨ (47 ≤ i ∧ i ≠ 90)) (h4 : StC σ' 1 A') : CR σ' A' T len E Hs := by
  obtain ⟨g1, g2, g3, g4, g5, nx, g6, g7, g8, g9⟩ := h
  have k9 : ∀ i, 9 ≤ i → i < 47 ∨ i = 90 → σ'.2.1 i = σ.2.1 i := fun i a b => by
    rcases h3 i a (by omega) with q | q
    · exact q
    · omega
  refine ⟨⟨h1.trans g1.1, fun q hq => by rw [h2]; exact g1.2 q hq⟩, by unfold Dyn; rw [h2]; exact g2, h4, ⟨by rw [k9 43 (by omega) (by omega)]; exact g4.1, fun i hi => by rw [k9 44 (by omega) (by omega)]; exact g4.2 i hi⟩, fun q hq => by rw [k9 90 (by omega) (by omega)]; exact g5 q hq, nx, g6, by rw [k9 9 (by omega) (by omega)]; exact g7, by rw [k9 9 (by omega) (by omega)]; exact g8, fun j B hj => (g9 j B hj).kept (fun i a b => k9 i (by omega) (by omega))⟩
theorem MR.now {σ σ' : pw_Sto} {A A' : ASt} {T : Nat → Int} {len : Nat} {E : Nat → Int} {Hs : List ASt} (h : MR σ A T len E Hs) (h1 : σ'.1 = σ.1) (h2 : σ'.2.2 = σ.2.2) (h3 : σ'.2.1 93 = σ.2.1 93 ∧ σ'.2.1 94 = σ.2.1 94 ∧ σ'.2.1 95 = σ.2.1 95 ∧ σ'.2.1 91 2 = σ.2.1 91 2 ∧ σ'.2.1 91 5 = σ.2.1 91 5) (h4 : StM σ' 92 0 A') : MR σ' A' T len E Hs := by
  obtain ⟨g1, g2, g3, g4, g5, g6⟩ := h
  obtain ⟨k1, k2, k3, k4, k5⟩ := h3
  exact ⟨⟨h1.trans g1.1, fun q hq => by rw [h2]; exact g1.2 q hq⟩, h4, ⟨by rw [k5]; exact g3.1, fun i hi => by rw [k3]; exact g3.2 i hi⟩, fun q hq => by rw [k2]; exact g4 q hq, by rw [k4]; exact g5, fun j B hj => (g6 j B hj).kept k1⟩
def setC (c : Nat → Nat → Int) (s k : Nat) (v : Int) : Nat → Nat → Int := fun a b => if a = s ∧ b = k then v else c a b
theorem VR.saved {A A' : ASt} {T : Nat → Int} {len : Nat} {Hs : List ASt} (hV : VR A T len Hs) (hA : VA A') : VR A' T len ((A :: Hs).take 4) := by
  refine ⟨hA, hV.2.1, hV.2.2.1, by rw [List.length_take]; omega, fun B hB => ?_⟩
  have hm := List.mem_of_mem_take hB
  rcases List.mem_cons.mp hm with q | q
  · rw [q]; exact hV.1
  · exact hV.2.2.2.2 B q
theorem op_set {x y z : Int} (hx : pw_R x) (hy : pw_R y) (hz : pw_R z) : OpOk (mf_W_set 0 x y z) (mf_M_set 91 x y z) := by
  apply op_of
  intro A T len E Hs hV
  have hp := isPb_le hV.1.1
  by_cases h : (0 ≤ x ∧ x < 4) ∧ (0 ≤ y ∧ y < 16) ∧ (0 ≤ z ∧ z < A.1)
  · have hVA : VA (A.1, setC A.2.1 x.toNat y.toNat z, A.2.2) := by
      refine ⟨hV.1.1, fun s k hs hk => ?_, hV.1.2.2⟩
      show 0 ≤ setC A.2.1 x.toNat y.toNat z s k ∧ setC A.2.1 x.toNat y.toNat z s k < A.1
      unfold setC
      by_cases q : s = x.toNat ∧ k = y.toNat
      · rw [if_pos q]; exact h.2.2
      · rw [if_neg q]; exact hV.1.2.1 s k hs hk
    refine ⟨A.2.1 x.toNat y.toNat, (A.1, setC A.2.1 x.toNat y.toNat z, A.2.2), T, len, E, (A :: Hs).take 4, fun σ hC => ?_, fun σ hM => ?_, hV.saved hVA⟩
    · obtain ⟨hL, h2, h3, h4, h5, h6⟩ := id hC
      obtain ⟨s1, e1, c1, d1, d2, d3⟩ := e_H_keep hC hV
      have hL1 := c1.1
      have hN := hL.1
      have hN1 := hL1.1
      have := sh_0
      have := sh_1
      have := sh_row (s := x.toNat) (by omega)
      unfold mf_W_set
      rw [ex_gd (by omega) (by omega), e_W_isSlot hx, ex_bd, if_pos h.1, pw_ck_ok (by omega) (by omega), if_neg (by omega), e_W_isTerm hy, ex_bd, if_pos h.2.1, pw_ck_ok (by omega) (by omega), if_neg (by omega), e_W_isElement hL h3.1 (by omega) hz, ex_bd, if_pos h.2.2, pw_ck_ok (by omega) (by omega), if_neg (by omega)]
      simp (disch := omega) only [ex_gr, lr_0_0 hL, lr_0_1 hL, Option.bind_some, e1, ex_bd, lr_0_0 hL1, lr_1_1 hL1, e_row hL1, ex_ai, xs_si]
      obtain ⟨b1, b2, b3, b4⟩ := c1.2.2.1
      refine ⟨pw_st s1 (3 + x.toNat) (fun j => if j = y.toNat then z else s1.2.1 (3 + x.toNat) j), by rw [b2 x.toNat y.toNat (by omega) (by omega)], ?_, ⟨d1, fun i hi => by rw [st_ne (by omega), d3 i (by omega)]⟩⟩
      refine c1.now (σ := s1) rfl rfl (fun i a b => Or.inl (st_ne (by omega))) ⟨by rw [st_ne (by omega)]; exact b1, fun s k hs hk => ?_, by rw [st_ne (by omega)]; exact b3, fun i hi => by rw [st_ne (by omega), st_ne (by omega)]; exact b4 i hi⟩
      show _ = setC A.2.1 x.toNat y.toNat z s k
      unfold setC
      by_cases q : s = x.toNat
      · subst q
        rw [st_eq]
        by_cases q2 : k = y.toNat
        · rw [if_pos q2, if_pos ⟨rfl, q2⟩]
        · rw [if_neg q2, if_neg (fun w => q2 w.2)]
          exact b2 x.toNat k hs hk
      · rw [st_ne (by omega), if_neg (fun w => q w.1)]
        exact b2 s k hs hk
    · obtain ⟨hL, h2, h3, h4, h5, h6⟩ := id hM
      obtain ⟨s1, e1, c1, d1, d2, d3⟩ := e_M_save hM hV
      have hL1 := c1.1
      have hN := hL.1
      have hN1 := hL1.1
      have := sh_91
      have := sh_92
      unfold mf_M_set
      rw [ex_gd (by omega) (by omega), e_M_isSlot hx, ex_bd, if_pos h.1, pw_ck_ok (by omega) (by omega), if_neg (by omega), e_M_in hy (by omega) (by omega), ex_bd, if_pos (by omega), pw_ck_ok (by omega) (by omega), if_neg (by omega), e_M_prime hL, ex_bd, h2.1, e_M_in hz (by omega) (by omega), ex_bd, if_pos (by omega), pw_ck_ok (by omega) (by omega), if_neg (by omega), e1, ex_bd, e_M_term hL1 c1.2.1 h.1.1 h.1.2 h.2.1.1 h.2.1.2, ex_bd]
      simp (disch := omega) only [ex_gr, lr_91_0 hL1, Option.bind_some, xs_si]
      obtain ⟨b1, b2, b3, b4⟩ := c1.2.1
      refine ⟨_, rfl, ?_, ⟨d1, d2, fun i hi => by rw [st_ne (by omega), d3 i (by omega) (by omega)]⟩⟩
      refine c1.now (σ := s1) rfl rfl ⟨st_ne (by omega), st_ne (by omega), st_ne (by omega), by rw [st_ne (by omega)], by rw [st_ne (by omega)]⟩ ⟨?_, fun s k hs hk => ?_, ?_, fun i hi => ⟨?_, ?_⟩⟩
      · rw [st_eq, if_neg (by omega)]; exact b1
      · show _ = setC A.2.1 x.toNat y.toNat z s k
        rw [st_eq]
        unfold setC
        by_cases q : s = x.toNat ∧ k = y.toNat
        · rw [if_pos q, if_pos (by omega)]
        · rw [if_neg q, if_neg (by omega)]
          exact b2 s k hs hk
      · rw [st_eq, if_neg (by omega)]; exact b3
      · rw [st_eq, if_neg (by omega)]; exact (b4 i hi).1
      · rw [st_eq, if_neg (by omega)]; exact (b4 i hi).2
  · refine ⟨-2 - ((0 : Nat) : Int), A, T, len, bump E 0, Hs, w_cong (w_fail A T len E Hs 0 (by omega)) (fun σ hC => ?_), m_cong (m_fail A T len E Hs 0 (by omega)) (fun σ hM => ?_), hV⟩
    · have hN := hC.1.1
      have := sh_0
      unfold mf_W_set
      rw [ex_gd (by omega) (by omega), e_W_isSlot hx, ex_bd]
      by_cases h1 : 0 ≤ x ∧ x < 4
      · rw [if_pos h1, pw_ck_ok (by omega) (by omega), if_neg (by omega), e_W_isTerm hy, ex_bd]
        by_cases h2 : 0 ≤ y ∧ y < 16
        · rw [if_pos h2, pw_ck_ok (by omega) (by omega), if_neg (by omega), e_W_isElement hC.1 hC.2.2.1.1 (by omega) hz, ex_bd, if_neg (by omega), pw_ck_ok (by omega) (by omega), if_pos rfl]; rfl
        · rw [if_neg h2, pw_ck_ok (by omega) (by omega), if_pos rfl]; rfl
      · rw [if_neg h1, pw_ck_ok (by omega) (by omega), if_pos rfl]; rfl
    · have hN := hM.1.1
      have := sh_91
      unfold mf_M_set
      rw [ex_gd (by omega) (by omega), e_M_isSlot hx, ex_bd]
      by_cases h1 : 0 ≤ x ∧ x < 4
      · rw [if_pos h1, pw_ck_ok (by omega) (by omega), if_neg (by omega), e_M_in hy (by omega) (by omega), ex_bd]
        by_cases h2 : 0 ≤ y ∧ y ≤ 15
        · rw [if_pos h2, pw_ck_ok (by omega) (by omega), if_neg (by omega), e_M_prime hM.1, ex_bd, hM.2.1.1, e_M_in hz (by omega) (by omega), ex_bd, if_neg (by omega), pw_ck_ok (by omega) (by omega), if_pos rfl]; rfl
        · rw [if_neg h2, pw_ck_ok (by omega) (by omega), if_pos rfl]; rfl
      · rw [if_neg h1, pw_ck_ok (by omega) (by omega), if_pos rfl]; rfl
