theorem e_M_term_118 {σ : pw_Sto} {T : Nat → Int} {len p q a : Nat} (h : TM σ T len p q) (hp : 2 ≤ p) (hp2 : p ≤ 251) (ha : 97 ≤ a) (ha2 : a ≤ 98) (va : ∀ j, j < 16 → 0 ≤ σ.2.1 a j ∧ σ.2.1 a j ≤ 250) (neg : Bool) {v e k : Int} (hv : 0 ≤ v) (hv2 : v ≤ 9999) (he0 : -1 ≤ e) (he : e < 16) (hk : 0 ≤ k) (hk2 : k < 10) : mj_M_readTerm_118 91 a (sg neg) v k e σ = some (tmM σ a p neg (tmF (if k = 0 then 1 else v) e q)) := by
  unfold mj_M_readTerm_118 mj_M_readTerm_128
  rw [pw_ck_ok (by omega) (by omega)]
  by_cases c : k = 0
  · rw [if_pos c, if_pos c, e_M_term_end h hp hp2 ha ha2 va neg (by omega) (by omega) he0 he (by omega) (by omega)]
  · rw [if_neg c, if_neg c, e_M_term_end h hp hp2 ha ha2 va neg hv hv2 he0 he (by omega) (by omega)]
theorem e_M_term_x {σ : pw_Sto} {T : Nat → Int} {len p q a : Nat} (h : TM σ T len p q) (hp : 2 ≤ p) (hp2 : p ≤ 251) (ha : 97 ≤ a) (ha2 : a ≤ 98) (va : ∀ j, j < 16 → 0 ≤ σ.2.1 a j ∧ σ.2.1 a j ≤ 250) (neg : Bool) {v k : Int} (hv : 0 ≤ v) (hv2 : v ≤ 9999) (hk : 0 ≤ k) (hk2 : k < 10) : mj_M_readTerm_51 91 a (sg neg) v k σ = some (tmM σ a p neg (if isD (hr T len q) = true then (none, q) else tmG T len (if k = 0 then 1 else v) (decide (0 < k)) q)) := by
  obtain ⟨l1, b, c, d', e', f, g⟩ := id h
  have := sh_91
  have hk' := sk_rng (T := T) e'
  have vs : ∀ r j, j < 16 → 0 ≤ (mq σ r).2.1 a j ∧ (mq σ r).2.1 a j ≤ 250 := fun r j hj => by rw [mq_a (by omega)]; exact va j hj
  have h2 := h.mv hk'.2
  have n2 := h2.1.1
  have c2 := h2.2.2.1
  have r1 := hr_rng f (sk T len q)
  unfold mj_M_readTerm_51
  rw [e_M_isDigit h, ex_bd, pw_ck_ok (b01 _) (by omega), if01]
  by_cases c0 : isD (hr T len q) = true
  · rw [if_pos c0, if_pos c0]
    show _ = some (0, mq σ q)
    rw [mq_self c]
  · rw [if_neg c0, if_neg c0, e_M_skip h, ex_bd, e_M_here h2, ex_bd, pw_ck_ok (by omega) (by omega)]
    unfold tmG
    by_cases c1 : hr T len (sk T len q) = 120
    · have hl := hr_lt (T := T) (len := len) (pos := sk T len q) (by omega)
      have h3 := h.mv (q := sk T len q + 1) (by omega)
      have hk2' := sk_rng (T := T) (len := len) (pos := sk T len q + 1) (by omega)
      have h4 := h.mv hk2'.2
      have n4 := h4.1.1
      have c4 := h4.2.2.1
      have r2 := hr_rng f (sk T len (sk T len q + 1))
      rw [if_pos c1, if_pos c1, ex_gi (by omega) (by omega), Option.bind_some, c2, pi_mq (q := sk T len q + 1) (by omega) (by omega), Option.bind_some, mq_mq, e_M_skip h3, ex_bd, mq_mq, e_M_here h4, ex_bd, pw_ck_ok (by omega) (by omega)]
      by_cases c3 : hr T len (sk T len (sk T len q + 1)) = 94
      · have hl2 := hr_lt (T := T) (len := len) (pos := sk T len (sk T len q + 1)) (by omega)
        have h5 := h.mv (q := sk T len (sk T len q + 1) + 1) (by omega)
        have he := ep_rng (T := T) (len := len) (pos := sk T len (sk T len q + 1) + 1) (by omega)
        rw [if_pos c3, if_pos c3, ex_gi (by omega) (by omega), Option.bind_some, c4, pi_mq (q := sk T len (sk T len q + 1) + 1) (by omega) (by omega), Option.bind_some, mq_mq, e_M_readExponent h5, ex_bd, mq_mq, e_M_term_118 (h.mv he.1.2) hp hp2 ha ha2 (vs _) neg hv hv2 he.2.1 he.2.2 hk hk2, tmM_mq (by omega)]
      · rw [if_neg c3, if_neg c3, e_M_term_118 h4 hp hp2 ha ha2 (vs _) neg hv hv2 (by omega) (by omega) hk hk2, tmM_mq (by omega)]
    · rw [if_neg c1, if_neg c1]
      by_cases c3 : k = 0
      · subst c3
        unfold mj_M_readTerm_132
        rw [pw_ck_ok (by omega) (by omega), if_neg (show ¬ (0 : Int) < 0 by omega), pw_ck_ok (by omega) (by omega), if_pos rfl]
        rfl
      · rw [if_pos (show decide (0 < k) = true by rw [decide_eq_true_eq]; omega), if_neg c3, e_M_term_end h2 hp hp2 ha ha2 (vs _) neg hv hv2 (by omega) (by omega) (by omega) (by omega), tmM_mq (by omega)]
theorem e_M_readTerm {σ : pw_Sto} {T : Nat → Int} {len p pos a : Nat} (h : TM σ T len p pos) (hp : 2 ≤ p) (hp2 : p ≤ 251) (ha : 97 ≤ a) (ha2 : a ≤ 98) (va : ∀ j, j < 16 → 0 ≤ σ.2.1 a j ∧ σ.2.1 a j ≤ 250) (neg : Bool) : mf_M_readTerm 91 a (sg neg) σ = some (tmM σ a p neg (tmx T len pos)) := by
  have key : ∀ (n m pos : Nat) (v : Int) (σ : pw_Sto), TM σ T len p pos → n ≤ 4 → n < m → ml_M_readTerm_9 m 91 a (sg neg) v ((4 - n : Nat) : Int) σ = mj_M_readTerm_51 91 a (sg neg) (nm T len n v pos).1 (((4 - n : Nat) : Int) + ((nm T len n v pos).2 - pos)) (mq σ (nm T len n v pos).2) := by
    intro n
    induction n with
    | zero =>
      intro m pos v σ h h1 h2
      obtain ⟨m, rfl⟩ : ∃ k, m = k + 1 := ⟨m - 1, by omega⟩
      rw [us_M_readTerm_9]
      unfold mb_M_readTerm_9
      rw [e_M_isDigit h, ex_bd, pw_ck_ok (b01 _) (by omega), if01, pw_ck_ok (by omega) (by omega), if_pos (show (4 : Int) ≤ ((4 - 0 : Nat) : Int) by omega), ite_self]
      show _ = mj_M_readTerm_51 91 a (sg neg) v (((4 - 0 : Nat) : Int) + ((pos : Int) - pos)) (mq σ pos)
      rw [mq_self h.2.2.1, Int.sub_self, Int.add_zero]
    | succ n ih =>
      intro m pos v σ h h1 h2
      obtain ⟨m, rfl⟩ : ∃ k, m = k + 1 := ⟨m - 1, by omega⟩
      obtain ⟨l, b, c, d', e, f, g⟩ := id h
      have := l.1
      have := sh_91
      have := hr_rng f pos
      rw [us_M_readTerm_9]
      unfold mb_M_readTerm_9
      rw [e_M_isDigit h, ex_bd, pw_ck_ok (b01 _) (by omega), if01]
      have en : nm T len (n + 1) v pos = if isD (hr T len pos) = true then nm T len n (10 * v + hr T len pos - 48) (pos + 1) else (v, pos) := rfl
      by_cases q : isD (hr T len pos) = true
      · have hd := isD_lt q
        rw [if_pos q] at en
        rw [if_pos q, pw_ck_ok (by omega) (by omega), if_neg (by omega), e_M_here h, ex_bd, ex_gi (by omega) (by omega), Option.bind_some, c, pi_mq (q := pos + 1) (by omega) (by omega), Option.bind_some, show ((4 - (n + 1) : Nat) : Int) + 1 = ((4 - n : Nat) : Int) by omega, ih m (pos + 1) _ _ (h.mv (by omega)) (by omega) (by omega), mq_mq, en]
        congr 1
        omega
      · rw [if_neg q] at en
        rw [if_neg q, en]
        show _ = mj_M_readTerm_51 91 a (sg neg) v (((4 - (n + 1) : Nat) : Int) + ((pos : Int) - pos)) (mq σ pos)
        rw [mq_self c, Int.sub_self, Int.add_zero]
  obtain ⟨l1, b, c, d', e', f, g⟩ := id h
  have := l1.1
  have := sh_91
  have hk := sk_rng (T := T) e'
  have vs : ∀ r j, j < 16 → 0 ≤ (mq σ r).2.1 a j ∧ (mq σ r).2.1 a j ≤ 250 := fun r j hj => by rw [mq_a (by omega)]; exact va j hj
  have h2 := h.mv hk.2
  have hn := nm_rng (T := T) (len := len) (n := 4) (v := 0) (pos := sk T len pos) (M := 1) (by omega) (by omega) (by omega)
  have hn4 : ∀ (n : Nat) (v : Int) (pos : Nat), (nm T len n v pos).2 ≤ pos + n := by
    intro n
    induction n with
    | zero => intro v pos; exact Nat.le_refl _
    | succ n ih =>
      intro v pos
      show (if isD (hr T len pos) = true then nm T len n (10 * v + hr T len pos - 48) (pos + 1) else (v, pos)).2 ≤ pos + (n + 1)
      by_cases q : isD (hr T len pos) = true
      · rw [if_pos q]; have := ih (10 * v + hr T len pos - 48) (pos + 1); omega
      · rw [if_neg q]; show pos ≤ _; omega
  have h4 := hn4 4 0 (sk T len pos)
  have hkey := key 4 1000 (sk T len pos) 0 _ h2 (by omega) (by omega)
  rw [mq_mq] at hkey
  have hx := e_M_term_x (h.mv hn.1.2) hp hp2 ha ha2 (vs _) neg (v := (nm T len 4 0 (sk T len pos)).1) (k := ((4 - 4 : Nat) : Int) + ((nm T len 4 0 (sk T len pos)).2 - (sk T len pos : Nat))) hn.2.1 (by omega) (by omega) (by omega)
  rw [tmM_mq (by omega)] at hx
  unfold mf_M_readTerm
  rw [ex_gd (by omega) (by omega), e_M_skip h, ex_bd]
  refine (Eq.trans hkey hx).trans ?_
  unfold tmx
  by_cases c1 : isD (hr T len (sk T len pos)) = true
  · have hn1 : sk T len pos < (nm T len 4 0 (sk T len pos)).2 := nm_one (n := 3) (v := 0) c1 (by omega)
    rw [if_pos c1, if_neg (show ¬ ((4 - 4 : Nat) : Int) + ((nm T len 4 0 (sk T len pos)).2 - (sk T len pos : Nat)) = 0 by omega), show decide (0 < ((4 - 4 : Nat) : Int) + ((nm T len 4 0 (sk T len pos)).2 - (sk T len pos : Nat))) = true by rw [decide_eq_true_eq]; omega]
  · have en : nm T len 4 0 (sk T len pos) = (0, sk T len pos) := by
      show (if isD (hr T len (sk T len pos)) = true then _ else _) = _
      rw [if_neg c1]
    rw [en]
    dsimp only
    rw [if_neg c1, if_neg c1, if_pos (show ((4 - 4 : Nat) : Int) + ((sk T len pos : Nat) - (sk T len pos : Nat) : Int) = 0 by omega), show decide (0 < ((4 - 4 : Nat) : Int) + ((sk T len pos : Nat) - (sk T len pos : Nat) : Int)) = false by rw [decide_eq_false_iff_not]; omega]
