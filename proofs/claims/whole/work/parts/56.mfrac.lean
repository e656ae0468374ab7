theorem sk_end {T : Nat → Int} {len pos : Nat} (h : len ≤ pos) : sk T len pos = pos := by
  unfold sk
  rw [show len - pos = 0 by omega]
  rfl
theorem tmx_end {T : Nat → Int} {len pos : Nat} (h : len ≤ pos) : tmx T len pos = (none, pos) := by
  have hh : hr T len pos = -1 := by unfold hr; rw [if_pos h]
  unfold tmx tmG
  rw [sk_end h, sk_end h, hh]
  rfl
theorem plF_sk {T : Nat → Int} {len p : Nat} : ∀ {n : Nat} {neg : Bool} {pos : Nat} {row : Nat → Int}, (plF T len p n neg pos row).1 = true → sk T len (plF T len p n neg pos row).2.1 = (plF T len p n neg pos row).2.1 := by
  intro n
  induction n with
  | zero => intro neg pos row h; exact nomatch h
  | succ n ih =>
    intro neg pos row
    unfold plF
    generalize tmx T len pos = w
    obtain ⟨o, q⟩ := w
    cases o with
    | none => intro h; exact nomatch h
    | some w =>
      dsimp only
      by_cases c1 : hr T len (sk T len q) = 43
      · simp only [if_pos c1]
        exact ih
      · simp only [if_neg c1]
        by_cases c2 : hr T len (sk T len q) = 45
        · simp only [if_pos c2]
          exact ih
        · simp only [if_neg c2]
          intro _
          exact sk_sk _ _ _
theorem pl_sk {T : Nat → Int} {len p pos : Nat} {row : Nat → Int} (h : (pl T len p pos row).1 = true) : sk T len (pl T len p pos row).2.1 = (pl T len p pos row).2.1 := by
  unfold pl at h ⊢
  by_cases c : hr T len (sk T len pos) = 45
  · simp only [if_pos c] at h ⊢
    exact plF_sk h
  · simp only [if_neg c] at h ⊢
    exact plF_sk h
theorem e_M_plF {T : Nat → Int} {len p a : Nat} (hp : 2 ≤ p) (hp2 : p ≤ 251) (ha : 97 ≤ a) (ha2 : a ≤ 98) : ∀ (n m : Nat) (neg : Bool) (pos : Nat) (σ : pw_Sto), TM σ T len p pos → (∀ j, j < 16 → 0 ≤ σ.2.1 a j ∧ σ.2.1 a j < p) → 80 ≤ n + pos → n + 1 < m → ml_M_readPolynomial_33 m 91 a (sg neg) 1 σ = some (if (plF T len p n neg pos (σ.2.1 a)).1 = true then 1 else 0, pw_st (mq σ (plF T len p n neg pos (σ.2.1 a)).2.1) a (plF T len p n neg pos (σ.2.1 a)).2.2) := by
  intro n
  induction n with
  | zero =>
    intro m neg pos σ h va h1 h2
    obtain ⟨m, rfl⟩ : ∃ k, m = k + 1 := ⟨m - 1, by omega⟩
    have hl := h.2.2.2.2.2.1.1
    rw [us_M_readPolynomial_33]
    unfold mb_M_readPolynomial_33
    rw [pw_ck_ok (by omega) (by omega), if_neg (show ¬ (1 : Int) = 0 by omega), e_M_readTerm h hp hp2 ha ha2 (fun j hj => by have := va j hj; omega) neg, tmx_end (by omega)]
    show pw_bd (some ((0 : Int), mq σ pos)) _ = some (0, pw_st (mq σ pos) a (σ.2.1 a))
    rw [ex_bd, pw_ck_ok (by omega) (by omega), if_pos rfl, mq_self h.2.2.1, st_self]
  | succ n ih =>
    intro m neg pos σ h va h1 h2
    obtain ⟨m, rfl⟩ : ∃ k, m = k + 1 := ⟨m - 1, by omega⟩
    have ht := tm_rng (T := T) h.2.2.2.2.1
    have := sh_91
    have hTV := h.2.2.2.2.2.1
    rw [us_M_readPolynomial_33]
    unfold mb_M_readPolynomial_33
    rw [pw_ck_ok (by omega) (by omega), if_neg (show ¬ (1 : Int) = 0 by omega), e_M_readTerm h hp hp2 ha ha2 (fun j hj => by have := va j hj; omega) neg]
    unfold plF
    generalize tmx T len pos = w at ht
    obtain ⟨o, q⟩ := w
    cases o with
    | none =>
      show pw_bd (some ((0 : Int), mq σ q)) _ = some (0, pw_st (mq σ q) a (σ.2.1 a))
      rw [ex_bd, pw_ck_ok (by omega) (by omega), if_pos rfl, ← mq_a (q := q) (show 96 ≤ a by omega), st_self]
    | some w =>
      have hk := sk_rng (T := T) ht.1.2
      have hu := upt_rng (neg := neg) (v := w.1) (e := w.2) hp va
      have hq := (ht.2 w rfl).2.2
      dsimp only at ht hk hq ⊢
      have et : tmM σ a p neg (some w, q) = (1, pw_st (mq σ q) a (upt p neg (σ.2.1 a) w.1 w.2)) := rfl
      have hT1 : TM (pw_st (mq σ q) a (upt p neg (σ.2.1 a) w.1 w.2)) T len p q := (h.mv ht.1.2).st (by omega)
      have hT2 : TM (pw_st (mq σ (sk T len q)) a (upt p neg (σ.2.1 a) w.1 w.2)) T len p (sk T len q) := (h.mv (by omega)).st (by omega)
      have n2 := hT2.1.1
      have c2' := hT2.2.2.1
      have r1 := hr_rng hTV (sk T len q)
      rw [et, ex_bd, pw_ck_ok (by omega) (by omega), if_neg (show ¬ (1 : Int) = 0 by omega), e_M_skip hT1, ex_bd, mq_st (by omega), mq_mq, e_M_here hT2, ex_bd, pw_ck_ok (by omega) (by omega)]
      have step : ∀ neg', hr T len (sk T len q) ≠ -1 → ml_M_readPolynomial_33 m 91 a (sg neg') 1 (pw_st (mq σ (sk T len q + 1)) a (upt p neg (σ.2.1 a) w.1 w.2)) = some (if (plF T len p n neg' (sk T len q + 1) (upt p neg (σ.2.1 a) w.1 w.2)).1 = true then 1 else 0, pw_st (mq σ (plF T len p n neg' (sk T len q + 1) (upt p neg (σ.2.1 a) w.1 w.2)).2.1) a (plF T len p n neg' (sk T len q + 1) (upt p neg (σ.2.1 a) w.1 w.2)).2.2) := by
        intro neg' hne
        have hl := hr_lt (T := T) (len := len) (pos := sk T len q) hne
        have hT3 : TM (pw_st (mq σ (sk T len q + 1)) a (upt p neg (σ.2.1 a) w.1 w.2)) T len p (sk T len q + 1) := (h.mv (by omega)).st (by omega)
        have hi := ih m neg' _ _ hT3 (fun j hj => by rw [st_eq]; exact hu j hj) (by omega) (by omega)
        rw [st_eq, mq_st (by omega), mq_mq, st_st] at hi
        exact hi
      by_cases c1 : hr T len (sk T len q) = 43
      · simp only [if_pos c1]
        have hi := step false (by omega)
        unfold mj_M_readPolynomial_70 mj_M_readPolynomial_75
        rw [e_M_here hT2, ex_bd, pw_ck_ok (by omega) (by omega), if_neg (show ¬ hr T len (sk T len q) = 45 by omega)]
        unfold mj_M_readPolynomial_90
        rw [ex_gi (by omega) (by omega), Option.bind_some, c2', pw_ck_ok (by omega) (by omega), if_neg (show ¬ (1 : Int) = 0 by omega), pi_mq (q := sk T len q + 1) (by omega) (by omega), Option.bind_some, mq_st (by omega), mq_mq]
        exact hi
      · simp only [if_neg c1]
        rw [e_M_here hT2, ex_bd, pw_ck_ok (by omega) (by omega)]
        by_cases c2 : hr T len (sk T len q) = 45
        · simp only [if_pos c2]
          have hi := step true (by omega)
          unfold mj_M_readPolynomial_70 mj_M_readPolynomial_75
          rw [e_M_here hT2, ex_bd, pw_ck_ok (by omega) (by omega), if_pos c2]
          unfold mj_M_readPolynomial_90
          rw [ex_gi (by omega) (by omega), Option.bind_some, c2', pw_ck_ok (by omega) (by omega), if_neg (show ¬ (1 : Int) = 0 by omega), pi_mq (q := sk T len q + 1) (by omega) (by omega), Option.bind_some, mq_st (by omega), mq_mq]
          exact hi
        · simp only [if_neg c2]
          unfold mj_M_readPolynomial_75
          rw [e_M_here hT2, ex_bd, pw_ck_ok (by omega) (by omega), if_neg c2]
          unfold mj_M_readPolynomial_90
          rw [ex_gi (by omega) (by omega), Option.bind_some, c2', pw_ck_ok (by omega) (by omega), if_pos rfl, pi_mq (q := sk T len q) (by omega) (by omega), Option.bind_some, mq_st (by omega), mq_mq]
          obtain ⟨m, rfl⟩ : ∃ k, m = k + 1 := ⟨m - 1, by omega⟩
          rw [us_M_readPolynomial_33]
          unfold mb_M_readPolynomial_33
          rw [pw_ck_ok (by omega) (by omega), if_pos rfl]
          rfl
theorem e_M_readPolynomial {σ : pw_Sto} {T : Nat → Int} {len p pos a : Nat} (h : TM σ T len p pos) (hp : 2 ≤ p) (hp2 : p ≤ 251) (ha : 97 ≤ a) (ha2 : a ≤ 98) : ∃ row, mf_M_readPolynomial 91 a σ = some (if (pl T len p pos zr).1 = true then 1 else 0, pw_st (mq σ (pl T len p pos zr).2.1) a row) ∧ ∀ j, j < 16 → row j = (pl T len p pos zr).2.2 j := by
  obtain ⟨l1, b, c, d', e', f, g⟩ := id h
  have := l1.1
  have := sh_91
  have hTV := f.1
  have sa : (pw_sh a).1 = 11 ∧ (pw_sh a).2 = 16 := by
    have : a = 97 ∨ a = 98 := by omega
    cases this with
    | inl h => rw [h]; exact sh_97
    | inr h => rw [h]; exact sh_98
  have hk := sk_rng (T := T) e'
  have t1 := e_M_clear (σ := σ) (a := a) (by omega) sa.1
  generalize hr1 : (fun j => if j < (pw_sh a).2 then (0 : Int) else σ.2.1 a j) = r1 at t1
  have v1 : ∀ j, j < 16 → r1 j = zr j := fun j hj => by rw [← hr1]; show (if j < (pw_sh a).2 then (0 : Int) else σ.2.1 a j) = 0; rw [if_pos (by omega)]
  have vz : ∀ j, j < 16 → 0 ≤ r1 j ∧ r1 j < p := fun j hj => by rw [v1 j hj]; show 0 ≤ (0 : Int) ∧ (0 : Int) < p; omega
  have h1 : TM (pw_st σ a r1) T len p pos := h.st (by omega)
  have h2 : TM (pw_st (mq σ (sk T len pos)) a r1) T len p (sk T len pos) := (h.mv hk.2).st (by omega)
  have n2 := h2.1.1
  have c2 := h2.2.2.1
  have r2 := hr_rng f (sk T len pos)
  have cg := pl_cg (T := T) (len := len) (p := p) (pos := pos) e' v1
  refine ⟨(pl T len p pos r1).2.2, ?_, cg.2.2⟩
  rw [← cg.1, ← cg.2.1]
  unfold mf_M_readPolynomial pl
  rw [ex_gd (by omega) (by omega), t1, ex_bd, e_M_skip h1, ex_bd, mq_st (by omega), e_M_here h2, ex_bd, pw_ck_ok (by omega) (by omega)]
  by_cases c1 : hr T len (sk T len pos) = 45
  · have hl := hr_lt (T := T) (len := len) (pos := sk T len pos) (by omega)
    have hi := e_M_plF hp hp2 ha ha2 80 1000 true _ _ ((h.mv (q := sk T len pos + 1) (by omega)).st (a := a) (f := r1) (by omega)) (fun j hj => by rw [st_eq]; exact vz j hj) (by omega) (by omega)
    rw [st_eq, mq_st (by omega), mq_mq, st_st] at hi
    simp only [if_pos c1]
    rw [ex_gi (by omega) (by omega), Option.bind_some, c2, pi_mq (q := sk T len pos + 1) (by omega) (by omega), Option.bind_some, mq_st (by omega), mq_mq]
    exact hi
  · have hi := e_M_plF hp hp2 ha ha2 80 1000 false _ _ h2 (fun j hj => by rw [st_eq]; exact vz j hj) (by omega) (by omega)
    rw [st_eq, mq_st (by omega), mq_mq, st_st] at hi
    simp only [if_neg c1]
    exact hi
