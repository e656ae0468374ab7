/-! ### sums of terms -/
theorem st_cm {σ : pw_Sto} {a b : Nat} {f g : Nat → Int} (h : a ≠ b) : pw_st (pw_st σ a f) b g = pw_st (pw_st σ b g) a f := by
  have : ∀ i, (pw_st (pw_st σ a f) b g).2.1 i = (pw_st (pw_st σ b g) a f).2.1 i := by
    intro i
    by_cases h1 : i = b
    · subst h1
      rw [st_eq, st_ne (fun e => h e.symm), st_eq]
    · by_cases h2 : i = a
      · subst h2
        rw [st_ne h1, st_eq, st_eq]
      · rw [st_ne h1, st_ne h2, st_ne h2, st_ne h1]
  have h3 : (pw_st (pw_st σ a f) b g).2.1 = (pw_st (pw_st σ b g) a f).2.1 := funext this
  show ((pw_st (pw_st σ a f) b g).1, (pw_st (pw_st σ a f) b g).2.1, (pw_st (pw_st σ a f) b g).2.2) = ((pw_st (pw_st σ b g) a f).1, (pw_st (pw_st σ b g) a f).2.1, (pw_st (pw_st σ b g) a f).2.2)
  rw [h3]
  rfl
def plF (T : Nat → Int) (len p : Nat) : Nat → Bool → Nat → (Nat → Int) → Bool × Nat × (Nat → Int)
  | 0, _, pos, row => (false, pos, row)
  | n + 1, neg, pos, row => match tmx T len pos with
    | (none, q) => (false, q, row)
    | (some w, q) => if hr T len (sk T len q) = 43 then plF T len p n false (sk T len q + 1) (upt p neg row w.1 w.2) else if hr T len (sk T len q) = 45 then plF T len p n true (sk T len q + 1) (upt p neg row w.1 w.2) else (true, sk T len q, upt p neg row w.1 w.2)
def pl (T : Nat → Int) (len p pos : Nat) (row : Nat → Int) : Bool × Nat × (Nat → Int) := if hr T len (sk T len pos) = 45 then plF T len p 80 true (sk T len pos + 1) row else plF T len p 80 false (sk T len pos) row
theorem upt_rng {p : Nat} (hp : 2 ≤ p) {neg : Bool} {row : Nat → Int} {v : Int} {e : Nat} (h : ∀ j, j < 16 → 0 ≤ row j ∧ row j < p) : ∀ j, j < 16 → 0 ≤ upt p neg row v e j ∧ upt p neg row v e j < p := by
  intro j hj
  unfold upt
  by_cases c : j = e
  · rw [if_pos c]; exact mod_rng hp _
  · rw [if_neg c]; exact h j hj
theorem plF_rng {T : Nat → Int} {len p : Nat} (hp : 2 ≤ p) : ∀ {n : Nat} {neg : Bool} {pos : Nat} {row : Nat → Int}, pos ≤ len → (∀ j, j < 16 → 0 ≤ row j ∧ row j < p) → (pos ≤ (plF T len p n neg pos row).2.1 ∧ (plF T len p n neg pos row).2.1 ≤ len) ∧ ∀ j, j < 16 → 0 ≤ (plF T len p n neg pos row).2.2 j ∧ (plF T len p n neg pos row).2.2 j < p := by
  intro n
  induction n with
  | zero => intro neg pos row h hr; exact ⟨⟨Nat.le_refl _, h⟩, hr⟩
  | succ n ih =>
    intro neg pos row h hrow
    have ht := tm_rng (T := T) h
    unfold plF
    generalize tmx T len pos = w at ht
    obtain ⟨o, q⟩ := w
    cases o with
    | none => exact ⟨ht.1, hrow⟩
    | some w =>
      have hk := sk_rng (T := T) ht.1.2
      have hu := upt_rng (neg := neg) (v := w.1) (e := w.2) hp hrow
      dsimp only at ht hk ⊢
      by_cases c1 : hr T len (sk T len q) = 43
      · have hl := hr_lt (T := T) (len := len) (pos := sk T len q) (by omega)
        rw [if_pos c1]
        have h := ih (neg := false) (pos := sk T len q + 1) (row := upt p neg row w.1 w.2) (by omega) hu
        exact ⟨⟨by omega, h.1.2⟩, h.2⟩
      · rw [if_neg c1]
        by_cases c2 : hr T len (sk T len q) = 45
        · have hl := hr_lt (T := T) (len := len) (pos := sk T len q) (by omega)
          rw [if_pos c2]
          have h := ih (neg := true) (pos := sk T len q + 1) (row := upt p neg row w.1 w.2) (by omega) hu
          exact ⟨⟨by omega, h.1.2⟩, h.2⟩
        · rw [if_neg c2]
          exact ⟨⟨by dsimp only; omega, by dsimp only; omega⟩, hu⟩
theorem pl_rng {T : Nat → Int} {len p : Nat} (hp : 2 ≤ p) {pos : Nat} {row : Nat → Int} (h : pos ≤ len) (hrow : ∀ j, j < 16 → 0 ≤ row j ∧ row j < p) : (pos ≤ (pl T len p pos row).2.1 ∧ (pl T len p pos row).2.1 ≤ len) ∧ ∀ j, j < 16 → 0 ≤ (pl T len p pos row).2.2 j ∧ (pl T len p pos row).2.2 j < p := by
  have hk := sk_rng (T := T) h
  unfold pl
  by_cases c : hr T len (sk T len pos) = 45
  · have hl := hr_lt (T := T) (len := len) (pos := sk T len pos) (by omega)
    rw [if_pos c]
    have h := plF_rng (T := T) (len := len) hp (n := 80) (neg := true) (pos := sk T len pos + 1) (by omega) hrow
    exact ⟨⟨by omega, h.1.2⟩, h.2⟩
  · rw [if_neg c]
    have h := plF_rng (T := T) (len := len) hp (n := 80) (neg := false) (pos := sk T len pos) (by omega) hrow
    exact ⟨⟨by omega, h.1.2⟩, h.2⟩
theorem TC.st {σ : pw_Sto} {T : Nat → Int} {len p pos a : Nat} {f : Nat → Int} (h : TC σ T len p pos) (ha : 45 ≤ a) : TC (pw_st σ a f) T len p pos := by
  obtain ⟨l, b, c, d, e, g, i⟩ := h
  exact ⟨l, by rw [st_ne (by omega)]; exact b, by rw [st_ne (by omega)]; exact c, by rw [st_ne (by omega)]; exact d, e, g, fun j hj => by rw [st_ne (by omega)]; exact i j hj⟩
theorem sp_st {σ : pw_Sto} {a q : Nat} {f : Nat → Int} (ha : 45 ≤ a) : sp (pw_st σ a f) q = pw_st (sp σ q) a f := by
  unfold sp
  rw [st_ne (by omega), st_cm (by omega)]
theorem sp_a {σ : pw_Sto} {a q : Nat} (ha : 45 ≤ a) : (sp σ q).2.1 a = σ.2.1 a := by
  unfold sp
  rw [st_ne (by omega)]
theorem e_T_plF {T : Nat → Int} {len p a : Nat} (hp : 2 ≤ p) (hp2 : p ≤ 251) (ha : 45 ≤ a) (ha2 : a ≤ 46) : ∀ (n m : Nat) (neg : Bool) (pos : Nat) (σ : pw_Sto), TC σ T len p pos → (∀ j, j < 16 → 0 ≤ σ.2.1 a j ∧ σ.2.1 a j < p) → n ≤ 80 → n < m → ml_T_readPolynomial_9 m 43 a (if neg = true then 1 else 0) ((80 - n : Nat) : Int) σ = some (if (plF T len p n neg pos (σ.2.1 a)).1 = true then 1 else 0, pw_st (sp σ (plF T len p n neg pos (σ.2.1 a)).2.1) a (plF T len p n neg pos (σ.2.1 a)).2.2) := by
  intro n
  induction n with
  | zero =>
    intro m neg pos σ h va h1 h2
    obtain ⟨m, rfl⟩ : ∃ k, m = k + 1 := ⟨m - 1, by omega⟩
    rw [us_T_readPolynomial_9]
    unfold mb_T_readPolynomial_9
    rw [pw_ck_ok (by omega) (by omega), if_pos (by omega)]
    show some (0, σ) = some (0, pw_st (sp σ pos) a (σ.2.1 a))
    rw [sp_self h.2.2.1, st_self]
  | succ n ih =>
    intro m neg pos σ h va h1 h2
    obtain ⟨m, rfl⟩ : ∃ k, m = k + 1 := ⟨m - 1, by omega⟩
    have ht := tm_rng (T := T) h.2.2.2.2.1
    rw [us_T_readPolynomial_9]
    unfold mb_T_readPolynomial_9
    rw [pw_ck_ok (by omega) (by omega), if_neg (by omega), e_T_readTerm h hp hp2 ha ha2 (fun j hj => by have := va j hj; omega) neg]
    unfold plF
    generalize tmx T len pos = w at ht
    obtain ⟨o, q⟩ := w
    cases o with
    | none =>
      show pw_bd (some ((0 : Int), sp σ q)) _ = some (0, pw_st (sp σ q) a (σ.2.1 a))
      rw [ex_bd, pw_ck_ok (by omega) (by omega), if_pos rfl, ← sp_a (q := q) ha, st_self]
    | some w =>
      have hk := sk_rng (T := T) ht.1.2
      have hu := upt_rng (neg := neg) (v := w.1) (e := w.2) hp va
      dsimp only at ht hk ⊢
      have et : tmR σ a p neg (some w, q) = (1, pw_st (sp σ q) a (upt p neg (σ.2.1 a) w.1 w.2)) := rfl
      have hT1 : TC (pw_st (sp σ q) a (upt p neg (σ.2.1 a) w.1 w.2)) T len p q := (h.mv ht.1.2).st ha
      rw [et, ex_bd, pw_ck_ok (by omega) (by omega), if_neg (show ¬ (1 : Int) = 0 by omega), e_T_took hT1 (by omega) (by omega)]
      by_cases c1 : hr T len (sk T len q) = 43
      · have hl := hr_lt (T := T) (len := len) (pos := sk T len q) (by omega)
        have hT2 : TC (pw_st (sp σ (sk T len q + 1)) a (upt p neg (σ.2.1 a) w.1 w.2)) T len p (sk T len q + 1) := (h.mv (by omega)).st ha
        have hi := ih m false _ _ hT2 (fun j hj => by rw [st_eq]; exact hu j hj) (by omega) (by omega)
        rw [st_eq, sp_st ha, sp_sp, st_st] at hi
        simp only [if_pos c1]
        rw [ex_bd, pw_ck_ok (by omega) (by omega), if_neg (show ¬ (1 : Int) = 0 by omega), sp_st ha, sp_sp, show ((80 - (n + 1) : Nat) : Int) + 1 = ((80 - n : Nat) : Int) by omega]
        exact hi
      · simp only [if_neg c1]
        rw [ex_bd, pw_ck_ok (by omega) (by omega), if_pos rfl, sp_st ha, sp_sp]
        have hT2 : TC (pw_st (sp σ (sk T len q)) a (upt p neg (σ.2.1 a) w.1 w.2)) T len p (sk T len q) := (h.mv (by omega)).st ha
        rw [e_T_took hT2 (by omega) (by omega), sk_sk]
        by_cases c2 : hr T len (sk T len q) = 45
        · have hl := hr_lt (T := T) (len := len) (pos := sk T len q) (by omega)
          have hT3 : TC (pw_st (sp σ (sk T len q + 1)) a (upt p neg (σ.2.1 a) w.1 w.2)) T len p (sk T len q + 1) := (h.mv (by omega)).st ha
          have hi := ih m true _ _ hT3 (fun j hj => by rw [st_eq]; exact hu j hj) (by omega) (by omega)
          rw [st_eq, sp_st ha, sp_sp, st_st] at hi
          simp only [if_pos c2]
          rw [ex_bd, pw_ck_ok (by omega) (by omega), if_neg (show ¬ (1 : Int) = 0 by omega), sp_st ha, sp_sp, show ((80 - (n + 1) : Nat) : Int) + 1 = ((80 - n : Nat) : Int) by omega]
          exact hi
        · simp only [if_neg c2]
          rw [ex_bd, pw_ck_ok (by omega) (by omega), if_pos rfl, sp_st ha, sp_sp]
          rfl
theorem e_T_readPolynomial {σ : pw_Sto} {T : Nat → Int} {len p pos a : Nat} (h : TC σ T len p pos) (hp : 2 ≤ p) (hp2 : p ≤ 251) (ha : 45 ≤ a) (ha2 : a ≤ 46) (va : ∀ j, j < 16 → 0 ≤ σ.2.1 a j ∧ σ.2.1 a j < p) : mf_T_readPolynomial 43 a σ = some (if (pl T len p pos (σ.2.1 a)).1 = true then 1 else 0, pw_st (sp σ (pl T len p pos (σ.2.1 a)).2.1) a (pl T len p pos (σ.2.1 a)).2.2) := by
  obtain ⟨l1, b, c, d', e', f, g⟩ := id h
  have := l1.1
  have := sh_43
  have hk := sk_rng (T := T) e'
  unfold mf_T_readPolynomial pl
  rw [ex_gd (by omega) (by omega), e_T_took h (by omega) (by omega)]
  by_cases c1 : hr T len (sk T len pos) = 45
  · have hl := hr_lt (T := T) (len := len) (pos := sk T len pos) (by omega)
    have hi := e_T_plF hp hp2 ha ha2 80 1000 true _ _ (h.mv (q := sk T len pos + 1) (by omega)) (fun j hj => by rw [sp_a ha]; exact va j hj) (by omega) (by omega)
    rw [sp_a ha, sp_sp] at hi
    rw [if_pos c1, if_pos c1, ex_bd]
    exact hi
  · have hi := e_T_plF hp hp2 ha ha2 80 1000 false _ _ (h.mv (q := sk T len pos) (by omega)) (fun j hj => by rw [sp_a ha]; exact va j hj) (by omega) (by omega)
    rw [sp_a ha, sp_sp] at hi
    rw [if_neg c1, if_neg c1, ex_bd]
    exact hi
