/-! ### terms -/
def tmF (v e : Int) (q : Nat) : Option (Int × Nat) × Nat := if e < 0 then (none, q) else (some (v, e.toNat), q)
def tmG (T : Nat → Int) (len : Nat) (v : Int) (dig : Bool) (q : Nat) : Option (Int × Nat) × Nat :=
  if hr T len (sk T len q) = 120 then (if hr T len (sk T len (sk T len q + 1)) = 94 then tmF v (ep T len (sk T len (sk T len q + 1) + 1)).1 (ep T len (sk T len (sk T len q + 1) + 1)).2 else tmF v 1 (sk T len (sk T len q + 1))) else if dig = true then tmF v 0 (sk T len q) else (none, sk T len q)
def tmx (T : Nat → Int) (len pos : Nat) : Option (Int × Nat) × Nat :=
  if isD (hr T len (sk T len pos)) = true then (if isD (hr T len (nm T len 4 0 (sk T len pos)).2) = true then (none, (nm T len 4 0 (sk T len pos)).2) else tmG T len (nm T len 4 0 (sk T len pos)).1 true (nm T len 4 0 (sk T len pos)).2) else tmG T len 1 false (sk T len pos)
def upt (p : Nat) (neg : Bool) (row : Nat → Int) (v : Int) (e : Nat) : Nat → Int := fun j => if j = e then (row e + (if neg = true then p - v % p else v % p)) % p else row j
def tmR (σ : pw_Sto) (a p : Nat) (neg : Bool) : Option (Int × Nat) × Nat → Int × pw_Sto
  | (none, q) => (0, sp σ q)
  | (some (v, e), q) => (1, pw_st (sp σ q) a (upt p neg (σ.2.1 a) v e))
theorem tmF_rng {len pos q : Nat} {v e : Int} (hv : 0 ≤ v ∧ v ≤ 9999) (he : e < 16) (h1 : pos < q) (h2 : q ≤ len) : (pos ≤ (tmF v e q).2 ∧ (tmF v e q).2 ≤ len) ∧ ∀ w, (tmF v e q).1 = some w → (0 ≤ w.1 ∧ w.1 ≤ 9999) ∧ w.2 < 16 ∧ pos < (tmF v e q).2 := by
  unfold tmF
  by_cases c : e < 0
  · rw [if_pos c]
    exact ⟨⟨by omega, by omega⟩, fun w hw => nomatch hw⟩
  · rw [if_neg c]
    refine ⟨⟨by omega, by omega⟩, fun w hw => ?_⟩
    have e : w = (v, e.toNat) := (Option.some.inj hw).symm
    subst e
    exact ⟨hv, by dsimp only; omega, h1⟩
theorem tmG_rng {T : Nat → Int} {len pos q : Nat} {v : Int} {dig : Bool} (hv : 0 ≤ v ∧ v ≤ 9999) (h1 : pos ≤ q) (h1' : dig = true → pos < q) (h2 : q ≤ len) : (pos ≤ (tmG T len v dig q).2 ∧ (tmG T len v dig q).2 ≤ len) ∧ ∀ w, (tmG T len v dig q).1 = some w → (0 ≤ w.1 ∧ w.1 ≤ 9999) ∧ w.2 < 16 ∧ pos < (tmG T len v dig q).2 := by
  have hk := sk_rng (T := T) h2
  unfold tmG
  by_cases c : hr T len (sk T len q) = 120
  · have hl := hr_lt (T := T) (len := len) (pos := sk T len q) (by omega)
    have hk2 := sk_rng (T := T) (len := len) (pos := sk T len q + 1) (by omega)
    rw [if_pos c]
    by_cases c2 : hr T len (sk T len (sk T len q + 1)) = 94
    · have hl2 := hr_lt (T := T) (len := len) (pos := sk T len (sk T len q + 1)) (by omega)
      have he := ep_rng (T := T) (len := len) (pos := sk T len (sk T len q + 1) + 1) (by omega)
      rw [if_pos c2]
      exact tmF_rng hv he.2.2 (by omega) (by omega)
    · rw [if_neg c2]
      exact tmF_rng hv (by omega) (by omega) (by omega)
  · rw [if_neg c]
    by_cases c2 : dig = true
    · rw [if_pos c2]
      have := h1' c2
      exact tmF_rng hv (by omega) (by omega) (by omega)
    · rw [if_neg c2]
      exact ⟨⟨by dsimp only; omega, by dsimp only; omega⟩, fun w hw => nomatch hw⟩
theorem nm_one {T : Nat → Int} {len n pos : Nat} {v : Int} (h : isD (hr T len pos) = true) (hv : 0 ≤ v) : pos < (nm T len (n + 1) v pos).2 := by
  have hd := isD_lt h
  show pos < (if isD (hr T len pos) = true then nm T len n (10 * v + hr T len pos - 48) (pos + 1) else (v, pos)).2
  rw [if_pos h]
  have := nm_rng (T := T) (len := len) (n := n) (v := 10 * v + hr T len pos - 48) (pos := pos + 1) (M := 10 * v + 100) (by omega) (by omega) (by omega)
  omega
theorem tm_rng {T : Nat → Int} {len pos : Nat} (h : pos ≤ len) : (pos ≤ (tmx T len pos).2 ∧ (tmx T len pos).2 ≤ len) ∧ ∀ w, (tmx T len pos).1 = some w → (0 ≤ w.1 ∧ w.1 ≤ 9999) ∧ w.2 < 16 ∧ pos < (tmx T len pos).2 := by
  have hk := sk_rng (T := T) h
  unfold tmx
  by_cases c : isD (hr T len (sk T len pos)) = true
  · rw [if_pos c]
    have hn := nm_rng (T := T) (len := len) (n := 4) (v := 0) (pos := sk T len pos) (M := 1) (by omega) (by omega) (by omega)
    have hn1 : sk T len pos < (nm T len 4 0 (sk T len pos)).2 := nm_one (n := 3) (v := 0) c (by omega)
    by_cases c2 : isD (hr T len (nm T len 4 0 (sk T len pos)).2) = true
    · rw [if_pos c2]
      exact ⟨⟨by dsimp only; omega, by dsimp only; omega⟩, fun w hw => nomatch hw⟩
    · rw [if_neg c2]
      exact tmG_rng ⟨by omega, by omega⟩ (by omega) (fun _ => by omega) (by omega)
  · rw [if_neg c]
    exact tmG_rng ⟨by omega, by omega⟩ hk.1 (fun e => nomatch e) hk.2
theorem e_T_term_end {σ : pw_Sto} {T : Nat → Int} {len p q a : Nat} (h : TC σ T len p q) (hp : 2 ≤ p) (hp2 : p ≤ 251) (ha : 45 ≤ a) (ha2 : a ≤ 46) (va : ∀ j, j < 16 → 0 ≤ σ.2.1 a j ∧ σ.2.1 a j ≤ 250) (neg : Bool) {v e : Int} (hv : 0 ≤ v) (hv2 : v ≤ 9999) (he0 : -1 ≤ e) (he : e < 16) : mj_T_readTerm_68 43 a (if neg = true then 1 else 0) v e σ = some (tmR σ a p neg (tmF v e q)) := by
  obtain ⟨l1, b, c, d', e', f, g⟩ := id h
  have := l1.1
  have := sh_43
  have sa : (pw_sh a).1 = 11 ∧ (pw_sh a).2 = 16 := by
    have : a = 45 ∨ a = 46 := by omega
    cases this with
    | inl h => rw [h]; exact sh_45
    | inr h => rw [h]; exact sh_46
  unfold mj_T_readTerm_68 tmF
  rw [pw_ck_ok (by omega) (by omega)]
  by_cases c1 : e < 0
  · rw [if_pos c1, if_pos c1]
    show _ = some (0, sp σ q)
    rw [sp_self c]
  · have hm := mod_rng (p := p) hp v
    have w := va e.toNat (by omega)
    rw [if_neg c1, if_neg c1, pw_ck_ok (by omega) (by omega), if_pos he, ex_gi (by omega) (by omega), Option.bind_some, d', e_K_reduce hv (by omega) (by omega) (by omega), ex_bd, ex_ai (by omega) (by omega) (by omega) (by omega), Option.bind_some, pw_ck_ok (b01 _) (by omega), if01]
    show _ = some (1, pw_st (sp σ q) a (upt p neg (σ.2.1 a) v e.toNat))
    rw [sp_self c]
    unfold mj_T_readTerm_115 upt
    by_cases cn : neg = true
    · rw [if_pos cn, ex_gi (by omega) (by omega), Option.bind_some, Option.bind_some, d', e_K_reduce (by omega) (by omega) (by omega) (by omega), ex_bd, xs_si (by omega) (by omega) (by omega) (by omega), Option.bind_some]
      simp only [if_pos cn]
    · rw [if_neg cn, ex_gi (by omega) (by omega), Option.bind_some, d', e_K_reduce (by omega) (by omega) (by omega) (by omega), ex_bd, xs_si (by omega) (by omega) (by omega) (by omega), Option.bind_some]
      simp only [if_neg cn]
theorem tmR_sp {σ : pw_Sto} {a p r : Nat} {neg : Bool} (ha : a ≠ 43) (w : Option (Int × Nat) × Nat) : tmR (sp σ r) a p neg w = tmR σ a p neg w := by
  obtain ⟨o, q⟩ := w
  cases o with
  | none => show (0, sp (sp σ r) q) = (0, sp σ q); rw [sp_sp]
  | some w =>
    obtain ⟨v, e⟩ := w
    show (1, pw_st (sp (sp σ r) q) a (upt p neg ((sp σ r).2.1 a) v e)) = (1, pw_st (sp σ q) a (upt p neg (σ.2.1 a) v e))
    rw [sp_sp]
    unfold sp
    rw [st_ne ha]
theorem e_T_term_x {σ : pw_Sto} {T : Nat → Int} {len p q a : Nat} (h : TC σ T len p q) (hp : 2 ≤ p) (hp2 : p ≤ 251) (ha : 45 ≤ a) (ha2 : a ≤ 46) (va : ∀ j, j < 16 → 0 ≤ σ.2.1 a j ∧ σ.2.1 a j ≤ 250) (neg dig : Bool) {v : Int} (hv : 0 ≤ v) (hv2 : v ≤ 9999) : mj_T_readTerm_30 43 a (if neg = true then 1 else 0) v 0 (if dig = true then 1 else 0) σ = some (tmR σ a p neg (tmG T len v dig q)) := by
  obtain ⟨l1, b, c, d', e', f, g⟩ := id h
  have hk := sk_rng (T := T) e'
  have vs : ∀ r j, j < 16 → 0 ≤ (sp σ r).2.1 a j ∧ (sp σ r).2.1 a j ≤ 250 := fun r j hj => by
    unfold sp; rw [st_ne (by omega)]; exact va j hj
  unfold mj_T_readTerm_30 tmG
  rw [e_T_took h (by omega) (by omega)]
  by_cases c1 : hr T len (sk T len q) = 120
  · have hl := hr_lt (T := T) (len := len) (pos := sk T len q) (by omega)
    have h2 := h.mv (q := sk T len q + 1) (by omega)
    have hk2 := sk_rng (T := T) (len := len) (pos := sk T len q + 1) (by omega)
    rw [if_pos c1, if_pos c1, ex_bd, pw_ck_ok (by omega) (by omega), if_neg (show ¬ (1 : Int) = 0 by omega), e_T_took h2 (by omega) (by omega)]
    by_cases c2 : hr T len (sk T len (sk T len q + 1)) = 94
    · have hl2 := hr_lt (T := T) (len := len) (pos := sk T len (sk T len q + 1)) (by omega)
      have h3 := h.mv (q := sk T len (sk T len q + 1) + 1) (by omega)
      have he := ep_rng (T := T) (len := len) (pos := sk T len (sk T len q + 1) + 1) (by omega)
      rw [if_pos c2, if_pos c2, ex_bd, pw_ck_ok (by omega) (by omega), if_neg (show ¬ (1 : Int) = 0 by omega), sp_sp, e_T_readExponent h3, ex_bd, sp_sp]
      unfold mj_T_readTerm_56
      rw [e_T_term_end (h.mv he.1.2) hp hp2 ha ha2 (vs _) neg hv hv2 he.2.1 he.2.2, tmR_sp (by omega)]
    · rw [if_neg c2, if_neg c2, ex_bd, pw_ck_ok (by omega) (by omega), if_pos rfl, sp_sp]
      unfold mj_T_readTerm_56
      rw [e_T_term_end (h.mv hk2.2) hp hp2 ha ha2 (vs _) neg hv hv2 (by omega) (by omega), tmR_sp (by omega)]
  · rw [if_neg c1, if_neg c1, ex_bd, pw_ck_ok (by omega) (by omega), if_pos rfl, pw_ck_ok (b01 _) (by omega), if01]
    by_cases c2 : dig = true
    · rw [if_pos c2, if_pos c2, e_T_term_end (h.mv hk.2) hp hp2 ha ha2 (vs _) neg hv hv2 (by omega) (by omega), tmR_sp (by omega)]
    · rw [if_neg c2, if_neg c2]
      rfl
theorem e_T_readTerm {σ : pw_Sto} {T : Nat → Int} {len p pos a : Nat} (h : TC σ T len p pos) (hp : 2 ≤ p) (hp2 : p ≤ 251) (ha : 45 ≤ a) (ha2 : a ≤ 46) (va : ∀ j, j < 16 → 0 ≤ σ.2.1 a j ∧ σ.2.1 a j ≤ 250) (neg : Bool) : mf_T_readTerm 43 a (if neg = true then 1 else 0) σ = some (tmR σ a p neg (tmx T len pos)) := by
  obtain ⟨l1, b, c, d', e', f, g⟩ := id h
  have := l1.1
  have := sh_43
  have hk := sk_rng (T := T) e'
  have vs : ∀ r j, j < 16 → 0 ≤ (sp σ r).2.1 a j ∧ (sp σ r).2.1 a j ≤ 250 := fun r j hj => by
    unfold sp; rw [st_ne (by omega)]; exact va j hj
  have r1 := hr_rng f (sk T len pos)
  have h2 := h.mv hk.2
  unfold mf_T_readTerm
  by_cases c1 : isD (hr T len (sk T len pos)) = true
  · have hn := nm_rng (T := T) (len := len) (n := 4) (v := 0) (pos := sk T len pos) (M := 1) (by omega) (by omega) (by omega)
    rw [ex_gd (by omega) (by omega), e_T_peek h, ex_bd, e_T_isDigit (by omega), if_pos c1, ex_bd, pw_ck_ok (by omega) (by omega), if_neg (show ¬ (1 : Int) = 0 by omega), e_T_readNumber h2, ex_bd]
    unfold tmx
    rw [if_pos c1]
    by_cases c2 : isD (hr T len (nm T len 4 0 (sk T len pos)).2) = true
    · rw [if_pos c2, if_pos c2, pw_ck_ok (by omega) (by omega), if_neg (by omega), sp_sp]
      rfl
    · have ht := e_T_term_x (h.mv hn.1.2) hp hp2 ha ha2 (vs _) neg true hn.2.1 (by omega)
      rw [tmR_sp (by omega)] at ht
      rw [if_neg c2, if_neg c2, pw_ck_ok (by omega) (by omega), if_pos hn.2.1, sp_sp]
      exact ht
  · have ht := e_T_term_x h2 hp hp2 ha ha2 (vs _) neg false (v := 1) (by omega) (by omega)
    rw [tmR_sp (by omega)] at ht
    rw [ex_gd (by omega) (by omega), e_T_peek h, ex_bd, e_T_isDigit (by omega), if_neg c1, ex_bd, pw_ck_ok (by omega) (by omega), if_pos rfl]
    unfold tmx
    rw [if_neg c1]
    exact ht
