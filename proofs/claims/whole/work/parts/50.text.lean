/-! ## reading: what both readers do, purely -/
def hr (T : Nat → Int) (len pos : Nat) : Int := if len ≤ pos then -1 else T pos
def TV (T : Nat → Int) (len : Nat) : Prop := len ≤ 80 ∧ ∀ i, i < len → 0 ≤ T i ∧ T i ≤ 127
theorem hr_rng {T : Nat → Int} {len : Nat} (h : TV T len) (pos : Nat) : -1 ≤ hr T len pos ∧ hr T len pos ≤ 127 := by
  unfold hr
  by_cases q : len ≤ pos
  · rw [if_pos q]; omega
  · rw [if_neg q]
    have := h.2 pos (by omega)
    omega
theorem hr_lt {T : Nat → Int} {len : Nat} {pos : Nat} (h : hr T len pos ≠ -1) : pos < len := by
  unfold hr at h
  by_cases q : len ≤ pos
  · rw [if_pos q] at h; exact absurd rfl h
  · omega
def skF (T : Nat → Int) (len : Nat) : Nat → Nat → Nat
  | 0, pos => pos
  | n + 1, pos => if hr T len pos = 32 then skF T len n (pos + 1) else pos
def sk (T : Nat → Int) (len pos : Nat) : Nat := skF T len (len - pos) pos
theorem sk_eq (T : Nat → Int) (len pos : Nat) : sk T len pos = if hr T len pos = 32 then sk T len (pos + 1) else pos := by
  unfold sk
  by_cases q : len ≤ pos
  · rw [if_neg (by unfold hr; rw [if_pos q]; omega), show len - pos = 0 by omega]
    rfl
  · obtain ⟨m, hm⟩ : ∃ m, len - pos = m + 1 := ⟨len - pos - 1, by omega⟩
    rw [hm, show len - (pos + 1) = m by omega]
    rfl
theorem sk_le {T : Nat → Int} {len : Nat} : ∀ {d pos : Nat}, len - pos = d → pos ≤ len → pos ≤ sk T len pos ∧ sk T len pos ≤ len := by
  intro d
  induction d with
  | zero =>
    intro pos h1 h2
    unfold sk
    rw [h1]
    exact ⟨Nat.le_refl _, h2⟩
  | succ d ih =>
    intro pos h1 h2
    rw [sk_eq]
    by_cases q : hr T len pos = 32
    · rw [if_pos q]
      have := ih (pos := pos + 1) (by omega) (by omega)
      omega
    · rw [if_neg q]
      omega
theorem sk_rng {T : Nat → Int} {len pos : Nat} (h : pos ≤ len) : pos ≤ sk T len pos ∧ sk T len pos ≤ len := sk_le rfl h
theorem sk_ns {T : Nat → Int} {len : Nat} : ∀ {d pos : Nat}, len - pos = d → hr T len (sk T len pos) ≠ 32 := by
  intro d
  induction d with
  | zero =>
    intro pos h1
    unfold sk
    rw [h1]
    show hr T len pos ≠ 32
    unfold hr
    rw [if_pos (by omega)]
    omega
  | succ d ih =>
    intro pos h1
    rw [sk_eq]
    by_cases q : hr T len pos = 32
    · rw [if_pos q]
      exact ih (by omega)
    · rw [if_neg q]
      exact q
theorem sk_sk (T : Nat → Int) (len pos : Nat) : sk T len (sk T len pos) = sk T len pos := by
  rw [sk_eq, if_neg (sk_ns rfl)]
/-! ### the class's reader -/
def sp (σ : pw_Sto) (q : Nat) : pw_Sto := pw_st σ 43 (fun j => if j = 2 then (q : Int) else σ.2.1 43 j)
def TC (σ : pw_Sto) (T : Nat → Int) (len p pos : Nat) : Prop := Lay σ ∧ σ.2.1 43 1 = len ∧ σ.2.1 43 2 = pos ∧ σ.2.1 43 3 = p ∧ pos ≤ len ∧ TV T len ∧ ∀ i, i < len → σ.2.1 44 i = T i
theorem sp_self {σ : pw_Sto} {q : Nat} (h : σ.2.1 43 2 = q) : sp σ q = σ := by
  unfold sp
  rw [st_congr (g := σ.2.1 43) (fun j => by by_cases e : j = 2; (rw [if_pos e, e, h]); (rw [if_neg e])), st_self]
theorem sp_sp (σ : pw_Sto) (a b : Nat) : sp (sp σ a) b = sp σ b := by
  unfold sp
  rw [st_st]
  refine st_congr fun j => ?_
  by_cases e : j = 2
  · rw [if_pos e, if_pos e]
  · rw [if_neg e, if_neg e, st_eq, if_neg e]
theorem TC.mv {σ : pw_Sto} {T : Nat → Int} {len p pos : Nat} (h : TC σ T len p pos) {q : Nat} (hq : q ≤ len) : TC (sp σ q) T len p q := by
  obtain ⟨a, b, c, d, e, f, g⟩ := h
  refine ⟨a, ?_, ?_, ?_, hq, f, fun i hi => ?_⟩
  · unfold sp; rw [st_eq]; exact b
  · unfold sp; rw [st_eq]; rfl
  · unfold sp; rw [st_eq]; exact d
  · unfold sp; rw [st_ne (by omega)]; exact g i hi
theorem pi_sp {σ : pw_Sto} {v : Int} {q : Nat} (h : 43 < σ.1) (hv : v = q) : pw_pi 2 43 2 v σ = some (sp σ q) := by
  rw [xs_pi h (by have := sh_43; omega), hv]
  rfl
theorem e_T_here {σ : pw_Sto} {T : Nat → Int} {len p pos : Nat} (h : TC σ T len p pos) : mf_T_here 43 σ = some (hr T len pos, σ) := by
  obtain ⟨a, b, c, d, e, f, g⟩ := h
  have := a.1
  have := sh_43
  have := sh_44
  have := f.1
  unfold mf_T_here
  rw [ex_gd (by omega) (by omega), ex_gi (by omega) (by omega), Option.bind_some, c, pw_ck_ok (by omega) (by omega), if_neg (by omega), Option.bind_some, ex_gi (by omega) (by omega), Option.bind_some, b, pw_ck_ok (by omega) (by omega)]
  unfold hr
  by_cases q : len ≤ pos
  · rw [if_pos (by omega), if_pos q]
  · rw [if_neg (by omega), if_neg q, Option.bind_some, pw_ck_ok (by omega) (by omega), if_neg (by omega), ex_gr (by omega) (by omega), lr_43_0 a, Option.bind_some, Option.bind_some, ex_ai (by omega) (by omega) (by omega) (by omega), Option.bind_some, Int.toNat_natCast, g pos (by omega)]
theorem e_T_peek {σ : pw_Sto} {T : Nat → Int} {len p pos : Nat} (h : TC σ T len p pos) : mf_T_peek 43 σ = some (hr T len (sk T len pos), sp σ (sk T len pos)) := by
  have key : ∀ (d n pos : Nat) (σ : pw_Sto), TC σ T len p pos → len - pos = d → d < n → ml_T_peek_0 n 43 σ = some (hr T len (sk T len pos), sp σ (sk T len pos)) := by
    intro d
    induction d with
    | zero =>
      intro n pos σ h h1 h2
      obtain ⟨n, rfl⟩ : ∃ m, n = m + 1 := ⟨n - 1, by omega⟩
      obtain ⟨a, b, c, d, e, f, g⟩ := id h
      have := a.1
      have := sh_43
      have := f.1
      have hsk : sk T len pos = pos := by unfold sk; rw [h1]; rfl
      rw [us_T_peek_0]
      unfold mb_T_peek_0
      rw [ex_gi (by omega) (by omega), Option.bind_some, ex_gi (by omega) (by omega), Option.bind_some, b, c, pw_ck_ok (by omega) (by omega), if_pos (by omega)]
      unfold mj_T_peek_33
      rw [e_T_here h, ex_bd, hsk, sp_self c]
    | succ d ih =>
      intro n pos σ h h1 h2
      obtain ⟨n, rfl⟩ : ∃ m, n = m + 1 := ⟨n - 1, by omega⟩
      obtain ⟨a, b, c, d', e, f, g⟩ := id h
      have := a.1
      have := sh_43
      have := f.1
      have hrr := hr_rng f pos
      rw [us_T_peek_0]
      unfold mb_T_peek_0
      rw [ex_gi (by omega) (by omega), Option.bind_some, ex_gi (by omega) (by omega), Option.bind_some, b, c, pw_ck_ok (by omega) (by omega), if_neg (by omega), e_T_here h, ex_bd, pw_ck_ok (by omega) (by omega), sk_eq]
      by_cases q : hr T len pos = 32
      · rw [if_pos q, if_pos q, ex_gi (by omega) (by omega), Option.bind_some, c, pi_sp (q := pos + 1) (by omega) (by omega), Option.bind_some, ih n (pos + 1) _ (h.mv (by omega)) (by omega) (by omega), sp_sp]
      · rw [if_neg q, if_neg q]
        unfold mj_T_peek_33
        rw [e_T_here h, ex_bd, sp_self c]
  have hl := h.2.2.2.2.2.1.1
  have := h.1.1
  have := sh_43
  unfold mf_T_peek
  rw [ex_gd (by omega) (by omega)]
  exact key _ 1000 pos σ h rfl (by omega)
theorem e_T_took {σ : pw_Sto} {T : Nat → Int} {len p pos : Nat} (h : TC σ T len p pos) {x : Int} (hx : 0 ≤ x) (hx2 : x ≤ 127) : mf_T_took 43 x σ = some (if hr T len (sk T len pos) = x then (1, sp σ (sk T len pos + 1)) else (0, sp σ (sk T len pos))) := by
  obtain ⟨a, b, c, d', e, f, g⟩ := id h
  have := a.1
  have := sh_43
  have hr1 := hr_rng f (sk T len pos)
  have hk := sk_rng (T := T) e
  have h2 := h.mv hk.2
  have n2 := h2.1.1
  have c2 := h2.2.2.1
  unfold mf_T_took
  rw [ex_gd (by omega) (by omega), e_T_peek h, ex_bd, pw_ck_ok (by omega) (by omega)]
  by_cases q : hr T len (sk T len pos) = x
  · rw [if_pos q, if_pos q, ex_gi (by omega) (by omega), Option.bind_some, c2, pi_sp (q := sk T len pos + 1) (by omega) (by omega), Option.bind_some, sp_sp]
  · rw [if_neg q, if_neg q]
def isD (x : Int) : Bool := decide (48 ≤ x ∧ x ≤ 57)
theorem e_T_isDigit {x : Int} {σ : pw_Sto} (hx : pw_R x) : mf_T_isDigit x σ = some (if isD x = true then 1 else 0, σ) := by
  unfold mf_T_isDigit isD
  rw [pw_ck_ok (by omega) (by omega)]
  by_cases q : x < 48
  · rw [if_pos q, if_neg (by rw [decide_eq_true_eq]; omega)]
  · rw [if_neg q, pw_ck_ok (by omega) (by omega)]
    by_cases q2 : 57 < x
    · rw [if_pos q2, if_neg (by rw [decide_eq_true_eq]; omega)]
    · rw [if_neg q2, if_pos (by rw [decide_eq_true_eq]; omega)]
/-! ### numbers and exponents -/
def nm (T : Nat → Int) (len : Nat) : Nat → Int → Nat → Int × Nat
  | 0, v, pos => (v, pos)
  | n + 1, v, pos => if isD (hr T len pos) = true then nm T len n (10 * v + hr T len pos - 48) (pos + 1) else (v, pos)
theorem isD_lt {T : Nat → Int} {len pos : Nat} (h : isD (hr T len pos) = true) : pos < len ∧ 48 ≤ hr T len pos ∧ hr T len pos ≤ 57 := by
  unfold isD at h
  rw [decide_eq_true_eq] at h
  exact ⟨hr_lt (T := T) (by omega), h⟩
theorem nm_rng {T : Nat → Int} {len : Nat} : ∀ {n : Nat} {v : Int} {pos : Nat} {M : Int}, pos ≤ len → 0 ≤ v → v + 1 ≤ M → (pos ≤ (nm T len n v pos).2 ∧ (nm T len n v pos).2 ≤ len) ∧ 0 ≤ (nm T len n v pos).1 ∧ (nm T len n v pos).1 + 1 ≤ M * 10 ^ n := by
  intro n
  induction n with
  | zero =>
    intro v pos M h1 h2 h3
    show (pos ≤ pos ∧ pos ≤ len) ∧ 0 ≤ v ∧ v + 1 ≤ M * 1
    omega
  | succ n ih =>
    intro v pos M h1 h2 h3
    show (pos ≤ (if isD (hr T len pos) = true then nm T len n (10 * v + hr T len pos - 48) (pos + 1) else (v, pos)).2 ∧ (if isD (hr T len pos) = true then nm T len n (10 * v + hr T len pos - 48) (pos + 1) else (v, pos)).2 ≤ len) ∧ 0 ≤ (if isD (hr T len pos) = true then nm T len n (10 * v + hr T len pos - 48) (pos + 1) else (v, pos)).1 ∧ (if isD (hr T len pos) = true then nm T len n (10 * v + hr T len pos - 48) (pos + 1) else (v, pos)).1 + 1 ≤ M * 10 ^ (n + 1)
    by_cases q : isD (hr T len pos) = true
    · rw [if_pos q]
      have hd := isD_lt q
      have h := ih (v := 10 * v + hr T len pos - 48) (pos := pos + 1) (M := M * 10) (by omega) (by omega) (by omega)
      rw [show M * 10 * 10 ^ n = M * 10 ^ (n + 1) by rw [Int.mul_assoc, Int.pow_succ, Int.mul_comm (10 ^ n) 10]] at h
      omega
    · rw [if_neg q]
      have h10 : (1 : Int) ≤ 10 ^ (n + 1) := Int.pow_pos (by omega)
      have hm : M * 1 ≤ M * 10 ^ (n + 1) := Int.mul_le_mul_of_nonneg_left h10 (by omega)
      show (pos ≤ pos ∧ pos ≤ len) ∧ 0 ≤ v ∧ v + 1 ≤ M * 10 ^ (n + 1)
      omega
theorem b01 (b : Bool) : pw_R (if b = true then (1 : Int) else 0) := by cases b <;> exact ⟨by decide, by decide⟩
theorem if01 {β : Type} (b : Bool) (x y : β) : (if (if b = true then (1 : Int) else 0) = 0 then x else y) = if b = true then y else x := by cases b <;> rfl
theorem e_T_readNumber {σ : pw_Sto} {T : Nat → Int} {len p pos : Nat} (h : TC σ T len p pos) : mf_T_readNumber 43 σ = some (if isD (hr T len (nm T len 4 0 pos).2) = true then -1 else (nm T len 4 0 pos).1, sp σ (nm T len 4 0 pos).2) := by
  have fin : ∀ (v : Int) (pos : Nat) (σ : pw_Sto), TC σ T len p pos → mj_T_readNumber_48 43 v σ = some (if isD (hr T len pos) = true then -1 else v, sp σ pos) := by
    intro v pos σ h
    obtain ⟨a, b, c, d', e, f, g⟩ := id h
    have := hr_rng f pos
    unfold mj_T_readNumber_48
    rw [e_T_here h, ex_bd, e_T_isDigit (by omega), ex_bd, pw_ck_ok (b01 _) (by omega), if01, sp_self c]
    by_cases q : isD (hr T len pos) = true
    · rw [if_pos q, if_pos q]
    · rw [if_neg q, if_neg q]
  have key : ∀ (n m pos : Nat) (v : Int) (σ : pw_Sto), TC σ T len p pos → n ≤ 4 → n < m → ml_T_readNumber_4 m 43 v ((4 - n : Nat) : Int) σ = some (if isD (hr T len (nm T len n v pos).2) = true then -1 else (nm T len n v pos).1, sp σ (nm T len n v pos).2) := by
    intro n
    induction n with
    | zero =>
      intro m pos v σ h h1 h2
      obtain ⟨m, rfl⟩ : ∃ k, m = k + 1 := ⟨m - 1, by omega⟩
      rw [us_T_readNumber_4]
      unfold mb_T_readNumber_4
      rw [pw_ck_ok (by omega) (by omega), if_pos (by omega), fin v pos σ h]
      rfl
    | succ n ih =>
      intro m pos v σ h h1 h2
      obtain ⟨m, rfl⟩ : ∃ k, m = k + 1 := ⟨m - 1, by omega⟩
      obtain ⟨a, b, c, d', e, f, g⟩ := id h
      have := a.1
      have := sh_43
      have := hr_rng f pos
      rw [us_T_readNumber_4]
      unfold mb_T_readNumber_4
      rw [pw_ck_ok (by omega) (by omega), if_neg (by omega), e_T_here h, ex_bd, e_T_isDigit (by omega), ex_bd, pw_ck_ok (b01 _) (by omega), if01]
      show _ = some (if isD (hr T len (if isD (hr T len pos) = true then nm T len n (10 * v + hr T len pos - 48) (pos + 1) else (v, pos)).2) = true then -1 else (if isD (hr T len pos) = true then nm T len n (10 * v + hr T len pos - 48) (pos + 1) else (v, pos)).1, sp σ (if isD (hr T len pos) = true then nm T len n (10 * v + hr T len pos - 48) (pos + 1) else (v, pos)).2)
      by_cases q : isD (hr T len pos) = true
      · have hd := isD_lt q
        rw [if_pos q, if_pos q, e_T_here h, ex_bd, ex_gi (by omega) (by omega), Option.bind_some, c, pi_sp (q := pos + 1) (by omega) (by omega), Option.bind_some, show ((4 - (n + 1) : Nat) : Int) + 1 = ((4 - n : Nat) : Int) by omega, ih m (pos + 1) _ _ (h.mv (by omega)) (by omega) (by omega), sp_sp]
      · rw [if_neg q, if_neg q, fin v pos σ h]
  have := h.1.1
  have := sh_43
  unfold mf_T_readNumber
  rw [ex_gd (by omega) (by omega)]
  exact key 4 1000 pos 0 σ h (by omega) (by omega)
def ep (T : Nat → Int) (len pos : Nat) : Int × Nat := if isD (hr T len (sk T len pos)) = true then (if isD (hr T len (nm T len 1 (hr T len (sk T len pos) - 48) (sk T len pos + 1)).2) = true then (-1, (nm T len 1 (hr T len (sk T len pos) - 48) (sk T len pos + 1)).2) else if (nm T len 1 (hr T len (sk T len pos) - 48) (sk T len pos + 1)).1 < 16 then nm T len 1 (hr T len (sk T len pos) - 48) (sk T len pos + 1) else (-1, sk T len pos)) else (-1, sk T len pos)
theorem ep_rng {T : Nat → Int} {len pos : Nat} (h : pos ≤ len) : (pos ≤ (ep T len pos).2 ∧ (ep T len pos).2 ≤ len) ∧ -1 ≤ (ep T len pos).1 ∧ (ep T len pos).1 < 16 := by
  have hk := sk_rng (T := T) h
  unfold ep
  by_cases q : isD (hr T len (sk T len pos)) = true
  · have hd := isD_lt q
    have hn := nm_rng (T := T) (len := len) (n := 1) (v := hr T len (sk T len pos) - 48) (pos := sk T len pos + 1) (M := 10) (by omega) (by omega) (by omega)
    rw [if_pos q]
    by_cases q1 : isD (hr T len (nm T len 1 (hr T len (sk T len pos) - 48) (sk T len pos + 1)).2) = true
    · rw [if_pos q1]
      dsimp only
      omega
    · rw [if_neg q1]
      by_cases q2 : (nm T len 1 (hr T len (sk T len pos) - 48) (sk T len pos + 1)).1 < 16
      · rw [if_pos q2]
        omega
      · rw [if_neg q2]
        dsimp only
        omega
  · rw [if_neg q]
    dsimp only
    omega
theorem e_T_readExponent {σ : pw_Sto} {T : Nat → Int} {len p pos : Nat} (h : TC σ T len p pos) : mf_T_readExponent 43 σ = some ((ep T len pos).1, sp σ (ep T len pos).2) := by
  have fin : ∀ (st : Nat) (v : Int) (pos : Nat) (σ : pw_Sto), TC σ T len p pos → st ≤ len → pw_R v → mj_T_readExponent_68 43 st v σ = some (if isD (hr T len pos) = true then (-1, sp σ pos) else if v < 16 then (v, sp σ pos) else (-1, sp σ st)) := by
    intro st v pos σ h hst hv
    obtain ⟨a, b, c, d', e, f, g⟩ := id h
    have := a.1
    have := hr_rng f pos
    unfold mj_T_readExponent_68
    rw [e_T_here h, ex_bd, e_T_isDigit (by omega), ex_bd, pw_ck_ok (b01 _) (by omega), if01, sp_self c]
    by_cases q : isD (hr T len pos) = true
    · rw [if_pos q, if_pos q]
    · rw [if_neg q, if_neg q, pw_ck_ok hv (by omega)]
      by_cases q2 : v < 16
      · rw [if_pos q2, if_pos q2]
      · rw [if_neg q2, if_neg q2, pi_sp (q := st) (by omega) rfl, Option.bind_some]
  obtain ⟨a, b, c, d', e, f, g⟩ := id h
  have := a.1
  have := sh_43
  have hk := sk_rng (T := T) e
  have h2 := h.mv hk.2
  have n2 := h2.1.1
  have c2 := h2.2.2.1
  have r1 := hr_rng f (sk T len pos)
  unfold mf_T_readExponent
  rw [ex_gd (by omega) (by omega), e_T_peek h, ex_bd, e_T_isDigit (by omega), ex_bd, pw_ck_ok (b01 _) (by omega), if01]
  unfold ep
  by_cases q : isD (hr T len (sk T len pos)) = true
  · have hd := isD_lt q
    have h3 := h.mv (q := sk T len pos + 1) (by omega)
    have n3 := h3.1.1
    have c3 := h3.2.2.1
    have r2 := hr_rng f (sk T len pos + 1)
    rw [if_pos q, if_pos q, ex_gi (by omega) (by omega), Option.bind_some, c2, e_T_here h2, ex_bd, ex_gi (by omega) (by omega), Option.bind_some, c2, pi_sp (q := sk T len pos + 1) (by omega) (by omega), Option.bind_some, sp_sp, e_T_here h3, ex_bd, e_T_isDigit (by omega), ex_bd, pw_ck_ok (b01 _) (by omega), if01]
    have en : nm T len 1 (hr T len (sk T len pos) - 48) (sk T len pos + 1) = if isD (hr T len (sk T len pos + 1)) = true then (10 * (hr T len (sk T len pos) - 48) + hr T len (sk T len pos + 1) - 48, sk T len pos + 1 + 1) else (hr T len (sk T len pos) - 48, sk T len pos + 1) := rfl
    by_cases q1 : isD (hr T len (sk T len pos + 1)) = true
    · have hd1 := isD_lt q1
      rw [if_pos q1] at en
      rw [if_pos q1, e_T_here h3, ex_bd, ex_gi (by omega) (by omega), Option.bind_some, c3, pi_sp (q := sk T len pos + 1 + 1) (by omega) (by omega), Option.bind_some, sp_sp, fin _ _ _ _ (h.mv (q := sk T len pos + 1 + 1) (by omega)) hk.2 (by omega), en]
      dsimp only
      rw [sp_sp, sp_sp]
      by_cases q2 : isD (hr T len (sk T len pos + 1 + 1)) = true
      · rw [if_pos q2, if_pos q2]
      · rw [if_neg q2, if_neg q2]
        by_cases q3 : 10 * (hr T len (sk T len pos) - 48) + hr T len (sk T len pos + 1) - 48 < 16
        · rw [if_pos q3, if_pos q3]
        · rw [if_neg q3, if_neg q3]
    · rw [if_neg q1] at en
      rw [if_neg q1, fin _ _ _ _ h3 hk.2 (by omega), en]
      dsimp only
      rw [sp_sp, sp_sp]
      rw [if_neg q1, if_neg q1]
      by_cases q3 : hr T len (sk T len pos) - 48 < 16
      · rw [if_pos q3, if_pos q3]
      · rw [if_neg q3, if_neg q3]
  · rw [if_neg q, if_neg q]
