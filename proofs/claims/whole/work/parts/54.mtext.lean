/-! ### the model's reader -/
def mq (σ : pw_Sto) (q : Nat) : pw_Sto := pw_st σ 91 (fun j => if j = 9 then (q : Int) else σ.2.1 91 j)
def TM (σ : pw_Sto) (T : Nat → Int) (len p pos : Nat) : Prop := Lay σ ∧ σ.2.1 91 5 = len ∧ σ.2.1 91 9 = pos ∧ σ.2.1 92 0 = p ∧ pos ≤ len ∧ TV T len ∧ ∀ i, i < len → σ.2.1 95 i = T i
theorem mq_self {σ : pw_Sto} {q : Nat} (h : σ.2.1 91 9 = q) : mq σ q = σ := by
  unfold mq
  rw [st_congr (g := σ.2.1 91) (fun j => by by_cases e : j = 9; (rw [if_pos e, e, h]); (rw [if_neg e])), st_self]
theorem mq_mq (σ : pw_Sto) (a b : Nat) : mq (mq σ a) b = mq σ b := by
  unfold mq
  rw [st_st]
  refine st_congr fun j => ?_
  by_cases e : j = 9
  · rw [if_pos e, if_pos e]
  · rw [if_neg e, if_neg e, st_eq, if_neg e]
theorem TM.mv {σ : pw_Sto} {T : Nat → Int} {len p pos : Nat} (h : TM σ T len p pos) {q : Nat} (hq : q ≤ len) : TM (mq σ q) T len p q := by
  obtain ⟨a, b, c, d, e, f, g⟩ := h
  refine ⟨a, ?_, ?_, ?_, hq, f, fun i hi => ?_⟩
  · unfold mq; rw [st_eq]; exact b
  · unfold mq; rw [st_eq]; rfl
  · unfold mq; rw [st_ne (by omega)]; exact d
  · unfold mq; rw [st_ne (by omega)]; exact g i hi
theorem TM.st {σ : pw_Sto} {T : Nat → Int} {len p pos a : Nat} {f : Nat → Int} (h : TM σ T len p pos) (ha : 96 ≤ a) : TM (pw_st σ a f) T len p pos := by
  obtain ⟨l, b, c, d, e, g, i⟩ := h
  exact ⟨l, by rw [st_ne (by omega)]; exact b, by rw [st_ne (by omega)]; exact c, by rw [st_ne (by omega)]; exact d, e, g, fun j hj => by rw [st_ne (by omega)]; exact i j hj⟩
theorem mq_st {σ : pw_Sto} {a q : Nat} {f : Nat → Int} (ha : 96 ≤ a) : mq (pw_st σ a f) q = pw_st (mq σ q) a f := by
  unfold mq
  rw [st_ne (by omega), st_cm (by omega)]
theorem mq_a {σ : pw_Sto} {a q : Nat} (ha : 96 ≤ a) : (mq σ q).2.1 a = σ.2.1 a := by
  unfold mq
  rw [st_ne (by omega)]
theorem pi_mq {σ : pw_Sto} {v : Int} {q : Nat} (h : 91 < σ.1) (hv : v = q) : pw_pi 10 91 9 v σ = some (mq σ q) := by
  rw [xs_pi h (by have := sh_91; omega), hv]
  rfl
theorem e_M_here {σ : pw_Sto} {T : Nat → Int} {len p pos : Nat} (h : TM σ T len p pos) : mf_M_here 91 σ = some (hr T len pos, σ) := by
  obtain ⟨a, b, c, d, e, f, g⟩ := h
  have := a.1
  have := sh_91
  have s95 : (pw_sh 95).1 = 11 ∧ (pw_sh 95).2 = 80 := sh_95
  have := f.1
  unfold mf_M_here
  rw [ex_gd (by omega) (by omega), ex_gi (by omega) (by omega), Option.bind_some, ex_gi (by omega) (by omega), Option.bind_some, b, c, pw_ck_ok (by omega) (by omega)]
  unfold hr
  by_cases q : len ≤ pos
  · rw [if_pos (by omega), if_pos q]
  · rw [if_neg (by omega), if_neg q, ex_gr (by omega) (by omega), lr_91_4 a, Option.bind_some, Option.bind_some, ex_ai (by omega) (by omega) (by omega) (by omega), Option.bind_some, Int.toNat_natCast, g pos (by omega)]
theorem e_M_isDigit {σ : pw_Sto} {T : Nat → Int} {len p pos : Nat} (h : TM σ T len p pos) : mf_M_isDigit 91 σ = some (if isD (hr T len pos) = true then 1 else 0, σ) := by
  have := h.1.1
  have := sh_91
  have hr1 := hr_rng h.2.2.2.2.2.1 pos
  unfold mf_M_isDigit
  rw [ex_gd (by omega) (by omega), e_M_here h, ex_bd, e_M_in (by omega) (by omega) (by omega), ex_bd]
  unfold isD pw_z
  by_cases c : 48 ≤ hr T len pos ∧ hr T len pos ≤ 57
  · rw [if_pos c, if_pos (Or.inr rfl), if_pos (by rw [decide_eq_true_eq]; exact c)]
  · rw [if_neg c, if_pos (Or.inl rfl), if_neg (by rw [decide_eq_true_eq]; exact c)]
theorem e_M_skip {σ : pw_Sto} {T : Nat → Int} {len p pos : Nat} (h : TM σ T len p pos) : mf_M_skip 91 σ = some ((), mq σ (sk T len pos)) := by
  have key : ∀ (d n pos : Nat) (σ : pw_Sto), TM σ T len p pos → len - pos = d → d < n → ml_M_skip_0 n 91 σ = some ((), mq σ (sk T len pos)) := by
    intro d
    induction d with
    | zero =>
      intro n pos σ h h1 h2
      obtain ⟨n, rfl⟩ : ∃ m, n = m + 1 := ⟨n - 1, by omega⟩
      have hh : hr T len pos = -1 := by unfold hr; rw [if_pos (by omega)]
      rw [us_M_skip_0]
      unfold mb_M_skip_0
      rw [e_M_here h, ex_bd, sk_eq, hh, pw_ck_ok (by omega) (by omega), if_neg (by omega), if_neg (by omega), mq_self h.2.2.1]
    | succ d ih =>
      intro n pos σ h h1 h2
      obtain ⟨n, rfl⟩ : ∃ m, n = m + 1 := ⟨n - 1, by omega⟩
      obtain ⟨a, b, c, d', e, f, g⟩ := id h
      have := a.1
      have := sh_91
      have hrr := hr_rng f pos
      rw [us_M_skip_0]
      unfold mb_M_skip_0
      rw [e_M_here h, ex_bd, pw_ck_ok (by omega) (by omega), sk_eq]
      by_cases q : hr T len pos = 32
      · rw [if_pos q, if_pos q, ex_gi (by omega) (by omega), Option.bind_some, c, pi_mq (q := pos + 1) (by omega) (by omega), Option.bind_some, ih n (pos + 1) _ (h.mv (by omega)) (by omega) (by omega), mq_mq]
      · rw [if_neg q, if_neg q, mq_self c]
  have hl := h.2.2.2.2.2.1.1
  have := h.1.1
  have := sh_91
  unfold mf_M_skip
  rw [ex_gd (by omega) (by omega)]
  exact key _ 1000 pos σ h rfl (by omega)
theorem e_M_readExponent {σ : pw_Sto} {T : Nat → Int} {len p pos : Nat} (h : TM σ T len p pos) : mf_M_readExponent 91 σ = some ((ep T len pos).1, mq σ (ep T len pos).2) := by
  have fin : ∀ (st : Nat) (v : Int) (pos : Nat) (σ : pw_Sto), TM σ T len p pos → st ≤ len → pw_R v → mj_M_readExponent_66 91 st v σ = some (if isD (hr T len pos) = true then (-1, mq σ pos) else if v < 16 then (v, mq σ pos) else (-1, mq σ st)) := by
    intro st v pos σ h hst hv
    obtain ⟨a, b, c, d', e, f, g⟩ := id h
    have := a.1
    have := sh_91
    have := hr_rng f pos
    unfold mj_M_readExponent_66 mj_M_readExponent_90
    rw [e_M_isDigit h, ex_bd, pw_ck_ok (b01 _) (by omega), if01]
    by_cases q : isD (hr T len pos) = true
    · rw [if_pos q, if_pos q, mq_self c]
    · rw [if_neg q, if_neg q, pw_ck_ok hv (by omega)]
      by_cases q2 : v < 16
      · rw [if_pos (show v ≤ 15 by omega), if_pos q2, ex_gi (by omega) (by omega), Option.bind_some, c, pi_mq (q := pos) (by omega) rfl, Option.bind_some, pw_ck_ok hv (by omega), if_pos (show v ≤ 15 by omega)]
      · rw [if_neg (show ¬ v ≤ 15 by omega), if_neg q2, pi_mq (q := st) (by omega) rfl, Option.bind_some, pw_ck_ok hv (by omega), if_neg (show ¬ v ≤ 15 by omega)]
  obtain ⟨a, b, c, d', e, f, g⟩ := id h
  have := a.1
  have := sh_91
  have hk := sk_rng (T := T) e
  have h2 := h.mv hk.2
  have n2 := h2.1.1
  have c2 := h2.2.2.1
  have r1 := hr_rng f (sk T len pos)
  unfold mf_M_readExponent
  rw [ex_gd (by omega) (by omega), e_M_skip h, ex_bd, e_M_isDigit h2, ex_bd, pw_ck_ok (b01 _) (by omega), if01]
  unfold ep
  by_cases q : isD (hr T len (sk T len pos)) = true
  · have hd := isD_lt q
    have h3 := h.mv (q := sk T len pos + 1) (by omega)
    have n3 := h3.1.1
    have c3 := h3.2.2.1
    have r2 := hr_rng f (sk T len pos + 1)
    rw [if_pos q, if_pos q, ex_gi (by omega) (by omega), Option.bind_some, c2, e_M_here h2, ex_bd, ex_gi (by omega) (by omega), Option.bind_some, c2, pi_mq (q := sk T len pos + 1) (by omega) (by omega), Option.bind_some, mq_mq, e_M_isDigit h3, ex_bd, pw_ck_ok (b01 _) (by omega), if01]
    have en : nm T len 1 (hr T len (sk T len pos) - 48) (sk T len pos + 1) = if isD (hr T len (sk T len pos + 1)) = true then (10 * (hr T len (sk T len pos) - 48) + hr T len (sk T len pos + 1) - 48, sk T len pos + 1 + 1) else (hr T len (sk T len pos) - 48, sk T len pos + 1) := rfl
    by_cases q1 : isD (hr T len (sk T len pos + 1)) = true
    · have hd1 := isD_lt q1
      rw [if_pos q1] at en
      rw [if_pos q1, e_M_here h3, ex_bd, ex_gi (by omega) (by omega), Option.bind_some, c3, pi_mq (q := sk T len pos + 1 + 1) (by omega) (by omega), Option.bind_some, mq_mq, fin _ _ _ _ (h.mv (q := sk T len pos + 1 + 1) (by omega)) hk.2 (by omega), en]
      dsimp only
      rw [mq_mq, mq_mq]
      by_cases q2 : isD (hr T len (sk T len pos + 1 + 1)) = true
      · rw [if_pos q2, if_pos q2]
      · rw [if_neg q2, if_neg q2]
        by_cases q3 : 10 * (hr T len (sk T len pos) - 48) + hr T len (sk T len pos + 1) - 48 < 16
        · rw [if_pos q3, if_pos q3]
        · rw [if_neg q3, if_neg q3]
    · rw [if_neg q1] at en
      rw [if_neg q1, fin _ _ _ _ h3 hk.2 (by omega), en]
      dsimp only
      rw [mq_mq, mq_mq]
      rw [if_neg q1, if_neg q1]
      by_cases q3 : hr T len (sk T len pos) - 48 < 16
      · rw [if_pos q3, if_pos q3]
      · rw [if_neg q3, if_neg q3]
  · rw [if_neg q, if_neg q]
def sg (neg : Bool) : Int := if neg = true then -1 else 1
def tmM (σ : pw_Sto) (a p : Nat) (neg : Bool) : Option (Int × Nat) × Nat → Int × pw_Sto
  | (none, q) => (0, mq σ q)
  | (some (v, e), q) => (1, pw_st (mq σ q) a (upt p neg (σ.2.1 a) v e))
theorem tmM_mq {σ : pw_Sto} {a p r : Nat} {neg : Bool} (ha : 96 ≤ a) (w : Option (Int × Nat) × Nat) : tmM (mq σ r) a p neg w = tmM σ a p neg w := by
  obtain ⟨o, q⟩ := w
  cases o with
  | none => show (0, mq (mq σ r) q) = (0, mq σ q); rw [mq_mq]
  | some w =>
    obtain ⟨v, e⟩ := w
    show (1, pw_st (mq (mq σ r) q) a (upt p neg ((mq σ r).2.1 a) v e)) = (1, pw_st (mq σ q) a (upt p neg (σ.2.1 a) v e))
    rw [mq_mq, mq_a ha]
theorem sg_upt {p : Nat} {neg : Bool} {r v : Int} : (r + sg neg * (v % p)) % p = (r + (if neg = true then p - v % p else v % p)) % p := by
  unfold sg
  cases neg with
  | false => rw [if_neg (by decide), if_neg (by decide), Int.one_mul]
  | true =>
    rw [if_pos rfl, if_pos rfl, show r + ((p : Int) - v % p) = (r + -1 * (v % p)) + p by omega, Int.add_emod_right]
theorem e_M_term_end {σ : pw_Sto} {T : Nat → Int} {len p q a : Nat} (h : TM σ T len p q) (hp : 2 ≤ p) (hp2 : p ≤ 251) (ha : 97 ≤ a) (ha2 : a ≤ 98) (va : ∀ j, j < 16 → 0 ≤ σ.2.1 a j ∧ σ.2.1 a j ≤ 250) (neg : Bool) {v e k : Int} (hv : 0 ≤ v) (hv2 : v ≤ 9999) (he0 : -1 ≤ e) (he : e < 16) (hk : 0 < k) (hk2 : k < 100) : mj_M_readTerm_132 91 a (sg neg) v k e σ = some (tmM σ a p neg (tmF v e q)) := by
  obtain ⟨l1, b, c, d', e', f, g⟩ := id h
  have := l1.1
  have := sh_91
  have sa : (pw_sh a).1 = 11 ∧ (pw_sh a).2 = 16 := by
    have : a = 97 ∨ a = 98 := by omega
    cases this with
    | inl h => rw [h]; exact sh_97
    | inr h => rw [h]; exact sh_98
  unfold mj_M_readTerm_132 tmF
  rw [pw_ck_ok (by omega) (by omega)]
  by_cases c1 : e < 0
  · rw [if_pos c1, if_pos c1]
    show _ = some (0, mq σ q)
    rw [mq_self c]
  · have hm := mod_rng (p := p) hp v
    have w := va e.toNat (by omega)
    have hsg : sg neg = 1 ∨ sg neg = -1 := by cases neg; exact Or.inl rfl; exact Or.inr rfl
    have hsm : -250 ≤ sg neg * (v % p) ∧ sg neg * (v % p) ≤ 250 := by
      cases hsg with
      | inl h => rw [h]; omega
      | inr h => rw [h]; omega
    rw [if_neg c1, if_neg c1, pw_ck_ok (by omega) (by omega), if_neg (by omega), ex_ai (by omega) (by omega) (by omega) (by omega), Option.bind_some, e_M_mod l1 d' hp hp2 (by omega), ex_bd, e_M_mod l1 d' hp hp2 (by omega), ex_bd, xs_si (by omega) (by omega) (by omega) (by omega), Option.bind_some, sg_upt]
    show _ = some (1, pw_st (mq σ q) a (upt p neg (σ.2.1 a) v e.toNat))
    rw [mq_self c]
    rfl
