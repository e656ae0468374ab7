/-! ## the field of p elements -/
def fz (p : Nat) [NeZero p] (z : Int) : Fin p := Lean.Grind.Ring.intCast.intCast z
theorem fz_add {p : Nat} [NeZero p] (a b : Int) : fz p (a + b) = fz p a + fz p b := Lean.Grind.Ring.intCast_add a b
theorem fz_sub {p : Nat} [NeZero p] (a b : Int) : fz p (a - b) = fz p a - fz p b := Lean.Grind.Ring.intCast_sub a b
theorem fz_mul {p : Nat} [NeZero p] (a b : Int) : fz p (a * b) = fz p a * fz p b := Lean.Grind.Ring.intCast_mul a b
theorem fz_neg {p : Nat} [NeZero p] (a : Int) : fz p (-a) = - fz p a := Lean.Grind.Ring.intCast_neg a
theorem fz_zero {p : Nat} [NeZero p] : fz p 0 = 0 := Lean.Grind.Ring.intCast_zero
theorem fz_one {p : Nat} [NeZero p] : fz p 1 = 1 := Lean.Grind.Ring.intCast_one
theorem fz_iff {p : Nat} [NeZero p] {a b : Int} : fz p a = fz p b ↔ a % p = b % p := Lean.Grind.IsCharP.intCast_ext_iff p
theorem fz_mod {p : Nat} [NeZero p] (a : Int) : fz p (a % p) = fz p a := Lean.Grind.IsCharP.intCast_emod p a
theorem fz_inj {p : Nat} [NeZero p] {a b : Int} (ha : 0 ≤ a) (ha2 : a < p) (hb : 0 ≤ b) (hb2 : b < p) (h : fz p a = fz p b) : a = b := by
  have h2 := fz_iff.mp h
  rw [Int.emod_eq_of_lt ha ha2, Int.emod_eq_of_lt hb hb2] at h2
  exact h2
theorem fz_val {p : Nat} [NeZero p] (x : Fin p) : fz p x.val = x := (Lean.Grind.Ring.intCast_natCast x.val).trans (Fin.ext (Nat.mod_eq_of_lt x.isLt))
/-- primes, as the document has them -/
def isPb (p : Nat) : Bool := decide (2 ≤ p) && (decide (p ≤ 251) && (List.range p).all (fun k => decide (k < 2) || !(p % k == 0)))
def kpN : Nat → Nat → Nat → Nat → Nat → Nat
  | 0, _, pw, _, _ => pw
  | n + 1, p, pw, sq, rest => if rest = 0 then pw else kpN n p (if rest % 2 = 1 then pw * sq % p else pw) (sq * sq % p) (rest / 2)
def iv (p a : Nat) : Nat := kpN 8 p 1 a (p - 2)
theorem iv_all : ∀ p, p < 252 → isPb p = true → ∀ a, a < p → a = 0 ∨ (a * iv p a) % p = 1 := by decide +kernel
theorem isPb_le {p : Nat} (h : isPb p = true) : 2 ≤ p ∧ p ≤ 251 := by
  unfold isPb at h
  simp only [Bool.and_eq_true, decide_eq_true_eq] at h
  exact ⟨h.1, h.2.1⟩
theorem iv_ok {p a : Nat} (h : isPb p = true) (ha : a < p) (h0 : a ≠ 0) : (a * iv p a) % p = 1 := by
  have := isPb_le h
  rcases iv_all p (by omega) h a ha with q | q
  · exact absurd q h0
  · exact q
theorem kpN_lt {p : Nat} (hp : 0 < p) : ∀ (n pw sq rest : Nat), pw < p → kpN n p pw sq rest < p := by
  intro n
  induction n with
  | zero => intro pw sq rest h; exact h
  | succ n ih =>
    intro pw sq rest h
    unfold kpN
    by_cases h0 : rest = 0
    · rw [if_pos h0]; exact h
    · rw [if_neg h0]
      apply ih
      by_cases h1 : rest % 2 = 1
      · rw [if_pos h1]; exact Nat.mod_lt _ hp
      · rw [if_neg h1]; exact h
theorem iv_lt {p a : Nat} (h : isPb p = true) : iv p a < p := by
  have := isPb_le h
  exact kpN_lt (by omega) 8 1 a (p - 2) (by omega)
theorem iv_uniq {p a k : Nat} (h : isPb p = true) (ha : a < p) (h0 : a ≠ 0) (hk : k < p) (h1 : (a * k) % p = 1) : k = iv p a := by
  have h2 := iv_ok h ha h0
  have h3 := iv_lt (a := a) h
  have hp := isPb_le h
  have e1 : (k * (a * iv p a)) % p = k := by
    rw [Nat.mul_mod, h2, Nat.mod_eq_of_lt hk, Nat.mul_one, Nat.mod_eq_of_lt hk]
  have e2 : (iv p a * (a * k)) % p = iv p a := by
    rw [Nat.mul_mod, h1, Nat.mod_eq_of_lt h3, Nat.mul_one, Nat.mod_eq_of_lt h3]
  have e3 : k * (a * iv p a) = iv p a * (a * k) := by rw [Nat.mul_left_comm k a, Nat.mul_left_comm (iv p a) a, Nat.mul_comm k]
  rw [e3, e2] at e1
  exact e1.symm
/-- every element but 0 has an inverse -/
theorem fp_inv {p : Nat} [NeZero p] (h : isPb p = true) (a : Fin p) (h0 : a ≠ 0) : ∃ b : Fin p, a * b = 1 := by
  have h1 : a.val ≠ 0 := fun q => h0 (Fin.ext q)
  have h2 := iv_ok h a.isLt h1
  have hp := isPb_le h
  refine ⟨fz p (iv p a.val : Nat), ?_⟩
  have h3 : a * fz p (iv p a.val : Nat) = fz p ((a.val * iv p a.val : Nat) : Int) := by
    rw [Int.natCast_mul, fz_mul, fz_val]
  rw [h3, ← fz_one, fz_iff, ← Int.natCast_emod, h2]
  rw [Int.emod_eq_of_lt (by omega) (by omega)]
  rfl
theorem fz_iv {p a : Nat} [NeZero p] (h : isPb p = true) (ha : a < p) (h0 : a ≠ 0) : fz p a * fz p (iv p a : Nat) = 1 := by
  have h2 := iv_ok h ha h0
  have hp := isPb_le h
  rw [← fz_mul, ← fz_one, fz_iff, ← Int.natCast_mul, ← Int.natCast_emod, h2]
  rw [Int.emod_eq_of_lt (by omega) (by omega)]
  rfl
