theorem lp_sum0 {O : Type} (f : Nat → Int → Int → Option O) (e : Nat) (t : Nat → Int) (out : Int → Option O) (hs : ∀ n (k : Nat) z, k < e → f (n + 1) (k : Nat) z = f n ((k + 1 : Nat) : Int) (z + t k)) (hx : ∀ n z, f (n + 1) (e : Nat) z = out z) (n : Nat) (z : Int) (hn : e < n) : f n 0 z = out (z + sm t e) := by
  obtain ⟨s', h1, h2⟩ := lp_up f e (fun k s => s + t k) out (fun k s => s = z + sm t k) (fun n k s hk hI => ⟨hs n k s hk, by rw [hI]; show z + sm t k + t k = z + (sm t k + t k); omega⟩) (fun n s _ => hx n s) n 0 z (Nat.zero_le _) (by omega) (by show z = z + 0; omega)
  rw [h2] at h1
  exact h1
/-! ## power series: the ring -/
def cv {R : Type} [Lean.Grind.CommRing R] (a b : Nat → R) : Nat → R := fun k => sm (fun i => a i * b (k - i)) (k + 1)
theorem sm_tri {R : Type} [Lean.Grind.CommRing R] (G : Nat → Nat → R) (n : Nat) : sm (fun i => sm (fun j => G j (i - j)) (i + 1)) n = sm (fun j => sm (fun l => G j l) (n - j)) n := by
  induction n with
  | zero => rfl
  | succ n ih =>
    show sm (fun i => sm (fun j => G j (i - j)) (i + 1)) n + sm (fun j => G j (n - j)) (n + 1) = sm (fun j => sm (fun l => G j l) (n + 1 - j)) n + sm (fun l => G n l) (n + 1 - n)
    have h1 : sm (fun j => sm (fun l => G j l) (n + 1 - j)) n = sm (fun j => sm (fun l => G j l) (n - j) + G j (n - j)) n := sm_congr (fun j hj => by
      rw [show n + 1 - j = n - j + 1 by omega]
      rfl)
    rw [h1, sm_add, ih, show n + 1 - n = 0 + 1 by omega]
    show _ + (sm (fun j => G j (n - j)) n + G n (n - n)) = _ + (0 + G n 0)
    rw [Nat.sub_self]
    grind
theorem cv_comm {R : Type} [Lean.Grind.CommRing R] (a b : Nat → R) : cv a b = cv b a := by
  funext k
  show sm (fun i => a i * b (k - i)) (k + 1) = sm (fun i => b i * a (k - i)) (k + 1)
  rw [sm_rev]
  refine sm_congr (fun i hi => ?_)
  show a (k + 1 - 1 - i) * b (k - (k + 1 - 1 - i)) = b i * a (k - i)
  rw [show k + 1 - 1 - i = k - i by omega, show k - (k - i) = i by omega]
  grind
theorem cv_assoc {R : Type} [Lean.Grind.CommRing R] (a b c : Nat → R) : cv (cv a b) c = cv a (cv b c) := by
  funext k
  show sm (fun i => sm (fun j => a j * b (i - j)) (i + 1) * c (k - i)) (k + 1) = sm (fun j => a j * sm (fun l => b l * c (k - j - l)) (k - j + 1)) (k + 1)
  have h1 : sm (fun i => sm (fun j => a j * b (i - j)) (i + 1) * c (k - i)) (k + 1) = sm (fun i => sm (fun j => (fun j l => a j * b l * c (k - j - l)) j (i - j)) (i + 1)) (k + 1) := sm_congr (fun i hi => by
    show sm (fun j => a j * b (i - j)) (i + 1) * c (k - i) = sm (fun j => a j * b (i - j) * c (k - j - (i - j))) (i + 1)
    have h2 : sm (fun j => a j * b (i - j) * c (k - j - (i - j))) (i + 1) = sm (fun j => c (k - i) * (a j * b (i - j))) (i + 1) := sm_congr (fun j hj => by
      rw [show k - j - (i - j) = k - i by omega]
      grind)
    rw [h2, sm_mul]
    grind)
  rw [h1, sm_tri (fun j l => a j * b l * c (k - j - l))]
  refine sm_congr (fun j hj => ?_)
  show sm (fun l => a j * b l * c (k - j - l)) (k + 1 - j) = a j * sm (fun l => b l * c (k - j - l)) (k - j + 1)
  rw [← sm_mul, show k + 1 - j = k - j + 1 by omega]
  exact sm_congr (fun l hl => by grind)
theorem cv_add {R : Type} [Lean.Grind.CommRing R] (a b c : Nat → R) : cv a (fun k => b k + c k) = fun k => cv a b k + cv a c k := by
  funext k
  show sm (fun i => a i * (b (k - i) + c (k - i))) (k + 1) = sm (fun i => a i * b (k - i)) (k + 1) + sm (fun i => a i * c (k - i)) (k + 1)
  rw [← sm_add]
  exact sm_congr (fun i hi => by grind)
def cc {R : Type} [Lean.Grind.CommRing R] (c : R) : Nat → R := fun k => if k = 0 then c else 0
theorem cv_cc {R : Type} [Lean.Grind.CommRing R] (c : R) (a : Nat → R) : cv (cc c) a = fun k => c * a k := by
  funext k
  show sm (fun i => cc c i * a (k - i)) (k + 1) = c * a k
  rw [sm_first]
  have h : sm (fun i => cc c (i + 1) * a (k - (i + 1))) k = 0 := sm_zero (fun i hi => by
    show (if i + 1 = 0 then c else 0) * _ = 0
    rw [if_neg (by omega)]
    grind)
  rw [h]
  show (if 0 = 0 then c else 0) * a (k - 0) + 0 = c * a k
  rw [if_pos rfl, Nat.sub_zero]
  grind
abbrev PS (R : Type) : Type := Nat → R
def psPow {R : Type} [Lean.Grind.CommRing R] (a : Nat → R) : Nat → Nat → R
  | 0 => cc 1
  | n + 1 => cv (psPow a n) a
abbrev psRing (R : Type) [Lean.Grind.CommRing R] : Lean.Grind.CommRing (PS R) where
  add := fun a b => fun k => a k + b k
  mul := fun a b => cv a b
  natCast := ⟨fun n => cc (OfNat.ofNat n)⟩
  ofNat := fun n => ⟨cc (OfNat.ofNat n)⟩
  nsmul := ⟨fun n a => cv (cc (OfNat.ofNat n)) a⟩
  npow := ⟨fun a n => psPow a n⟩
  neg := fun a => fun k => - a k
  sub := fun a b => fun k => a k - b k
  intCast := ⟨fun i => cc (Lean.Grind.Ring.intCast.intCast i)⟩
  zsmul := ⟨fun i a => cv (cc (Lean.Grind.Ring.intCast.intCast i)) a⟩
  add_zero := fun a => by
    funext k
    show a k + (if k = 0 then (0 : R) else 0) = a k
    by_cases h : k = 0
    · rw [if_pos h]; grind
    · rw [if_neg h]; grind
  add_comm := fun a b => by
    funext k
    show a k + b k = b k + a k
    grind
  add_assoc := fun a b c => by
    funext k
    show a k + b k + c k = a k + (b k + c k)
    grind
  mul_assoc := fun a b c => cv_assoc a b c
  mul_one := fun a => by
    show cv a (cc 1) = a
    rw [cv_comm, cv_cc]
    funext k
    show (1 : R) * a k = a k
    grind
  one_mul := fun a => by
    show cv (cc 1) a = a
    rw [cv_cc]
    funext k
    show (1 : R) * a k = a k
    grind
  right_distrib := fun a b c => by
    show cv (fun k => a k + b k) c = fun k => cv a c k + cv b c k
    rw [cv_comm, cv_add, cv_comm c a, cv_comm c b]
  mul_zero := fun a => by
    show cv a (cc 0) = cc 0
    rw [cv_comm, cv_cc]
    funext k
    show (0 : R) * a k = (if k = 0 then (0 : R) else 0)
    by_cases h : k = 0
    · rw [if_pos h]; grind
    · rw [if_neg h]; grind
  mul_comm := fun a b => cv_comm a b
  left_distrib := fun a b c => cv_add a b c
  zero_mul := fun a => by
    show cv (cc 0) a = cc 0
    rw [cv_cc]
    funext k
    show (0 : R) * a k = (if k = 0 then (0 : R) else 0)
    by_cases h : k = 0
    · rw [if_pos h]; grind
    · rw [if_neg h]; grind
  pow_zero := fun a => rfl
  pow_succ := fun a n => rfl
  ofNat_succ := fun n => by
    funext k
    show (if k = 0 then (OfNat.ofNat (n + 1) : R) else 0) = (if k = 0 then (OfNat.ofNat n : R) else 0) + (if k = 0 then (1 : R) else 0)
    by_cases h : k = 0
    · rw [if_pos h, if_pos h, if_pos h]
      exact Lean.Grind.Semiring.ofNat_succ n
    · rw [if_neg h, if_neg h, if_neg h]; grind
  ofNat_eq_natCast := fun n => rfl
  nsmul_eq_natCast_mul := fun n a => rfl
  neg_add_cancel := fun a => by
    funext k
    show - a k + a k = (if k = 0 then (0 : R) else 0)
    by_cases h : k = 0
    · rw [if_pos h]; grind
    · rw [if_neg h]; grind
  sub_eq_add_neg := fun a b => by
    funext k
    show a k - b k = a k + - b k
    grind
  neg_zsmul := fun i a => by
    show cv (cc (Lean.Grind.Ring.intCast.intCast (-i))) a = fun k => - cv (cc (Lean.Grind.Ring.intCast.intCast i)) a k
    rw [cv_cc, cv_cc]
    funext k
    have h : (Lean.Grind.Ring.intCast.intCast (-i) : R) = - Lean.Grind.Ring.intCast.intCast i := Lean.Grind.Ring.intCast_neg i
    rw [h]
    grind
  zsmul_natCast_eq_nsmul := fun n a => by
    show cv (cc (Lean.Grind.Ring.intCast.intCast (n : Int))) a = cv (cc (OfNat.ofNat n)) a
    have h : (Lean.Grind.Ring.intCast.intCast (n : Int) : R) = OfNat.ofNat n := Lean.Grind.Ring.intCast_ofNat n
    rw [h]
  intCast_ofNat := fun n => by
    show cc (Lean.Grind.Ring.intCast.intCast (OfNat.ofNat n : Int)) = cc (OfNat.ofNat n : R)
    exact congrArg cc (Lean.Grind.Ring.intCast_ofNat n)
  intCast_neg := fun i => by
    show cc (Lean.Grind.Ring.intCast.intCast (-i)) = fun k => - (cc (Lean.Grind.Ring.intCast.intCast i) : Nat → R) k
    funext k
    have h : (Lean.Grind.Ring.intCast.intCast (-i) : R) = - Lean.Grind.Ring.intCast.intCast i := Lean.Grind.Ring.intCast_neg i
    show (if k = 0 then (Lean.Grind.Ring.intCast.intCast (-i) : R) else 0) = - (if k = 0 then (Lean.Grind.Ring.intCast.intCast i : R) else 0)
    rw [h]
    by_cases h2 : k = 0
    · rw [if_pos h2, if_pos h2]
    · rw [if_neg h2, if_neg h2]; grind
theorem ps_test {R : Type} [Lean.Grind.CommRing R] (a b c d : PS R) : (by
    letI := psRing R
    exact (a * b + c) * (a - d) = a * a * b + c * a - a * b * d - c * d) := by
  letI := psRing R
  show (a * b + c) * (a - d) = a * a * b + c * a - a * b * d - c * d
  grind
