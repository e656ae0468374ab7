/-! ### elimination, purely -/
def swM (X : Nat → Nat → Int) (k r : Nat) : Nat → Nat → Int := fun i c => if i = k then X r c else if i = r then X k c else X i c
def elM (p n : Nat) (X : Nat → Nat → Int) (k : Nat) : Nat → Nat → Int := fun i c => if k < i ∧ i < n ∧ k ≤ c ∧ c < n then (X i c + ((p : Int) - X i k * ((iv p (X k k).toNat : Nat) : Int) % p) * X k c) % p else X i c
def dv (p n : Nat) : Nat → Nat → Int → (Nat → Nat → Int) → Int
  | 0, _, d, _ => d
  | m + 1, k, d, X => if fs (fun i => X i k) n k < n then (if fs (fun i => X i k) n k = k then dv p n m (k + 1) ((d * X k k) % p) (elM p n X k) else dv p n m (k + 1) (((p - d) % p * swM X k (fs (fun i => X i k) n k) k k) % p) (elM p n (swM X k (fs (fun i => X i k) n k)) k)) else 0
theorem fs_cg {u w : Nat → Int} {n k : Nat} (h : ∀ i, k ≤ i → i < n → u i = w i) : fs u n k = fs w n k := fsF_cg (fun i h1 h2 => h i h1 (by omega))
theorem elM_cg {p n k : Nat} {X Y : Nat → Nat → Int} (hk : k < n) (h : ∀ i c, k ≤ i → i < n → k ≤ c → c < n → X i c = Y i c) : ∀ i c, k + 1 ≤ i → i < n → k + 1 ≤ c → c < n → elM p n X k i c = elM p n Y k i c := by
  intro i c h1 h2 h3 h4
  unfold elM
  rw [if_pos (by omega), if_pos (by omega), h i c (by omega) h2 (by omega) h4, h i k (by omega) h2 (by omega) hk, h k k (by omega) hk (by omega) hk, h k c (by omega) hk (by omega) h4]
theorem swM_cg {n k r : Nat} {X Y : Nat → Nat → Int} (hk : k < n) (hr : k ≤ r) (hr2 : r < n) (h : ∀ i c, k ≤ i → i < n → k ≤ c → c < n → X i c = Y i c) : ∀ i c, k ≤ i → i < n → k ≤ c → c < n → swM X k r i c = swM Y k r i c := by
  intro i c h1 h2 h3 h4
  unfold swM
  rw [h r c hr hr2 h3 h4, h k c (by omega) hk h3 h4, h i c h1 h2 h3 h4]
theorem dv_cg {p n : Nat} : ∀ {m k : Nat} {d : Int} {X Y : Nat → Nat → Int}, k + m = n → (∀ i c, k ≤ i → i < n → k ≤ c → c < n → X i c = Y i c) → dv p n m k d X = dv p n m k d Y := by
  intro m
  induction m with
  | zero => intro k d X Y _ _; rfl
  | succ m ih =>
    intro k d X Y hk h
    have ef : fs (fun i => X i k) n k = fs (fun i => Y i k) n k := fs_cg (fun i h1 h2 => h i k h1 h2 (by omega) (by omega))
    have hfl := fs_le (u := fun i => Y i k) (n := n) (k := k) (by omega)
    unfold dv
    rw [ef]
    by_cases c1 : fs (fun i => Y i k) n k < n
    · rw [if_pos c1, if_pos c1]
      have hs := swM_cg (k := k) (r := fs (fun i => Y i k) n k) (by omega) hfl.1 c1 h
      rw [h k k (by omega) (by omega) (by omega) (by omega), hs k k (by omega) (by omega) (by omega) (by omega), ih (by omega) (elM_cg (p := p) (by omega) h), ih (by omega) (elM_cg (p := p) (by omega) hs)]
    · rw [if_neg c1, if_neg c1]
