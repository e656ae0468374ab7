/-! ## determinants: cells, and the first entry that is not zero -/
theorem e_drow {σ : pw_Sto} (hL : Lay σ) {r : Int} (h1 : 0 ≤ r) (h2 : r < 16) : pw_ar 13 64 r σ = some (65 + r.toNat) := by
  have hN := hL.1
  have := sh_64
  rw [ex_ar (by omega) (by omega) (by omega) (by omega)]
  have : ∀ k, k < 16 → σ.2.2 64 k = some (65 + k) := fun k hk => hL.2 (64, k, 65 + k) (by
    have : ∀ k, k < 16 → (64, k, 65 + k) ∈ LRt := by decide
    exact this k hk)
  exact this r.toNat (by omega)
theorem sh_drow {r : Nat} (h : r < 16) : (pw_sh (65 + r)).1 = 11 ∧ (pw_sh (65 + r)).2 = 16 := by
  have : ∀ r, r < 16 → (pw_sh (65 + r)).1 = 11 ∧ (pw_sh (65 + r)).2 = 16 := by decide
  exact this r h
def fsF (u : Nat → Int) : Nat → Nat → Nat
  | 0, r => r
  | d + 1, r => if u r = 0 then fsF u d (r + 1) else r
def fs (u : Nat → Int) (n k : Nat) : Nat := fsF u (n - k) k
theorem fsF_le {u : Nat → Int} : ∀ {d r : Nat}, r ≤ fsF u d r ∧ fsF u d r ≤ r + d := by
  intro d
  induction d with
  | zero => intro r; exact ⟨Nat.le_refl _, Nat.le_refl _⟩
  | succ d ih =>
    intro r
    show r ≤ (if u r = 0 then fsF u d (r + 1) else r) ∧ (if u r = 0 then fsF u d (r + 1) else r) ≤ r + (d + 1)
    by_cases c : u r = 0
    · rw [if_pos c]; have := ih (r := r + 1); omega
    · rw [if_neg c]; omega
theorem fs_le {u : Nat → Int} {n k : Nat} (h : k ≤ n) : k ≤ fs u n k ∧ fs u n k ≤ n := by
  have := fsF_le (u := u) (d := n - k) (r := k)
  unfold fs
  omega
theorem fsF_ne {u : Nat → Int} : ∀ {d r : Nat}, fsF u d r < r + d → u (fsF u d r) ≠ 0 := by
  intro d
  induction d with
  | zero => intro r h; exact absurd h (Nat.lt_irrefl _)
  | succ d ih =>
    intro r
    show (if u r = 0 then fsF u d (r + 1) else r) < r + (d + 1) → u (if u r = 0 then fsF u d (r + 1) else r) ≠ 0
    by_cases c : u r = 0
    · rw [if_pos c]; intro h; exact ih (by omega)
    · rw [if_neg c]; intro _; exact c
theorem fs_ne {u : Nat → Int} {n k : Nat} (h0 : k ≤ n) (h : fs u n k < n) : u (fs u n k) ≠ 0 := fsF_ne (by unfold fs at h; omega)
theorem fsF_cg {u w : Nat → Int} : ∀ {d r : Nat}, (∀ i, r ≤ i → i < r + d → u i = w i) → fsF u d r = fsF w d r := by
  intro d
  induction d with
  | zero => intro r _; rfl
  | succ d ih =>
    intro r h
    show (if u r = 0 then fsF u d (r + 1) else r) = (if w r = 0 then fsF w d (r + 1) else r)
    rw [h r (by omega) (by omega), ih (r := r + 1) (fun i h1 h2 => h i (by omega) (by omega))]
theorem e_D_pivotRow {σ : pw_Sto} (hL : Lay σ) {k n : Nat} (hk : k < 16) (hn : n ≤ 16) (hkn : k ≤ n) (hr : ∀ r, r < 16 → pw_R (σ.2.1 (65 + r) k)) : mf_D_pivotRow 63 k n σ = some (if fs (fun r => σ.2.1 (65 + r) k) n k < n then (fs (fun r => σ.2.1 (65 + r) k) n k : Int) else -1, σ) := by
  have hN := hL.1
  have := sh_63
  have key : ∀ (d m r : Nat), r + d = n → d < m → ml_D_pivotRow_2 m 63 k n r σ = some (if fsF (fun r => σ.2.1 (65 + r) k) d r < n then (fsF (fun r => σ.2.1 (65 + r) k) d r : Int) else -1, σ) := by
    intro d
    induction d with
    | zero =>
      intro m r h1 h2
      obtain ⟨m, rfl⟩ : ∃ k, m = k + 1 := ⟨m - 1, by omega⟩
      rw [us_D_pivotRow_2]
      unfold mb_D_pivotRow_2
      rw [pw_ck_ok (by omega) (by omega), if_pos (by omega)]
      show _ = some (if r < n then (r : Int) else -1, σ)
      rw [if_neg (by omega)]
    | succ d ih =>
      intro m r h1 h2
      obtain ⟨m, rfl⟩ : ∃ k, m = k + 1 := ⟨m - 1, by omega⟩
      have hrr := hr r (by omega)
      have sr := sh_drow (r := r) (by omega)
      rw [us_D_pivotRow_2]
      unfold mb_D_pivotRow_2
      rw [pw_ck_ok (by omega) (by omega), if_neg (by omega), pw_ck_ok (by omega) (by omega), if_neg (by omega), ex_gr (by omega) (by omega), lr_63_0 hL, Option.bind_some, e_drow hL (by omega) (by omega), Option.bind_some, Int.toNat_natCast, ex_ai (by omega) (by omega) (by omega) (by omega), Option.bind_some, Int.toNat_natCast, pw_ck_ok hrr (by omega)]
      have en : fsF (fun r => σ.2.1 (65 + r) k) (d + 1) r = if σ.2.1 (65 + r) k = 0 then fsF (fun r => σ.2.1 (65 + r) k) d (r + 1) else r := rfl
      by_cases c : σ.2.1 (65 + r) k = 0
      · rw [if_pos c] at en ⊢
        rw [en, show (r : Int) + 1 = ((r + 1 : Nat) : Int) by omega, ih m (r + 1) (by omega) (by omega)]
      · rw [if_neg c] at en ⊢
        rw [en, if_pos (by omega)]
  unfold mf_D_pivotRow
  rw [ex_gd (by omega) (by omega)]
  exact key (n - k) 1000 k (by omega) (by omega)
theorem e_M_rowWith {σ : pw_Sto} (hL : Lay σ) {k n c : Nat} (hn : n ≤ 18) (hkn : k ≤ n) (hc : c < 18) (sh : 18 * n ≤ (pw_sh 99).2) (hr : ∀ r, r < n → pw_R (σ.2.1 99 (18 * r + c))) : mf_M_rowWith 91 k n c σ = some (if fs (fun r => σ.2.1 99 (18 * r + c)) n k < n then (fs (fun r => σ.2.1 99 (18 * r + c)) n k : Int) else -1, σ) := by
  have hN := hL.1
  have := sh_91
  have s99 := sh_99
  have key : ∀ (d m r : Nat), r + d = n → d < m → ml_M_rowWith_3 m 91 n c r σ = some (if fsF (fun r => σ.2.1 99 (18 * r + c)) d r < n then (fsF (fun r => σ.2.1 99 (18 * r + c)) d r : Int) else -1, σ) := by
    intro d
    induction d with
    | zero =>
      intro m r h1 h2
      obtain ⟨m, rfl⟩ : ∃ k, m = k + 1 := ⟨m - 1, by omega⟩
      rw [us_M_rowWith_3]
      unfold mb_M_rowWith_3
      rw [pw_ck_ok (by omega) (by omega), if_pos (by omega)]
      show _ = some (if r < n then (r : Int) else -1, σ)
      rw [if_neg (by omega)]
    | succ d ih =>
      intro m r h1 h2
      obtain ⟨m, rfl⟩ : ∃ k, m = k + 1 := ⟨m - 1, by omega⟩
      have hrr := hr r (by omega)
      rw [us_M_rowWith_3]
      unfold mb_M_rowWith_3
      rw [pw_ck_ok (by omega) (by omega), if_neg (by omega), ex_gr (by omega) (by omega), lr_91_10 hL, Option.bind_some, ex_ai (by omega) (by omega) (by omega) (by omega), Option.bind_some, show ((18 : Int) * (r : Int) + (c : Int)).toNat = 18 * r + c by omega, pw_ck_ok hrr (by omega)]
      have en : fsF (fun r => σ.2.1 99 (18 * r + c)) (d + 1) r = if σ.2.1 99 (18 * r + c) = 0 then fsF (fun r => σ.2.1 99 (18 * r + c)) d (r + 1) else r := rfl
      by_cases q : σ.2.1 99 (18 * r + c) = 0
      · rw [if_pos q] at en ⊢
        rw [en, show (r : Int) + 1 = ((r + 1 : Nat) : Int) by omega, ih m (r + 1) (by omega) (by omega)]
      · rw [if_neg q] at en ⊢
        rw [en, if_pos (by omega)]
  unfold mf_M_rowWith
  rw [ex_gd (by omega) (by omega)]
  exact key (n - k) 1000 k (by omega) (by omega)
