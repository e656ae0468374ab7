/-! ## running mirrors -/
theorem ex_gd {β : Type} {c o : Nat} {σ : pw_Sto} {F : Option β} (h1 : o < σ.1) (h2 : (pw_sh o).1 = c) : pw_gd c o σ F = F := if_pos ⟨h1, h2⟩
theorem ex_gi {c o k : Nat} {σ : pw_Sto} (h1 : o < σ.1) (h2 : (pw_sh o).1 = c) : pw_gi c o k σ = some (σ.2.1 o k) := if_pos ⟨h1, h2⟩
theorem ex_gr {c o k : Nat} {σ : pw_Sto} (h1 : o < σ.1) (h2 : (pw_sh o).1 = c) : pw_gr c o k σ = σ.2.2 o k := if_pos ⟨h1, h2⟩
theorem ex_pi {c o k : Nat} {v : Int} {σ : pw_Sto} (h1 : o < σ.1) (h2 : (pw_sh o).1 = c) : pw_pi c o k v σ = some (σ.1, pw_u2 σ.2.1 o k v, σ.2.2) := if_pos ⟨h1, h2⟩
theorem ex_pr {c o k v : Nat} {σ : pw_Sto} (h1 : o < σ.1) (h2 : (pw_sh o).1 = c) : pw_pr c o k v σ = some (σ.1, σ.2.1, pw_u2 σ.2.2 o k (some v)) := if_pos ⟨h1, h2⟩
theorem ex_ai {a : Nat} {i : Int} {σ : pw_Sto} (h1 : a < σ.1) (h2 : (pw_sh a).1 = 11) (h3 : 0 ≤ i) (h4 : i < (pw_sh a).2) : pw_ai a i σ = some (σ.2.1 a i.toNat) := if_pos ⟨⟨h1, h2⟩, h3, h4⟩
theorem ex_ar {c a : Nat} {i : Int} {σ : pw_Sto} (h1 : a < σ.1) (h2 : (pw_sh a).1 = c) (h3 : 0 ≤ i) (h4 : i < (pw_sh a).2) : pw_ar c a i σ = σ.2.2 a i.toNat := if_pos ⟨⟨h1, h2⟩, h3, h4⟩
theorem ex_si {a : Nat} {i v : Int} {σ : pw_Sto} (h1 : a < σ.1) (h2 : (pw_sh a).1 = 11) (h3 : 0 ≤ i) (h4 : i < (pw_sh a).2) : pw_si a i v σ = some (σ.1, pw_u2 σ.2.1 a i.toNat v, σ.2.2) := if_pos ⟨⟨h1, h2⟩, h3, h4⟩
theorem ex_al {a : Nat} {σ : pw_Sto} (h1 : a < σ.1) (h2 : (pw_sh a).1 = 11) : pw_al a σ = some ((pw_sh a).2 : Int) := if_pos ⟨h1, h2⟩
theorem ex_cp {a d : Nat} {i j n : Int} {σ : pw_Sto} (h1 : a < σ.1) (h2 : (pw_sh a).1 = 11) (h3 : d < σ.1) (h4 : (pw_sh d).1 = 11) (h5 : 0 ≤ i) (h6 : 0 ≤ j) (h7 : 0 ≤ n) (h8 : i + n ≤ (pw_sh a).2) (h9 : j + n ≤ (pw_sh d).2) : pw_cp a i d j n σ = some (σ.1, (fun q => if q = d then va_cpy (σ.2.1 a) (σ.2.1 d) i.toNat j.toNat n.toNat else σ.2.1 q), σ.2.2) := if_pos ⟨⟨⟨h1, h2⟩, h3, h4⟩, ⟨h5, h6, h7⟩, h8, h9⟩
theorem ex_rem {x y : Int} (h1 : 0 ≤ x) (h2 : x ≤ 2147483647) (h3 : 0 < y) (h4 : y ≤ 2147483647) : pw_rem x y = some (x % y) := by
  unfold pw_rem
  rw [if_pos ⟨⟨by omega, h2⟩, ⟨by omega, h4⟩, h3⟩, Int.tmod_eq_emod_of_nonneg h1]
theorem ex_bd {β γ : Type} {r : β} {s : pw_Sto} {k : β → pw_Sto → Option γ} : pw_bd (some (r, s)) k = k r s := rfl
theorem ex_lp {β : Type} {bot : β} {f : β → β} {n : Nat} : pw_lp bot f (n + 1) = f (pw_lp bot f n) := rfl
/-- Field.reduce -/
theorem e_K_reduce {x p : Int} {σ : pw_Sto} (h1 : 0 ≤ x) (h2 : x ≤ 2147483647) (h3 : 0 < p) (h4 : p ≤ 2147483647) : mf_K_reduce x p σ = some (x % p, σ) := by
  unfold mf_K_reduce
  simp (disch := omega) only [pw_ck_ok, if_neg, ex_rem, Option.bind_some]
/-- Arrays.fill -/
theorem e_A_fill_loop {a : Nat} {v : Int} {σ : pw_Sto} (ha : a < σ.1) (hk : (pw_sh a).1 = 11) (n k : Nat) (hn : (pw_sh a).2 < n + k) (hk2 : k ≤ (pw_sh a).2) : ml_A_fill_5 n a v k (pw_sh a).2 σ = some ((), (σ.1, (fun q => if q = a then (fun j => if k ≤ j ∧ j < (pw_sh a).2 then v else σ.2.1 a j) else σ.2.1 q), σ.2.2)) := by
  have hle := pw_sh_le a
  induction n generalizing k σ with
  | zero => omega
  | succ n ih =>
    show mb_A_fill_5 (ml_A_fill_5 n) a v k (pw_sh a).2 σ = _
    unfold mb_A_fill_5
    by_cases h : k < (pw_sh a).2
    · simp (disch := omega) only [pw_ck_ok, if_neg, ex_si, Option.bind_some]
      have h9 := ih (σ := (σ.1, pw_u2 σ.2.1 a (k : Int).toNat v, σ.2.2)) ha (k + 1) (by omega) (by omega)
      rw [show ((k : Int) + 1) = ((k + 1 : Nat) : Int) by omega, h9]
      simp only [Option.some.injEq, Prod.mk.injEq, true_and, and_true]
      funext q
      by_cases hq : q = a
      · subst hq
        simp only [if_true]
        funext j
        rw [pw_u2_at]
        by_cases hj : j = k
        · subst hj
          simp [h]
        · simp [hj, show ((k + 1 ≤ j ∧ j < (pw_sh q).2) ↔ (k ≤ j ∧ j < (pw_sh q).2)) by omega]
      · simp only [if_neg hq, pw_u2_ne hq]
    · simp (disch := omega) only [pw_ck_ok, if_pos]
      simp only [Option.some.injEq, Prod.mk.injEq, true_and]
      have : ∀ j, ¬ (k ≤ j ∧ j < (pw_sh a).2) := by intro j; omega
      simp only [this, if_false]
      refine Prod.ext rfl (Prod.ext ?_ rfl)
      funext q
      by_cases hq : q = a
      · subst hq; simp
      · simp [hq]
