/-! ## the abstract state and what the cells say of it -/
abbrev ASt : Type := Nat × (Nat → Nat → Int) × Nat × (Nat → Int) × (Nat → Int)
def VA (A : ASt) : Prop := isPb A.1 = true ∧ (∀ s k, s < 4 → k < 16 → 0 ≤ A.2.1 s k ∧ A.2.1 s k < A.1) ∧ A.2.2.1 ≤ 10 ∧ (∀ i, i < A.2.2.1 → (0 ≤ A.2.2.2.1 i ∧ A.2.2.2.1 i < A.1) ∧ (0 ≤ A.2.2.2.2 i ∧ A.2.2.2.2 i < A.1)) ∧ ∀ i j, i < A.2.2.1 → j < A.2.2.1 → A.2.2.2.1 i = A.2.2.2.1 j → i = j
def StC (σ : pw_Sto) (o : Nat) (A : ASt) : Prop := σ.2.1 o 0 = A.1 ∧ (∀ s k, s < 4 → k < 16 → σ.2.1 (o + 2 + s) k = A.2.1 s k) ∧ σ.2.1 o 2 = A.2.2.1 ∧ ∀ i, i < A.2.2.1 → σ.2.1 (o + 6) i = A.2.2.2.1 i ∧ σ.2.1 (o + 7) i = A.2.2.2.2 i
def StM (σ : pw_Sto) (q b : Nat) (A : ASt) : Prop := σ.2.1 q b = A.1 ∧ (∀ s k, s < 4 → k < 16 → σ.2.1 q (b + 1 + 16 * s + k) = A.2.1 s k) ∧ σ.2.1 q (b + 65) = A.2.2.1 ∧ ∀ i, i < A.2.2.1 → σ.2.1 q (b + 66 + i) = A.2.2.2.1 i ∧ σ.2.1 q (b + 76 + i) = A.2.2.2.2 i
/-- the references that are exchanged -/
def Dyn (σ : pw_Sto) : Prop := ((σ.2.2 47 0 = some 48 ∧ σ.2.2 47 1 = some 50) ∨ (σ.2.2 47 0 = some 50 ∧ σ.2.2 47 1 = some 48)) ∧ ((σ.2.2 47 2 = some 52 ∧ σ.2.2 47 3 = some 54) ∨ (σ.2.2 47 2 = some 54 ∧ σ.2.2 47 3 = some 52)) ∧ ((σ.2.2 84 1 = some 86 ∧ σ.2.2 84 2 = some 87) ∨ (σ.2.2 84 1 = some 87 ∧ σ.2.2 84 2 = some 86))
def CR (σ : pw_Sto) (A : ASt) (T : Nat → Int) (len : Nat) (E : Nat → Int) (Hs : List ASt) : Prop :=
  Lay σ ∧ Dyn σ ∧ StC σ 1 A ∧ (σ.2.1 43 1 = len ∧ ∀ i, i < len → σ.2.1 44 i = T i) ∧ (∀ k, k < 3 → σ.2.1 90 k = E k) ∧ ∃ nx : Nat, nx < 4 ∧ σ.2.1 9 1 = nx ∧ σ.2.1 9 2 = Hs.length ∧ ∀ j B, Hs[j]? = some B → StC σ (11 + 8 * ((nx + 3 - j) % 4)) B
def MR (σ : pw_Sto) (A : ASt) (T : Nat → Int) (len : Nat) (E : Nat → Int) (Hs : List ASt) : Prop :=
  Lay σ ∧ StM σ 92 0 A ∧ (σ.2.1 91 5 = len ∧ ∀ i, i < len → σ.2.1 95 i = T i) ∧ (∀ k, k < 3 → σ.2.1 94 k = E k) ∧ σ.2.1 91 2 = Hs.length ∧ ∀ j B, Hs[j]? = some B → StM σ 93 (86 * (Hs.length - 1 - j)) B
def VR (A : ASt) (T : Nat → Int) (len : Nat) (Hs : List ASt) : Prop := VA A ∧ len ≤ 80 ∧ (∀ i, i < len → 0 ≤ T i ∧ T i ≤ 127) ∧ Hs.length ≤ 4 ∧ ∀ B ∈ Hs, VA B
/-- only cells of the model have changed; only cells of the class -/
def Lo (σ σ' : pw_Sto) : Prop := σ'.1 = σ.1 ∧ σ'.2.2 = σ.2.2 ∧ ∀ i, i < 91 → σ'.2.1 i = σ.2.1 i
def Hi (σ σ' : pw_Sto) : Prop := σ'.1 = σ.1 ∧ ∀ i, 91 ≤ i → σ'.2.1 i = σ.2.1 i
theorem Lo.refl (σ : pw_Sto) : Lo σ σ := ⟨rfl, rfl, fun _ _ => rfl⟩
theorem Hi.refl (σ : pw_Sto) : Hi σ σ := ⟨rfl, fun _ _ => rfl⟩
theorem Lo.trans {a b c : pw_Sto} (h : Lo a b) (k : Lo b c) : Lo a c := ⟨k.1.trans h.1, k.2.1.trans h.2.1, fun i hi => (k.2.2 i hi).trans (h.2.2 i hi)⟩
theorem Hi.trans {a b c : pw_Sto} (h : Hi a b) (k : Hi b c) : Hi a c := ⟨k.1.trans h.1, fun i hi => (k.2 i hi).trans (h.2 i hi)⟩
theorem Lo.st {σ : pw_Sto} {a : Nat} {f : Nat → Int} (h : 91 ≤ a) : Lo σ (pw_st σ a f) := ⟨rfl, rfl, fun i hi => st_ne (by omega)⟩
theorem Hi.st {σ : pw_Sto} {a : Nat} {f : Nat → Int} (h : a < 91) : Hi σ (pw_st σ a f) := ⟨rfl, fun i hi => st_ne (by omega)⟩
theorem Lay.st {σ : pw_Sto} {a : Nat} {f : Nat → Int} (h : Lay σ) : Lay (pw_st σ a f) := h
theorem Lay.lo {σ σ' : pw_Sto} (h : Lay σ) (k : Lo σ σ') : Lay σ' := ⟨k.1.trans h.1, fun q hq => by rw [k.2.1]; exact h.2 q hq⟩
theorem StC.kept {σ σ' : pw_Sto} {o : Nat} {A : ASt} (h : StC σ o A) (k : ∀ i, o ≤ i → i < o + 8 → σ'.2.1 i = σ.2.1 i) : StC σ' o A := by
  obtain ⟨h1, h2, h3, h4⟩ := h
  refine ⟨by rw [k o (by omega) (by omega)]; exact h1, fun s q hs hq => by rw [k _ (by omega) (by omega)]; exact h2 s q hs hq, by rw [k o (by omega) (by omega)]; exact h3, fun i hi => ?_⟩
  rw [k _ (by omega) (by omega), k _ (by omega) (by omega)]
  exact h4 i hi
theorem StM.kept {σ σ' : pw_Sto} {q b : Nat} {A : ASt} (h : StM σ q b A) (k : σ'.2.1 q = σ.2.1 q) : StM σ' q b A := by
  unfold StM
  rw [k]
  exact h
theorem CR.lo {σ σ' : pw_Sto} {A : ASt} {T : Nat → Int} {len : Nat} {E : Nat → Int} {Hs : List ASt} (h : CR σ A T len E Hs) (k : Lo σ σ') : CR σ' A T len E Hs := by
  obtain ⟨h1, h2, h3, h4, h5, nx, h6, h7, h8, h9⟩ := h
  refine ⟨h1.lo k, ?_, h3.kept (fun i _ hi => k.2.2 i (by omega)), ⟨by rw [k.2.2 43 (by omega)]; exact h4.1, fun i hi => by rw [k.2.2 44 (by omega)]; exact h4.2 i hi⟩, fun q hq => by rw [k.2.2 90 (by omega)]; exact h5 q hq, nx, h6, by rw [k.2.2 9 (by omega)]; exact h7, by rw [k.2.2 9 (by omega)]; exact h8, fun j B hj => (h9 j B hj).kept (fun i _ hi => k.2.2 i (by omega))⟩
  unfold Dyn
  rw [k.2.1]
  exact h2
theorem MR.hi {σ σ' : pw_Sto} {A : ASt} {T : Nat → Int} {len : Nat} {E : Nat → Int} {Hs : List ASt} (h : MR σ A T len E Hs) (k : Hi σ σ') (hL : Lay σ') : MR σ' A T len E Hs := by
  obtain ⟨h1, h2, h3, h4, h5, h6⟩ := h
  exact ⟨hL, h2.kept (k.2 92 (by omega)), ⟨by rw [k.2 91 (by omega)]; exact h3.1, fun i hi => by rw [k.2 95 (by omega)]; exact h3.2 i hi⟩, fun q hq => by rw [k.2 94 (by omega)]; exact h4 q hq, by rw [k.2 91 (by omega)]; exact h5, fun j B hj => (h6 j B hj).kept (k.2 93 (by omega))⟩
def bump (E : Nat → Int) (k : Nat) : Nat → Int := fun j => if j = k then E j + 1 else E j
/-! failing -/
theorem e_W_fail {σ : pw_Sto} (hL : Lay σ) (k : Nat) (hk : k < 3) : mf_W_fail 0 (-2 - (k : Int)) σ = some (-2 - (k : Int), pw_st σ 90 (bump (σ.2.1 90) k)) := by
  have hN := hL.1
  have := sh_0
  have := sh_90
  unfold mf_W_fail
  simp (disch := omega) only [ex_gd, pw_ck_ok, if_neg, ex_gr, lr_0_10 hL, ex_ai, xs_si, Option.bind_some]
  refine congrArg some (congrArg (Prod.mk _) (st_congr fun j => ?_))
  unfold bump
  rw [show (-2 - (-2 - (k : Int))).toNat = k by omega]
  by_cases h : j = k
  · rw [if_pos h, if_pos h, h]
  · rw [if_neg h, if_neg h]
theorem e_M_fail {σ : pw_Sto} (hL : Lay σ) (k : Nat) (hk : k < 3) : mf_M_fail 91 (-2 - (k : Int)) σ = some (-2 - (k : Int), pw_st σ 94 (bump (σ.2.1 94) k)) := by
  have hN := hL.1
  have := sh_91
  have := sh_94
  unfold mf_M_fail
  simp (disch := omega) only [ex_gd, ex_gr, lr_91_3 hL, ex_ai, xs_si, Option.bind_some]
  refine congrArg some (congrArg (Prod.mk _) (st_congr fun j => ?_))
  unfold bump
  rw [show (-2 - (-2 - (k : Int))).toNat = k by omega]
  by_cases h : j = k
  · rw [if_pos h, if_pos h, h]
  · rw [if_neg h, if_neg h]
theorem CR.bumped {σ : pw_Sto} {A : ASt} {T : Nat → Int} {len : Nat} {E : Nat → Int} {Hs : List ASt} (h : CR σ A T len E Hs) (k : Nat) : CR (pw_st σ 90 (bump (σ.2.1 90) k)) A T len (bump E k) Hs := by
  obtain ⟨h1, h2, h3, h4, h5, nx, h6, h7, h8, h9⟩ := h
  refine ⟨h1, h2, h3.kept (fun i _ hi => st_ne (by omega)), ⟨by rw [st_ne (by omega)]; exact h4.1, fun i hi => by rw [st_ne (by omega)]; exact h4.2 i hi⟩, fun q hq => ?_, nx, h6, by rw [st_ne (by omega)]; exact h7, by rw [st_ne (by omega)]; exact h8, fun j B hj => (h9 j B hj).kept (fun i _ hi => st_ne (by omega))⟩
  rw [st_eq]
  unfold bump
  rw [h5 q hq]
theorem MR.bumped {σ : pw_Sto} {A : ASt} {T : Nat → Int} {len : Nat} {E : Nat → Int} {Hs : List ASt} (h : MR σ A T len E Hs) (k : Nat) : MR (pw_st σ 94 (bump (σ.2.1 94) k)) A T len (bump E k) Hs := by
  obtain ⟨h1, h2, h3, h4, h5, h6⟩ := h
  refine ⟨h1, h2.kept (st_ne (by omega)), ⟨by rw [st_ne (by omega)]; exact h3.1, fun i hi => by rw [st_ne (by omega)]; exact h3.2 i hi⟩, fun q hq => ?_, by rw [st_ne (by omega)]; exact h5, fun j B hj => (h6 j B hj).kept (st_ne (by omega))⟩
  rw [st_eq]
  unfold bump
  rw [h4 q hq]
