section
/-! ## the law's loop: every call answers alike -/
theorem sx_at {Lx : Nat} {xs : Nat → Int} {i k : Nat} (h : i + k < Lx) {j : Int} (hj : j = (i : Int) + (k : Int)) : pw_sx Lx xs j = some (xs (i + k)) := by
  unfold pw_sx
  rw [if_pos (by omega), show j.toNat = i + k by omega]
theorem lk_0 {Lx : Nat} {xs : Nat → Int} (hx : ∀ k, pw_R (xs k)) {i : Nat} (hi : i + 5 ≤ Lx) {rj : pw_Sto → Option (Unit × pw_Sto)} (hJ : ∀ σ, Good σ → ∃ σ', rj σ = some ((), σ')) {σ : pw_Sto} (hG : Good σ) : ∃ σ', lc_0 Lx xs 0 91 i rj σ = some ((), σ') := by
  have e1 : pw_sx Lx xs ((i : Int) + (1 : Int)) = some (xs (i + 1)) := sx_at (by omega) rfl
  obtain ⟨r, σ1, σ2, w1, w2, hG2⟩ := op_setPrime (hx (i + 1)) σ hG
  unfold lc_0
  rw [e1, Option.bind_some, w1, ex_bd, Option.bind_some, w2, ex_bd, if_pos rfl]
  exact hJ σ2 hG2
theorem lk_1 {Lx : Nat} {xs : Nat → Int} (hx : ∀ k, pw_R (xs k)) {i : Nat} (hi : i + 5 ≤ Lx) {rj : pw_Sto → Option (Unit × pw_Sto)} (hJ : ∀ σ, Good σ → ∃ σ', rj σ = some ((), σ')) {σ : pw_Sto} (hG : Good σ) : ∃ σ', lc_1 Lx xs 0 91 i rj σ = some ((), σ') := by
  have e1 : pw_sx Lx xs ((i : Int) + (1 : Int)) = some (xs (i + 1)) := sx_at (by omega) rfl
  have e2 : pw_sx Lx xs ((i : Int) + (2 : Int)) = some (xs (i + 2)) := sx_at (by omega) rfl
  have e3 : pw_sx Lx xs ((i : Int) + (3 : Int)) = some (xs (i + 3)) := sx_at (by omega) rfl
  obtain ⟨r, σ1, σ2, w1, w2, hG2⟩ := op_set (hx (i + 1)) (hx (i + 2)) (hx (i + 3)) σ hG
  unfold lc_1
  rw [e1, Option.bind_some, e2, Option.bind_some, e3, Option.bind_some, w1, ex_bd, Option.bind_some, Option.bind_some, Option.bind_some, w2, ex_bd, if_pos rfl]
  exact hJ σ2 hG2
theorem lk_2 {Lx : Nat} {xs : Nat → Int} (hx : ∀ k, pw_R (xs k)) {i : Nat} (hi : i + 5 ≤ Lx) {rj : pw_Sto → Option (Unit × pw_Sto)} (hJ : ∀ σ, Good σ → ∃ σ', rj σ = some ((), σ')) {σ : pw_Sto} (hG : Good σ) : ∃ σ', lc_2 Lx xs 0 91 i rj σ = some ((), σ') := by
  have e1 : pw_sx Lx xs ((i : Int) + (1 : Int)) = some (xs (i + 1)) := sx_at (by omega) rfl
  have e2 : pw_sx Lx xs ((i : Int) + (2 : Int)) = some (xs (i + 2)) := sx_at (by omega) rfl
  obtain ⟨r, σ1, σ2, w1, w2, hG2⟩ := op_coefficient (hx (i + 1)) (hx (i + 2)) σ hG
  unfold lc_2
  rw [e1, Option.bind_some, e2, Option.bind_some, w1, ex_bd, Option.bind_some, Option.bind_some, w2, ex_bd, if_pos rfl]
  exact hJ σ2 hG2
theorem lk_3 {Lx : Nat} {xs : Nat → Int} (hx : ∀ k, pw_R (xs k)) {i : Nat} (hi : i + 5 ≤ Lx) {rj : pw_Sto → Option (Unit × pw_Sto)} (hJ : ∀ σ, Good σ → ∃ σ', rj σ = some ((), σ')) {σ : pw_Sto} (hG : Good σ) : ∃ σ', lc_3 Lx xs 0 91 i rj σ = some ((), σ') := by
  have e1 : pw_sx Lx xs ((i : Int) + (1 : Int)) = some (xs (i + 1)) := sx_at (by omega) rfl
  have e2 : pw_sx Lx xs ((i : Int) + (2 : Int)) = some (xs (i + 2)) := sx_at (by omega) rfl
  have e3 : pw_sx Lx xs ((i : Int) + (3 : Int)) = some (xs (i + 3)) := sx_at (by omega) rfl
  obtain ⟨r, σ1, σ2, w1, w2, hG2⟩ := op_add (hx (i + 1)) (hx (i + 2)) (hx (i + 3)) σ hG
  unfold lc_3
  rw [e1, Option.bind_some, e2, Option.bind_some, e3, Option.bind_some, w1, ex_bd, Option.bind_some, Option.bind_some, Option.bind_some, w2, ex_bd, if_pos rfl]
  exact hJ σ2 hG2
theorem lk_4 {Lx : Nat} {xs : Nat → Int} (hx : ∀ k, pw_R (xs k)) {i : Nat} (hi : i + 5 ≤ Lx) {rj : pw_Sto → Option (Unit × pw_Sto)} (hJ : ∀ σ, Good σ → ∃ σ', rj σ = some ((), σ')) {σ : pw_Sto} (hG : Good σ) : ∃ σ', lc_4 Lx xs 0 91 i rj σ = some ((), σ') := by
  have e1 : pw_sx Lx xs ((i : Int) + (1 : Int)) = some (xs (i + 1)) := sx_at (by omega) rfl
  have e2 : pw_sx Lx xs ((i : Int) + (2 : Int)) = some (xs (i + 2)) := sx_at (by omega) rfl
  have e3 : pw_sx Lx xs ((i : Int) + (3 : Int)) = some (xs (i + 3)) := sx_at (by omega) rfl
  obtain ⟨r, σ1, σ2, w1, w2, hG2⟩ := op_multiply (hx (i + 1)) (hx (i + 2)) (hx (i + 3)) σ hG
  unfold lc_4
  rw [e1, Option.bind_some, e2, Option.bind_some, e3, Option.bind_some, w1, ex_bd, Option.bind_some, Option.bind_some, Option.bind_some, w2, ex_bd, if_pos rfl]
  exact hJ σ2 hG2
theorem lk_5 {Lx : Nat} {xs : Nat → Int} (hx : ∀ k, pw_R (xs k)) {i : Nat} (hi : i + 5 ≤ Lx) {rj : pw_Sto → Option (Unit × pw_Sto)} (hJ : ∀ σ, Good σ → ∃ σ', rj σ = some ((), σ')) {σ : pw_Sto} (hG : Good σ) : ∃ σ', lc_5 Lx xs 0 91 i rj σ = some ((), σ') := by
  have e1 : pw_sx Lx xs ((i : Int) + (1 : Int)) = some (xs (i + 1)) := sx_at (by omega) rfl
  have e2 : pw_sx Lx xs ((i : Int) + (2 : Int)) = some (xs (i + 2)) := sx_at (by omega) rfl
  obtain ⟨r, σ1, σ2, w1, w2, hG2⟩ := op_invert (hx (i + 1)) (hx (i + 2)) σ hG
  unfold lc_5
  rw [e1, Option.bind_some, e2, Option.bind_some, w1, ex_bd, Option.bind_some, Option.bind_some, w2, ex_bd, if_pos rfl]
  exact hJ σ2 hG2
theorem lk_6 {Lx : Nat} {xs : Nat → Int} (hx : ∀ k, pw_R (xs k)) {i : Nat} (hi : i + 5 ≤ Lx) {rj : pw_Sto → Option (Unit × pw_Sto)} (hJ : ∀ σ, Good σ → ∃ σ', rj σ = some ((), σ')) {σ : pw_Sto} (hG : Good σ) : ∃ σ', lc_6 Lx xs 0 91 i rj σ = some ((), σ') := by
  have e1 : pw_sx Lx xs ((i : Int) + (1 : Int)) = some (xs (i + 1)) := sx_at (by omega) rfl
  have e2 : pw_sx Lx xs ((i : Int) + (2 : Int)) = some (xs (i + 2)) := sx_at (by omega) rfl
  have e3 : pw_sx Lx xs ((i : Int) + (3 : Int)) = some (xs (i + 3)) := sx_at (by omega) rfl
  obtain ⟨r, σ1, σ2, w1, w2, hG2⟩ := op_substitute (hx (i + 1)) (hx (i + 2)) (hx (i + 3)) σ hG
  unfold lc_6
  rw [e1, Option.bind_some, e2, Option.bind_some, e3, Option.bind_some, w1, ex_bd, Option.bind_some, Option.bind_some, Option.bind_some, w2, ex_bd, if_pos rfl]
  exact hJ σ2 hG2
theorem lk_7 {Lx : Nat} {xs : Nat → Int} (hx : ∀ k, pw_R (xs k)) {i : Nat} (hi : i + 5 ≤ Lx) {rj : pw_Sto → Option (Unit × pw_Sto)} (hJ : ∀ σ, Good σ → ∃ σ', rj σ = some ((), σ')) {σ : pw_Sto} (hG : Good σ) : ∃ σ', lc_7 Lx xs 0 91 i rj σ = some ((), σ') := by
  have e1 : pw_sx Lx xs ((i : Int) + (1 : Int)) = some (xs (i + 1)) := sx_at (by omega) rfl
  have e2 : pw_sx Lx xs ((i : Int) + (2 : Int)) = some (xs (i + 2)) := sx_at (by omega) rfl
  obtain ⟨r, σ1, σ2, w1, w2, hG2⟩ := op_derivative (hx (i + 1)) (hx (i + 2)) σ hG
  unfold lc_7
  rw [e1, Option.bind_some, e2, Option.bind_some, w1, ex_bd, Option.bind_some, Option.bind_some, w2, ex_bd, if_pos rfl]
  exact hJ σ2 hG2
theorem lk_8 {Lx : Nat} {xs : Nat → Int} (hx : ∀ k, pw_R (xs k)) {i : Nat} (hi : i + 5 ≤ Lx) {rj : pw_Sto → Option (Unit × pw_Sto)} (hJ : ∀ σ, Good σ → ∃ σ', rj σ = some ((), σ')) {σ : pw_Sto} (hG : Good σ) : ∃ σ', lc_8 Lx xs 0 91 i rj σ = some ((), σ') := by
  have e1 : pw_sx Lx xs ((i : Int) + (1 : Int)) = some (xs (i + 1)) := sx_at (by omega) rfl
  obtain ⟨r, σ1, σ2, w1, w2, hG2⟩ := op_append (hx (i + 1)) σ hG
  unfold lc_8
  rw [e1, Option.bind_some, w1, ex_bd, Option.bind_some, w2, ex_bd, if_pos rfl]
  exact hJ σ2 hG2
theorem lk_9 {Lx : Nat} {xs : Nat → Int} (hx : ∀ k, pw_R (xs k)) {i : Nat} (hi : i + 5 ≤ Lx) {rj : pw_Sto → Option (Unit × pw_Sto)} (hJ : ∀ σ, Good σ → ∃ σ', rj σ = some ((), σ')) {σ : pw_Sto} (hG : Good σ) : ∃ σ', lc_9 Lx xs 0 91 i rj σ = some ((), σ') := by
  obtain ⟨r, σ1, σ2, w1, w2, hG2⟩ := op_clearText  σ hG
  unfold lc_9
  rw [w1, ex_bd, w2, ex_bd, if_pos rfl]
  exact hJ σ2 hG2
theorem lk_10 {Lx : Nat} {xs : Nat → Int} (hx : ∀ k, pw_R (xs k)) {i : Nat} (hi : i + 5 ≤ Lx) {rj : pw_Sto → Option (Unit × pw_Sto)} (hJ : ∀ σ, Good σ → ∃ σ', rj σ = some ((), σ')) {σ : pw_Sto} (hG : Good σ) : ∃ σ', lc_10 Lx xs 0 91 i rj σ = some ((), σ') := by
  have e1 : pw_sx Lx xs ((i : Int) + (1 : Int)) = some (xs (i + 1)) := sx_at (by omega) rfl
  obtain ⟨r, σ1, σ2, w1, w2, hG2⟩ := op_parse (hx (i + 1)) σ hG
  unfold lc_10
  rw [e1, Option.bind_some, w1, ex_bd, Option.bind_some, w2, ex_bd, if_pos rfl]
  exact hJ σ2 hG2
theorem lk_11 {Lx : Nat} {xs : Nat → Int} (hx : ∀ k, pw_R (xs k)) {i : Nat} (hi : i + 5 ≤ Lx) {rj : pw_Sto → Option (Unit × pw_Sto)} (hJ : ∀ σ, Good σ → ∃ σ', rj σ = some ((), σ')) {σ : pw_Sto} (hG : Good σ) : ∃ σ', lc_11 Lx xs 0 91 i rj σ = some ((), σ') := by
  have e1 : pw_sx Lx xs ((i : Int) + (1 : Int)) = some (xs (i + 1)) := sx_at (by omega) rfl
  have e2 : pw_sx Lx xs ((i : Int) + (2 : Int)) = some (xs (i + 2)) := sx_at (by omega) rfl
  have e3 : pw_sx Lx xs ((i : Int) + (3 : Int)) = some (xs (i + 3)) := sx_at (by omega) rfl
  obtain ⟨r, σ1, σ2, w1, w2, hG2⟩ := op_numeratorDegree (hx (i + 1)) (hx (i + 2)) (hx (i + 3)) σ hG
  unfold lc_11
  rw [e1, Option.bind_some, e2, Option.bind_some, e3, Option.bind_some, w1, ex_bd, Option.bind_some, Option.bind_some, Option.bind_some, w2, ex_bd, if_pos rfl]
  exact hJ σ2 hG2
theorem lk_12 {Lx : Nat} {xs : Nat → Int} (hx : ∀ k, pw_R (xs k)) {i : Nat} (hi : i + 5 ≤ Lx) {rj : pw_Sto → Option (Unit × pw_Sto)} (hJ : ∀ σ, Good σ → ∃ σ', rj σ = some ((), σ')) {σ : pw_Sto} (hG : Good σ) : ∃ σ', lc_12 Lx xs 0 91 i rj σ = some ((), σ') := by
  have e1 : pw_sx Lx xs ((i : Int) + (1 : Int)) = some (xs (i + 1)) := sx_at (by omega) rfl
  have e2 : pw_sx Lx xs ((i : Int) + (2 : Int)) = some (xs (i + 2)) := sx_at (by omega) rfl
  have e3 : pw_sx Lx xs ((i : Int) + (3 : Int)) = some (xs (i + 3)) := sx_at (by omega) rfl
  obtain ⟨r, σ1, σ2, w1, w2, hG2⟩ := op_denominatorDegree (hx (i + 1)) (hx (i + 2)) (hx (i + 3)) σ hG
  unfold lc_12
  rw [e1, Option.bind_some, e2, Option.bind_some, e3, Option.bind_some, w1, ex_bd, Option.bind_some, Option.bind_some, Option.bind_some, w2, ex_bd, if_pos rfl]
  exact hJ σ2 hG2
theorem lk_13 {Lx : Nat} {xs : Nat → Int} (hx : ∀ k, pw_R (xs k)) {i : Nat} (hi : i + 5 ≤ Lx) {rj : pw_Sto → Option (Unit × pw_Sto)} (hJ : ∀ σ, Good σ → ∃ σ', rj σ = some ((), σ')) {σ : pw_Sto} (hG : Good σ) : ∃ σ', lc_13 Lx xs 0 91 i rj σ = some ((), σ') := by
  have e1 : pw_sx Lx xs ((i : Int) + (1 : Int)) = some (xs (i + 1)) := sx_at (by omega) rfl
  have e2 : pw_sx Lx xs ((i : Int) + (2 : Int)) = some (xs (i + 2)) := sx_at (by omega) rfl
  have e3 : pw_sx Lx xs ((i : Int) + (3 : Int)) = some (xs (i + 3)) := sx_at (by omega) rfl
  have e4 : pw_sx Lx xs ((i : Int) + (4 : Int)) = some (xs (i + 4)) := sx_at (by omega) rfl
  obtain ⟨r, σ1, σ2, w1, w2, hG2⟩ := op_numerator (hx (i + 1)) (hx (i + 2)) (hx (i + 3)) (hx (i + 4)) σ hG
  unfold lc_13
  rw [e1, Option.bind_some, e2, Option.bind_some, e3, Option.bind_some, e4, Option.bind_some, w1, ex_bd, Option.bind_some, Option.bind_some, Option.bind_some, Option.bind_some, w2, ex_bd, if_pos rfl]
  exact hJ σ2 hG2
theorem lk_14 {Lx : Nat} {xs : Nat → Int} (hx : ∀ k, pw_R (xs k)) {i : Nat} (hi : i + 5 ≤ Lx) {rj : pw_Sto → Option (Unit × pw_Sto)} (hJ : ∀ σ, Good σ → ∃ σ', rj σ = some ((), σ')) {σ : pw_Sto} (hG : Good σ) : ∃ σ', lc_14 Lx xs 0 91 i rj σ = some ((), σ') := by
  have e1 : pw_sx Lx xs ((i : Int) + (1 : Int)) = some (xs (i + 1)) := sx_at (by omega) rfl
  have e2 : pw_sx Lx xs ((i : Int) + (2 : Int)) = some (xs (i + 2)) := sx_at (by omega) rfl
  have e3 : pw_sx Lx xs ((i : Int) + (3 : Int)) = some (xs (i + 3)) := sx_at (by omega) rfl
  have e4 : pw_sx Lx xs ((i : Int) + (4 : Int)) = some (xs (i + 4)) := sx_at (by omega) rfl
  obtain ⟨r, σ1, σ2, w1, w2, hG2⟩ := op_denominator (hx (i + 1)) (hx (i + 2)) (hx (i + 3)) (hx (i + 4)) σ hG
  unfold lc_14
  rw [e1, Option.bind_some, e2, Option.bind_some, e3, Option.bind_some, e4, Option.bind_some, w1, ex_bd, Option.bind_some, Option.bind_some, Option.bind_some, Option.bind_some, w2, ex_bd, if_pos rfl]
  exact hJ σ2 hG2
theorem lk_15 {Lx : Nat} {xs : Nat → Int} (hx : ∀ k, pw_R (xs k)) {i : Nat} (hi : i + 5 ≤ Lx) {rj : pw_Sto → Option (Unit × pw_Sto)} (hJ : ∀ σ, Good σ → ∃ σ', rj σ = some ((), σ')) {σ : pw_Sto} (hG : Good σ) : ∃ σ', lc_15 Lx xs 0 91 i rj σ = some ((), σ') := by
  have e1 : pw_sx Lx xs ((i : Int) + (1 : Int)) = some (xs (i + 1)) := sx_at (by omega) rfl
  have e2 : pw_sx Lx xs ((i : Int) + (2 : Int)) = some (xs (i + 2)) := sx_at (by omega) rfl
  have e3 : pw_sx Lx xs ((i : Int) + (3 : Int)) = some (xs (i + 3)) := sx_at (by omega) rfl
  obtain ⟨r, σ1, σ2, w1, w2, hG2⟩ := op_order (hx (i + 1)) (hx (i + 2)) (hx (i + 3)) σ hG
  unfold lc_15
  rw [e1, Option.bind_some, e2, Option.bind_some, e3, Option.bind_some, w1, ex_bd, Option.bind_some, Option.bind_some, Option.bind_some, w2, ex_bd, if_pos rfl]
  exact hJ σ2 hG2
theorem lk_16 {Lx : Nat} {xs : Nat → Int} (hx : ∀ k, pw_R (xs k)) {i : Nat} (hi : i + 5 ≤ Lx) {rj : pw_Sto → Option (Unit × pw_Sto)} (hJ : ∀ σ, Good σ → ∃ σ', rj σ = some ((), σ')) {σ : pw_Sto} (hG : Good σ) : ∃ σ', lc_16 Lx xs 0 91 i rj σ = some ((), σ') := by
  have e1 : pw_sx Lx xs ((i : Int) + (1 : Int)) = some (xs (i + 1)) := sx_at (by omega) rfl
  have e2 : pw_sx Lx xs ((i : Int) + (2 : Int)) = some (xs (i + 2)) := sx_at (by omega) rfl
  have e3 : pw_sx Lx xs ((i : Int) + (3 : Int)) = some (xs (i + 3)) := sx_at (by omega) rfl
  obtain ⟨r, σ1, σ2, w1, w2, hG2⟩ := op_blockSize (hx (i + 1)) (hx (i + 2)) (hx (i + 3)) σ hG
  unfold lc_16
  rw [e1, Option.bind_some, e2, Option.bind_some, e3, Option.bind_some, w1, ex_bd, Option.bind_some, Option.bind_some, Option.bind_some, w2, ex_bd, if_pos rfl]
  exact hJ σ2 hG2
theorem lk_17 {Lx : Nat} {xs : Nat → Int} (hx : ∀ k, pw_R (xs k)) {i : Nat} (hi : i + 5 ≤ Lx) {rj : pw_Sto → Option (Unit × pw_Sto)} (hJ : ∀ σ, Good σ → ∃ σ', rj σ = some ((), σ')) {σ : pw_Sto} (hG : Good σ) : ∃ σ', lc_17 Lx xs 0 91 i rj σ = some ((), σ') := by
  have e1 : pw_sx Lx xs ((i : Int) + (1 : Int)) = some (xs (i + 1)) := sx_at (by omega) rfl
  have e2 : pw_sx Lx xs ((i : Int) + (2 : Int)) = some (xs (i + 2)) := sx_at (by omega) rfl
  have e3 : pw_sx Lx xs ((i : Int) + (3 : Int)) = some (xs (i + 3)) := sx_at (by omega) rfl
  have e4 : pw_sx Lx xs ((i : Int) + (4 : Int)) = some (xs (i + 4)) := sx_at (by omega) rfl
  obtain ⟨r, σ1, σ2, w1, w2, hG2⟩ := op_evaluate (hx (i + 1)) (hx (i + 2)) (hx (i + 3)) (hx (i + 4)) σ hG
  unfold lc_17
  rw [e1, Option.bind_some, e2, Option.bind_some, e3, Option.bind_some, e4, Option.bind_some, w1, ex_bd, Option.bind_some, Option.bind_some, Option.bind_some, Option.bind_some, w2, ex_bd, if_pos rfl]
  exact hJ σ2 hG2
theorem lk_18 {Lx : Nat} {xs : Nat → Int} (hx : ∀ k, pw_R (xs k)) {i : Nat} (hi : i + 5 ≤ Lx) {rj : pw_Sto → Option (Unit × pw_Sto)} (hJ : ∀ σ, Good σ → ∃ σ', rj σ = some ((), σ')) {σ : pw_Sto} (hG : Good σ) : ∃ σ', lc_18 Lx xs 0 91 i rj σ = some ((), σ') := by
  have e1 : pw_sx Lx xs ((i : Int) + (1 : Int)) = some (xs (i + 1)) := sx_at (by omega) rfl
  have e2 : pw_sx Lx xs ((i : Int) + (2 : Int)) = some (xs (i + 2)) := sx_at (by omega) rfl
  obtain ⟨r, σ1, σ2, w1, w2, hG2⟩ := op_normalCount (hx (i + 1)) (hx (i + 2)) σ hG
  unfold lc_18
  rw [e1, Option.bind_some, e2, Option.bind_some, w1, ex_bd, Option.bind_some, Option.bind_some, w2, ex_bd, if_pos rfl]
  exact hJ σ2 hG2
theorem lk_19 {Lx : Nat} {xs : Nat → Int} (hx : ∀ k, pw_R (xs k)) {i : Nat} (hi : i + 5 ≤ Lx) {rj : pw_Sto → Option (Unit × pw_Sto)} (hJ : ∀ σ, Good σ → ∃ σ', rj σ = some ((), σ')) {σ : pw_Sto} (hG : Good σ) : ∃ σ', lc_19 Lx xs 0 91 i rj σ = some ((), σ') := by
  have e1 : pw_sx Lx xs ((i : Int) + (1 : Int)) = some (xs (i + 1)) := sx_at (by omega) rfl
  have e2 : pw_sx Lx xs ((i : Int) + (2 : Int)) = some (xs (i + 2)) := sx_at (by omega) rfl
  have e3 : pw_sx Lx xs ((i : Int) + (3 : Int)) = some (xs (i + 3)) := sx_at (by omega) rfl
  obtain ⟨r, σ1, σ2, w1, w2, hG2⟩ := op_determinant (hx (i + 1)) (hx (i + 2)) (hx (i + 3)) σ hG
  unfold lc_19
  rw [e1, Option.bind_some, e2, Option.bind_some, e3, Option.bind_some, w1, ex_bd, Option.bind_some, Option.bind_some, Option.bind_some, w2, ex_bd, if_pos rfl]
  exact hJ σ2 hG2
theorem lk_20 {Lx : Nat} {xs : Nat → Int} (hx : ∀ k, pw_R (xs k)) {i : Nat} (hi : i + 5 ≤ Lx) {rj : pw_Sto → Option (Unit × pw_Sto)} (hJ : ∀ σ, Good σ → ∃ σ', rj σ = some ((), σ')) {σ : pw_Sto} (hG : Good σ) : ∃ σ', lc_20 Lx xs 0 91 i rj σ = some ((), σ') := by
  have e1 : pw_sx Lx xs ((i : Int) + (1 : Int)) = some (xs (i + 1)) := sx_at (by omega) rfl
  have e2 : pw_sx Lx xs ((i : Int) + (2 : Int)) = some (xs (i + 2)) := sx_at (by omega) rfl
  have e3 : pw_sx Lx xs ((i : Int) + (3 : Int)) = some (xs (i + 3)) := sx_at (by omega) rfl
  have e4 : pw_sx Lx xs ((i : Int) + (4 : Int)) = some (xs (i + 4)) := sx_at (by omega) rfl
  obtain ⟨r, σ1, σ2, w1, w2, hG2⟩ := op_quotientDifference (hx (i + 1)) (hx (i + 2)) (hx (i + 3)) (hx (i + 4)) σ hG
  unfold lc_20
  rw [e1, Option.bind_some, e2, Option.bind_some, e3, Option.bind_some, e4, Option.bind_some, w1, ex_bd, Option.bind_some, Option.bind_some, Option.bind_some, Option.bind_some, w2, ex_bd, if_pos rfl]
  exact hJ σ2 hG2
theorem lk_21 {Lx : Nat} {xs : Nat → Int} (hx : ∀ k, pw_R (xs k)) {i : Nat} (hi : i + 5 ≤ Lx) {rj : pw_Sto → Option (Unit × pw_Sto)} (hJ : ∀ σ, Good σ → ∃ σ', rj σ = some ((), σ')) {σ : pw_Sto} (hG : Good σ) : ∃ σ', lc_21 Lx xs 0 91 i rj σ = some ((), σ') := by
  have e1 : pw_sx Lx xs ((i : Int) + (1 : Int)) = some (xs (i + 1)) := sx_at (by omega) rfl
  have e2 : pw_sx Lx xs ((i : Int) + (2 : Int)) = some (xs (i + 2)) := sx_at (by omega) rfl
  obtain ⟨r, σ1, σ2, w1, w2, hG2⟩ := op_quotientCount (hx (i + 1)) (hx (i + 2)) σ hG
  unfold lc_21
  rw [e1, Option.bind_some, e2, Option.bind_some, w1, ex_bd, Option.bind_some, Option.bind_some, w2, ex_bd, if_pos rfl]
  exact hJ σ2 hG2
theorem lk_22 {Lx : Nat} {xs : Nat → Int} (hx : ∀ k, pw_R (xs k)) {i : Nat} (hi : i + 5 ≤ Lx) {rj : pw_Sto → Option (Unit × pw_Sto)} (hJ : ∀ σ, Good σ → ∃ σ', rj σ = some ((), σ')) {σ : pw_Sto} (hG : Good σ) : ∃ σ', lc_22 Lx xs 0 91 i rj σ = some ((), σ') := by
  have e1 : pw_sx Lx xs ((i : Int) + (1 : Int)) = some (xs (i + 1)) := sx_at (by omega) rfl
  have e2 : pw_sx Lx xs ((i : Int) + (2 : Int)) = some (xs (i + 2)) := sx_at (by omega) rfl
  have e3 : pw_sx Lx xs ((i : Int) + (3 : Int)) = some (xs (i + 3)) := sx_at (by omega) rfl
  have e4 : pw_sx Lx xs ((i : Int) + (4 : Int)) = some (xs (i + 4)) := sx_at (by omega) rfl
  obtain ⟨r, σ1, σ2, w1, w2, hG2⟩ := op_quotient (hx (i + 1)) (hx (i + 2)) (hx (i + 3)) (hx (i + 4)) σ hG
  unfold lc_22
  rw [e1, Option.bind_some, e2, Option.bind_some, e3, Option.bind_some, e4, Option.bind_some, w1, ex_bd, Option.bind_some, Option.bind_some, Option.bind_some, Option.bind_some, w2, ex_bd, if_pos rfl]
  exact hJ σ2 hG2
theorem lk_23 {Lx : Nat} {xs : Nat → Int} (hx : ∀ k, pw_R (xs k)) {i : Nat} (hi : i + 5 ≤ Lx) {rj : pw_Sto → Option (Unit × pw_Sto)} (hJ : ∀ σ, Good σ → ∃ σ', rj σ = some ((), σ')) {σ : pw_Sto} (hG : Good σ) : ∃ σ', lc_23 Lx xs 0 91 i rj σ = some ((), σ') := by
  have e1 : pw_sx Lx xs ((i : Int) + (1 : Int)) = some (xs (i + 1)) := sx_at (by omega) rfl
  have e2 : pw_sx Lx xs ((i : Int) + (2 : Int)) = some (xs (i + 2)) := sx_at (by omega) rfl
  obtain ⟨r, σ1, σ2, w1, w2, hG2⟩ := op_complexity (hx (i + 1)) (hx (i + 2)) σ hG
  unfold lc_23
  rw [e1, Option.bind_some, e2, Option.bind_some, w1, ex_bd, Option.bind_some, Option.bind_some, w2, ex_bd, if_pos rfl]
  exact hJ σ2 hG2
theorem lk_24 {Lx : Nat} {xs : Nat → Int} (hx : ∀ k, pw_R (xs k)) {i : Nat} (hi : i + 5 ≤ Lx) {rj : pw_Sto → Option (Unit × pw_Sto)} (hJ : ∀ σ, Good σ → ∃ σ', rj σ = some ((), σ')) {σ : pw_Sto} (hG : Good σ) : ∃ σ', lc_24 Lx xs 0 91 i rj σ = some ((), σ') := by
  have e1 : pw_sx Lx xs ((i : Int) + (1 : Int)) = some (xs (i + 1)) := sx_at (by omega) rfl
  have e2 : pw_sx Lx xs ((i : Int) + (2 : Int)) = some (xs (i + 2)) := sx_at (by omega) rfl
  have e3 : pw_sx Lx xs ((i : Int) + (3 : Int)) = some (xs (i + 3)) := sx_at (by omega) rfl
  obtain ⟨r, σ1, σ2, w1, w2, hG2⟩ := op_recurrence (hx (i + 1)) (hx (i + 2)) (hx (i + 3)) σ hG
  unfold lc_24
  rw [e1, Option.bind_some, e2, Option.bind_some, e3, Option.bind_some, w1, ex_bd, Option.bind_some, Option.bind_some, Option.bind_some, w2, ex_bd, if_pos rfl]
  exact hJ σ2 hG2
theorem lk_25 {Lx : Nat} {xs : Nat → Int} (hx : ∀ k, pw_R (xs k)) {i : Nat} (hi : i + 5 ≤ Lx) {rj : pw_Sto → Option (Unit × pw_Sto)} (hJ : ∀ σ, Good σ → ∃ σ', rj σ = some ((), σ')) {σ : pw_Sto} (hG : Good σ) : ∃ σ', lc_25 Lx xs 0 91 i rj σ = some ((), σ') := by
  have e1 : pw_sx Lx xs ((i : Int) + (1 : Int)) = some (xs (i + 1)) := sx_at (by omega) rfl
  have e2 : pw_sx Lx xs ((i : Int) + (2 : Int)) = some (xs (i + 2)) := sx_at (by omega) rfl
  obtain ⟨r, σ1, σ2, w1, w2, hG2⟩ := op_addPoint (hx (i + 1)) (hx (i + 2)) σ hG
  unfold lc_25
  rw [e1, Option.bind_some, e2, Option.bind_some, w1, ex_bd, Option.bind_some, Option.bind_some, w2, ex_bd, if_pos rfl]
  exact hJ σ2 hG2
theorem lk_26 {Lx : Nat} {xs : Nat → Int} (hx : ∀ k, pw_R (xs k)) {i : Nat} (hi : i + 5 ≤ Lx) {rj : pw_Sto → Option (Unit × pw_Sto)} (hJ : ∀ σ, Good σ → ∃ σ', rj σ = some ((), σ')) {σ : pw_Sto} (hG : Good σ) : ∃ σ', lc_26 Lx xs 0 91 i rj σ = some ((), σ') := by
  obtain ⟨r, σ1, σ2, w1, w2, hG2⟩ := op_clearPoints  σ hG
  unfold lc_26
  rw [w1, ex_bd, w2, ex_bd, if_pos rfl]
  exact hJ σ2 hG2
theorem lk_27 {Lx : Nat} {xs : Nat → Int} (hx : ∀ k, pw_R (xs k)) {i : Nat} (hi : i + 5 ≤ Lx) {rj : pw_Sto → Option (Unit × pw_Sto)} (hJ : ∀ σ, Good σ → ∃ σ', rj σ = some ((), σ')) {σ : pw_Sto} (hG : Good σ) : ∃ σ', lc_27 Lx xs 0 91 i rj σ = some ((), σ') := by
  have e1 : pw_sx Lx xs ((i : Int) + (1 : Int)) = some (xs (i + 1)) := sx_at (by omega) rfl
  have e2 : pw_sx Lx xs ((i : Int) + (2 : Int)) = some (xs (i + 2)) := sx_at (by omega) rfl
  have e3 : pw_sx Lx xs ((i : Int) + (3 : Int)) = some (xs (i + 3)) := sx_at (by omega) rfl
  obtain ⟨r, σ1, σ2, w1, w2, hG2⟩ := op_interpolant (hx (i + 1)) (hx (i + 2)) (hx (i + 3)) σ hG
  unfold lc_27
  rw [e1, Option.bind_some, e2, Option.bind_some, e3, Option.bind_some, w1, ex_bd, Option.bind_some, Option.bind_some, Option.bind_some, w2, ex_bd, if_pos rfl]
  exact hJ σ2 hG2
theorem lk_28 {Lx : Nat} {xs : Nat → Int} (hx : ∀ k, pw_R (xs k)) {i : Nat} (hi : i + 5 ≤ Lx) {rj : pw_Sto → Option (Unit × pw_Sto)} (hJ : ∀ σ, Good σ → ∃ σ', rj σ = some ((), σ')) {σ : pw_Sto} (hG : Good σ) : ∃ σ', lc_28 Lx xs 0 91 i rj σ = some ((), σ') := by
  have e1 : pw_sx Lx xs ((i : Int) + (1 : Int)) = some (xs (i + 1)) := sx_at (by omega) rfl
  obtain ⟨r, σ1, σ2, w1, w2, hG2⟩ := op_unattainable (hx (i + 1)) σ hG
  unfold lc_28
  rw [e1, Option.bind_some, w1, ex_bd, Option.bind_some, w2, ex_bd, if_pos rfl]
  exact hJ σ2 hG2
theorem lk_29 {Lx : Nat} {xs : Nat → Int} (hx : ∀ k, pw_R (xs k)) {i : Nat} (hi : i + 5 ≤ Lx) {rj : pw_Sto → Option (Unit × pw_Sto)} (hJ : ∀ σ, Good σ → ∃ σ', rj σ = some ((), σ')) {σ : pw_Sto} (hG : Good σ) : ∃ σ', lc_29 Lx xs 0 91 i rj σ = some ((), σ') := by
  obtain ⟨r, σ1, σ2, w1, w2, hG2⟩ := op_undo  σ hG
  unfold lc_29
  rw [w1, ex_bd, w2, ex_bd, if_pos rfl]
  exact hJ σ2 hG2
theorem lk_30 {Lx : Nat} {xs : Nat → Int} (hx : ∀ k, pw_R (xs k)) {i : Nat} (hi : i + 5 ≤ Lx) {rj : pw_Sto → Option (Unit × pw_Sto)} (hJ : ∀ σ, Good σ → ∃ σ', rj σ = some ((), σ')) {σ : pw_Sto} (hG : Good σ) : ∃ σ', lc_30 Lx xs 0 91 i rj σ = some ((), σ') := by
  have e1 : pw_sx Lx xs ((i : Int) + (1 : Int)) = some (xs (i + 1)) := sx_at (by omega) rfl
  obtain ⟨r, σ1, σ2, w1, w2, hG2⟩ := op_errorCount (hx (i + 1)) σ hG
  unfold lc_30
  rw [e1, Option.bind_some, w1, ex_bd, Option.bind_some, w2, ex_bd, if_pos rfl]
  exact hJ σ2 hG2
theorem lk_31 {Lx : Nat} {xs : Nat → Int} (hx : ∀ k, pw_R (xs k)) {i : Nat} (hi : i + 5 ≤ Lx) {rj : pw_Sto → Option (Unit × pw_Sto)} (hJ : ∀ σ, Good σ → ∃ σ', rj σ = some ((), σ')) {σ : pw_Sto} (hG : Good σ) : ∃ σ', lc_31 Lx xs 0 91 i rj σ = some ((), σ') := by
  obtain ⟨r, σ1, σ2, w1, w2, hG2⟩ := op_digest  σ hG
  unfold lc_31
  rw [w1, ex_bd, w2, ex_bd, if_pos rfl]
  exact hJ σ2 hG2
theorem lk_case {Lx : Nat} {xs : Nat → Int} (hx : ∀ k, pw_R (xs k)) {i : Nat} (hi : i + 5 ≤ Lx) {rj : pw_Sto → Option (Unit × pw_Sto)} (hJ : ∀ σ, Good σ → ∃ σ', rj σ = some ((), σ')) {σ : pw_Sto} (hG : Good σ) (c : Nat) (hc : c < 32) : ∃ σ', lg_case Lx xs 0 91 i rj σ c = some ((), σ') := by
  match c, hc with
  | 0, _ => exact lk_0 hx hi hJ hG
  | 1, _ => exact lk_1 hx hi hJ hG
  | 2, _ => exact lk_2 hx hi hJ hG
  | 3, _ => exact lk_3 hx hi hJ hG
  | 4, _ => exact lk_4 hx hi hJ hG
  | 5, _ => exact lk_5 hx hi hJ hG
  | 6, _ => exact lk_6 hx hi hJ hG
  | 7, _ => exact lk_7 hx hi hJ hG
  | 8, _ => exact lk_8 hx hi hJ hG
  | 9, _ => exact lk_9 hx hi hJ hG
  | 10, _ => exact lk_10 hx hi hJ hG
  | 11, _ => exact lk_11 hx hi hJ hG
  | 12, _ => exact lk_12 hx hi hJ hG
  | 13, _ => exact lk_13 hx hi hJ hG
  | 14, _ => exact lk_14 hx hi hJ hG
  | 15, _ => exact lk_15 hx hi hJ hG
  | 16, _ => exact lk_16 hx hi hJ hG
  | 17, _ => exact lk_17 hx hi hJ hG
  | 18, _ => exact lk_18 hx hi hJ hG
  | 19, _ => exact lk_19 hx hi hJ hG
  | 20, _ => exact lk_20 hx hi hJ hG
  | 21, _ => exact lk_21 hx hi hJ hG
  | 22, _ => exact lk_22 hx hi hJ hG
  | 23, _ => exact lk_23 hx hi hJ hG
  | 24, _ => exact lk_24 hx hi hJ hG
  | 25, _ => exact lk_25 hx hi hJ hG
  | 26, _ => exact lk_26 hx hi hJ hG
  | 27, _ => exact lk_27 hx hi hJ hG
  | 28, _ => exact lk_28 hx hi hJ hG
  | 29, _ => exact lk_29 hx hi hJ hG
  | 30, _ => exact lk_30 hx hi hJ hG
  | 31, _ => exact lk_31 hx hi hJ hG
  | c + 32, h => omega
theorem ll_total {Lx : Nat} {xs : Nat → Int} (hL : Lx ≤ 2560) (hx : ∀ k, pw_R (xs k)) : ∀ (d n i : Nat) (σ : pw_Sto), Lx ≤ i + 4 + 5 * d → i ≤ 2560 + 5 → d < n → Good σ → ∃ σ', ll_law Lx xs n 0 91 (i : Nat) σ = some ((), σ') := by
  intro d
  induction d with
  | zero =>
    intro n i σ h1 h2 h3 hG
    obtain ⟨n, rfl⟩ : ∃ k, n = k + 1 := ⟨n - 1, by omega⟩
    refine ⟨σ, ?_⟩
    show lb_law Lx xs (ll_law Lx xs n) 0 91 i σ = _
    unfold lb_law
    rw [pw_ck_ok (by omega) (by omega), if_pos (by omega)]
  | succ d ih =>
    intro n i σ h1 h2 h3 hG
    obtain ⟨n, rfl⟩ : ∃ k, n = k + 1 := ⟨n - 1, by omega⟩
    show ∃ σ', lb_law Lx xs (ll_law Lx xs n) 0 91 i σ = some ((), σ')
    unfold lb_law
    rw [pw_ck_ok (by omega) (by omega)]
    by_cases c : (Lx : Int) - 5 < (i : Int)
    · rw [if_pos c]
      exact ⟨σ, rfl⟩
    · have e : pw_sx Lx xs (i : Int) = some (xs (i + 0)) := sx_at (k := 0) (by omega) (by omega)
      rw [if_neg c, e, Option.bind_some]
      exact lk_case hx (by omega) (fun σ2 hG2 => ih n (i + 5) σ2 (by omega) (by omega) (by omega) hG2) hG _ (by omega)
/-! ## the start -/
def pw_s0 : pw_Sto := (0, (fun _ _ => 0), (fun _ _ => none))
def pw_ini : Option (Nat × Nat × pw_Sto) := pw_bd (pw_nw 9 pw_s0) (fun v1 s1 => pw_bd (mf_W_init v1 s1) (fun _ s2 => pw_bd (pw_nw 10 s2) (fun v2 s3 => pw_bd (mf_M_init v2 s3) (fun _ s4 => some (v1, v2, s4)))))
theorem lf_ini (Lx : Nat) (xs : Nat → Int) : lf_law Lx xs pw_s0 = pw_ini.bind (fun q => ll_law Lx xs 1000 q.1 q.2.1 0 q.2.2) := by
  unfold lf_law pw_ini pw_bd
  simp only [Option.bind_assoc, Option.bind_some]
def pw_chk (s : pw_Sto) : Bool := decide (s.1 = 109) && (LRt.all (fun q => decide (s.2.2 q.1 q.2.1 = some q.2.2)) && (decide (s.2.2 47 0 = some 48) && (decide (s.2.2 47 1 = some 50) && (decide (s.2.2 47 2 = some 52) && (decide (s.2.2 47 3 = some 54) && (decide (s.2.2 84 1 = some 86) && (decide (s.2.2 84 2 = some 87) && (decide (s.2.1 1 0 = 101) && ((List.range 4).all (fun a => (List.range 16).all (fun k => decide (s.2.1 (1 + 2 + a) k = 0))) && (decide (s.2.1 1 2 = 0) && (decide (s.2.1 43 1 = 0) && ((List.range 3).all (fun k => decide (s.2.1 90 k = 0)) && (decide (s.2.1 9 1 = 0) && (decide (s.2.1 9 2 = 0) && (decide (s.2.1 92 0 = 101) && ((List.range 4).all (fun a => (List.range 16).all (fun k => decide (s.2.1 92 (0 + 1 + 16 * a + k) = 0))) && (decide (s.2.1 92 65 = 0) && (decide (s.2.1 91 5 = 0) && ((List.range 3).all (fun k => decide (s.2.1 94 k = 0)) && decide (s.2.1 91 2 = 0))))))))))))))))))))
def pw_iniOk : Bool := match pw_ini with
  | none => false
  | some q => decide (q.1 = 0) && (decide (q.2.1 = 91) && pw_chk q.2.2)
set_option maxRecDepth 100000 in
theorem ini_ok : pw_iniOk = true := by decide +kernel
theorem pb_101 : isPb 101 = true := by decide +kernel
theorem chk_good {s : pw_Sto} (h : pw_chk s = true) : Good s := by
  unfold pw_chk at h
  simp only [Bool.and_eq_true, decide_eq_true_eq, List.all_eq_true, List.mem_range] at h
  obtain ⟨a1, a2, a3, a4, a5, a6, a7, a8, a9, a10, a11, a12, a13, a14, a15, a16, a17, a18, a19, a20, a21⟩ := h
  have hL : Lay s := ⟨a1, a2⟩
  refine ⟨(101, fun _ _ => 0, 0, fun _ => 0, fun _ => 0), fun _ => 0, 0, fun _ => 0, [], ⟨hL, ⟨Or.inl ⟨a3, a4⟩, Or.inl ⟨a5, a6⟩, Or.inl ⟨a7, a8⟩⟩, ⟨a9, fun x k hx hk => a10 x hx k hk, a11, fun i hi => absurd hi (by show ¬ i < 0; omega)⟩, ⟨a12, fun i hi => absurd hi (by omega)⟩, fun k hk => a13 k hk, 0, by omega, a14, a15, fun j B hj => by simp at hj⟩, ⟨hL, ⟨a16, fun x k hx hk => a17 x hx k hk, a18, fun i hi => absurd hi (by show ¬ i < 0; omega)⟩, ⟨a19, fun i hi => absurd hi (by omega)⟩, fun k hk => a20 k hk, a21, fun j B hj => by simp at hj⟩, ⟨⟨pb_101, fun x k _ _ => by show 0 ≤ (0 : Int) ∧ (0 : Int) < ((101 : Nat) : Int); omega, by show 0 ≤ 10; omega, fun i hi => absurd hi (by show ¬ i < 0; omega), fun i j hi => absurd hi (by show ¬ i < 0; omega)⟩, by omega, fun i hi => absurd hi (by omega), by show 0 ≤ 4; omega, fun B hB => by cases hB⟩⟩
theorem pw_law_total (L : Nat) (xs : Nat → Int) (hL : L ≤ 2560) (hx : ∀ k, pw_R (xs k)) : ∃ σ' : pw_Sto, lf_law L xs (0, (fun _ _ => 0), (fun _ _ => none)) = some ((), σ') := by
  have h := ini_ok
  have e := lf_ini L xs
  unfold pw_iniOk at h
  generalize pw_ini = I at h e
  cases I with
  | none => cases h
  | some q =>
    simp only [Bool.and_eq_true, decide_eq_true_eq] at h
    obtain ⟨h1, h2, h3⟩ := h
    rw [Option.bind_some, h1, h2] at e
    obtain ⟨σ', e2⟩ := ll_total hL hx 512 1000 0 q.2.2 (by omega) (by omega) (by omega) (chk_good h3)
    exact ⟨σ', e.trans e2⟩
end
