section
/-! ## shortest recurrences -/
def pRc {p : Nat} [NeZero p] (f : PS (Fin p)) (k d : Nat) (C : PS (Fin p)) : Prop := C 0 = 1 ∧ pBd C (d + 1) ∧ ∀ j, d ≤ j → j < k → cv C f j = 0
theorem sh_cvf {p : Nat} [NeZero p] (s : Nat) (b f : PS (Fin p)) : cv (pSh s b) f = pSh s (cv b f) := by
  rw [sh_cv, sh_cv, cv_assoc]
theorem sh_suc {p : Nat} [NeZero p] (s : Nat) (b f : PS (Fin p)) (j : Nat) : cv (pSh (s + 1) b) f (j + 1) = cv (pSh s b) f j := by
  rw [sh_cvf, sh_cvf]
  show (if j + 1 < s + 1 then 0 else cv b f (j + 1 - (s + 1))) = (if j < s then 0 else cv b f (j - s))
  by_cases c : j < s
  · rw [if_pos c, if_pos (by omega)]
  · rw [if_neg c, if_neg (by omega), show j + 1 - (s + 1) = j - s by omega]
/-- Massey's lemma -/
theorem massey {p : Nat} [NeZero p] {f C D : PS (Fin p)} {L d k : Nat} (hC : pBd C (L + 1)) (hCf : ∀ j, L ≤ j → j < k → cv C f j = 0) (hD : pRc f (k + 1) d D) (h : d + L ≤ k) : cv C f k = 0 := by
  obtain ⟨d0, d1, d2⟩ := hD
  have e1 : cv D (cv C f) k = cv C f k := by
    show sm (fun i => D i * cv C f (k - i)) (k + 1) = _
    refine (sm_one (i := 0) (by omega) (fun t h1 h2 => ?_)).trans ?_
    · show D t * cv C f (k - t) = 0
      by_cases c : t ≤ d
      · rw [hCf (k - t) (by omega) (by omega)]; grind
      · rw [d1 t (by omega)]; grind
    · show D 0 * cv C f (k - 0) = _
      rw [d0, Nat.sub_zero]; grind
  have e2 : cv C (cv D f) k = 0 := by
    show sm (fun i => C i * cv D f (k - i)) (k + 1) = 0
    refine sm_zero (fun t ht => ?_)
    by_cases c : t ≤ L
    · rw [d2 (k - t) (by omega) (by omega)]; grind
    · rw [hC t (by omega)]; grind
  rw [← e1, p_lc, e2]
def pBM {p : Nat} [NeZero p] (f : PS (Fin p)) (k L : Nat) (C : PS (Fin p)) (sh : Nat) (O : PS (Fin p)) (g : Fin p) : Prop := (pRc f k L C ∧ L ≤ k) ∧ ((1 ≤ sh ∧ pBd (pSh sh O) (k + 2 - L)) ∧ (∀ j, k + 1 - L ≤ j → j < k → cv (pSh sh O) f j = 0) ∧ (0 < L → cv (pSh sh O) f k = g) ∧ g ≠ 0) ∧ ∀ d D, pRc f k d D → L ≤ d
theorem rc_less {p : Nat} [NeZero p] {f : PS (Fin p)} {k d : Nat} {D : PS (Fin p)} (h : pRc f (k + 1) d D) : pRc f k d D := ⟨h.1, h.2.1, fun j h1 h2 => h.2.2 j h1 (by omega)⟩
theorem bm_sh {p : Nat} [NeZero p] {f : PS (Fin p)} {k L sh : Nat} {O : PS (Fin p)} {g : Fin p} (hL : L ≤ k) (h : (1 ≤ sh ∧ pBd (pSh sh O) (k + 2 - L)) ∧ (∀ j, k + 1 - L ≤ j → j < k → cv (pSh sh O) f j = 0) ∧ (0 < L → cv (pSh sh O) f k = g) ∧ g ≠ 0) : (1 ≤ sh + 1 ∧ pBd (pSh (sh + 1) O) (k + 1 + 2 - L)) ∧ (∀ j, k + 1 + 1 - L ≤ j → j < k + 1 → cv (pSh (sh + 1) O) f j = 0) ∧ (0 < L → cv (pSh (sh + 1) O) f (k + 1) = g) ∧ g ≠ 0 := by
  obtain ⟨⟨h1, h2⟩, h3, h4, h5⟩ := h
  refine ⟨⟨by omega, fun j hj => ?_⟩, fun j j1 j2 => ?_, fun hl => ?_, h5⟩
  · obtain ⟨j, rfl⟩ : ∃ i, j = i + 1 := ⟨j - 1, by omega⟩
    have := h2 j (by omega)
    show (if j + 1 < sh + 1 then 0 else O (j + 1 - (sh + 1))) = 0
    have e : pSh sh O j = if j < sh then 0 else O (j - sh) := rfl
    rw [e] at this
    by_cases c : j < sh
    · rw [if_pos (by omega)]
    · rw [if_neg c] at this
      rw [if_neg (by omega), show j + 1 - (sh + 1) = j - sh by omega]
      exact this
  · obtain ⟨j, rfl⟩ : ∃ i, j = i + 1 := ⟨j - 1, by omega⟩
    rw [sh_suc]
    exact h3 j (by omega) (by omega)
  · rw [sh_suc]
    exact h4 hl
theorem bm_zero {p : Nat} [NeZero p] {f : PS (Fin p)} {k L sh : Nat} {C O : PS (Fin p)} {g : Fin p} (h : pBM f k L C sh O g) (hz : cv C f k = 0) : pBM f (k + 1) L C (sh + 1) O g := by
  obtain ⟨⟨⟨a1, a2, a3⟩, a4⟩, b, c⟩ := h
  refine ⟨⟨⟨a1, a2, fun j j1 j2 => ?_⟩, by omega⟩, bm_sh a4 b, fun d D hD => c d D (rc_less hD)⟩
  by_cases e : j = k
  · rw [e]; exact hz
  · exact a3 j j1 (by omega)
theorem rg_cor {R : Type} [Lean.Grind.CommRing R] {C c E f : R} : (C - c * E) * f = C * f - c * (E * f) := by grind
theorem cor_at {p : Nat} [NeZero p] (C E f : PS (Fin p)) (φ : Fin p) (j : Nat) : cv (pSb C (cv (cc φ) E)) f j = cv C f j - φ * cv E f j := by
  have e : cv (pSb C (cv (cc φ) E)) f = pSb (cv C f) (cv (cc φ) (cv E f)) := @rg_cor (PS (Fin p)) (psRing (Fin p)) C (cc φ) E f
  rw [e]
  show cv C f j - cv (cc φ) (cv E f) j = _
  rw [cv_cc]
theorem bm_cor {p : Nat} [NeZero p] (hp : isPb p = true) {f : PS (Fin p)} {k L sh : Nat} {C O : PS (Fin p)} {g : Fin p} (h : pBM f k L C sh O g) (hz : cv C f k ≠ 0) : (k < 2 * L → pBM f (k + 1) L (pSb C (cv (cc (cv C f k * fi g)) (pSh sh O))) (sh + 1) O g) ∧ (2 * L ≤ k → pBM f (k + 1) (k + 1 - L) (pSb C (cv (cc (cv C f k * fi g)) (pSh sh O))) 1 C (cv C f k)) := by
  obtain ⟨⟨⟨a1, a2, a3⟩, a4⟩, b, c⟩ := h
  obtain ⟨⟨b1, b2⟩, b3, b4, b5⟩ := id b
  have hg := fi_ok hp b5
  have E0 : pSh sh O 0 = 0 := if_pos (by omega)
  have c0 : pSb C (cv (cc (cv C f k * fi g)) (pSh sh O)) 0 = 1 := by
    show C 0 - cv (cc (cv C f k * fi g)) (pSh sh O) 0 = 1
    rw [cv_cc]
    show C 0 - _ * pSh sh O 0 = 1
    rw [a1, E0]; grind
  have bE : pBd (cv (cc (cv C f k * fi g)) (pSh sh O)) (k + 2 - L) := (bd_cv (bd_cc _) b2).mono (by omega)
  constructor
  · intro hk
    refine ⟨⟨⟨c0, bd_sb a2 (bE.mono (by omega)), fun j j1 j2 => ?_⟩, by omega⟩, bm_sh a4 b, fun d D hD => c d D (rc_less hD)⟩
    rw [cor_at]
    by_cases e : j = k
    · rw [e, b4 (by omega)]; grind
    · rw [a3 j j1 (by omega), b3 j (by omega) (by omega)]; grind
  · intro hk
    refine ⟨⟨⟨c0, bd_sb (a2.mono (by omega)) (bE.mono (by omega)), fun j j1 j2 => ?_⟩, by omega⟩, ⟨⟨by omega, fun j hj => ?_⟩, fun j j1 j2 => ?_, fun _ => ?_, hz⟩, fun d D hD => ?_⟩
    · rw [cor_at]
      by_cases e : j = k
      · rw [e, b4 (by omega)]; grind
      · rw [a3 j (by omega) (by omega), b3 j (by omega) (by omega)]; grind
    · show (if j < 1 then 0 else C (j - 1)) = 0
      rw [if_neg (by omega)]
      exact a2 (j - 1) (by omega)
    · obtain ⟨j, rfl⟩ : ∃ i, j = i + 1 := ⟨j - 1, by omega⟩
      rw [show (1 : Nat) = 0 + 1 by omega, sh_suc, sh_0s]
      exact a3 j (by omega) (by omega)
    · rw [show (1 : Nat) = 0 + 1 by omega, sh_suc, sh_0s]
    · refine Classical.byContradiction (fun q => hz ?_)
      exact massey a2 a3 hD (by omega)
theorem bm_start {p : Nat} [NeZero p] (hp : 2 ≤ p) (f : PS (Fin p)) : pBM f 0 0 (cc 1) 1 (cc 1) 1 := by
  refine ⟨⟨⟨cc_z 1, bd_cc 1, fun j h1 h2 => by omega⟩, by omega⟩, ⟨⟨by omega, fun j hj => ?_⟩, fun j h1 h2 => by omega, fun h => by omega, fp_one hp⟩, fun d D _ => by omega⟩
  show (if j < 1 then 0 else cc 1 (j - 1)) = 0
  rw [if_neg (by omega)]
  exact bd_cc 1 (j - 1) (by omega)
/-- the shortest length -/
def pCx {p : Nat} [NeZero p] (f : PS (Fin p)) (N L : Nat) : Prop := (∃ C, pRc f N L C) ∧ ∀ d D, pRc f N d D → L ≤ d
theorem cx_uniq {p : Nat} [NeZero p] {f : PS (Fin p)} {N L L' : Nat} (h : pCx f N L) (h' : pCx f N L') : L = L' := by
  obtain ⟨⟨C, hC⟩, h2⟩ := h
  obtain ⟨⟨C', hC'⟩, h2'⟩ := h'
  have a := h2 L' C' hC'
  have b := h2' L C hC
  omega
/-- at most one recurrence where twice the length is at most the number of terms -/
theorem cx_null {p : Nat} [NeZero p] (hp : isPb p = true) {f : PS (Fin p)} {N L : Nat} (h : pCx f N L) (h2 : 2 * L ≤ N) {D : PS (Fin p)} (d0 : D 0 = 0) (d1 : pBd D (L + 1)) (d2 : ∀ j, L ≤ j → j < N → cv D f j = 0) : D = cc 0 := by
  have hp2 := isPb_le hp
  refine Classical.byContradiction (fun q => ?_)
  obtain ⟨k0, hk0⟩ := p_nz q
  obtain ⟨t, t1, t2⟩ := p_low k0 hk0
  have t3 : t ≠ 0 := fun z => t1 (by rw [z]; exact d0)
  have t4 : t ≤ L := Classical.byContradiction (fun z => t1 (d1 t (by omega)))
  obtain ⟨⟨C, hC⟩, hmin⟩ := h
  obtain ⟨c0, c1, c2⟩ := id hC
  have hi := fi_ok hp t1
  have eD : D = pSh t (fun k => D (k + t)) := by
    funext k
    show D k = if k < t then 0 else D (k - t + t)
    by_cases c : k < t
    · rw [if_pos c]; exact t2 k c
    · rw [if_neg c, show k - t + t = k by omega]
  generalize hEE : (fun k => D (k + t)) = G at eD
  have G0 : G 0 = D t := by rw [← hEE]; show D (0 + t) = D t; rw [Nat.zero_add]
  have bG : pBd G (L - t + 1) := fun k hk => by rw [← hEE]; exact d1 (k + t) (by omega)
  have gf : ∀ j, cv D f (j + t) = cv G f j := fun j => by
    rw [eD, sh_cvf]
    show (if j + t < t then 0 else cv G f (j + t - t)) = _
    rw [if_neg (by omega), show j + t - t = j by omega]
  have gz : ∀ j, L - t ≤ j → j < N → cv G f j = 0 := by
    intro j
    induction j using Nat.strongRecOn with
    | ind j ih =>
      intro j1 j2
      by_cases c : j + t < N
      · rw [← gf j]; exact d2 (j + t) (by omega) c
      · exact massey bG (fun i i1 i2 => ih i i2 i1 (by omega)) (d := L) (D := C) ⟨c0, c1, fun i i1 i2 => c2 i i1 (by omega)⟩ (by omega)
  have hR : pRc f N (L - t) (cv (cc (fi (D t))) G) := by
    refine ⟨?_, (bd_cv (bd_cc _) bG).mono (by omega), fun j j1 j2 => ?_⟩
    · rw [cv_cc]
      show fi (D t) * G 0 = 1
      rw [G0]; grind
    · rw [cv_assoc, cv_cc]
      show fi (D t) * cv G f j = 0
      rw [gz j j1 j2]; grind
  have := hmin (L - t) _ hR
  omega
end
