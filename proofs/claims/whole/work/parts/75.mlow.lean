section
/-! ## lowest terms, model -/
def Fx (σ s : pw_Sto) : Prop := s.1 = σ.1 ∧ s.2.2 = σ.2.2 ∧ ∀ i, ¬ (102 ≤ i ∧ i ≤ 106) → s.2.1 i = σ.2.1 i
theorem Fx.refl (σ : pw_Sto) : Fx σ σ := ⟨rfl, rfl, fun _ _ => rfl⟩
theorem Fx.trans {a b c : pw_Sto} (h : Fx a b) (k : Fx b c) : Fx a c := ⟨k.1.trans h.1, k.2.1.trans h.2.1, fun i hi => (k.2.2 i hi).trans (h.2.2 i hi)⟩
theorem Fx.fq {σ s : pw_Sto} {q : Nat} (h : Fq σ s q) (h1 : 102 ≤ q) (h2 : q ≤ 106) : Fx σ s := ⟨h.1, h.2.1, fun i hi => h.2.2 i (by omega)⟩
theorem Fx.two {σ s : pw_Sto} {a q : Nat} (h : s.1 = σ.1 ∧ s.2.2 = σ.2.2 ∧ ∀ i, i ≠ a → i ≠ q → s.2.1 i = σ.2.1 i) (h1 : 102 ≤ q) (h2 : q ≤ 106) (h3 : 102 ≤ a) (h4 : a ≤ 106) : Fx σ s := ⟨h.1, h.2.1, fun i hi => h.2.2 i (by omega) (by omega)⟩
theorem Fx.st {σ : pw_Sto} {a : Nat} {f : Nat → Int} (h1 : 102 ≤ a) (h2 : a ≤ 106) : Fx σ (pw_st σ a f) := ⟨rfl, rfl, fun i hi => st_ne (by omega)⟩
theorem Lay.fx {σ s : pw_Sto} (h : Lay σ) (k : Fx σ s) : Lay s := ⟨k.1.trans h.1, fun q hq => by rw [k.2.1]; exact h.2 q hq⟩
def pGI {p : Nat} [NeZero p] (P Q F S : PS (Fin p)) : Prop := (∃ U V, pFn U ∧ pFn V ∧ F = pAd (cv U P) (cv V Q)) ∧ (∃ U V, pFn U ∧ pFn V ∧ S = pAd (cv U P) (cv V Q)) ∧ (∃ A B, pFn A ∧ pFn B ∧ P = pAd (cv A F) (cv B S)) ∧ ∃ C D, pFn C ∧ pFn D ∧ Q = pAd (cv C F) (cv D S)
theorem rg_g1 {R : Type} [Lean.Grind.CommRing R] {F S q R0 U V U' V' P Q : R} (h : F = q * S + R0) (h1 : F = U * P + V * Q) (h2 : S = U' * P + V' * Q) : R0 = (U - q * U') * P + (V - q * V') * Q := by grind
theorem rg_g2 {R : Type} [Lean.Grind.CommRing R] {F S q R0 A B P : R} (h : F = q * S + R0) (h1 : P = A * F + B * S) : P = (A * q + B) * S + A * R0 := by grind
theorem gi_step {p : Nat} [NeZero p] {P Q F S q R : PS (Fin p)} (h : pGI P Q F S) (e : F = pAd (cv q S) R) (fq : pFn q) : pGI P Q S R := by
  obtain ⟨⟨U, V, f1, f2, e1⟩, ⟨U', V', f3, f4, e2⟩, ⟨A, B, f5, f6, e3⟩, C, D, f7, f8, e4⟩ := h
  exact ⟨⟨U', V', f3, f4, e2⟩, ⟨pSb U (cv q U'), pSb V (cv q V'), fn_sb f1 (fn_cv fq f3), fn_sb f2 (fn_cv fq f4), @rg_g1 (PS (Fin p)) (psRing (Fin p)) F S q R U V U' V' P Q e e1 e2⟩, ⟨pAd (cv A q) B, A, fn_ad (fn_cv f5 fq) f6, f5, @rg_g2 (PS (Fin p)) (psRing (Fin p)) F S q R A B P e e3⟩, pAd (cv C q) D, C, fn_ad (fn_cv f7 fq) f8, f7, @rg_g2 (PS (Fin p)) (psRing (Fin p)) F S q R C D Q e e4⟩
theorem rg_i1 {R : Type} [Lean.Grind.CommRing R] {a b : R} : a = 1 * a + 0 * b := by grind
theorem rg_i2 {R : Type} [Lean.Grind.CommRing R] {a b : R} : b = 0 * a + 1 * b := by grind
theorem gi_start {p : Nat} [NeZero p] (P Q : PS (Fin p)) : pGI P Q P Q := ⟨⟨cc 1, cc 0, fn_cc 1, fn_cc 0, @rg_i1 (PS (Fin p)) (psRing (Fin p)) P Q⟩, ⟨cc 0, cc 1, fn_cc 0, fn_cc 1, @rg_i2 (PS (Fin p)) (psRing (Fin p)) P Q⟩, ⟨cc 1, cc 0, fn_cc 1, fn_cc 0, @rg_i1 (PS (Fin p)) (psRing (Fin p)) P Q⟩, cc 0, cc 1, fn_cc 0, fn_cc 1, @rg_i2 (PS (Fin p)) (psRing (Fin p)) P Q⟩
theorem e_M_gcd {p : Nat} [NeZero p] (hp : isPb p = true) {P Q : PS (Fin p)} : ∀ (v n : Nat) (t : pw_Sto) (F S : PS (Fin p)), pLn S 18 = v → v < n → Lay t → t.2.1 92 0 = p → Pm t 102 P → Pm t 103 Q → Pm t 104 F → Pm t 105 S → pGI P Q F S → ∃ m t' F', ml_M_toLowest_47 n 91 t = mb_M_toLowest_47 (ml_M_toLowest_47 m) 91 t' ∧ Fx t t' ∧ Pm t' 102 P ∧ Pm t' 103 Q ∧ Pm t' 104 F' ∧ Pm t' 105 (cc 0 : PS (Fin p)) ∧ pGI P Q F' (cc 0) := by
  have hp2 := isPb_le hp
  have s91 := sh_91
  intro v
  induction v using Nat.strongRecOn with
  | ind v ih =>
    intro n t F S hv hn hL hp0 h102 h103 h104 h105 hG
    obtain ⟨n, rfl⟩ : ∃ k, n = k + 1 := ⟨n - 1, by omega⟩
    have hN := hL.1
    have lS := ln_le S 18
    by_cases c : v = 0
    · have hS : S = cc 0 := (ln_0 h105.2).mp (hv.trans c)
      rw [hS] at h105 hG
      exact ⟨n, t, F, rfl, Fx.refl t, h102, h103, h104, h105, hG⟩
    · obtain ⟨s1, q, R, t1, F1, R1, q1, e1, bR⟩ := e_M_divide hp (a := 104) (b := 105) (q := 106) (by omega) (by omega) (by omega) (by omega) (by omega) (by omega) hL hp0 h104 h105 (by omega)
      have X1 : Fx t s1 := Fx.two F1 (by omega) (by omega) (by omega) (by omega)
      have L1 := hL.fx X1
      have n1 := L1.1
      have h105' : Pm s1 105 S := h105.kept (F1.2.2 105 (by omega) (by omega))
      obtain ⟨s2, t2, F2, c2⟩ := e_M_copyP (q := 104) (r := 106) L1 (by omega) (by omega) (by omega) (by omega) (by omega) R1
      have L2 := L1.fq F2
      have n2 := L2.1
      obtain ⟨s3, t3, F3, c3⟩ := e_M_copyP (q := 105) (r := 104) L2 (by omega) (by omega) (by omega) (by omega) (by omega) (h105'.fq F2 (by omega))
      have L3 := L2.fq F3
      have n3 := L3.1
      obtain ⟨s4, t4, F4, c4⟩ := e_M_copyP (q := 106) (r := 105) L3 (by omega) (by omega) (by omega) (by omega) (by omega) (c2.fq F3 (by omega))
      have L4 := L3.fq F4
      have X4 : Fx t s4 := ((X1.trans (Fx.fq F2 (by omega) (by omega))).trans (Fx.fq F3 (by omega) (by omega))).trans (Fx.fq F4 (by omega) (by omega))
      have k4 : ∀ i, i ≠ 104 → i ≠ 105 → i ≠ 106 → s4.2.1 i = t.2.1 i := fun i i1 i2 i3 => by rw [F4.2.2 i i2, F3.2.2 i i1, F2.2.2 i i3, F1.2.2 i i1 i3]
      have lR := ln_bd_le (n := 18) bR
      obtain ⟨m, t', F', e, X, a1, a2, a3, a4, a5⟩ := ih (pLn R 18) (by omega) n s4 S R rfl (by omega) L4 (by rw [k4 92 (by omega) (by omega) (by omega)]; exact hp0) (h102.kept (k4 102 (by omega) (by omega) (by omega))) (h103.kept (k4 103 (by omega) (by omega) (by omega))) (c3.fq F4 (by omega)) c4 (gi_step hG e1 ⟨18, q1.2⟩)
      refine ⟨m, t', F', ?_, X4.trans X, a1, a2, a3, a4, a5⟩
      rw [← e, us_M_toLowest_47]
      conv => lhs; unfold mb_M_toLowest_47
      rw [ex_gr (by omega) (by omega), lr_91_16 hL, Option.bind_some, e_M_degree (p := p) (by omega) hL (by omega) (by omega) h105, ex_bd, pw_ck_ok (by omega) (by omega), if_neg (by omega)]
      simp (disch := omega) only [ex_gr, lr_91_15 hL, lr_91_16 hL, lr_91_17 hL, Option.bind_some, t1, ex_bd, lr_91_15 L1, lr_91_17 L1, t2, lr_91_16 L2, lr_91_15 L2, t3, lr_91_17 L3, lr_91_16 L3, t4]
/-- making the lowest coefficient 1 -/
theorem e_M_norm {p : Nat} [NeZero p] (hp : isPb p = true) {σ : pw_Sto} (hL : Lay σ) (hp0 : σ.2.1 92 0 = p) {P Q : PS (Fin p)} (hP : Pm σ 102 P) (hQ : Pm σ 103 Q) (hz : pNz Q) : ∃ s k, Q k ≠ 0 ∧ (∀ j, j < k → Q j = 0) ∧ ml_M_toLowest_165 1000 91 0 σ = some ((), s) ∧ Fx σ s ∧ Pm s 102 (cv (cc (fi (Q k))) P) ∧ Pm s 103 (cv (cc (fi (Q k))) Q) := by
  have hp2 := isPb_le hp
  have hN := hL.1
  have s91 := sh_91
  have s102 := sh_102
  have s103 := sh_103
  obtain ⟨k0, hk0⟩ := hz
  obtain ⟨k, hk, hk2⟩ := p_low k0 hk0
  have k18 : k < 18 := Classical.byContradiction (fun c => hk (hQ.2 k (by omega)))
  have hinv := e_M_inv hp hL hp0 hk
  generalize hφ : fi (Q k) = φ at *
  obtain ⟨n, s', e1, hI⟩ := lp_ex (S := pw_Sto) (O := Unit × pw_Sto) (fun n j t => ml_M_toLowest_193 n 91 (vv φ) j t) (fun j => (j : Int)) 18 (fun i t => Fx σ t ∧ (∀ j, j < 18 → t.2.1 102 j = vv (if j < i then P j * φ else P j)) ∧ ∀ j, j < 18 → t.2.1 103 j = vv (if j < i then Q j * φ else Q j))
    (by
      intro n i t hi hI
      obtain ⟨X, g1, g2⟩ := hI
      have L1 := hL.fx X
      have n1 := L1.1
      have e1 := g1 i hi
      have e2 := g2 i hi
      rw [if_neg (by omega)] at e1 e2
      have r1 := vv_mm (p := p) (by omega) (P i) φ
      have r2 := vv_mm (p := p) (by omega) (Q i) φ
      have p1 : t.2.1 92 0 = p := by rw [X.2.2 92 (by omega)]; exact hp0
      have L2 : Lay (pw_st t 102 (fun j => if j = i then vv (P i * φ) else t.2.1 102 j)) := L1
      have n2 := L2.1
      have p2 : (pw_st t 102 (fun j => if j = i then vv (P i * φ) else t.2.1 102 j)).2.1 92 0 = p := by rw [st_ne (by omega)]; exact p1
      have e3 : (pw_st t 102 (fun j => if j = i then vv (P i * φ) else t.2.1 102 j)).2.1 103 i = vv (Q i) := by rw [st_ne (by omega)]; exact e2
      refine ⟨pw_st (pw_st t 102 (fun j => if j = i then vv (P i * φ) else t.2.1 102 j)) 103 (fun j => if j = i then vv (Q i * φ) else t.2.1 103 j), ?_, (X.trans (Fx.st (a := 102) (by omega) (by omega))).trans (Fx.st (a := 103) (by omega) (by omega)), fun j hj => ?_, fun j hj => ?_⟩
      · try dsimp only
        rw [us_M_toLowest_193]
        unfold mb_M_toLowest_193
        rw [pw_ck_ok (by omega) (by omega), if_neg (by omega), ex_gr (by omega) (by omega), lr_91_13 L1]
        simp only [Option.bind_some]
        rw [ex_ai (by omega) (by omega) (by omega) (by omega), Option.bind_some, Int.toNat_natCast, e1, e_M_mod L1 p1 (by omega) (by omega) (by omega), ex_bd, ← vv_mul, xs_si (by omega) (by omega) (by omega) (by omega), Option.bind_some, Int.toNat_natCast, ex_gr (by omega) (by omega), lr_91_14 L2]
        simp only [Option.bind_some]
        rw [ex_ai (by omega) (by omega) (by omega) (by omega), Option.bind_some, Int.toNat_natCast, e3, e_M_mod L2 p2 (by omega) (by omega) (by omega), ex_bd, ← vv_mul, xs_si (by omega) (by omega) (by omega) (by omega), Option.bind_some, Int.toNat_natCast, st_ne (σ := t) (a := 102) (q := 103) (by omega)]
        rfl
      · rw [st_ne (by omega), st_eq]
        by_cases c : j = i
        · rw [if_pos c, if_pos (by omega), c]
        · rw [if_neg c, g1 j hj]
          by_cases c2 : j < i
          · rw [if_pos c2, if_pos (by omega)]
          · rw [if_neg c2, if_neg (by omega)]
      · rw [st_eq]
        by_cases c : j = i
        · rw [if_pos c, if_pos (by omega), c]
        · rw [if_neg c, g2 j hj]
          by_cases c2 : j < i
          · rw [if_pos c2, if_pos (by omega)]
          · rw [if_neg c2, if_neg (by omega)]) 18 0 1000 σ (by omega) (by omega) ⟨Fx.refl σ, fun j hj => by rw [if_neg (by omega)]; exact hP.1 j hj, fun j hj => by rw [if_neg (by omega)]; exact hQ.1 j hj⟩
  obtain ⟨X, g1, g2⟩ := hI
  have e193 : ml_M_toLowest_193 1000 91 (vv φ) 0 σ = some ((), s') := by
    refine Eq.trans e1 ?_
    try dsimp only
    rw [us_M_toLowest_193]
    unfold mb_M_toLowest_193
    rw [pw_ck_ok (by omega) (by omega), if_pos (by omega)]
  refine ⟨s', k, hk, hk2, ?_, X, ⟨fun j hj => ?_, fun j hj => ?_⟩, ⟨fun j hj => ?_, fun j hj => ?_⟩⟩
  · have key : ∀ (d j n : Nat), j + d = k → d < n → ml_M_toLowest_165 n 91 (j : Nat) σ = some ((), s') := by
      intro d
      induction d with
      | zero =>
        intro j n h1 h2
        obtain ⟨n, rfl⟩ : ∃ k, n = k + 1 := ⟨n - 1, by omega⟩
        have hj : j = k := by omega
        subst hj
        have r1 := vv_rng (Q j)
        have r2 : vv (Q j) ≠ 0 := fun q => hk (vv_z.mp q)
        rw [us_M_toLowest_165]
        unfold mb_M_toLowest_165
        rw [ex_gr (by omega) (by omega), lr_91_14 hL]
        simp only [Option.bind_some]
        rw [ex_ai (by omega) (by omega) (by omega) (by omega)]
        simp only [Option.bind_some]
        rw [Int.toNat_natCast, hQ.1 j k18, pw_ck_ok (by omega) (by omega), if_neg r2, hinv, ex_bd]
        exact e193
      | succ d ih =>
        intro j n h1 h2
        obtain ⟨n, rfl⟩ : ∃ k, n = k + 1 := ⟨n - 1, by omega⟩
        have r2 : vv (Q j) = 0 := vv_z.mpr (hk2 j (by omega))
        rw [us_M_toLowest_165]
        unfold mb_M_toLowest_165
        rw [ex_gr (by omega) (by omega), lr_91_14 hL]
        simp only [Option.bind_some]
        rw [ex_ai (by omega) (by omega) (by omega) (by omega)]
        simp only [Option.bind_some]
        rw [Int.toNat_natCast, hQ.1 j (by omega), r2, pw_ck_ok (by omega) (by omega), if_pos rfl, show (j : Int) + 1 = ((j + 1 : Nat) : Int) by omega]
        exact ih (j + 1) n (by omega) (by omega)
    exact key k 0 1000 (by omega) (by omega)
  · rw [g1 j hj, if_pos hj, cv_cc, hφ]
    congr 1
    grind
  · rw [cv_cc]
    show fi (Q k) * P j = 0
    rw [hP.2 j hj]; grind
  · rw [g2 j hj, if_pos hj, cv_cc, hφ]
    congr 1
    grind
  · rw [cv_cc]
    show fi (Q k) * Q j = 0
    rw [hQ.2 j hj]; grind
theorem rg_fin {R : Type} [Lean.Grind.CommRing R] {P A F B : R} (h : P = A * F + B * 0) : A * F + 0 = P := by grind
theorem rg_fb {R : Type} [Lean.Grind.CommRing R] {P Q A C F U V : R} (h : F = U * P + V * Q) (h1 : P = A * F) (h2 : Q = C * F) : F * (U * A + V * C) = F * 1 := by grind
theorem rg_fx {R : Type} [Lean.Grind.CommRing R] {P Q A C F f : R} (h1 : P = A * F) (h2 : Q = C * F) : (f * A) * Q = P * (f * C) := by grind
theorem rg_b01' {R : Type} [Lean.Grind.CommRing R] : (0 : R) * 0 + 1 * 1 = 1 := by grind
theorem rg_a0 {R : Type} [Lean.Grind.CommRing R] {a : R} : a + 0 = a := by grind
theorem e_M_toLowest {p : Nat} [NeZero p] (hp : isPb p = true) {σ : pw_Sto} (hL : Lay σ) (hp0 : σ.2.1 92 0 = p) {P Q : PS (Fin p)} (hP : Pm σ 102 P) (hQ : Pm σ 103 Q) (hz : pNz Q) : ∃ s P' Q', mf_M_toLowest 91 σ = some ((), s) ∧ Fx σ s ∧ Pm s 102 P' ∧ Pm s 103 Q' ∧ pLT P Q P' Q' := by
  have hp2 := isPb_le hp
  have hN := hL.1
  have s91 := sh_91
  have s103 := sh_103
  have lP := ln_le P 18
  have e0 : mf_M_toLowest 91 σ = pw_ck ((pLn P 18 : Int) - 1) 0 (if 0 ≤ (pLn P 18 : Int) - 1 then pw_bd (mf_M_copy 102 104 σ) (fun _ s6 => (pw_gr 10 91 14 s6).bind (fun v7 => (pw_gr 10 91 16 s6).bind (fun v8 => pw_bd (mf_M_copy v7 v8 s6) (fun _ s9 => ml_M_toLowest_47 1000 91 s9)))) else pw_bd (mf_M_clear 103 σ) (fun _ s59 => (pw_gr 10 91 14 s59).bind (fun v60 => (pw_si v60 (0 : Int) (1 : Int) s59).bind (fun s61 => some ((), s61))))) := by
    unfold mf_M_toLowest
    rw [ex_gd (by omega) (by omega), ex_gr (by omega) (by omega), lr_91_13 hL, Option.bind_some, e_M_degree (p := p) (by omega) hL (by omega) (by omega) hP, ex_bd]
    simp (disch := omega) only [ex_gr, lr_91_13 hL, lr_91_15 hL, lr_91_14 hL, Option.bind_some]
  rw [e0, pw_ck_ok (by omega) (by omega)]
  by_cases c : P = cc 0
  · have l0 := (ln_0 hP.2).mpr c
    rw [if_neg (by omega)]
    obtain ⟨s1, t1, F1, c1⟩ := e_M_clearP (p := p) hL (q := 103) (by omega) (by omega)
    have L1 := hL.fq F1
    have n1 := L1.1
    refine ⟨pw_st s1 103 (fun j => if j = 0 then 1 else s1.2.1 103 j), cc 0, cc 1, ?_, (Fx.fq F1 (by omega) (by omega)).trans (Fx.fq (q := 103) ⟨rfl, rfl, fun i hi => st_ne hi⟩ (by omega) (by omega)), ?_, ⟨fun k hk => ?_, (bd_cc 1).mono (by omega)⟩, fn_cc 0, fn_cc 1, ⟨cc 0, cc 1, fn_cc 0, fn_cc 1, @rg_b01' (PS (Fin p)) (psRing (Fin p))⟩, ⟨0, cc_z 1, fun j hj => by omega⟩, ?_⟩
    · rw [t1, ex_bd, ex_gr (by omega) (by omega), lr_91_14 L1, Option.bind_some, xs_si (by omega) (by omega) (by omega) (by omega), Option.bind_some]
      rfl
    · rw [← c]
      exact (hP.fq F1 (by omega)).kept (st_ne (by omega))
    · rw [st_eq]
      cases k with
      | zero => rw [if_pos rfl, cc_z, vv_1 (by omega)]
      | succ k => rw [if_neg (by omega), cc_s, c1.1 _ hk, cc_0]
    · rw [c]
      exact @rg_zz (PS (Fin p)) (psRing (Fin p)) Q (cc 1)
  · have l0 : pLn P 18 ≠ 0 := fun q => c ((ln_0 hP.2).mp q)
    rw [if_pos (by omega)]
    obtain ⟨s1, t1, F1, c1⟩ := e_M_copyP (q := 102) (r := 104) hL (by omega) (by omega) (by omega) (by omega) (by omega) hP
    have L1 := hL.fq F1
    have n1 := L1.1
    have Q1 := hQ.fq F1 (by omega)
    obtain ⟨s2, t2, F2, c2⟩ := e_M_copyP (q := 103) (r := 105) L1 (by omega) (by omega) (by omega) (by omega) (by omega) Q1
    have L2 := L1.fq F2
    have X2 : Fx σ s2 := (Fx.fq F1 (by omega) (by omega)).trans (Fx.fq F2 (by omega) (by omega))
    have lQ := ln_le Q 18
    obtain ⟨m, s3, F, e3, X3, a102, a103, a104, a105, aG⟩ := e_M_gcd hp (pLn Q 18) 1000 s2 P Q rfl (by omega) L2 (by rw [X2.2.2 92 (by omega)]; exact hp0) ((hP.fq F1 (by omega)).fq F2 (by omega)) (Q1.fq F2 (by omega)) (c1.fq F2 (by omega)) c2 (gi_start P Q)
    obtain ⟨⟨U, V, fU, fV, eF⟩, _, ⟨A, B, fA, _, eA⟩, C, D, fC, _, eC⟩ := aG
    have L3 := L2.fx X3
    have n3 := L3.1
    have p3 : s3.2.1 92 0 = p := by rw [X3.2.2 92 (by omega), X2.2.2 92 (by omega)]; exact hp0
    have eA' : pAd (cv A F) (cc 0) = P := @rg_fin (PS (Fin p)) (psRing (Fin p)) P A F B eA
    have eC' : pAd (cv C F) (cc 0) = Q := @rg_fin (PS (Fin p)) (psRing (Fin p)) Q C F D eC
    have zF : F ≠ cc 0 := fun q => nz_p hz (by
      rw [← eC', q]
      have : cv C (cc 0) = cc 0 := @rg_x0' (PS (Fin p)) (psRing (Fin p)) C
      rw [this]
      exact @rg_a0 (PS (Fin p)) (psRing (Fin p)) (cc 0))
    have lF : pLn F 18 ≠ 0 := fun q => zF ((ln_0 a104.2).mp q)
    obtain ⟨dF, hdF⟩ : ∃ d, pLn F 18 = d + 1 := ⟨pLn F 18 - 1, by omega⟩
    have bF : pBd F (dF + 1) := by rw [← hdF]; exact ln_bd a104.2
    have hFd : F dF ≠ 0 := by
      have := ln_nz (a := F) (n := 18) (by omega)
      rw [hdF] at this
      exact this
    obtain ⟨s4, t4, F4, c4⟩ := e_M_copyP (q := 102) (r := 105) L3 (by omega) (by omega) (by omega) (by omega) (by omega) a102
    have L4 := L3.fq F4
    have n4 := L4.1
    have p4 : s4.2.1 92 0 = p := by rw [F4.2.2 92 (by omega)]; exact p3
    have a104' := a104.fq F4 (by omega)
    obtain ⟨s5, A', R', t5, F5, c5, d5, e5, b5⟩ := e_M_divide hp (a := 105) (b := 104) (q := 102) (by omega) (by omega) (by omega) (by omega) (by omega) (by omega) L4 p4 c4 a104' (by omega)
    have X5 : Fx s4 s5 := Fx.two F5 (by omega) (by omega) (by omega) (by omega)
    have L5 := L4.fx X5
    have n5 := L5.1
    have u5 := p_div_uniq hp bF hFd ⟨18, d5.2⟩ fA (b5.mono (by omega)) (fun k _ => cc_0 k) (e5.symm.trans eA'.symm)
    rw [u5.1] at d5
    have a103' : Pm s5 103 Q := (a103.fq F4 (by omega)).kept (F5.2.2 103 (by omega) (by omega))
    obtain ⟨s6, t6, F6, c6⟩ := e_M_copyP (q := 103) (r := 105) L5 (by omega) (by omega) (by omega) (by omega) (by omega) a103'
    have L6 := L5.fq F6
    have n6 := L6.1
    have p6 : s6.2.1 92 0 = p := by rw [F6.2.2 92 (by omega), F5.2.2 92 (by omega) (by omega)]; exact p4
    have a104'' : Pm s6 104 F := (a104'.kept (F5.2.2 104 (by omega) (by omega))).fq F6 (by omega)
    obtain ⟨s7, C', R'', t7, F7, c7, d7, e7, b7⟩ := e_M_divide hp (a := 105) (b := 104) (q := 103) (by omega) (by omega) (by omega) (by omega) (by omega) (by omega) L6 p6 c6 a104'' (by omega)
    have X7 : Fx s6 s7 := Fx.two F7 (by omega) (by omega) (by omega) (by omega)
    have L7 := L6.fx X7
    have n7 := L7.1
    have u7 := p_div_uniq hp bF hFd ⟨18, d7.2⟩ fC (b7.mono (by omega)) (fun k _ => cc_0 k) (e7.symm.trans eC'.symm)
    rw [u7.1] at d7
    have p7 : s7.2.1 92 0 = p := by rw [F7.2.2 92 (by omega) (by omega)]; exact p6
    have d5' : Pm s7 102 A := (d5.fq F6 (by omega)).kept (F7.2.2 102 (by omega) (by omega))
    have gA : P = cv A F := eA'.symm.trans (@rg_a0 (PS (Fin p)) (psRing (Fin p)) (cv A F))
    have gC : Q = cv C F := eC'.symm.trans (@rg_a0 (PS (Fin p)) (psRing (Fin p)) (cv C F))
    have zC : pNz C := p_nz (fun q => nz_p hz (by
      rw [gC, q, cv_comm]
      exact @rg_x0' (PS (Fin p)) (psRing (Fin p)) F))
    obtain ⟨s8, k, hk, hk2, t8, X8, e102, e103⟩ := e_M_norm hp L7 p7 d5' d7 zC
    have hφ := fi_ok hp hk
    refine ⟨s8, _, _, ?_, ((((((X2.trans X3).trans (Fx.fq F4 (by omega) (by omega))).trans X5).trans (Fx.fq F6 (by omega) (by omega))).trans X7).trans X8), e102, e103, ⟨18, e102.2⟩, ⟨18, e103.2⟩, ?_, ?_, ?_⟩
    · rw [t1, ex_bd]
      simp (disch := omega) only [ex_gr, lr_91_14 L1, lr_91_16 L1, Option.bind_some, t2, ex_bd]
      rw [e3]
      unfold mb_M_toLowest_47
      have z0 := (ln_0 (a := cc 0) a105.2).mpr rfl
      rw [ex_gr (by omega) (by omega), lr_91_16 L3, Option.bind_some, e_M_degree (p := p) (by omega) L3 (by omega) (by omega) a105, ex_bd, pw_ck_ok (by omega) (by omega), if_pos (by omega)]
      simp (disch := omega) only [ex_gr, lr_91_13 L3, lr_91_16 L3, Option.bind_some, t4, ex_bd, lr_91_16 L4, lr_91_15 L4, lr_91_13 L4, t5, lr_91_14 L5, lr_91_16 L5, t6, lr_91_16 L6, lr_91_15 L6, lr_91_14 L6, t7, t8]
    · have eB : pAd (cv U A) (cv V C) = cc 1 := p_cancel hp (@rg_fb (PS (Fin p)) (psRing (Fin p)) P Q A C F U V eF gA gC) zF
      refine ⟨cv (cc (C k)) U, cv (cc (C k)) V, fn_cv (fn_cc _) fU, fn_cv (fn_cc _) fV, ?_⟩
      have e2 : cv (cc (C k)) (cc (fi (C k))) = cc 1 := by rw [cc_mul, hφ]
      exact @rg_sc (PS (Fin p)) (psRing (Fin p)) U V A C (cc (fi (C k))) (cc (C k)) eB e2
    · refine ⟨k, ?_, fun j hj => ?_⟩
      · rw [cv_cc]; show fi (C k) * C k = 1; grind
      · rw [cv_cc]; show fi (C k) * C j = 0; rw [hk2 j hj]; grind
    · exact @rg_fx (PS (Fin p)) (psRing (Fin p)) P Q A C F (cc (fi (C k))) gA gC
end
