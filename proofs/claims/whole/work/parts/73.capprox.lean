section
/-! ## approximants of the class -/
theorem rg_xx {R : Type} [Lean.Grind.CommRing R] {P1 Q1 P2 Q2 L D : R} (h1 : P2 * Q1 = P1 * Q2) (h2 : P1 * D = L * Q1) : Q1 * (P2 * D) = Q1 * (L * Q2) := by grind
theorem e_W_reduced {p : Nat} [NeZero p] (hp : isPb p = true) {σ : pw_Sto} (hL : Lay σ) {l d : Nat} (hl : l = 48 ∨ l = 50) (hd : d = 52 ∨ d = 54) {P Q : PS (Fin p)} (hP : Pc σ l P) (hQ : Pc σ d Q) (hz : pNz Q) {w : Fin p} (hw : w ≠ 0) {R : List (Fin p)} (hB : pBz P Q (cv (cc w) (pPr R))) : ∃ s P1 Q1 w1 R1, mf_R_take 58 l d σ = some ((), s) ∧ Ff σ s ∧ Pc s 59 P1 ∧ Pc s 61 Q1 ∧ pNz Q1 ∧ w1 ≠ 0 ∧ (∀ x, x ∈ R1 → x ∈ R) ∧ pBz P1 Q1 (cv (cc w1) (pPr R1)) ∧ cv P1 Q = cv P Q1 := by
  have hp2 := isPb_le hp
  obtain ⟨s, Q', t, F, a, b, h⟩ := e_R_take (p := p) (by omega) hL hl hd hP hQ
  rcases h with ⟨h1, h2⟩ | ⟨h1, h2⟩
  · subst h1
    subst h2
    refine ⟨s, cc 0, cc 1, 1, [], t, F, a, b, ⟨0, by rw [cc_z]; exact fp_one (by omega)⟩, fp_one (by omega), fun x hx => (by cases hx), ?_, @rg_zz (PS (Fin p)) (psRing (Fin p)) Q (cc 1)⟩
    exact ⟨cc 0, cc 1, fn_cc 0, fn_cc 1, @rg_b01 (PS (Fin p)) (psRing (Fin p))⟩
  · subst h2
    exact ⟨s, P, Q', w, R, t, F, a, b, hz, hw, fun _ h => h, hB, rfl⟩
theorem e_W_approximate {A : ASt} [NeZero A.1] {σ : pw_Sto} {T : Nat → Int} {len : Nat} {E : Nat → Int} {Hs : List ASt} (hC : CR σ A T len E Hs) (hV : VA A) {x : Int} (hx : 0 ≤ x ∧ x < 4) {m n : Nat} (hmn : m + n ≤ 15) : ∃ s P Q, mf_W_approximate 0 x m n σ = some ((), s) ∧ CR s A T len E Hs ∧ Hi σ s ∧ Pc s 59 P ∧ Pc s 61 Q ∧ pApp (srs A.1 (A.2.1 x.toNat)) m n (P, Q) := by
  have hp := hV.1
  have hp2 := isPb_le hp
  obtain ⟨hL, hD, hS, _⟩ := id hC
  have hN := hL.1
  have s0 := sh_0
  have s1' := sh_1
  have s47 := sh_47
  obtain ⟨b, l, c, d, hE⟩ := EuR.of hL hD
  have hx4 : x.toNat < 4 := by omega
  generalize hf : srs A.1 (A.2.1 x.toNat) = f
  have ef : ∀ k, k < 16 → σ.2.1 (3 + x.toNat) k = vv (f k) := fun k hk => by
    rw [← hf, srs_vv hk (hV.2.1 _ k hx4 hk)]
    exact hS.2.1 x.toNat k hx4 hk
  obtain ⟨s1, t1, F1, S1⟩ := e_E_startWithSeries hp hE (a := 3 + x.toNat) (s := m + n) (by omega) (sh_rowp hx4) (by omega) ef
  have lt := ln_bd_le (n := 17) (a := pTr f (m + n)) (L := m + n + 1) (fun k hk => if_neg (by omega))
  have lM : pLn (pXp (m + n + 1) : PS (Fin A.1)) 17 = m + n + 1 + 1 := xp_ln (by omega) (by omega)
  obtain ⟨s2, b2, l2, c2, d2, B, L, C, D, t2, F2, S2, kB, kL⟩ := e_E_runDownTo hp (by omega) S1 (m := m) (by omega) (by omega) (by omega)
  obtain ⟨E2, _, PB, PL, PC, PD, Q2⟩ := id S2
  obtain ⟨Y2, hbl, hcd, ⟨r0, r1⟩, r2, r3⟩ := id E2
  have MN : (pXp (m + n + 1) : PS (Fin A.1)) (m + n + 1) ≠ 0 := by
    show (if m + n + 1 = m + n + 1 then (1 : Fin A.1) else 0) ≠ 0
    rw [if_pos rfl]
    exact fp_one (by omega)
  have zD := eu_d hp Q2 MN
  obtain ⟨w, hw, hB⟩ := eu_bz Q2
  rw [xp_pr] at hB
  obtain ⟨s3, P1, Q1, w1, R1, t3, F3, c59, c61, z1, hw1, m1, B1, X1⟩ := e_W_reduced hp Y2 (l := l2) (d := d2) (by omega) (by omega) PL PD zD hw hB
  have Y3 := Y2.ff F3
  obtain ⟨s4, P2, Q2', R2, t4, F4, d59, d61, z2, m2, B2, G2, X2⟩ := e_R_cancelRoot hp 0 hw1 Y3 c59 c61 z1 B1
  have Y4 := Y3.ff F4
  have BB : pBz P2 Q2' (cc 1) := bz_list hp hw1 R2 (fun r hr => by
    have := m1 r (m2 r hr)
    rw [List.eq_of_mem_replicate this]
    exact G2) B2
  have XX : cv P2 D = cv L Q2' := by
    obtain ⟨G, _, g1, g2⟩ := X2
    have e1 : cv P2 Q1 = cv P1 Q2' := @rg_dbx (PS (Fin A.1)) (psRing (Fin A.1)) P1 Q1 P2 Q2' G g1 g2
    refine p_cancel hp (g := Q1) ?_ (nz_p z1)
    exact @rg_xx (PS (Fin A.1)) (psRing (Fin A.1)) P1 Q1 P2 Q2' L D e1 X1
  obtain ⟨s5, P3, Q3, t5, F5, e59, e61, LT⟩ := e_R_scale hp Y4 d59 d61 z2 BB XX
  have g22 : ∀ i k, ¬ (i = 47 ∧ k < 4) → s5.2.2 i k = σ.2.2 i k := fun i k hik => by
    rw [F5.2.1, F4.2.1, F3.2.1, F2.2.2 i k hik, F1.2.2 i k hik]
  have gi2 : ∀ i, ¬ (47 ≤ i ∧ i < 58) → s2.2.1 i = σ.2.1 i := fun i hi => by rw [F2.2.1 i hi, F1.2.1 i hi]
  have gi3 : ∀ i, ¬ (47 ≤ i ∧ i < 63) → s3.2.1 i = σ.2.1 i := fun i hi => by rw [F3.2.2 i (by omega), gi2 i (by omega)]
  have gi4 : ∀ i, ¬ (47 ≤ i ∧ i < 63) → s4.2.1 i = σ.2.1 i := fun i hi => by rw [F4.2.2 i (by omega), gi3 i (by omega)]
  have gi5 : ∀ i, ¬ (47 ≤ i ∧ i < 63) → s5.2.1 i = σ.2.1 i := fun i hi => by rw [F5.2.2 i (by omega), gi4 i (by omega)]
  have E5 : EuR s5 b2 l2 c2 d2 := ⟨Y4.ff F5, hbl, hcd, by rw [F5.2.1, F4.2.1, F3.2.1]; exact ⟨⟨r0, r1⟩, r2, r3⟩⟩
  have n5 : s5.1 = σ.1 := by rw [F5.1, F4.1, F3.1, F2.1, F1.1]
  refine ⟨s5, P3, Q3, ?_, hC.fc n5 (fun i k h1 _ => g22 i k h1) (fun i hi => gi5 i (by omega)) (hD.eu E5 (g22 84 1 (by omega)) (g22 84 2 (by omega))), ⟨n5, fun i hi => gi5 i (by omega)⟩, e59, e61, L, D, ⟨(ln_bd PL.1.2).mono kL, Q2.2.2.2.2.1.mono (by omega), zD, fun k hk => ?_⟩, LT⟩
  · have Y1 := hL.fe F1
    have N1 := Y1.1
    have N2 := Y2.1
    have N3 := Y3.1
    have N4 := Y4.1
    have p0 : σ.2.1 1 0 = A.1 := hS.1
    have p3 : s3.2.1 1 0 = A.1 := by rw [gi3 1 (by omega)]; exact p0
    have p4 : s4.2.1 1 0 = A.1 := by rw [gi4 1 (by omega)]; exact p0
    rw [vv_0] at t4
    unfold mf_W_approximate
    rw [ex_gd (by omega) (by omega), show (m : Int) + (n : Int) = ((m + n : Nat) : Int) by omega]
    simp (disch := omega) only [ex_gr, ex_gi, lr_0_3 hL, lr_0_0 hL, lr_1_1 hL, e_ser hL, p0, Option.bind_some, t1, ex_bd, lr_0_3 Y1, t2, lr_0_4 Y2, lr_0_3 Y2, r1, r3, t3, lr_0_4 Y3, lr_0_0 Y3, p3, t4, lr_0_4 Y4, lr_0_0 Y4, p4, t5]
  · obtain ⟨X, Y, _, _, _, _, eL, _⟩ := Q2.1
    rw [eL]
    show _ = cv D (pTr f (m + n)) k + cv Y (pXp (m + n + 1)) k
    have e1 : cv Y (pXp (m + n + 1)) k = 0 := by
      rw [cv_comm, ← sh_cv]
      exact if_pos (by omega)
    have e2 : cv D f k = cv D (pTr f (m + n)) k := cv_congr (fun i hi => rfl) (fun i hi => (if_pos (by omega)).symm)
    rw [e1, e2]
    grind
end
