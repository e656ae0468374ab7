/-! ## two quotients by the same series are the same -/
theorem cv_congr {R : Type} [Lean.Grind.CommRing R] {a a' b b' : Nat → R} {k : Nat} (h1 : ∀ i, i ≤ k → a i = a' i) (h2 : ∀ i, i ≤ k → b i = b' i) : cv a b k = cv a' b' k := by
  show sm (fun i => a i * b (k - i)) (k + 1) = sm (fun i => a' i * b' (k - i)) (k + 1)
  exact sm_congr (fun i hi => by rw [h1 i (by omega), h2 (k - i) (by omega)])
theorem q_uniq {p : Nat} [NeZero p] (hp : isPb p = true) {q q' b b' : Nat → Int} (hb : 0 ≤ b 0 ∧ b 0 < p) (hb0 : b 0 ≠ 0) (hq : ∀ k, k < 16 → 0 ≤ q k ∧ q k < p) (hq' : ∀ k, k < 16 → 0 ≤ q' k ∧ q' k < p) (e : ∀ k, k < 16 → b k = b' k) (h : ∀ k, k < 16 → cv (fun i => fz p (q i)) (fun i => fz p (b i)) k = cv (fun i => fz p (q' i)) (fun i => fz p (b' i)) k) : ∀ k, k < 16 → q k = q' k := by
  have hiv := fz_iv (p := p) (a := (b 0).toNat) hp (by omega) (by omega)
  rw [show (((b 0).toNat : Nat) : Int) = b 0 by omega] at hiv
  have hu := cv_uniq (q := fun i => fz p (q i)) (q' := fun i => fz p (q' i)) (b := fun i => fz p (b i)) hiv (n := 16) (fun k hk => by
    rw [h k hk]
    exact cv_congr (fun i hi => rfl) (fun i hi => by show fz p (b' i) = fz p (b i); rw [e i (by omega)]))
  intro k hk
  exact fz_inj (hq k hk).1 (hq k hk).2 (hq' k hk).1 (hq' k hk).2 (hu k hk)
theorem op_invert {x y : Int} (hx : pw_R x) (hy : pw_R y) : OpOk (mf_W_invert 0 x y) (mf_M_invert 91 x y) := by
  refine op_two (fW := mf_W_invert 0) (fM := mf_M_invert 91) (gW := fun x0 x1 x2 s5 => (pw_gr 9 x0 0 s5).bind (fun v7 => (pw_gr 7 v7 1 s5).bind (fun v8 => (pw_ar 13 v8 x1 s5).bind (fun v9 => (pw_ai v9 (0 : Int) s5).bind (fun v10 => pw_ck v10 0 (if v10 = 0 then pw_bd (mf_W_fail x0 (-3 : Int) s5) (fun v21 s20 => some (v21, s20)) else (pw_gr 9 x0 0 s5).bind (fun v11 => (pw_gr 7 v11 1 s5).bind (fun v12 => (pw_ar 13 v12 x1 s5).bind (fun v13 => (pw_gr 9 x0 8 s5).bind (fun v14 => (pw_gr 9 x0 0 s5).bind (fun v15 => (pw_gi 7 v15 0 s5).bind (fun v16 => pw_bd (mf_S_reciprocal v13 v14 v16 s5) (fun _ s17 => pw_bd (mf_W_store x0 x2 s17) (fun v19 s18 => some (v19, s18))))))))))))))) (gM := fun x0 x1 x2 s5 => pw_bd (mf_M_term x0 x1 (0 : Int) s5) (fun v8 s7 => pw_ck v8 0 (if v8 = 0 then pw_bd (mf_M_fail x0 (-3 : Int) s7) (fun v22 s21 => some (v22, s21)) else (pw_gr 10 x0 7 s7).bind (fun v9 => pw_bd (mf_M_clear v9 s7) (fun _ s10 => (pw_gr 10 x0 7 s10).bind (fun v11 => pw_bd (mf_M_prime x0 s10) (fun v13 s12 => (pw_rem (1 : Int) v13).bind (fun v14 => (pw_si v11 (0 : Int) v14 s12).bind (fun s15 => (pw_gr 10 x0 8 s15).bind (fun v16 => pw_bd (mf_M_take x0 x1 v16 s15) (fun _ s17 => pw_bd (mf_M_makeQuotient x0 s17) (fun _ s18 => pw_bd (mf_M_store x0 x2 s18) (fun v20 s19 => some (v20, s19)))))))))))))) hx hy (fun σ hL => ?_) (fun σ hL => ?_) (fun h1 h2 A T len E Hs hV => ?_)
  · have hN := hL.1
    have := sh_0
    unfold mf_W_invert
    rw [ex_gd (by omega) (by omega)]
    rfl
  · have hN := hL.1
    have := sh_91
    unfold mf_M_invert
    rw [ex_gd (by omega) (by omega)]
    rfl
  have hp := isPb_le hV.1.1
  haveI : NeZero A.1 := ⟨by omega⟩
  have hr0 := hV.1.2.1 x.toNat 0 (by omega) (by omega)
  by_cases hz : A.2.1 x.toNat 0 = 0
  · refine ⟨_, _, _, _, _, _, w_cong (w_fail A T len E Hs 1 (by omega)) (fun σ hC => ?_), m_cong (m_fail A T len E Hs 1 (by omega)) (fun σ hM => ?_), hV⟩
    · obtain ⟨hL, _, g3, g4, g5, g6⟩ := id hC
      have hN := hL.1
      have := sh_0
      have := sh_1
      have s3 := sh_row (s := x.toNat) (by omega)
      have b2 := g3.2.1 x.toNat 0 (by omega) (by omega)
      simp (disch := omega) only [ex_gr, lr_0_0 hL, lr_1_1 hL, e_row hL, Option.bind_some, ex_ai]
      rw [show σ.2.1 (3 + x.toNat) (0 : Int).toNat = 0 from b2.trans hz, pw_ck_ok (by omega) (by omega), if_pos rfl]
      rfl
    · obtain ⟨hL, g2, g3, g4, g5, g6⟩ := id hM
      rw [e_M_term hL g2 h1.1 h1.2 (by omega) (by omega), ex_bd, show A.2.1 x.toNat (0 : Int).toNat = 0 from hz, pw_ck_ok (by omega) (by omega), if_pos rfl]
      rfl
  have hf2 : ∀ k, k < 16 → 0 ≤ cov (rcpV A.1 (A.2.1 x.toNat)) k ∧ cov (rcpV A.1 (A.2.1 x.toNat)) k < A.1 := fun k _ => rcp_rng hV.1.1 _ k
  have heq := rcp_eq hV.1.1 hr0 hz
  refine ⟨_, _, _, _, _, _, w_store hV h2.1 h2.2 hf2 (fun σ hC => ?_), m_store hV h2.1 h2.2 hf2 (fun σ hM => ?_), hV.saved (hV.1.row hf2)⟩
  · obtain ⟨hL, _, g3, g4, g5, g6⟩ := id hC
    have hN := hL.1
    have := sh_0
    have := sh_1
    have := sh_88
    have s3 := sh_row (s := x.toNat) (by omega)
    have b2 := g3.2.1 x.toNat
    have b20 := b2 0 (by omega) (by omega)
    have hs := e_S_reciprocal (σ := σ) (a := 3 + x.toNat) (t := 88) (p := A.1) (by omega) (by omega) (sh_rowp (by omega)) rfl (by omega) hV.1.1 (fun k hk => by rw [show σ.2.1 (3 + x.toNat) k = _ from b2 k (by omega) hk]; exact hV.1.2.1 x.toNat k (by omega) hk)
    have b20' : σ.2.1 (3 + x.toNat) 0 = A.2.1 x.toNat 0 := b20
    refine ⟨_, ?_, hC.st88 (a := 88) (by omega) (by omega) (fun j => if j < 16 then cov (rcpV A.1 (σ.2.1 (3 + x.toNat))) j else σ.2.1 88 j), Hi.st (by omega), fun k hk => ?_⟩
    · simp (disch := omega) only [ex_gr, lr_0_0 hL, lr_1_1 hL, e_row hL, Option.bind_some, ex_ai, Int.toNat_zero]
      rw [b20', pw_ck_ok (by omega) (by omega), if_neg hz]
      simp (disch := omega) only [ex_gr, lr_0_0 hL, lr_1_1 hL, e_row hL, lr_0_8 hL, ex_gi, g3.1, Option.bind_some, hs, ex_bd]
    · rw [st_eq, if_pos hk]
      have e16 : ∀ k, k < 16 → σ.2.1 (3 + x.toNat) k = A.2.1 x.toNat k := fun k hk => b2 k (by omega) hk
      refine q_uniq hV.1.1 (b := σ.2.1 (3 + x.toNat)) (b' := A.2.1 x.toNat) (by rw [b20']; exact hr0) (by rw [b20']; exact hz) (fun k _ => rcp_rng hV.1.1 _ k) hf2 e16 (fun k hk => ?_) k hk
      rw [heq k]
      exact rcp_eq hV.1.1 (by rw [b20']; exact hr0) (by rw [b20']; exact hz) k
  · obtain ⟨hL, g2, g3, g4, g5, g6⟩ := id hM
    have hN := hL.1
    have := sh_91
    have := sh_97
    have t1 := e_M_clear (σ := σ) (a := 97) (by omega) (by omega)
    generalize hs1 : pw_st σ 97 (fun j => if j < (pw_sh 97).2 then 0 else σ.2.1 97 j) = s1 at t1
    have hM1 : MR s1 A T len E Hs := by rw [← hs1]; exact hM.st96 (by omega) _
    have t2 : pw_si 97 (0 : Int) (1 % (A.1 : Int)) s1 = some (pw_st s1 97 _) := xs_si (by have := hM1.1.1; omega) (by omega) (by omega) (by omega)
    generalize hs2 : pw_st s1 97 (fun j => if j = (0 : Int).toNat then 1 % (A.1 : Int) else s1.2.1 97 j) = s2 at t2
    have hM2 : MR s2 A T len E Hs := by rw [← hs2]; exact hM1.st96 (by omega) _
    have t3 := e_M_take hM2.1 hM2.2.1 (t := 98) (by omega) rfl (by omega) h1.1 h1.2
    generalize hs3 : pw_st s2 98 (fun j => if j < 16 then A.2.1 x.toNat j else s2.2.1 98 j) = s3 at t3
    have hM3 : MR s3 A T len E Hs := by rw [← hs3]; exact hM2.st96 (by omega) _
    have v97 : ∀ k, k < 16 → s3.2.1 97 k = if k = 0 then 1 else 0 := fun k hk => by
      rw [← hs3, st_ne (by omega), ← hs2, st_eq]
      by_cases q : k = 0
      · rw [if_pos (show k = (0 : Int).toNat from q), if_pos q]; exact Int.emod_eq_of_lt (by omega) (by omega)
      · rw [if_neg (show ¬ k = (0 : Int).toNat from q), if_neg q, ← hs1, st_eq, if_pos (by omega)]
    have v98 : ∀ k, k < 16 → s3.2.1 98 k = A.2.1 x.toNat k := fun k hk => by rw [← hs3, st_eq, if_pos hk]
    have t4 := e_M_makeQuotient hM3.1 hM3.2.1.1 hV.1.1 (fun k hk => by rw [v97 k hk]; by_cases q : k = 0 <;> simp only [q, if_true, if_false] <;> omega) (fun k hk => by rw [v98 k hk]; exact hV.1.2.1 x.toNat k (by omega) hk) (by rw [v98 0 (by omega)]; exact hz)
    have n1 := hM1.1.1
    have n2 := hM2.1.1
    refine ⟨_, ?_, hM3.st96 (a := 96) (by omega) (fun j => if j < 16 then cov (qtV A.1 ((iv A.1 (s3.2.1 98 0).toNat : Nat) : Int) (s3.2.1 97) (s3.2.1 98)) j else s3.2.1 96 j), ?_, fun k hk => ?_⟩
    · rw [e_M_term hL g2 h1.1 h1.2 (by omega) (by omega), ex_bd, Int.toNat_zero, pw_ck_ok (by omega) (by omega), if_neg hz]
      have hp1 : s1.2.1 92 0 = A.1 := hM1.2.1.1
      simp (disch := omega) only [ex_gr, lr_91_7 hL, Option.bind_some, t1, ex_bd, lr_91_7 hM1.1, e_M_prime hM1.1, hp1, ex_rem, t2, lr_91_8 hM2.1, t3, t4]
    · rw [← hs3, ← hs2, ← hs1]
      exact (((Lo.st (by omega)).trans (Lo.st (by omega))).trans (Lo.st (by omega))).trans (Lo.st (by omega))
    · rw [st_eq, if_pos hk]
      refine q_uniq hV.1.1 (b := s3.2.1 98) (b' := A.2.1 x.toNat) (by rw [v98 0 (by omega)]; exact hr0) (by rw [v98 0 (by omega)]; exact hz) (fun k _ => qt_rng (by omega) _ _ _ k) hf2 v98 (fun k hk => ?_) k hk
      rw [heq k, qt_eq hV.1.1 (by rw [v98 0 (by omega)]; exact hr0) (by rw [v98 0 (by omega)]; exact hz) k, v97 k hk]
      by_cases q : k = 0
      · rw [if_pos q, if_pos q, fz_one]
      · rw [if_neg q, if_neg q, fz_zero]
