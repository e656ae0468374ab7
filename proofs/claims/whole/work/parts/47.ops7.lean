/-- two slots, or an INVALID -/
theorem op_two {fW fM : Int → Int → pw_Sto → Option (Int × pw_Sto)} {gW gM : Nat → Int → Int → pw_Sto → Option (Int × pw_Sto)} {x y : Int} (hx : pw_R x) (hy : pw_R y)
    (eW : ∀ σ, Lay σ → fW x y σ = pw_bd (mf_W_isSlot x σ) (fun v2 s1 => pw_ck v2 0 (if v2 = 0 then pw_bd (mf_W_fail 0 (-2 : Int) s1) (fun v s => some (v, s)) else pw_bd (mf_W_isSlot y s1) (fun v6 s5 => pw_ck v6 0 (if v6 = 0 then pw_bd (mf_W_fail 0 (-2 : Int) s5) (fun v s => some (v, s)) else gW 0 x y s5)))))
    (eM : ∀ σ, Lay σ → fM x y σ = pw_bd (mf_M_isSlot x σ) (fun v2 s1 => pw_ck v2 0 (if v2 = 0 then pw_bd (mf_M_fail 91 (-2 : Int) s1) (fun v s => some (v, s)) else pw_bd (mf_M_isSlot y s1) (fun v6 s5 => pw_ck v6 0 (if v6 = 0 then pw_bd (mf_M_fail 91 (-2 : Int) s5) (fun v s => some (v, s)) else gM 91 x y s5)))))
    (hin : (0 ≤ x ∧ x < 4) → (0 ≤ y ∧ y < 4) → ∀ A T len E Hs, VR A T len Hs → ∃ r A' T' len' E' Hs', WOp (gW 0 x y) A T len E Hs r A' T' len' E' Hs' ∧ MOp (gM 91 x y) A T len E Hs r A' T' len' E' Hs' ∧ VR A' T' len' Hs') : OpOk (fW x y) (fM x y) := by
  apply op_of
  intro A T len E Hs hV
  by_cases h : (0 ≤ x ∧ x < 4) ∧ (0 ≤ y ∧ y < 4)
  · obtain ⟨r, A', T', len', E', Hs', a, b, c⟩ := hin h.1 h.2 A T len E Hs hV
    refine ⟨r, A', T', len', E', Hs', w_cong a (fun σ hC => ?_), m_cong b (fun σ hM => ?_), c⟩
    · rw [eW σ hC.1, e_W_isSlot hx, ex_bd, if_pos h.1, pw_ck_ok (by omega) (by omega), if_neg (show ¬ (1 : Int) = 0 by omega), e_W_isSlot hy, ex_bd, if_pos h.2, pw_ck_ok (by omega) (by omega), if_neg (show ¬ (1 : Int) = 0 by omega)]
    · rw [eM σ hM.1, e_M_isSlot hx, ex_bd, if_pos h.1, pw_ck_ok (by omega) (by omega), if_neg (show ¬ (1 : Int) = 0 by omega), e_M_isSlot hy, ex_bd, if_pos h.2, pw_ck_ok (by omega) (by omega), if_neg (show ¬ (1 : Int) = 0 by omega)]
  · refine ⟨-2 - ((0 : Nat) : Int), A, T, len, bump E 0, Hs, w_cong (w_fail A T len E Hs 0 (by omega)) (fun σ hC => ?_), m_cong (m_fail A T len E Hs 0 (by omega)) (fun σ hM => ?_), hV⟩
    · rw [eW σ hC.1, e_W_isSlot hx, ex_bd]
      by_cases h1 : 0 ≤ x ∧ x < 4
      · rw [if_pos h1, pw_ck_ok (by omega) (by omega), if_neg (show ¬ (1 : Int) = 0 by omega), e_W_isSlot hy, ex_bd, if_neg (by omega), pw_ck_ok (by omega) (by omega), if_pos rfl]; rfl
      · rw [if_neg h1, pw_ck_ok (by omega) (by omega), if_pos rfl]; rfl
    · rw [eM σ hM.1, e_M_isSlot hx, ex_bd]
      by_cases h1 : 0 ≤ x ∧ x < 4
      · rw [if_pos h1, pw_ck_ok (by omega) (by omega), if_neg (show ¬ (1 : Int) = 0 by omega), e_M_isSlot hy, ex_bd, if_neg (by omega), pw_ck_ok (by omega) (by omega), if_pos rfl]; rfl
      · rw [if_neg h1, pw_ck_ok (by omega) (by omega), if_pos rfl]; rfl
def slI (p : Nat) (a : Nat → Int) (k : Nat) : Int := if k = 15 then 0 else (((k : Int) + 1) * a (k + 1)) % p
theorem e_S_slope {σ : pw_Sto} {a t p : Nat} (ha : a < σ.1) (ht : t < σ.1) (sa : pw_sh a = (11, 16)) (s3 : pw_sh t = (11, 16)) (hta : t ≠ a) (hp : 2 ≤ p) (hp2 : p ≤ 251) (va : ∀ k, k < 16 → 0 ≤ σ.2.1 a k ∧ σ.2.1 a k ≤ 250) : mf_S_slope a t p σ = some ((), pw_st σ t (fun j => if j < 16 then slI p (σ.2.1 a) j else σ.2.1 t j)) := by
  have ea : (pw_sh a).1 = 11 ∧ (pw_sh a).2 = 16 := by rw [sa]; exact ⟨rfl, rfl⟩
  have et : (pw_sh t).1 = 11 ∧ (pw_sh t).2 = 16 := by rw [s3]; exact ⟨rfl, rfl⟩
  have h := lp_fill (O := Unit × pw_Sto) (fun n k s => ml_S_slope_2 n a t p (k + 1) s) σ t 0 15 (fun k => slI p (σ.2.1 a) k) (fun s => (pw_si t (15 : Int) (0 : Int) s).bind (fun s1 => some ((), s1)))
    (by
      intro n k hh hk0 hk g1 g2
      have w1 := va (k + 1) (by omega)
      have w2 := imul250 (a := (k : Int) + 1) (by omega) (by omega) w1.1 (by omega)
      try dsimp only
      rw [us_S_slope_2]
      unfold mb_S_slope_2
      rw [pw_ck_ok (by omega) (by omega), if_neg (by omega), ex_ai (by rw [st_1]; omega) (by omega) (by omega) (by omega), Option.bind_some, st_ne (Ne.symm hta), show ((k : Int) + 1).toNat = k + 1 by omega, e_K_times w2.1 (by omega) (by omega) (by omega), ex_bd, xs_si (by rw [st_1]; omega) (by omega) (by omega) (by omega), Option.bind_some, st_st, st_eq, show ((k : Int) + 1 - 1).toNat = k by omega]
      have es : (((k : Int) + 1) * σ.2.1 a (k + 1)) % p = slI p (σ.2.1 a) k := by unfold slI; rw [if_neg (by omega)]
      rw [es, show (k : Int) + 1 + 1 = ((k + 1 : Nat) : Int) + 1 by omega])
    (by
      intro n hh
      try dsimp only
      rw [us_S_slope_2]
      unfold mb_S_slope_2
      rw [pw_ck_ok (by omega) (by omega), if_pos (by omega)]) 1000 (by omega) (by omega)
  unfold mf_S_slope
  have h' : ml_S_slope_2 1000 a t p 1 σ = _ := h
  rw [h', xs_si (by rw [st_1]; omega) (by omega) (by omega) (by omega), Option.bind_some, st_st, st_eq]
  refine congrArg (fun z => some ((), z)) (st_congr fun j => ?_)
  by_cases q : j = 15
  · rw [if_pos (show j = (15 : Int).toNat from q), if_pos (by omega)]
    unfold slI
    rw [if_pos q]
  · rw [if_neg (show ¬ j = (15 : Int).toNat from q)]
    by_cases q2 : j < 16
    · rw [if_pos q2, if_pos (by omega)]
    · rw [if_neg q2, if_neg (by omega)]
theorem sl_rng {p : Nat} (hp : 2 ≤ p) (a : Nat → Int) (k : Nat) : 0 ≤ slI p a k ∧ slI p a k < p := by
  unfold slI
  by_cases q : k = 15
  · rw [if_pos q]; omega
  · rw [if_neg q]; exact mod_rng hp _
theorem op_derivative {x y : Int} (hx : pw_R x) (hy : pw_R y) : OpOk (mf_W_derivative 0 x y) (mf_M_derivative 91 x y) := by
  refine op_two (fW := mf_W_derivative 0) (fM := mf_M_derivative 91) (gW := fun x0 x1 x2 s5 => (pw_gr 9 x0 0 s5).bind (fun v7 => (pw_gr 7 v7 1 s5).bind (fun v8 => (pw_ar 13 v8 x1 s5).bind (fun v9 => (pw_gr 9 x0 8 s5).bind (fun v10 => (pw_gr 9 x0 0 s5).bind (fun v11 => (pw_gi 7 v11 0 s5).bind (fun v12 => pw_bd (mf_S_slope v9 v10 v12 s5) (fun _ s13 => pw_bd (mf_W_store x0 x2 s13) (fun v15 s14 => some (v15, s14)))))))))) (gM := fun x0 x1 x2 s5 => ml_M_derivative_23 1000 x0 x1 x2 (0 : Int) s5) hx hy (fun σ hL => ?_) (fun σ hL => ?_) (fun h1 h2 A T len E Hs hV => ?_)
  · have hN := hL.1
    have := sh_0
    unfold mf_W_derivative
    rw [ex_gd (by omega) (by omega)]
    rfl
  · have hN := hL.1
    have := sh_91
    unfold mf_M_derivative
    rw [ex_gd (by omega) (by omega)]
    rfl
  have hp := isPb_le hV.1.1
  have hf2 : ∀ k, k < 16 → 0 ≤ slI A.1 (A.2.1 x.toNat) k ∧ slI A.1 (A.2.1 x.toNat) k < A.1 := fun k _ => sl_rng (by omega) _ k
  refine ⟨_, _, _, _, _, _, w_store hV h2.1 h2.2 hf2 (fun σ hC => ?_), m_store hV h2.1 h2.2 hf2 (fun σ hM => ?_), hV.saved (hV.1.row hf2)⟩
  · obtain ⟨hL, _, g3, g4, g5, g6⟩ := id hC
    have hN := hL.1
    have := sh_0
    have := sh_1
    have := sh_88
    have b2 := g3.2.1
    have hs := e_S_slope (σ := σ) (a := 3 + x.toNat) (t := 88) (p := A.1) (by omega) (by omega) (sh_rowp (by omega)) rfl (by omega) (by omega) (by omega) (fun k hk => by rw [b2 x.toNat k (by omega) hk]; exact row250 hV.1 (by omega) hk)
    refine ⟨_, ?_, hC.st88 (a := 88) (by omega) (by omega) (fun j => if j < 16 then slI A.1 (σ.2.1 (3 + x.toNat)) j else σ.2.1 88 j), Hi.st (by omega), fun k hk => ?_⟩
    · simp (disch := omega) only [ex_gr, lr_0_0 hL, lr_1_1 hL, e_row hL, lr_0_8 hL, ex_gi, g3.1, Option.bind_some, hs, ex_bd]
    · rw [st_eq, if_pos hk]
      unfold slI
      by_cases q : k = 15
      · rw [if_pos q, if_pos q]
      · rw [if_neg q, if_neg q, b2 x.toNat (k + 1) (by omega) (by omega)]
  · obtain ⟨hL, g2, g3, g4, g5, g6⟩ := id hM
    have hN := hL.1
    have := sh_91
    have := sh_96
    have hlp := lp_fill (O := Int × pw_Sto) (fun n k s => ml_M_derivative_23 n 91 x y k s) σ 96 0 16 (fun k => slI A.1 (A.2.1 x.toNat) k) (fun s => pw_bd (mf_M_store 91 y s) (fun v s' => some (v, s')))
      (by
        intro n k hh hk0 hk w1 w2
        have hL' : Lay (pw_st σ 96 hh) := hL
        have hS' : StM (pw_st σ 96 hh) 92 0 A := g2.kept (st_ne (by omega))
        try dsimp only
        rw [us_M_derivative_23]
        unfold mb_M_derivative_23
        rw [pw_ck_ok (by omega) (by omega), if_neg (by omega), ex_gr (by rw [st_1]; omega) (by omega), lr_91_6 hL', Option.bind_some, pw_ck_ok (by omega) (by omega)]
        unfold slI
        by_cases q : k = 15
        · rw [if_pos (show (k : Int) = 15 by omega), xs_si (by rw [st_1]; omega) (by omega) (by omega) (by omega), Option.bind_some, st_st, st_eq, Int.toNat_natCast, if_pos q]
          rfl
        · have r1 := row250 hV.1 (s := x.toNat) (k := k + 1) (by omega) (by omega)
          have r2 := imul250 (a := (k : Int) + 1) (by omega) (by omega) r1.1 (by omega)
          rw [if_neg (show ¬ (k : Int) = 15 by omega), e_M_term hL' hS' h1.1 h1.2 (by omega) (by omega), ex_bd, show ((k : Int) + 1).toNat = k + 1 by omega, e_M_mod hL' hS'.1 (by omega) (by omega) (by omega), ex_bd, xs_si (by rw [st_1]; omega) (by omega) (by omega) (by omega), Option.bind_some, st_st, st_eq, Int.toNat_natCast, if_neg q]
          rfl)
      (by
        intro n hh
        try dsimp only
        rw [us_M_derivative_23]
        unfold mb_M_derivative_23
        rw [pw_ck_ok (by omega) (by omega), if_pos (by omega)]) 1000 (by omega) (by omega)
    refine ⟨_, hlp, hM.st96 (by omega) _, Lo.st (by omega), fun k hk => ?_⟩
    rw [st_eq, if_pos (by omega)]
/-! ## quotients of series: one equation -/
theorem sm_fz {p : Nat} [NeZero p] (f : Nat → Int) (n : Nat) : fz p (sm f n) = sm (fun i => fz p (f i)) n := by
  induction n with
  | zero => exact fz_zero
  | succ n ih =>
    show fz p (sm f n + f n) = sm (fun i => fz p (f i)) n + fz p (f n)
    rw [fz_add, ih]
/-- two series with the same product by b, whose constant term has an inverse, are the same -/
theorem cv_uniq {R : Type} [Lean.Grind.CommRing R] {q q' b : Nat → R} {w : R} (hw : b 0 * w = 1) {n : Nat} (h : ∀ k, k < n → cv q b k = cv q' b k) : ∀ k, k < n → q k = q' k := by
  intro k
  induction k using Nat.strongRecOn with
  | _ k ih =>
    intro hk
    have h1 := h k hk
    have h2 : sm (fun i => q i * b (k - i)) k + q k * b (k - k) = sm (fun i => q' i * b (k - i)) k + q' k * b (k - k) := h1
    rw [sm_congr (g := fun i => q' i * b (k - i)) (fun i hi => by rw [ih i hi (by omega)]), Nat.sub_self] at h2
    have h3 : q k * b 0 = q' k * b 0 := by grind
    have h4 : q k * b 0 * w = q' k * b 0 * w := by rw [h3]
    grind
/-- the reciprocal, and the quotient, as equations -/
theorem rcp_eq {p : Nat} [NeZero p] (hp : isPb p = true) {a : Nat → Int} (ha : 0 ≤ a 0 ∧ a 0 < p) (ha0 : a 0 ≠ 0) (k : Nat) : cv (fun i => fz p (cov (rcpV p a) i)) (fun i => fz p (a i)) k = if k = 0 then 1 else 0 := by
  have hp2 := isPb_le hp
  have hiv := fz_iv (p := p) (a := (a 0).toNat) hp (by omega) (by omega)
  rw [show (((a 0).toNat : Nat) : Int) = a 0 by omega] at hiv
  rw [cv_comm]
  show sm (fun i => fz p (a i) * fz p (cov (rcpV p a) (k - i))) (k + 1) = _
  rw [sm_first]
  show fz p (a 0) * fz p (cov (rcpV p a) (k - 0)) + sm (fun i => fz p (a (i + 1)) * fz p (cov (rcpV p a) (k - (i + 1)))) k = _
  rw [Nat.sub_zero, cov_eq (rcpV_ok p a) k]
  unfold rcpV
  by_cases hk : k = 0
  · subst hk
    rw [if_pos rfl, if_pos rfl, hiv]
    show (1 : Fin p) + 0 = 1
    grind
  · rw [if_neg hk, if_neg hk, fz_mod, fz_sub, fz_mod, fz_mul, fz_mod, sm_fz]
    have e1 : sm (fun i => fz p (a (i + 1) * cov (rcpV p a) (k - (i + 1)))) k = sm (fun i => fz p (a (i + 1)) * fz p (cov (rcpV p a) (k - (i + 1)))) k := sm_congr (fun i hi => fz_mul _ _)
    have e2 : fz p (p : Int) = 0 := by rw [← fz_zero, fz_iff]; simp
    have e3 : rcpV p a = fun k f => if k = 0 then ((iv p (a 0).toNat : Nat) : Int) else ((p : Int) - ((sm (fun i => a (i + 1) * f (k - (i + 1))) k) % p * ((iv p (a 0).toNat : Nat) : Int)) % p) % p := rfl
    rw [← e3, e1, e2]
    generalize sm (fun i => fz p (a (i + 1)) * fz p (cov (rcpV p a) (k - (i + 1)))) k = S
    grind
theorem qt_eq {p : Nat} [NeZero p] (hp : isPb p = true) {a b : Nat → Int} (hb : 0 ≤ b 0 ∧ b 0 < p) (hb0 : b 0 ≠ 0) (k : Nat) : cv (fun i => fz p (cov (qtV p ((iv p (b 0).toNat : Nat) : Int) a b) i)) (fun i => fz p (b i)) k = fz p (a k) := by
  have hp2 := isPb_le hp
  have hiv := fz_iv (p := p) (a := (b 0).toNat) hp (by omega) (by omega)
  rw [show (((b 0).toNat : Nat) : Int) = b 0 by omega] at hiv
  generalize hw : ((iv p (b 0).toNat : Nat) : Int) = w at hiv
  show sm (fun i => fz p (cov (qtV p w a b) i) * fz p (b (k - i))) k + fz p (cov (qtV p w a b) k) * fz p (b (k - k)) = _
  have e0 : cov (qtV p w a b) k = ((a k + sm (fun i => -(cov (qtV p w a b) i * b (k - i))) k) % p * w) % p := cov_eq (qtV_ok p w a b) k
  rw [e0, Nat.sub_self, fz_mod, fz_mul, fz_mod, fz_add, sm_fz]
  have e1 : sm (fun i => fz p (-(cov (qtV p w a b) i * b (k - i)))) k = sm (fun i => (-1) * (fz p (cov (qtV p w a b) i) * fz p (b (k - i)))) k := sm_congr (fun i hi => by rw [fz_neg, fz_mul]; grind)
  rw [e1, sm_mul]
  generalize sm (fun i => fz p (cov (qtV p w a b) i) * fz p (b (k - i))) k = S
  grind
