theorem fz_cvI {p : Nat} [NeZero p] (a b : Nat → Int) (k : Nat) : fz p (cvI p a b k) = cv (fun i => fz p (a i)) (fun i => fz p (b i)) k := by
  unfold cvI
  rw [fz_mod, sm_fz]
  exact sm_congr (fun i hi => fz_mul _ _)
/-- the product with the reciprocal is the quotient -/
theorem rq_eq {p : Nat} [NeZero p] (hp : isPb p = true) {a b : Nat → Int} (hb : 0 ≤ b 0 ∧ b 0 < p) (hb0 : b 0 ≠ 0) (k : Nat) : cv (fun i => fz p (cvI p a (cov (rcpV p b)) i)) (fun i => fz p (b i)) k = fz p (a k) := by
  have e1 : (fun i => fz p (cvI p a (cov (rcpV p b)) i)) = cv (fun i => fz p (a i)) (fun i => fz p (cov (rcpV p b) i)) := funext (fun i => fz_cvI _ _ i)
  have e2 : cv (fun i => fz p (cov (rcpV p b) i)) (fun i => fz p (b i)) = cc 1 := funext (fun i => rcp_eq hp hb hb0 i)
  rw [e1, cv_assoc, e2, cv_comm, cv_cc]
  show 1 * fz p (a k) = fz p (a k)
  grind
theorem rcp_cg {p : Nat} [NeZero p] (hp : isPb p = true) {b b' : Nat → Int} (hb : 0 ≤ b 0 ∧ b 0 < p) (hb0 : b 0 ≠ 0) (e : ∀ k, k < 16 → b k = b' k) : ∀ k, k < 16 → cov (rcpV p b) k = cov (rcpV p b') k := by
  have e0 := e 0 (by omega)
  refine q_uniq hp (b := b) (b' := b') hb hb0 (fun k _ => rcp_rng hp _ k) (fun k _ => rcp_rng hp _ k) e (fun k hk => ?_)
  rw [rcp_eq hp hb hb0 k, rcp_eq hp (by rw [← e0]; exact hb) (by rw [← e0]; exact hb0) k]
theorem op_parse {x : Int} (hx : pw_R x) : OpOk (mf_W_parse 0 x) (mf_M_parse 91 x) := by
  apply op_of
  intro A T len E Hs hV
  have hp := isPb_le hV.1.1
  haveI : NeZero A.1 := ⟨by omega⟩
  have hfr := fr_rng (T := T) (len := len) (p := A.1) (by omega)
  have hl := hV.2.1
  by_cases h1 : 0 ≤ x ∧ x < 4
  · have sW : ∀ σ, CR σ A T len E Hs → ∃ s, mf_W_parse 0 x σ = pw_ck (if (fr T len A.1).1 = true then (1 : Int) else 0) 0 (if (fr T len A.1).1 = true then ((pw_gr 9 0 2 s).bind (fun v8 => (pw_gr 2 v8 5 s).bind (fun v9 => (pw_ai v9 (0 : Int) s).bind (fun v10 => pw_ck v10 0 (if v10 = 0 then pw_bd (mf_W_fail 0 (-3 : Int) s) (fun v27 s26 => some (v27, s26)) else (pw_gr 9 0 2 s).bind (fun v11 => (pw_gr 2 v11 5 s).bind (fun v12 => (pw_gr 9 0 9 s).bind (fun v13 => (pw_gr 9 0 0 s).bind (fun v14 => (pw_gi 7 v14 0 s).bind (fun v15 => pw_bd (mf_S_reciprocal v12 v13 v15 s) (fun _ s16 => (pw_gr 9 0 2 s16).bind (fun v17 => (pw_gr 2 v17 4 s16).bind (fun v18 => (pw_gr 9 0 9 s16).bind (fun v19 => (pw_gr 9 0 8 s16).bind (fun v20 => (pw_gr 9 0 0 s16).bind (fun v21 => (pw_gi 7 v21 0 s16).bind (fun v22 => pw_bd (mf_S_product v18 v19 v20 v22 s16) (fun _ s23 => pw_bd (mf_W_store 0 x s23) (fun v25 s24 => some (v25, s24)))))))))))))))))))) else some ((-10 : Int) - (fr T len A.1).2.1, s)) ∧ CR s A T len E Hs ∧ Hi σ s ∧ ((fr T len A.1).1 = true → ∀ j, j < 16 → s.2.1 45 j = (fr T len A.1).2.2.1 j ∧ s.2.1 46 j = (fr T len A.1).2.2.2 j) := by
      intro σ hC
      have hL := hC.1
      have hN := hL.1
      have := sh_0
      have := sh_1
      have := sh_43
      obtain ⟨s, t, hC1, hH1, e1, e2⟩ := e_T_readFraction hC hV
      have n1 := hC1.1.1
      refine ⟨s, ?_, hC1, hH1, e2⟩
      have g3 : σ.2.1 1 0 = A.1 := hC.2.2.1.1
      unfold mf_W_parse
      rw [ex_gd (by omega) (by omega), e_W_isSlot hx, ex_bd, if_pos h1, pw_ck_ok (by omega) (by omega), if_neg (show ¬ (1 : Int) = 0 by omega), ex_gr (by omega) (by omega), lr_0_2 hL, Option.bind_some, ex_gr (by omega) (by omega), lr_0_0 hL, Option.bind_some, ex_gi (by omega) (by omega), Option.bind_some, g3, t, ex_bd, if01]
      by_cases c : (fr T len A.1).1 = true
      · simp only [if_pos c]
      · simp only [if_neg c]
        rw [ex_gr (by omega) (by omega), lr_0_2 hC1.1, Option.bind_some, ex_gi (by omega) (by omega), Option.bind_some, e1]
    have sM : ∀ σ, MR σ A T len E Hs → ∃ s, mf_M_parse 91 x σ = pw_ck (if (fr T len A.1).1 = true then (1 : Int) else 0) 0 (if (fr T len A.1).1 = true then ((pw_gr 10 91 8 s).bind (fun v5 => (pw_ai v5 (0 : Int) s).bind (fun v6 => pw_ck v6 0 (if v6 = 0 then pw_bd (mf_M_fail 91 (-3 : Int) s) (fun v11 s10 => some (v11, s10)) else pw_bd (mf_M_makeQuotient 91 s) (fun _ s7 => pw_bd (mf_M_store 91 x s7) (fun v9 s8 => some (v9, s8))))))) else some ((-10 : Int) - (fr T len A.1).2.1, s)) ∧ MR s A T len E Hs ∧ Lo σ s ∧ ((fr T len A.1).1 = true → ∀ j, j < 16 → s.2.1 97 j = (fr T len A.1).2.2.1 j ∧ s.2.1 98 j = (fr T len A.1).2.2.2 j) := by
      intro σ hM
      have hL := hM.1
      have hN := hL.1
      have := sh_91
      obtain ⟨s, t, hM1, hH1, e1, e2⟩ := e_M_readFraction hM hV
      have n1 := hM1.1.1
      refine ⟨s, ?_, hM1, hH1, e2⟩
      unfold mf_M_parse
      rw [ex_gd (by omega) (by omega), e_M_isSlot hx, ex_bd, if_pos h1, pw_ck_ok (by omega) (by omega), if_neg (show ¬ (1 : Int) = 0 by omega), t, ex_bd, if01]
      by_cases c : (fr T len A.1).1 = true
      · simp only [if_pos c]
      · simp only [if_neg c]
        rw [ex_gi (by omega) (by omega), Option.bind_some, e1]
    generalize fr T len A.1 = F at hfr sW sM
    obtain ⟨ok, pos, top, bot⟩ := F
    dsimp only at hfr sW sM
    cases ok with
    | false =>
      refine ⟨(-10 : Int) - pos, A, T, len, E, Hs, fun σ hC => ?_, fun σ hM => ?_, hV⟩
      · obtain ⟨s, t, hC1, hH1, _⟩ := sW σ hC
        refine ⟨s, ?_, hC1, hH1⟩
        rw [t, pw_ck_ok (b01 _) (by omega)]
        rfl
      · obtain ⟨s, t, hM1, hH1, _⟩ := sM σ hM
        refine ⟨s, ?_, hM1, hH1⟩
        rw [t, pw_ck_ok (b01 _) (by omega)]
        rfl
    | true =>
      sorry
  · refine ⟨-2 - ((0 : Nat) : Int), A, T, len, bump E 0, Hs, w_cong (w_fail A T len E Hs 0 (by omega)) (fun σ hC => ?_), m_cong (m_fail A T len E Hs 0 (by omega)) (fun σ hM => ?_), hV⟩
    · have := hC.1.1
      have := sh_0
      unfold mf_W_parse
      rw [ex_gd (by omega) (by omega), e_W_isSlot hx, ex_bd, if_neg h1, pw_ck_ok (by omega) (by omega), if_pos rfl]; rfl
    · have := hM.1.1
      have := sh_91
      unfold mf_M_parse
      rw [ex_gd (by omega) (by omega), e_M_isSlot hx, ex_bd, if_neg h1, pw_ck_ok (by omega) (by omega), if_pos rfl]; rfl
