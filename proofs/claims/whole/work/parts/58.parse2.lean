theorem fz_cvI {p : Nat} [NeZero p] (a b : Nat → Int) (k : Nat) : fz p (cvI p a b k) = cv (fun i => fz p (a i)) (fun i => fz p (b i)) k := by
  unfold cvI
  rw [fz_mod, sm_fz]
  exact sm_congr (fun i hi => fz_mul _ _)
/-- the product with the reciprocal is the quotient -/
theorem rq_eq {p : Nat} [NeZero p] (hp : isPb p = true) {a b : Nat → Int} (hb : 0 ≤ b 0 ∧ b 0 < p) (hb0 : b 0 ≠ 0) (k : Nat) : cv (fun i => fz p (cvI p a (cov (rcpV p b)) i)) (fun i => fz p (b i)) k = fz p (a k) := by
  have e1 : (fun i => fz p (cvI p a (cov (rcpV p b)) i)) = cv (fun i => fz p (a i)) (fun i => fz p (cov (rcpV p b) i)) := funext (fun i => fz_cvI _ _ i)
  have e2 : cv (fun i => fz p (cov (rcpV p b) i)) (fun i => fz p (b i)) = cc 1 := funext (fun i => rcp_eq hp hb hb0 i)
  rw [e1, cv_assoc, e2, cv_comm, cv_cc]
  show 1 * fz p (a k) = fz p (a k)
  grind
theorem rcp_cg {p : Nat} [NeZero p] (hp : isPb p = true) {b b' : Nat → Int} (hb : 0 ≤ b 0 ∧ b 0 < p) (hb0 : b 0 ≠ 0) (e : ∀ k, k < 16 → b k = b' k) : ∀ k, k < 16 → cov (rcpV p b) k = cov (rcpV p b') k := by
  have e0 := e 0 (by omega)
  refine q_uniq hp (b := b) (b' := b') hb hb0 (fun k _ => rcp_rng hp _ k) (fun k _ => rcp_rng hp _ k) e (fun k hk => ?_)
  rw [rcp_eq hp hb hb0 k, rcp_eq hp (by rw [← e0]; exact hb) (by rw [← e0]; exact hb0) k]
theorem op_parse {x : Int} (hx : pw_R x) : OpOk (mf_W_parse 0 x) (mf_M_parse 91 x) := by
  apply op_of
  intro A T len E Hs hV
  have hp := isPb_le hV.1.1
  haveI : NeZero A.1 := ⟨by omega⟩
  have hfr := fr_rng (T := T) (len := len) (p := A.1) (by omega)
  have hl := hV.2.1
  by_cases h1 : 0 ≤ x ∧ x < 4
  · have sW : ∀ σ, CR σ A T len E Hs → ∃ s, mf_W_parse 0 x σ = pw_ck (if (fr T len A.1).1 = true then (1 : Int) else 0) 0 (if (fr T len A.1).1 = true then ((pw_gr 9 0 2 s).bind (fun v8 => (pw_gr 2 v8 5 s).bind (fun v9 => (pw_ai v9 (0 : Int) s).bind (fun v10 => pw_ck v10 0 (if v10 = 0 then pw_bd (mf_W_fail 0 (-3 : Int) s) (fun v27 s26 => some (v27, s26)) else (pw_gr 9 0 2 s).bind (fun v11 => (pw_gr 2 v11 5 s).bind (fun v12 => (pw_gr 9 0 9 s).bind (fun v13 => (pw_gr 9 0 0 s).bind (fun v14 => (pw_gi 7 v14 0 s).bind (fun v15 => pw_bd (mf_S_reciprocal v12 v13 v15 s) (fun _ s16 => (pw_gr 9 0 2 s16).bind (fun v17 => (pw_gr 2 v17 4 s16).bind (fun v18 => (pw_gr 9 0 9 s16).bind (fun v19 => (pw_gr 9 0 8 s16).bind (fun v20 => (pw_gr 9 0 0 s16).bind (fun v21 => (pw_gi 7 v21 0 s16).bind (fun v22 => pw_bd (mf_S_product v18 v19 v20 v22 s16) (fun _ s23 => pw_bd (mf_W_store 0 x s23) (fun v25 s24 => some (v25, s24)))))))))))))))))))) else some ((-10 : Int) - (fr T len A.1).2.1, s)) ∧ CR s A T len E Hs ∧ Hi σ s ∧ ((fr T len A.1).1 = true → ∀ j, j < 16 → s.2.1 45 j = (fr T len A.1).2.2.1 j ∧ s.2.1 46 j = (fr T len A.1).2.2.2 j) := by
      intro σ hC
      have hL := hC.1
      have hN := hL.1
      have := sh_0
      have := sh_1
      have := sh_43
      obtain ⟨s, t, hC1, hH1, e1, e2⟩ := e_T_readFraction hC hV
      have n1 := hC1.1.1
      refine ⟨s, ?_, hC1, hH1, e2⟩
      have g3 : σ.2.1 1 0 = A.1 := hC.2.2.1.1
      unfold mf_W_parse
      rw [ex_gd (by omega) (by omega), e_W_isSlot hx, ex_bd, if_pos h1, pw_ck_ok (by omega) (by omega), if_neg (show ¬ (1 : Int) = 0 by omega), ex_gr (by omega) (by omega), lr_0_2 hL, Option.bind_some, ex_gr (by omega) (by omega), lr_0_0 hL, Option.bind_some, ex_gi (by omega) (by omega), Option.bind_some, g3, t, ex_bd, if01]
      by_cases c : (fr T len A.1).1 = true
      · simp only [if_pos c]
      · simp only [if_neg c]
        rw [ex_gr (by omega) (by omega), lr_0_2 hC1.1, Option.bind_some, ex_gi (by omega) (by omega), Option.bind_some, e1]
    have sM : ∀ σ, MR σ A T len E Hs → ∃ s, mf_M_parse 91 x σ = pw_ck (if (fr T len A.1).1 = true then (1 : Int) else 0) 0 (if (fr T len A.1).1 = true then ((pw_gr 10 91 8 s).bind (fun v5 => (pw_ai v5 (0 : Int) s).bind (fun v6 => pw_ck v6 0 (if v6 = 0 then pw_bd (mf_M_fail 91 (-3 : Int) s) (fun v11 s10 => some (v11, s10)) else pw_bd (mf_M_makeQuotient 91 s) (fun _ s7 => pw_bd (mf_M_store 91 x s7) (fun v9 s8 => some (v9, s8))))))) else some ((-10 : Int) - (fr T len A.1).2.1, s)) ∧ MR s A T len E Hs ∧ Lo σ s ∧ ((fr T len A.1).1 = true → ∀ j, j < 16 → s.2.1 97 j = (fr T len A.1).2.2.1 j ∧ s.2.1 98 j = (fr T len A.1).2.2.2 j) := by
      intro σ hM
      have hL := hM.1
      have hN := hL.1
      have := sh_91
      obtain ⟨s, t, hM1, hH1, e1, e2⟩ := e_M_readFraction hM hV
      have n1 := hM1.1.1
      refine ⟨s, ?_, hM1, hH1, e2⟩
      unfold mf_M_parse
      rw [ex_gd (by omega) (by omega), e_M_isSlot hx, ex_bd, if_pos h1, pw_ck_ok (by omega) (by omega), if_neg (show ¬ (1 : Int) = 0 by omega), t, ex_bd, if01]
      by_cases c : (fr T len A.1).1 = true
      · simp only [if_pos c]
      · simp only [if_neg c]
        rw [ex_gi (by omega) (by omega), Option.bind_some, e1]
    generalize fr T len A.1 = F at hfr sW sM
    obtain ⟨ok, pos, top, bot⟩ := F
    dsimp only at hfr sW sM
    cases ok with
    | false =>
      refine ⟨(-10 : Int) - pos, A, T, len, E, Hs, fun σ hC => ?_, fun σ hM => ?_, hV⟩
      · obtain ⟨s, t, hC1, hH1, _⟩ := sW σ hC
        refine ⟨s, ?_, hC1, hH1⟩
        rw [t, pw_ck_ok (b01 _) (by omega)]
        rfl
      · obtain ⟨s, t, hM1, hH1, _⟩ := sM σ hM
        refine ⟨s, ?_, hM1, hH1⟩
        rw [t, pw_ck_ok (b01 _) (by omega)]
        rfl
    | true =>
      have hb := (hfr.2 0 (by omega)).2
      by_cases hz : bot 0 = 0
      · refine ⟨-2 - ((1 : Nat) : Int), A, T, len, bump E 1, Hs, fun σ hC => ?_, fun σ hM => ?_, hV⟩
        · obtain ⟨s, t, hC1, hH1, e2⟩ := sW σ hC
          obtain ⟨σ', f1, f2, f3⟩ := w_fail A T len E Hs 1 (by omega) s hC1
          have n1 := hC1.1.1
          have := sh_0
          have := sh_43
          have := sh_46
          have v0 : s.2.1 46 0 = 0 := ((e2 rfl 0 (by omega)).2).trans hz
          refine ⟨σ', ?_, f2, hH1.trans f3⟩
          rw [t, pw_ck_ok (b01 _) (by omega), if_pos rfl, ex_gr (by omega) (by omega), lr_0_2 hC1.1, Option.bind_some, ex_gr (by omega) (by omega), lr_43_5 hC1.1, Option.bind_some, ex_ai (by omega) (by omega) (by omega) (by omega), Option.bind_some, Int.toNat_zero, v0, pw_ck_ok (by omega) (by omega), if_pos rfl]
          exact f1
        · obtain ⟨s, t, hM1, hH1, e2⟩ := sM σ hM
          obtain ⟨σ', f1, f2, f3⟩ := m_fail A T len E Hs 1 (by omega) s hM1
          have n1 := hM1.1.1
          have := sh_91
          have := sh_98
          have v0 : s.2.1 98 0 = 0 := ((e2 rfl 0 (by omega)).2).trans hz
          refine ⟨σ', ?_, f2, hH1.trans f3⟩
          rw [t, pw_ck_ok (b01 _) (by omega), if_pos rfl, ex_gr (by omega) (by omega), lr_91_8 hM1.1, Option.bind_some, ex_ai (by omega) (by omega) (by omega) (by omega), Option.bind_some, Int.toNat_zero, v0, pw_ck_ok (by omega) (by omega), if_pos rfl]
          exact f1
      · have hf2 : ∀ k, k < 16 → 0 ≤ cvI A.1 top (cov (rcpV A.1 bot)) k ∧ cvI A.1 top (cov (rcpV A.1 bot)) k < A.1 := fun k _ => mod_rng (by omega) _
        refine ⟨_, _, _, _, _, _, w_store hV h1.1 h1.2 hf2 (fun σ hC => ?_), m_store hV h1.1 h1.2 hf2 (fun σ hM => ?_), hV.saved (hV.1.row hf2)⟩
        · obtain ⟨s, t, hC1, hH1, e2⟩ := sW σ hC
          have e2 := e2 rfl
          have n1 := hC1.1.1
          have := sh_0
          have := sh_1
          have := sh_43
          have := sh_46
          have v46 : ∀ j, j < 16 → s.2.1 46 j = bot j := fun j hj => (e2 j hj).2
          have v45 : ∀ j, j < 16 → s.2.1 45 j = top j := fun j hj => (e2 j hj).1
          have v0 := v46 0 (by omega)
          have t1 := e_S_reciprocal (σ := s) (a := 46) (t := 89) (p := A.1) (by omega) (by omega) rfl rfl (by omega) hV.1.1 (fun k hk => by rw [v46 k hk]; exact (hfr.2 k hk).2)
          generalize hs1 : pw_st s 89 (fun j => if j < 16 then cov (rcpV A.1 (s.2.1 46)) j else s.2.1 89 j) = s1 at t1
          have hC2 : CR s1 A T len E Hs := by rw [← hs1]; exact hC1.st88 (by omega) (by omega) _
          have n2 := hC2.1.1
          have w45 : ∀ j, j < 16 → s1.2.1 45 j = top j := fun j hj => by rw [← hs1, st_ne (by omega)]; exact v45 j hj
          have w89 : ∀ j, j < 16 → s1.2.1 89 j = cov (rcpV A.1 bot) j := fun j hj => by
            rw [← hs1, st_eq, if_pos hj]
            exact rcp_cg hV.1.1 (by rw [v0]; exact hb) (by rw [v0]; exact hz) v46 j hj
          have t2 := e_S_product (σ := s1) (a := 45) (b := 89) (t := 88) (p := A.1) (by omega) (by omega) (by omega) rfl rfl rfl (by omega) (by omega) (by omega) (by omega) (fun k hk => by rw [w45 k hk]; have := (hfr.2 k hk).1; omega) (fun k hk => by rw [w89 k hk]; have := rcp_rng hV.1.1 bot k; omega)
          have g3 : s.2.1 1 0 = A.1 := hC1.2.2.1.1
          have g3' : s1.2.1 1 0 = A.1 := hC2.2.2.1.1
          refine ⟨_, ?_, hC2.st88 (a := 88) (by omega) (by omega) (fun j => if j < 16 then cvI A.1 (s1.2.1 45) (s1.2.1 89) j else s1.2.1 88 j), ?_, fun k hk => ?_⟩
          · rw [t, pw_ck_ok (b01 _) (by omega), if_pos rfl, ex_gr (by omega) (by omega), lr_0_2 hC1.1, Option.bind_some, ex_gr (by omega) (by omega), lr_43_5 hC1.1, Option.bind_some, ex_ai (by omega) (by omega) (by omega) (by omega), Option.bind_some, Int.toNat_zero, v0, pw_ck_ok (by omega) (by omega), if_neg hz]
            simp (disch := omega) only [ex_gr, lr_0_2 hC1.1, lr_43_5 hC1.1, lr_0_9 hC1.1, lr_0_0 hC1.1, ex_gi, g3, Option.bind_some, t1, ex_bd, lr_0_2 hC2.1, lr_43_4 hC2.1, lr_0_9 hC2.1, lr_0_8 hC2.1, lr_0_0 hC2.1, g3', t2]
          · refine hH1.trans ?_
            rw [← hs1]
            exact (Hi.st (by omega)).trans (Hi.st (by omega))
          · rw [st_eq, if_pos hk]
            exact cvI_congr (fun i hi => w45 i (by omega)) (fun i hi => w89 i (by omega))
        · obtain ⟨s, t, hM1, hH1, e2⟩ := sM σ hM
          have e2 := e2 rfl
          have n1 := hM1.1.1
          have := sh_91
          have := sh_98
          have v97 : ∀ j, j < 16 → s.2.1 97 j = top j := fun j hj => (e2 j hj).1
          have v98 : ∀ j, j < 16 → s.2.1 98 j = bot j := fun j hj => (e2 j hj).2
          have v0 := v98 0 (by omega)
          have t4 := e_M_makeQuotient hM1.1 hM1.2.1.1 hV.1.1 (fun k hk => by rw [v97 k hk]; exact (hfr.2 k hk).1) (fun k hk => by rw [v98 k hk]; exact (hfr.2 k hk).2) (by rw [v0]; exact hz)
          refine ⟨_, ?_, hM1.st96 (a := 96) (by omega) (fun j => if j < 16 then cov (qtV A.1 ((iv A.1 (s.2.1 98 0).toNat : Nat) : Int) (s.2.1 97) (s.2.1 98)) j else s.2.1 96 j), hH1.trans (Lo.st (by omega)), fun k hk => ?_⟩
          · rw [t, pw_ck_ok (b01 _) (by omega), if_pos rfl, ex_gr (by omega) (by omega), lr_91_8 hM1.1, Option.bind_some, ex_ai (by omega) (by omega) (by omega) (by omega), Option.bind_some, Int.toNat_zero, pw_ck_ok (by omega) (by omega), if_neg (by rw [v0]; exact hz), t4, ex_bd]
          · rw [st_eq, if_pos hk]
            refine q_uniq hV.1.1 (b := s.2.1 98) (b' := bot) (by rw [v0]; exact hb) (by rw [v0]; exact hz) (fun k _ => qt_rng (by omega) _ _ _ k) hf2 v98 (fun k hk => ?_) k hk
            rw [qt_eq hV.1.1 (by rw [v0]; exact hb) (by rw [v0]; exact hz) k, rq_eq hV.1.1 hb hz k, v97 k hk]
  · refine ⟨-2 - ((0 : Nat) : Int), A, T, len, bump E 0, Hs, w_cong (w_fail A T len E Hs 0 (by omega)) (fun σ hC => ?_), m_cong (m_fail A T len E Hs 0 (by omega)) (fun σ hM => ?_), hV⟩
    · have := hC.1.1
      have := sh_0
      unfold mf_W_parse
      rw [ex_gd (by omega) (by omega), e_W_isSlot hx, ex_bd, if_neg h1, pw_ck_ok (by omega) (by omega), if_pos rfl]; rfl
    · have := hM.1.1
      have := sh_91
      unfold mf_M_parse
      rw [ex_gd (by omega) (by omega), e_M_isSlot hx, ex_bd, if_neg h1, pw_ck_ok (by omega) (by omega), if_pos rfl]; rfl
