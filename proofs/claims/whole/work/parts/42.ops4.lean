theorem e_Z_hasPointAt {σ : pw_Sto} {A : ASt} (hL : Lay σ) (hS : StC σ 1 A) (hV : VA A) {x : Int} (hx : pw_R x) : ((∃ i, i < A.2.2.1 ∧ A.2.2.2.1 i = x) → mf_Z_hasPointAt 1 x σ = some (1, σ)) ∧ ((¬ ∃ i, i < A.2.2.1 ∧ A.2.2.2.1 i = x) → mf_Z_hasPointAt 1 x σ = some (0, σ)) := by
  have hN := hL.1
  have := sh_1
  have := sh_7
  have hp := isPb_le hV.1
  have hN10 := hV.2.2.1
  have key : ∀ (n k : Nat), k ≤ A.2.2.1 → A.2.2.1 < n + k → (∀ j, j < k → A.2.2.2.1 j ≠ x) → ((∃ i, i < A.2.2.1 ∧ A.2.2.2.1 i = x) → ml_Z_hasPointAt_2 n 1 x k σ = some (1, σ)) ∧ ((¬ ∃ i, i < A.2.2.1 ∧ A.2.2.2.1 i = x) → ml_Z_hasPointAt_2 n 1 x k σ = some (0, σ)) := by
    intro n
    induction n with
    | zero => intro k h1 h2; omega
    | succ n ih =>
      intro k h1 h2 h3
      have e : ml_Z_hasPointAt_2 (n + 1) 1 x k σ = mb_Z_hasPointAt_2 (ml_Z_hasPointAt_2 n) 1 x k σ := rfl
      rw [e]
      unfold mb_Z_hasPointAt_2
      rw [ex_gi (by omega) (by omega), Option.bind_some, hS.2.2.1, pw_ck_ok (by omega) (by omega)]
      by_cases hk : k < A.2.2.1
      · have hxk := (hV.2.2.2.1 k hk).1
        rw [if_neg (by omega), pw_ck_ok (by omega) (by omega), if_neg (by omega), ex_gr (by omega) (by omega), lr_1_3 hL, Option.bind_some, ex_ai (by omega) (by omega) (by omega) (by omega), Option.bind_some, Int.toNat_natCast, show σ.2.1 7 k = _ from (hS.2.2.2 k hk).1, pw_ck_ok (by omega) hx]
        by_cases hq : A.2.2.2.1 k = x
        · rw [if_pos hq]
          exact ⟨fun _ => rfl, fun w => absurd ⟨k, hk, hq⟩ w⟩
        · rw [if_neg hq]
          exact ih (k + 1) (by omega) (by omega) (fun j hj => by
            by_cases hjk : j = k
            · rw [hjk]; exact hq
            · exact h3 j (by omega))
      · rw [if_pos (by omega)]
        refine ⟨fun w => ?_, fun _ => rfl⟩
        obtain ⟨i, hi, hix⟩ := w
        exact absurd hix (h3 i (by omega))
  unfold mf_Z_hasPointAt
  rw [ex_gd (by omega) (by omega)]
  exact key 1000 0 (by omega) (by omega) (fun j hj => by omega)
theorem op_addPoint {x y : Int} (hx : pw_R x) (hy : pw_R y) : OpOk (mf_W_addPoint 0 x y) (mf_M_addPoint 91 x y) := by
  apply op_of
  intro A T len E Hs hV
  have hp := isPb_le hV.1.1
  have hN10 := hV.1.2.2.1
  -- the model's search
  have mloop : ∀ (σ : pw_Sto), MR σ A T len E Hs → ∀ (n k : Nat), k ≤ A.2.2.1 → A.2.2.1 < n + k → (∀ j, j < k → A.2.2.2.1 j ≠ x) → ((∃ i, i < A.2.2.1 ∧ A.2.2.2.1 i = x) → ml_M_addPoint_37 n 91 x y k σ = pw_bd (mf_M_fail 91 (-3) σ) (fun v s => some (v, s))) ∧ ((¬ ∃ i, i < A.2.2.1 ∧ A.2.2.2.1 i = x) → ml_M_addPoint_37 n 91 x y k σ = pw_ck (A.2.2.1 : Int) 10 (if (A.2.2.1 : Int) = 10 then pw_bd (mf_M_fail 91 (-4) σ) (fun v s => some (v, s)) else pw_bd (mf_M_save 91 σ) (fun _ s15 => (pw_gr 10 91 0 s15).bind (fun v16 => pw_bd (mf_M_points 91 s15) (fun v18 s17 => (pw_si v16 ((66 : Int) + v18) x s17).bind (fun s19 => (pw_gr 10 91 0 s19).bind (fun v20 => pw_bd (mf_M_points 91 s19) (fun v22 s21 => (pw_si v20 ((76 : Int) + v22) y s21).bind (fun s23 => (pw_gr 10 91 0 s23).bind (fun v24 => (pw_ai v24 (65 : Int) s23).bind (fun v25 => (pw_si v24 (65 : Int) (v25 + (1 : Int)) s23).bind (fun s26 => pw_bd (mf_M_points 91 s26) (fun v28 s27 => some (v28, s27)))))))))))))) := by
    intro σ hM n
    obtain ⟨hL, h2, h3, h4, h5, h6⟩ := id hM
    have hN := hL.1
    have := sh_91
    have := sh_92
    induction n with
    | zero => intro k h1 h2; omega
    | succ n ih =>
      intro k g1 g2 g3
      have e : ml_M_addPoint_37 (n + 1) 91 x y k σ = mb_M_addPoint_37 (ml_M_addPoint_37 n) 91 x y k σ := rfl
      rw [e]
      unfold mb_M_addPoint_37
      have hpt : mf_M_points 91 σ = some ((A.2.2.1 : Int), σ) := by rw [e_M_points hL, show σ.2.1 92 65 = _ from h2.2.2.1]
      rw [hpt, ex_bd, pw_ck_ok (by omega) (by omega)]
      by_cases hk : k < A.2.2.1
      · have hxk := (hV.1.2.2.2.1 k hk).1
        rw [if_neg (by omega), ex_gr (by omega) (by omega), lr_91_0 hL, Option.bind_some, ex_ai (by omega) (by omega) (by omega) (by omega), Option.bind_some, show (66 + (k : Int)).toNat = 0 + 66 + k by omega, (h2.2.2.2 k hk).1, pw_ck_ok (by omega) hx]
        by_cases hq : A.2.2.2.1 k = x
        · rw [if_pos hq]
          exact ⟨fun _ => rfl, fun w => absurd ⟨k, hk, hq⟩ w⟩
        · rw [if_neg hq]
          exact ih (k + 1) (by omega) (by omega) (fun j hj => by
            by_cases hjk : j = k
            · rw [hjk]; exact hq
            · exact g3 j (by omega))
      · rw [if_pos (by omega)]
        refine ⟨fun w => ?_, fun _ => ?_⟩
        · obtain ⟨i, hi, hix⟩ := w
          exact absurd hix (g3 i (by omega))
        · rw [hpt, ex_bd]
  by_cases h : (0 ≤ x ∧ x < A.1) ∧ (0 ≤ y ∧ y < A.1)
  · -- both sides' checks of the arguments
    have wpre : ∀ (σ : pw_Sto), CR σ A T len E Hs → mf_W_addPoint 0 x y σ = pw_bd (mf_Z_hasPointAt 1 x σ) (fun v9 s8 => pw_ck v9 0 (if v9 = 0 then (pw_gr 9 0 0 s8).bind (fun v10 => (pw_gi 7 v10 2 s8).bind (fun v11 => pw_ck v11 (10 : Int) (if v11 < (10 : Int) then (pw_gr 9 0 1 s8).bind (fun v12 => (pw_gr 9 0 0 s8).bind (fun v13 => pw_bd (mf_H_keep v12 v13 s8) (fun _ s14 => (pw_gr 9 0 0 s14).bind (fun v15 => pw_bd (mf_Z_putPoint v15 x y s14) (fun _ s16 => (pw_gr 9 0 0 s16).bind (fun v17 => (pw_gi 7 v17 2 s16).bind (fun v18 => some (v18, s16)))))))) else pw_bd (mf_W_fail 0 (-4 : Int) s8) (fun v20 s19 => some (v20, s19))))) else pw_bd (mf_W_fail 0 (-3 : Int) s8) (fun v22 s21 => some (v22, s21)))) := by
      intro σ hC
      have hN := hC.1.1
      have := sh_0
      unfold mf_W_addPoint
      rw [ex_gd (by omega) (by omega), e_W_isElement hC.1 hC.2.2.1.1 (by omega) hx, ex_bd, if_pos h.1, pw_ck_ok (by omega) (by omega), if_neg (show ¬ (1 : Int) = 0 by omega), e_W_isElement hC.1 hC.2.2.1.1 (by omega) hy, ex_bd, if_pos h.2, pw_ck_ok (by omega) (by omega), if_neg (show ¬ (1 : Int) = 0 by omega), ex_gr (by omega) (by omega), lr_0_0 hC.1, Option.bind_some]
    have mpre : ∀ (σ : pw_Sto), MR σ A T len E Hs → mf_M_addPoint 91 x y σ = ml_M_addPoint_37 1000 91 x y 0 σ := by
      intro σ hM
      have hN := hM.1.1
      have := sh_91
      unfold mf_M_addPoint
      rw [ex_gd (by omega) (by omega), e_M_prime hM.1, ex_bd, hM.2.1.1, e_M_in hx (by omega) (by omega), ex_bd, if_pos (by omega), pw_ck_ok (by omega) (by omega), if_neg (show ¬ (1 : Int) = 0 by omega), e_M_prime hM.1, ex_bd, hM.2.1.1, e_M_in hy (by omega) (by omega), ex_bd, if_pos (by omega), pw_ck_ok (by omega) (by omega), if_neg (show ¬ (1 : Int) = 0 by omega)]
    by_cases hex : ∃ i, i < A.2.2.1 ∧ A.2.2.2.1 i = x
    · refine ⟨-2 - ((1 : Nat) : Int), A, T, len, bump E 1, Hs, w_cong (w_fail A T len E Hs 1 (by omega)) (fun σ hC => ?_), m_cong (m_fail A T len E Hs 1 (by omega)) (fun σ hM => ?_), hV⟩
      · rw [wpre σ hC, (e_Z_hasPointAt hC.1 hC.2.2.1 hV.1 hx).1 hex, ex_bd, pw_ck_ok (by omega) (by omega), if_neg (show ¬ (1 : Int) = 0 by omega)]
        rfl
      · rw [mpre σ hM, show (0 : Int) = ((0 : Nat) : Int) from rfl, (mloop σ hM 1000 0 (by omega) (by omega) (fun j hj => by omega)).1 hex]
        rfl
    · by_cases hfull : A.2.2.1 = 10
      · refine ⟨-2 - ((2 : Nat) : Int), A, T, len, bump E 2, Hs, w_cong (w_fail A T len E Hs 2 (by omega)) (fun σ hC => ?_), m_cong (m_fail A T len E Hs 2 (by omega)) (fun σ hM => ?_), hV⟩
        · obtain ⟨hL, h2, h3, h4, h5, h6⟩ := id hC
          have hN := hL.1
          have := sh_0
          have := sh_1
          rw [wpre σ hC, (e_Z_hasPointAt hC.1 hC.2.2.1 hV.1 hx).2 hex, ex_bd, pw_ck_ok (by omega) (by omega), if_pos (show (0 : Int) = 0 from rfl)]
          simp (disch := omega) only [ex_gr, lr_0_0 hL, ex_gi, Option.bind_some, h3.2.2.1, pw_ck_ok, if_neg]
          rfl
        · rw [mpre σ hM, show (0 : Int) = ((0 : Nat) : Int) from rfl, (mloop σ hM 1000 0 (by omega) (by omega) (fun j hj => by omega)).2 hex, pw_ck_ok (by omega) (by omega), if_pos (by omega)]
          rfl
      · have hVA : VA ((A.1, A.2.1, A.2.2.1 + 1, (fun i => if i = A.2.2.1 then x else A.2.2.2.1 i), (fun i => if i = A.2.2.1 then y else A.2.2.2.2 i)) : ASt) := by
          refine ⟨hV.1.1, hV.1.2.1, by show A.2.2.1 + 1 ≤ 10; omega, fun i hi => ?_, fun i j hi hj hij => ?_⟩
          · have hi2 : i < A.2.2.1 + 1 := hi
            dsimp only
            by_cases q : i = A.2.2.1
            · rw [if_pos q, if_pos q]; exact h
            · rw [if_neg q, if_neg q]; exact hV.1.2.2.2.1 i (by omega)
          · have hi2 : i < A.2.2.1 + 1 := hi
            have hj2 : j < A.2.2.1 + 1 := hj
            dsimp only at hij
            by_cases q : i = A.2.2.1 <;> by_cases w : j = A.2.2.1
            · omega
            · rw [if_pos q, if_neg w] at hij
              exact absurd ⟨j, by omega, hij.symm⟩ hex
            · rw [if_neg q, if_pos w] at hij
              exact absurd ⟨i, by omega, hij⟩ hex
            · rw [if_neg q, if_neg w] at hij
              exact hV.1.2.2.2.2 i j (by omega) (by omega) hij
        refine ⟨(A.2.2.1 : Int) + 1, (A.1, A.2.1, A.2.2.1 + 1, (fun i => if i = A.2.2.1 then x else A.2.2.2.1 i), (fun i => if i = A.2.2.1 then y else A.2.2.2.2 i)), T, len, E, (A :: Hs).take 4, fun σ hC => ?_, fun σ hM => ?_, hV.saved hVA⟩
        · obtain ⟨hL, h2, h3, h4, h5, h6⟩ := id hC
          obtain ⟨s1, e1, c1, d1, d2, d3⟩ := e_H_keep hC hV
          have hL1 := c1.1
          have hN := hL.1
          have hN1 := hL1.1
          have := sh_0
          have := sh_1
          have := sh_7
          have := sh_8
          obtain ⟨b1, b2, b3, b4⟩ := c1.2.2.1
          refine ⟨pw_st (pw_st (pw_st s1 7 (fun j => if j = A.2.2.1 then x else s1.2.1 7 j)) 8 (fun j => if j = A.2.2.1 then y else s1.2.1 8 j)) 1 (fun j => if j = 2 then (A.2.2.1 : Int) + 1 else s1.2.1 1 j), ?_, ?_, ⟨d1, fun i hi => by rw [st_ne (by omega), st_ne (by omega), st_ne (by omega), d3 i (by omega)]⟩⟩
          · rw [wpre σ hC, (e_Z_hasPointAt hC.1 hC.2.2.1 hV.1 hx).2 hex, ex_bd, pw_ck_ok (by omega) (by omega), if_pos (show (0 : Int) = 0 from rfl)]
            unfold mf_Z_putPoint
            simp (disch := first | omega | (simp only [st_1]; omega)) only [ex_gd, ex_gr, lr_0_0 hL, lr_0_1 hL, ex_gi, Option.bind_some, h3.2.2.1, pw_ck_ok, if_neg, if_pos, e1, ex_bd, lr_0_0 hL1, b3, lr_1_3 hL1, lr_1_4 hL1, xs_si, xs_pi, st_2, st_ne, st_eq, Int.toNat_natCast, if_true]
          · refine c1.now (σ := s1) rfl rfl (fun i a b => Or.inl (by rw [st_ne (by omega), st_ne (by omega), st_ne (by omega)])) ⟨?_, fun s k hs hk => ?_, ?_, fun i hi => ⟨?_, ?_⟩⟩
            · rw [st_eq, if_neg (by omega)]; exact b1
            · rw [st_ne (by omega), st_ne (by omega), st_ne (by omega)]; exact b2 s k hs hk
            · rw [st_eq, if_pos rfl]; show _ = ((A.2.2.1 + 1 : Nat) : Int); omega
            · have hi2 : i < A.2.2.1 + 1 := hi
              rw [st_ne (by omega), st_ne (by omega), st_eq]
              dsimp only
              by_cases q : i = A.2.2.1
              · rw [if_pos q, if_pos q]
              · rw [if_neg q, if_neg q]; exact (b4 i (by omega)).1
            · have hi2 : i < A.2.2.1 + 1 := hi
              rw [st_ne (by omega), st_eq]
              dsimp only
              by_cases q : i = A.2.2.1
              · rw [if_pos q, if_pos q]
              · rw [if_neg q, if_neg q]; exact (b4 i (by omega)).2
        · obtain ⟨hL, h2, h3, h4, h5, h6⟩ := id hM
          obtain ⟨s1, e1, c1, d1, d2, d3⟩ := e_M_save hM hV
          have hL1 := c1.1
          have hN := hL.1
          have hN1 := hL1.1
          have := sh_91
          have := sh_92
          obtain ⟨b1, b2, b3, b4⟩ := c1.2.1
          have b3' : s1.2.1 92 65 = (A.2.2.1 : Int) := b3
          rw [mpre σ hM, show (0 : Int) = ((0 : Nat) : Int) from rfl, (mloop σ hM 1000 0 (by omega) (by omega) (fun j hj => by omega)).2 hex, pw_ck_ok (by omega) (by omega), if_neg (by omega), e1, ex_bd, ex_gr (by omega) (by omega), lr_91_0 hL1, Option.bind_some, e_M_points hL1, ex_bd, b3', xs_si (by omega) (by omega) (by omega) (by omega), Option.bind_some, ex_gr (by rw [st_1]; omega) (by omega), st_2, lr_91_0 hL1, Option.bind_some, e_M_points (Lay.st hL1), ex_bd, st_eq, if_neg (by omega), b3', xs_si (by rw [st_1]; omega) (by omega) (by omega) (by omega), Option.bind_some, st_st, st_eq, ex_gr (by rw [st_1]; omega) (by omega), st_2, lr_91_0 hL1, Option.bind_some, ex_ai (by rw [st_1]; omega) (by omega) (by omega) (by omega), Option.bind_some, st_eq, show Int.toNat 65 = 65 from rfl, if_neg (by omega), if_neg (by omega), b3', xs_si (by rw [st_1]; omega) (by omega) (by omega) (by omega), Option.bind_some, st_st, st_eq, e_M_points (Lay.st hL1), ex_bd, st_eq, show Int.toNat 65 = 65 from rfl, if_pos rfl]
          refine ⟨_, rfl, ?_, ⟨d1, d2, fun i hi => by rw [st_ne (by omega), d3 i (by omega) (by omega)]⟩⟩
          refine c1.now (σ := s1) rfl rfl ⟨st_ne (by omega), st_ne (by omega), st_ne (by omega), by rw [st_ne (by omega)], by rw [st_ne (by omega)]⟩ ⟨?_, fun s k hs hk => ?_, ?_, fun i hi => ⟨?_, ?_⟩⟩
          · rw [st_eq, if_neg (by omega), if_neg (by omega), if_neg (by omega)]; exact b1
          · rw [st_eq, if_neg (by omega), if_neg (by omega), if_neg (by omega)]; exact b2 s k hs hk
          · rw [st_eq, if_pos (by omega)]; show _ = ((A.2.2.1 + 1 : Nat) : Int); omega
          · have hi2 : i < A.2.2.1 + 1 := hi
            rw [st_eq, if_neg (by omega)]
            dsimp only
            by_cases q : i = A.2.2.1
            · rw [if_neg (by omega), if_pos (by omega), if_pos q]
            · rw [if_neg (by omega), if_neg (by omega), if_neg q]; exact (b4 i (by omega)).1
          · have hi2 : i < A.2.2.1 + 1 := hi
            rw [st_eq, if_neg (by omega)]
            dsimp only
            by_cases q : i = A.2.2.1
            · rw [if_pos (by omega), if_pos q]
            · rw [if_neg (by omega), if_neg (by omega), if_neg q]; exact (b4 i (by omega)).2
  · refine ⟨-2 - ((0 : Nat) : Int), A, T, len, bump E 0, Hs, w_cong (w_fail A T len E Hs 0 (by omega)) (fun σ hC => ?_), m_cong (m_fail A T len E Hs 0 (by omega)) (fun σ hM => ?_), hV⟩
    · have hN := hC.1.1
      have := sh_0
      unfold mf_W_addPoint
      rw [ex_gd (by omega) (by omega), e_W_isElement hC.1 hC.2.2.1.1 (by omega) hx, ex_bd]
      by_cases h1 : 0 ≤ x ∧ x < A.1
      · rw [if_pos h1, pw_ck_ok (by omega) (by omega), if_neg (show ¬ (1 : Int) = 0 by omega), e_W_isElement hC.1 hC.2.2.1.1 (by omega) hy, ex_bd, if_neg (by omega), pw_ck_ok (by omega) (by omega), if_pos rfl]; rfl
      · rw [if_neg h1, pw_ck_ok (by omega) (by omega), if_pos rfl]; rfl
    · have hN := hM.1.1
      have := sh_91
      unfold mf_M_addPoint
      rw [ex_gd (by omega) (by omega), e_M_prime hM.1, ex_bd, hM.2.1.1, e_M_in hx (by omega) (by omega), ex_bd]
      by_cases h1 : 0 ≤ x ∧ x ≤ (A.1 : Int) - 1
      · rw [if_pos h1, pw_ck_ok (by omega) (by omega), if_neg (show ¬ (1 : Int) = 0 by omega), e_M_prime hM.1, ex_bd, hM.2.1.1, e_M_in hy (by omega) (by omega), ex_bd, if_neg (by omega), pw_ck_ok (by omega) (by omega), if_pos rfl]; rfl
      · rw [if_neg h1, pw_ck_ok (by omega) (by omega), if_pos rfl]; rfl
theorem op_undo : OpOk (mf_W_undo 0) (mf_M_undo 91) := by
  apply op_of
  intro A T len E Hs hV
  have hl4 := hV.2.2.2.1
  cases hH : Hs with
  | nil =>
    subst hH
    refine ⟨-2 - ((1 : Nat) : Int), A, T, len, bump E 1, [], w_cong (w_fail A T len E [] 1 (by omega)) (fun σ hC => ?_), m_cong (m_fail A T len E [] 1 (by omega)) (fun σ hM => ?_), hV⟩
    · obtain ⟨hL, h2, h3, h4, h5, nx, h6, h7, h8, h9⟩ := id hC
      have hN := hL.1
      have := sh_0
      have := sh_9
      have h8' : σ.2.1 9 2 = 0 := h8
      unfold mf_W_undo
      simp (disch := omega) only [ex_gd, ex_gr, lr_0_1 hL, ex_gi, Option.bind_some, h8', pw_ck_ok, if_true]
      rfl
    · obtain ⟨hL, h2, h3, h4, h5, h6⟩ := id hM
      have hN := hL.1
      have := sh_91
      have h5' : σ.2.1 91 2 = 0 := h5
      unfold mf_M_undo
      simp (disch := omega) only [ex_gd, ex_gi, Option.bind_some, h5', pw_ck_ok, if_true]
      rfl
  | cons B Hs' =>
    subst hH
    have hlen : (B :: Hs').length = Hs'.length + 1 := rfl
    rw [hlen] at hl4
    have hVB : VA B := hV.2.2.2.2 B List.mem_cons_self
    have hNB := hVB.2.2.1
    refine ⟨(Hs'.length : Int), B, T, len, E, Hs', fun σ hC => ?_, fun σ hM => ?_, ⟨hVB, hV.2.1, hV.2.2.1, by omega, fun X hX => hV.2.2.2.2 X (List.mem_cons_of_mem _ hX)⟩⟩
    · obtain ⟨hL, hDy, hS, hT, hE, nx, h6, h7, h8, h9⟩ := id hC
      have hN := hL.1
      have := sh_0
      have := sh_9
      have := sh_10
      have h8' : σ.2.1 9 2 = (Hs'.length : Int) + 1 := by rw [h8, hlen]; omega
      obtain ⟨mx, hmx, hmx4⟩ : ∃ mx : Nat, mx = (nx + 3) % 4 ∧ (mx = 0 ∨ mx = 1 ∨ mx = 2 ∨ mx = 3) := ⟨(nx + 3) % 4, rfl, by omega⟩
      have hid : isSt (11 + 8 * mx) := by unfold isSt; omega
      generalize hs1 : pw_st σ 9 (fun j => if j = 1 then (mx : Int) else σ.2.1 9 j) = s1
      have hL1 : Lay s1 := by rw [← hs1]; exact hL
      have hr10 : s1.2.2 10 mx = some (11 + 8 * mx) := by rcases hmx4 with rfl | rfl | rfl | rfl <;> exact hL1.2 (_, _, _) (by decide)
      obtain ⟨s2, e2, c1, c2, c3, c4⟩ := e_Z_copyFrom hL1 (a := 1) (b := 11 + 8 * mx) (Or.inl rfl) hid (by omega)
      have z1 : s1.2.1 9 1 = mx := by rw [← hs1, st_eq]; rfl
      have z2 : s1.2.1 9 2 = (Hs'.length : Int) + 1 := by rw [← hs1, st_eq]; exact h8'
      have z3 : ∀ i, i ≠ 9 → s1.2.1 i = σ.2.1 i := fun i hi => by rw [← hs1]; exact st_ne hi
      have zN : s1.1 = σ.1 := by rw [← hs1]; rfl
      have zR : s1.2.2 = σ.2.2 := by rw [← hs1]; rfl
      have hN1 := hL1.1
      refine ⟨pw_st s2 9 (fun j => if j = 2 then (Hs'.length : Int) else s2.2.1 9 j), ?_, ?_, ⟨c1.trans zN, fun i hi => by rw [st_ne (by omega), c3 i (by omega), z3 i (by omega)]⟩⟩
      · unfold mf_W_undo mf_H_giveBack
        have hL2 : Lay (pw_st s2 9 (fun j => if j = 2 then (Hs'.length : Int) else s2.2.1 9 j)) := ⟨c1.trans hN1, fun q hq => by show s2.2.2 _ _ = _; rw [c2]; exact hL1.2 q hq⟩
        have hN2 := hL2.1
        rw [ex_gd (by omega) (by omega), ex_gr (by omega) (by omega), lr_0_1 hL, Option.bind_some, ex_gi (by omega) (by omega), Option.bind_some, h8', pw_ck_ok (by omega) (by omega), if_neg (by omega), Option.bind_some, ex_gr (by omega) (by omega), lr_0_0 hL, Option.bind_some, ex_gd (by omega) (by omega), ex_gi (by omega) (by omega), Option.bind_some, h8', pw_ck_ok (by omega) (by omega), if_neg (by omega), ex_gi (by omega) (by omega), Option.bind_some, h7, show ((nx : Int) - 1) % 4 = (mx : Int) by omega, xs_pi (by omega) (by omega), Option.bind_some, hs1, ex_gr (by omega) (by omega), lr_9_0 hL1, Option.bind_some, ex_gi (by omega) (by omega), Option.bind_some, z1, ex_ar (by omega) (by omega) (by omega) (by omega), Int.toNat_natCast, hr10, Option.bind_some, e2, ex_bd, ex_gi (by omega) (by omega), Option.bind_some, c3 9 (by omega), z2, xs_pi (by omega) (by omega), Option.bind_some, ex_bd, show (Hs'.length : Int) + 1 - 1 = (Hs'.length : Int) by omega, ← c3 9 (by omega), ex_gr (by omega) (by omega), lr_0_1 hL2, Option.bind_some, ex_gi (by omega) (by omega), Option.bind_some, st_eq, if_pos rfl]
      · refine ⟨⟨c1.trans hN1, fun q hq => by show s2.2.2 _ _ = _; rw [c2]; exact hL1.2 q hq⟩, by unfold Dyn; rw [st_2, c2, zR]; exact hDy, ?_, ⟨by rw [st_ne (by omega), c3 43 (by omega), z3 43 (by omega)]; exact hT.1, fun i hi => by rw [st_ne (by omega), c3 44 (by omega), z3 44 (by omega)]; exact hT.2 i hi⟩, fun k hk => by rw [st_ne (by omega), c3 90 (by omega), z3 90 (by omega)]; exact hE k hk, mx, by omega, by rw [st_eq, if_neg (by omega), c3 9 (by omega), z1], by rw [st_eq, if_pos rfl], fun j X hj => ?_⟩
        · have hB := h9 0 B rfl
          rw [show (nx + 3 - 0) % 4 = mx by omega] at hB
          exact (c4 B hVB (hB.kept (fun i a b => z3 i (by omega)))).kept (fun i a b => st_ne (by omega))
        · have hX := h9 (j + 1) X (by rw [List.getElem?_cons_succ]; exact hj)
          have hj2 : j < Hs'.length := (List.getElem?_eq_some_iff.mp hj).1
          rw [show (nx + 3 - (j + 1)) % 4 = (mx + 3 - j) % 4 by omega] at hX
          exact hX.kept (fun i a b => by rw [st_ne (by omega), c3 i (by omega), z3 i (by omega)])
    · obtain ⟨hL, h2, h3, h4, h5, h6⟩ := id hM
      have hN := hL.1
      have := sh_91
      have := sh_92
      have := sh_93
      have h5' : σ.2.1 91 2 = (Hs'.length : Int) + 1 := by rw [h5, hlen]; omega
      generalize hs1 : pw_st σ 91 (fun j => if j = 2 then (Hs'.length : Int) else σ.2.1 91 j) = s1
      have hL1 : Lay s1 := by rw [← hs1]; exact hL
      have hN1 := hL1.1
      have z2 : s1.2.1 91 2 = (Hs'.length : Int) := by rw [← hs1, st_eq]; rfl
      have z5 : ∀ j, j ≠ 2 → s1.2.1 91 j = σ.2.1 91 j := fun j hj => by rw [← hs1, st_eq, if_neg hj]
      have z3 : ∀ i, i ≠ 91 → s1.2.1 i = σ.2.1 i := fun i hi => by rw [← hs1]; exact st_ne hi
      have zN : s1.1 = σ.1 := by rw [← hs1]; rfl
      have zR : s1.2.2 = σ.2.2 := by rw [← hs1]; rfl
      have hlp := lp_fill (O := Int × pw_Sto) (fun n k s => ml_M_undo_26 n 91 k s) s1 92 0 86 (fun k => σ.2.1 93 (86 * Hs'.length + k)) (fun s => (pw_gi 10 91 2 s).bind (fun v4 => some (v4, s)))
        (by
          intro n k hh hk0 hk g1 g2
          show mb_M_undo_26 (ml_M_undo_26 n) 91 k (pw_st s1 92 hh) = _
          unfold mb_M_undo_26
          rw [pw_ck_ok (by omega) (by omega), if_neg (by omega), ex_gr (by rw [st_1]; omega) (by omega), st_2, lr_91_0 hL1, Option.bind_some, ex_gr (by rw [st_1]; omega) (by omega), st_2, lr_91_1 hL1, Option.bind_some, ex_gi (by rw [st_1]; omega) (by omega), Option.bind_some, st_ne (by omega), z2, ex_ai (by rw [st_1]; omega) (by omega) (by omega) (by omega), Option.bind_some, st_ne (by omega), z3 93 (by omega), show (86 * (Hs'.length : Int) + k).toNat = 86 * Hs'.length + k by omega, xs_si (by rw [st_1]; omega) (by omega) (by omega) (by omega), Option.bind_some, st_st, st_eq, Int.toNat_natCast]
          rfl)
        (by
          intro n hh
          show mb_M_undo_26 (ml_M_undo_26 n) 91 ((86 : Nat) : Int) (pw_st s1 92 hh) = _
          unfold mb_M_undo_26
          rw [pw_ck_ok (by omega) (by omega), if_pos (by omega)]) 1000 (by omega) (by omega)
      have hlp' : ml_M_undo_26 1000 91 0 s1 = _ := hlp
      refine ⟨pw_st s1 92 (fun j => if 0 ≤ j ∧ j < 86 then σ.2.1 93 (86 * Hs'.length + j) else s1.2.1 92 j), ?_, ?_, ⟨zN, zR, fun i hi => by rw [st_ne (by omega), z3 i (by omega)]⟩⟩
      · unfold mf_M_undo
        rw [ex_gd (by omega) (by omega), ex_gi (by omega) (by omega), Option.bind_some, h5', pw_ck_ok (by omega) (by omega), if_neg (by omega), Option.bind_some, xs_pi (by omega) (by omega), Option.bind_some, show (Hs'.length : Int) + 1 - 1 = (Hs'.length : Int) by omega, hs1, hlp', ex_gi (by rw [st_1]; omega) (by omega), Option.bind_some, st_ne (by omega), z2]
      · obtain ⟨a1, a2, a3, a4⟩ := h6 0 B rfl
        rw [hlen, show 86 * (Hs'.length + 1 - 1 - 0) = 86 * Hs'.length by omega] at a1 a2 a3 a4
        refine ⟨hL1, ⟨?_, fun s k hs hk => ?_, ?_, fun i hi => ⟨?_, ?_⟩⟩, ⟨by rw [st_ne (by omega), z5 5 (by omega)]; exact h3.1, fun i hi => by rw [st_ne (by omega), z3 95 (by omega)]; exact h3.2 i hi⟩, fun k hk => by rw [st_ne (by omega), z3 94 (by omega)]; exact h4 k hk, by rw [st_ne (by omega), z2], fun j X hj => ?_⟩
        · rw [st_eq, if_pos (by omega)]; exact a1
        · rw [st_eq, if_pos (by omega), ← a2 s k hs hk, show 86 * Hs'.length + (0 + 1 + 16 * s + k) = 86 * Hs'.length + 1 + 16 * s + k by omega]
        · rw [st_eq, if_pos (by omega), ← a3]
        · rw [st_eq, if_pos (by omega), ← (a4 i hi).1, show 86 * Hs'.length + (0 + 66 + i) = 86 * Hs'.length + 66 + i by omega]
        · rw [st_eq, if_pos (by omega), ← (a4 i hi).2, show 86 * Hs'.length + (0 + 76 + i) = 86 * Hs'.length + 76 + i by omega]
        · have hX := h6 (j + 1) X (by rw [List.getElem?_cons_succ]; exact hj)
          rw [hlen, show Hs'.length + 1 - 1 - (j + 1) = Hs'.length - 1 - j by omega] at hX
          exact hX.kept (by rw [st_ne (by omega), z3 93 (by omega)])
