/-! ## substitution: both sides use Horner's rule -/
/-- a loop, with a relation that its steps keep -/
theorem lp_ex {S O : Type} (f : Nat → Int → S → Option O) (c : Nat → Int) (e : Nat) (P : Nat → S → Prop) (hs : ∀ n k s, k < e → P k s → ∃ s', f (n + 1) (c k) s = f n (c (k + 1)) s' ∧ P (k + 1) s') : ∀ (d k n : Nat) (s : S), k + d = e → d < n → P k s → ∃ m s', f n (c k) s = f (m + 1) (c e) s' ∧ P e s' := by
  intro d
  induction d with
  | zero =>
    intro k n s h1 h2 hP
    obtain ⟨m, rfl⟩ : ∃ m, n = m + 1 := ⟨n - 1, by omega⟩
    have hk : k = e := by omega
    subst hk
    exact ⟨m, s, rfl, hP⟩
  | succ d ih =>
    intro k n s h1 h2 hP
    obtain ⟨m, rfl⟩ : ∃ m, n = m + 1 := ⟨n - 1, by omega⟩
    obtain ⟨s', e1, hP'⟩ := hs m k s (by omega) hP
    rw [e1]
    exact ih (k + 1) m s' (by omega) (by omega) hP'
def hor (p : Nat) (a b : Nat → Int) : Nat → Nat → Int
  | 0, _ => 0
  | n + 1, j => if j = 0 then (cvI p (hor p a b n) b 0 + a (15 - n)) % p else cvI p (hor p a b n) b j
theorem hor_rng {p : Nat} (hp : 2 ≤ p) (a b : Nat → Int) (n j : Nat) : 0 ≤ hor p a b n j ∧ hor p a b n j < p := by
  cases n with
  | zero => show 0 ≤ (0 : Int) ∧ (0 : Int) < p; omega
  | succ n =>
    show 0 ≤ (if j = 0 then (cvI p (hor p a b n) b 0 + a (15 - n)) % p else cvI p (hor p a b n) b j) ∧ (if j = 0 then (cvI p (hor p a b n) b 0 + a (15 - n)) % p else cvI p (hor p a b n) b j) < p
    by_cases q : j = 0
    · rw [if_pos q]; exact mod_rng hp _
    · rw [if_neg q]; exact mod_rng hp _
theorem e_W_compose {σ : pw_Sto} {A : ASt} {T : Nat → Int} {len : Nat} {E : Nat → Int} {Hs : List ASt} (hC : CR σ A T len E Hs) (hV : VA A) {x y : Nat} (hx : x < 4) (hy : y < 4) : ∃ s, mf_W_composeIntoResult 0 (3 + x) (3 + y) σ = some ((), s) ∧ CR s A T len E Hs ∧ Hi σ s ∧ ∀ k, k < 16 → s.2.1 88 k = hor A.1 (A.2.1 x) (A.2.1 y) 16 k := by
  have hp := isPb_le hV.1
  have := sh_0
  have := sh_1
  have s88 : (pw_sh 88).1 = 11 ∧ (pw_sh 88).2 = 16 := sh_88
  have s89 : (pw_sh 89).1 = 11 ∧ (pw_sh 89).2 = 16 := sh_89
  have sx := sh_row hx
  obtain ⟨m, s', e1, hP⟩ := lp_ex (S := pw_Sto) (O := Unit × pw_Sto) (fun n k s => ml_W_composeIntoResult_11 n 0 (3 + x) (3 + y) k s) (fun k => 15 - (k : Int)) 16 (fun k s => CR s A T len E Hs ∧ Hi σ s ∧ ∀ j, j < 16 → s.2.1 88 j = hor A.1 (A.2.1 x) (A.2.1 y) k j)
    (by
      intro n k s hk hP
      obtain ⟨hC1, hH1, v88⟩ := hP
      obtain ⟨hL, _, g3, g4, g5, g6⟩ := id hC1
      have hN := hL.1
      have ex : ∀ j, j < 16 → s.2.1 (3 + x) j = A.2.1 x j := fun j hj => g3.2.1 x j hx hj
      have ey : ∀ j, j < 16 → s.2.1 (3 + y) j = A.2.1 y j := fun j hj => g3.2.1 y j hy hj
      have t1 := e_S_product (σ := s) (a := 88) (b := 3 + y) (t := 89) (p := A.1) (by omega) (by omega) (by omega) rfl (sh_rowp hy) rfl (by omega) (by omega) (by omega) (by omega) (fun j hj => by rw [v88 j hj]; have := hor_rng (p := A.1) (by omega) (A.2.1 x) (A.2.1 y) k j; omega) (fun j hj => by rw [ey j hj]; exact row250 hV hy hj)
      generalize hs1 : pw_st s 89 (fun j => if j < 16 then cvI A.1 (s.2.1 88) (s.2.1 (3 + y)) j else s.2.1 89 j) = s1 at t1
      have hC2 : CR s1 A T len E Hs := by rw [← hs1]; exact hC1.st88 (by omega) (by omega) _
      have w89 : ∀ j, j < 16 → s1.2.1 89 j = cvI A.1 (hor A.1 (A.2.1 x) (A.2.1 y) k) (A.2.1 y) j := fun j hj => by
        rw [← hs1, st_eq, if_pos hj]
        exact cvI_congr (fun i hi => v88 i (by omega)) (fun i hi => ey i (by omega))
      have hN2 := hC2.1.1
      have t2 : pw_cp 89 (0 : Int) 88 (0 : Int) (16 : Int) s1 = some (pw_st s1 88 (va_cpy (s1.2.1 89) (s1.2.1 88) 0 0 16)) := xs_cp (by omega) (by omega) (by omega) (by omega) (by omega) (by omega) (by omega) (by omega) (by omega)
      generalize hs2 : pw_st s1 88 (va_cpy (s1.2.1 89) (s1.2.1 88) 0 0 16) = s2 at t2
      have hC3 : CR s2 A T len E Hs := by rw [← hs2]; exact hC2.st88 (by omega) (by omega) _
      have hN3 := hC3.1.1
      have w88 : ∀ j, j < 16 → s2.2.1 88 j = cvI A.1 (hor A.1 (A.2.1 x) (A.2.1 y) k) (A.2.1 y) j := fun j hj => by
        rw [← w89 j hj, ← hs2, st_eq]
        unfold va_cpy
        rw [if_pos (by omega), show 0 + (j - 0) = j by omega]
      have r1 := w88 0 (by omega)
      have r2 : 0 ≤ cvI A.1 (hor A.1 (A.2.1 x) (A.2.1 y) k) (A.2.1 y) 0 ∧ cvI A.1 (hor A.1 (A.2.1 x) (A.2.1 y) k) (A.2.1 y) 0 < A.1 := mod_rng (by omega) _
      have r3 : s2.2.1 (3 + x) (15 - k) = A.2.1 x (15 - k) := hC3.2.2.1.2.1 x (15 - k) hx (by omega)
      have r4 := row250 hV (s := x) (k := 15 - k) hx (by omega)
      have g3' : s2.2.1 1 0 = A.1 := hC3.2.2.1.1
      refine ⟨pw_st s2 88 (fun j => if j = (0 : Int).toNat then (s2.2.1 88 0 + s2.2.1 (3 + x) (15 - k)) % A.1 else s2.2.1 88 j), ?_, hC3.st88 (by omega) (by omega) _, ?_, fun j hj => ?_⟩
      · try dsimp only
        rw [us_W_composeIntoResult_11]
        unfold mb_W_composeIntoResult_11
        rw [pw_ck_ok (by omega) (by omega), if_neg (by omega)]
        simp (disch := omega) only [ex_gr, lr_0_8 hL, lr_0_9 hL, lr_0_0 hL, ex_gi, g3.1, Option.bind_some, t1, ex_bd, lr_0_8 hC2.1, lr_0_9 hC2.1, t2, lr_0_8 hC3.1, lr_0_0 hC3.1, ex_ai, Int.toNat_zero]
        rw [show ((15 : Int) - (k : Int)).toNat = 15 - k by omega, g3', e_K_reduce (by omega) (by omega) (by omega) (by omega), ex_bd, xs_si (by omega) (by omega) (by omega) (by omega), Option.bind_some, show (15 : Int) - (k : Int) + -1 = 15 - ((k + 1 : Nat) : Int) by omega]
        rfl
      · rw [← hs2, ← hs1]
        exact ((hH1.trans (Hi.st (by omega))).trans (Hi.st (by omega))).trans (Hi.st (by omega))
      · rw [st_eq]
        show _ = if j = 0 then (cvI A.1 (hor A.1 (A.2.1 x) (A.2.1 y) k) (A.2.1 y) 0 + A.2.1 x (15 - k)) % A.1 else cvI A.1 (hor A.1 (A.2.1 x) (A.2.1 y) k) (A.2.1 y) j
        by_cases q : j = 0
        · rw [if_pos (show j = (0 : Int).toNat from q), if_pos q, r1, r3]
        · rw [if_neg (show ¬ j = (0 : Int).toNat from q), if_neg q, w88 j hj]) 16 0 1000 (pw_st σ 88 (fun j => if j < (pw_sh 88).2 then 0 else σ.2.1 88 j)) (by omega) (by omega) ⟨hC.st88 (by omega) (by omega) _, Hi.st (by omega), fun j hj => by rw [st_eq, if_pos (by omega)]; rfl⟩
  have hL := hC.1
  have hN := hL.1
  refine ⟨s', ?_, hP.1, hP.2.1, hP.2.2⟩
  unfold mf_W_composeIntoResult
  rw [ex_gd (by omega) (by omega), ex_gr (by omega) (by omega), lr_0_8 hL, Option.bind_some, e_A_fill (by omega) (by omega), ex_bd]
  refine Eq.trans e1 ?_
  try dsimp only
  rw [us_W_composeIntoResult_11]
  unfold mb_W_composeIntoResult_11
  rw [pw_ck_ok (by omega) (by omega), if_pos (by omega)]
theorem e_M_compose {σ : pw_Sto} {A : ASt} {T : Nat → Int} {len : Nat} {E : Nat → Int} {Hs : List ASt} (hM : MR σ A T len E Hs) (hV : VA A) {x y z : Int} (hx : 0 ≤ x ∧ x < 4) (hy : 0 ≤ y ∧ y < 4) (v96 : ∀ k, k < 16 → σ.2.1 96 k = 0) (v98 : ∀ k, k < 16 → σ.2.1 98 k = A.2.1 y.toNat k) : ∃ s, ml_M_substitute_64 1000 91 x z 15 σ = pw_bd (mf_M_store 91 z s) (fun v s' => some (v, s')) ∧ MR s A T len E Hs ∧ Lo σ s ∧ ∀ k, k < 16 → s.2.1 96 k = hor A.1 (A.2.1 x.toNat) (A.2.1 y.toNat) 16 k := by
  have hp := isPb_le hV.1
  have := sh_91
  have s96 : (pw_sh 96).1 = 11 ∧ (pw_sh 96).2 = 16 := sh_96
  have s97 : (pw_sh 97).1 = 11 ∧ (pw_sh 97).2 = 16 := sh_97
  obtain ⟨m, s', e1, hP⟩ := lp_ex (S := pw_Sto) (O := Int × pw_Sto) (fun n k s => ml_M_substitute_64 n 91 x z k s) (fun k => 15 - (k : Int)) 16 (fun k s => MR s A T len E Hs ∧ Lo σ s ∧ (∀ j, j < 16 → s.2.1 98 j = A.2.1 y.toNat j) ∧ ∀ j, j < 16 → s.2.1 96 j = hor A.1 (A.2.1 x.toNat) (A.2.1 y.toNat) k j)
    (by
      intro n k s hk hP
      obtain ⟨hM1, hH1, u98, u96⟩ := hP
      have hL := hM1.1
      have hN := hL.1
      have hlp := lp_fill (O := Int × pw_Sto) (fun m k' s' => ml_M_substitute_72 (ml_M_substitute_64 n) m 91 x z (15 - (k : Int)) k' s') s 97 0 16 (fun j => s.2.1 96 j) (fun s => pw_bd (mf_M_makeProduct 91 s) (fun _ s17 => (pw_gr 10 91 6 s17).bind (fun v18 => (pw_gr 10 91 6 s17).bind (fun v19 => (pw_ai v19 (0 : Int) s17).bind (fun v20 => pw_bd (mf_M_term 91 x (15 - (k : Int)) s17) (fun v22 s21 => pw_bd (mf_M_mod 91 (v20 + v22) s21) (fun v24 s23 => (pw_si v18 (0 : Int) v24 s23).bind (fun s25 => ml_M_substitute_64 n 91 x z (15 - (k : Int) + (-1)) s25))))))))
        (by
          intro m i hh hi0 hi w1 w2
          have hL' : Lay (pw_st s 97 hh) := hL
          try dsimp only
          rw [us_M_substitute_72]
          unfold mb_M_substitute_72
          rw [pw_ck_ok (by omega) (by omega), if_neg (by omega), ex_gr (by rw [st_1]; omega) (by omega), lr_91_7 hL', Option.bind_some, ex_gr (by rw [st_1]; omega) (by omega), lr_91_6 hL', Option.bind_some, ex_ai (by rw [st_1]; omega) (by omega) (by omega) (by omega), Option.bind_some, st_ne (by omega), xs_si (by rw [st_1]; omega) (by omega) (by omega) (by omega), Option.bind_some, st_st, st_eq, Int.toNat_natCast]
          rfl)
        (by
          intro m hh
          try dsimp only
          rw [us_M_substitute_72]
          unfold mb_M_substitute_72
          rw [pw_ck_ok (by omega) (by omega), if_pos (by omega)]) 1000 (by omega) (by omega)
      generalize hs1 : pw_st s 97 (fun j => if 0 ≤ j ∧ j < 16 then s.2.1 96 j else s.2.1 97 j) = s1 at hlp
      have hM2 : MR s1 A T len E Hs := by rw [← hs1]; exact hM1.st96 (by omega) _
      have y97 : ∀ j, j < 16 → s1.2.1 97 j = hor A.1 (A.2.1 x.toNat) (A.2.1 y.toNat) k j := fun j hj => by rw [← hs1, st_eq, if_pos (by omega), u96 j hj]
      have y98 : ∀ j, j < 16 → s1.2.1 98 j = A.2.1 y.toNat j := fun j hj => by rw [← hs1, st_ne (by omega), u98 j hj]
      have t3 := e_M_makeProduct hM2.1 hM2.2.1.1 (by omega) (by omega) (fun j hj => by rw [y97 j hj]; have := hor_rng (p := A.1) (by omega) (A.2.1 x.toNat) (A.2.1 y.toNat) k j; omega) (fun j hj => by rw [y98 j hj]; exact row250 hV (by omega) hj)
      generalize hs2 : pw_st s1 96 (fun j => if j < 16 then cvI A.1 (s1.2.1 97) (s1.2.1 98) j else s1.2.1 96 j) = s2 at t3
      have hM3 : MR s2 A T len E Hs := by rw [← hs2]; exact hM2.st96 (by omega) _
      have z96 : ∀ j, j < 16 → s2.2.1 96 j = cvI A.1 (hor A.1 (A.2.1 x.toNat) (A.2.1 y.toNat) k) (A.2.1 y.toNat) j := fun j hj => by
        rw [← hs2, st_eq, if_pos hj]
        exact cvI_congr (fun i hi => y97 i (by omega)) (fun i hi => y98 i (by omega))
      have n1 := hM2.1.1
      have n2 := hM3.1.1
      have r1 := z96 0 (by omega)
      have r2 : 0 ≤ cvI A.1 (hor A.1 (A.2.1 x.toNat) (A.2.1 y.toNat) k) (A.2.1 y.toNat) 0 ∧ cvI A.1 (hor A.1 (A.2.1 x.toNat) (A.2.1 y.toNat) k) (A.2.1 y.toNat) 0 < A.1 := mod_rng (by omega) _
      have r4 := row250 hV (s := x.toNat) (k := 15 - k) (by omega) (by omega)
      refine ⟨pw_st s2 96 (fun j => if j = (0 : Int).toNat then (s2.2.1 96 0 + A.2.1 x.toNat (15 - k)) % A.1 else s2.2.1 96 j), ?_, hM3.st96 (by omega) _, ?_, fun j hj => ?_, fun j hj => ?_⟩
      · try dsimp only
        rw [us_M_substitute_64]
        unfold mb_M_substitute_64
        rw [pw_ck_ok (by omega) (by omega), if_neg (by omega)]
        refine Eq.trans hlp ?_
        rw [t3, ex_bd, ex_gr (by omega) (by omega), lr_91_6 hM3.1, Option.bind_some, Option.bind_some, ex_ai (by omega) (by omega) (by omega) (by omega), Option.bind_some, e_M_term hM3.1 hM3.2.1 hx.1 hx.2 (by omega) (by omega), ex_bd, show ((15 : Int) - (k : Int)).toNat = 15 - k by omega, Int.toNat_zero, e_M_mod hM3.1 hM3.2.1.1 (by omega) (by omega) (by omega), ex_bd, xs_si (by omega) (by omega) (by omega) (by omega), Option.bind_some, show (15 : Int) - (k : Int) + -1 = 15 - ((k + 1 : Nat) : Int) by omega]
        rfl
      · rw [← hs2, ← hs1]
        exact ((hH1.trans (Lo.st (by omega))).trans (Lo.st (by omega))).trans (Lo.st (by omega))
      · rw [st_ne (by omega), ← hs2, st_ne (by omega), y98 j hj]
      · rw [st_eq]
        show _ = if j = 0 then (cvI A.1 (hor A.1 (A.2.1 x.toNat) (A.2.1 y.toNat) k) (A.2.1 y.toNat) 0 + A.2.1 x.toNat (15 - k)) % A.1 else cvI A.1 (hor A.1 (A.2.1 x.toNat) (A.2.1 y.toNat) k) (A.2.1 y.toNat) j
        by_cases q : j = 0
        · rw [if_pos (show j = (0 : Int).toNat from q), if_pos q, r1]
        · rw [if_neg (show ¬ j = (0 : Int).toNat from q), if_neg q, z96 j hj]) 16 0 1000 σ (by omega) (by omega) ⟨hM, ⟨rfl, rfl, fun _ _ => rfl⟩, v98, fun j hj => (v96 j hj).trans rfl⟩
  refine ⟨s', ?_, hP.1, hP.2.1, hP.2.2.2⟩
  refine Eq.trans e1 ?_
  try dsimp only
  rw [us_M_substitute_64]
  unfold mb_M_substitute_64
  rw [pw_ck_ok (by omega) (by omega), if_pos (by omega)]
theorem op_substitute {x y z : Int} (hx : pw_R x) (hy : pw_R y) (hz : pw_R z) : OpOk (mf_W_substitute 0 x y z) (mf_M_substitute 91 x y z) := by
  refine op_three (fW := mf_W_substitute 0) (fM := mf_M_substitute 91) (gW := fun x0 x1 x2 x3 s7 => (pw_gr 9 x0 0 s7).bind (fun v9 => (pw_gr 7 v9 1 s7).bind (fun v10 => (pw_ar 13 v10 x2 s7).bind (fun v11 => (pw_ai v11 (0 : Int) s7).bind (fun v12 => pw_ck v12 0 (if v12 = 0 then (pw_gr 9 x0 0 s7).bind (fun v13 => (pw_gr 7 v13 1 s7).bind (fun v14 => (pw_ar 13 v14 x1 s7).bind (fun v15 => (pw_gr 9 x0 0 s7).bind (fun v16 => (pw_gr 7 v16 1 s7).bind (fun v17 => (pw_ar 13 v17 x2 s7).bind (fun v18 => pw_bd (mf_W_composeIntoResult x0 v15 v18 s7) (fun _ s19 => pw_bd (mf_W_store x0 x3 s19) (fun v21 s20 => some (v21, s20))))))))) else pw_bd (mf_W_fail x0 (-3 : Int) s7) (fun v23 s22 => some (v23, s22)))))))) (gM := fun x0 x1 x2 x3 s7 => pw_bd (mf_M_term x0 x2 (0 : Int) s7) (fun v10 s9 => pw_ck v10 0 (if v10 = 0 then (pw_gr 10 x0 6 s9).bind (fun v11 => pw_bd (mf_M_clear v11 s9) (fun _ s12 => (pw_gr 10 x0 8 s12).bind (fun v13 => pw_bd (mf_M_take x0 x2 v13 s12) (fun _ s14 => ml_M_substitute_64 1000 x0 x1 x3 (15 : Int) s14)))) else pw_bd (mf_M_fail x0 (-3 : Int) s9) (fun v31 s30 => some (v31, s30))))) hx hy hz (fun σ hL => ?_) (fun σ hL => ?_) (fun h1 h2 h3 A T len E Hs hV => ?_)
  · have hN := hL.1
    have := sh_0
    unfold mf_W_substitute
    rw [ex_gd (by omega) (by omega)]
    rfl
  · have hN := hL.1
    have := sh_91
    unfold mf_M_substitute
    rw [ex_gd (by omega) (by omega)]
    rfl
  have hp := isPb_le hV.1.1
  have hr0 := hV.1.2.1 y.toNat 0 (by omega) (by omega)
  by_cases hz0 : A.2.1 y.toNat 0 = 0
  · have hf2 : ∀ k, k < 16 → 0 ≤ hor A.1 (A.2.1 x.toNat) (A.2.1 y.toNat) 16 k ∧ hor A.1 (A.2.1 x.toNat) (A.2.1 y.toNat) 16 k < A.1 := fun k _ => hor_rng (by omega) _ _ _ _
    refine ⟨_, _, _, _, _, _, w_store hV h3.1 h3.2 hf2 (fun σ hC => ?_), m_store hV h3.1 h3.2 hf2 (fun σ hM => ?_), hV.saved (hV.1.row hf2)⟩
    · obtain ⟨hL, _, g3, g4, g5, g6⟩ := id hC
      have hN := hL.1
      have := sh_0
      have := sh_1
      have s3 := sh_row (s := y.toNat) (by omega)
      have b2 := g3.2.1 y.toNat 0 (by omega) (by omega)
      obtain ⟨s, t1, hC1, hH1, v88⟩ := e_W_compose hC hV.1 (x := x.toNat) (y := y.toNat) (by omega) (by omega)
      refine ⟨s, ?_, hC1, hH1, v88⟩
      simp (disch := omega) only [ex_gr, lr_0_0 hL, lr_1_1 hL, e_row hL, Option.bind_some, ex_ai]
      rw [show σ.2.1 (3 + y.toNat) (0 : Int).toNat = 0 from b2.trans hz0, pw_ck_ok (by omega) (by omega), if_pos rfl]
      simp (disch := omega) only [ex_gr, lr_0_0 hL, lr_1_1 hL, e_row hL, Option.bind_some, t1, ex_bd]
    · obtain ⟨hL, g2, g3, g4, g5, g6⟩ := id hM
      have hN := hL.1
      have := sh_91
      have s96 : (pw_sh 96).1 = 11 ∧ (pw_sh 96).2 = 16 := sh_96
      have t1 := e_M_clear (σ := σ) (a := 96) (by omega) (by omega)
      generalize hs1 : pw_st σ 96 (fun j => if j < (pw_sh 96).2 then 0 else σ.2.1 96 j) = s1 at t1
      have hM1 : MR s1 A T len E Hs := by rw [← hs1]; exact hM.st96 (by omega) _
      have t3 := e_M_take hM1.1 hM1.2.1 (t := 98) (by omega) rfl (by omega) h2.1 h2.2
      generalize hs3 : pw_st s1 98 (fun j => if j < 16 then A.2.1 y.toNat j else s1.2.1 98 j) = s3 at t3
      have hM3 : MR s3 A T len E Hs := by rw [← hs3]; exact hM1.st96 (by omega) _
      obtain ⟨s, t4, hM4, hH4, v96⟩ := e_M_compose (z := z) hM3 hV.1 h1 h2 (fun k hk => by rw [← hs3, st_ne (by omega), ← hs1, st_eq, if_pos (by omega)]) (fun k hk => by rw [← hs3, st_eq, if_pos hk])
      have n1 := hM1.1.1
      refine ⟨s, ?_, hM4, ?_, v96⟩
      · rw [e_M_term hL g2 h2.1 h2.2 (by omega) (by omega), ex_bd, show A.2.1 y.toNat (0 : Int).toNat = 0 from hz0, pw_ck_ok (by omega) (by omega), if_pos rfl]
        simp (disch := omega) only [ex_gr, lr_91_6 hL, Option.bind_some, t1, ex_bd, lr_91_8 hM1.1, t3, t4]
      · refine Lo.trans ?_ hH4
        rw [← hs3, ← hs1]
        exact (Lo.st (by omega)).trans (Lo.st (by omega))
  · refine ⟨_, _, _, _, _, _, w_cong (w_fail A T len E Hs 1 (by omega)) (fun σ hC => ?_), m_cong (m_fail A T len E Hs 1 (by omega)) (fun σ hM => ?_), hV⟩
    · obtain ⟨hL, _, g3, g4, g5, g6⟩ := id hC
      have hN := hL.1
      have := sh_0
      have := sh_1
      have s3 := sh_row (s := y.toNat) (by omega)
      have b2 : σ.2.1 (3 + y.toNat) 0 = A.2.1 y.toNat 0 := g3.2.1 y.toNat 0 (by omega) (by omega)
      simp (disch := omega) only [ex_gr, lr_0_0 hL, lr_1_1 hL, e_row hL, Option.bind_some, ex_ai, Int.toNat_zero]
      rw [b2, pw_ck_ok (by omega) (by omega), if_neg hz0]
      rfl
    · obtain ⟨hL, g2, g3, g4, g5, g6⟩ := id hM
      rw [e_M_term hL g2 h2.1 h2.2 (by omega) (by omega), ex_bd, Int.toNat_zero, pw_ck_ok (by omega) (by omega), if_neg hz0]
      rfl
