/-! ## the calls: what a call does to the abstract state, on either side -/
def WOp (f : pw_Sto → Option (Int × pw_Sto)) (A : ASt) (T : Nat → Int) (len : Nat) (E : Nat → Int) (Hs : List ASt) (r : Int) (A' : ASt) (T' : Nat → Int) (len' : Nat) (E' : Nat → Int) (Hs' : List ASt) : Prop := ∀ σ, CR σ A T len E Hs → ∃ σ', f σ = some (r, σ') ∧ CR σ' A' T' len' E' Hs' ∧ Hi σ σ'
def MOp (f : pw_Sto → Option (Int × pw_Sto)) (A : ASt) (T : Nat → Int) (len : Nat) (E : Nat → Int) (Hs : List ASt) (r : Int) (A' : ASt) (T' : Nat → Int) (len' : Nat) (E' : Nat → Int) (Hs' : List ASt) : Prop := ∀ σ, MR σ A T len E Hs → ∃ σ', f σ = some (r, σ') ∧ MR σ' A' T' len' E' Hs' ∧ Lo σ σ'
def Good (σ : pw_Sto) : Prop := ∃ A T len E Hs, CR σ A T len E Hs ∧ MR σ A T len E Hs ∧ VR A T len Hs
def OpOk (fW fM : pw_Sto → Option (Int × pw_Sto)) : Prop := ∀ σ, Good σ → ∃ r σ1 σ2, fW σ = some (r, σ1) ∧ fM σ1 = some (r, σ2) ∧ Good σ2
theorem op_of {fW fM : pw_Sto → Option (Int × pw_Sto)} (h : ∀ A T len E Hs, VR A T len Hs → ∃ r A' T' len' E' Hs', WOp fW A T len E Hs r A' T' len' E' Hs' ∧ MOp fM A T len E Hs r A' T' len' E' Hs' ∧ VR A' T' len' Hs') : OpOk fW fM := by
  intro σ hG
  obtain ⟨A, T, len, E, Hs, hC, hM, hV⟩ := hG
  obtain ⟨r, A', T', len', E', Hs', hw, hm, hV'⟩ := h A T len E Hs hV
  obtain ⟨σ1, e1, c1, d1⟩ := hw σ hC
  obtain ⟨σ2, e2, c2, d2⟩ := hm σ1 (hM.hi d1 c1.1)
  exact ⟨r, σ1, σ2, e1, e2, A', T', len', E', Hs', c1.lo d2, c2, hV'⟩
theorem w_fail (A : ASt) (T : Nat → Int) (len : Nat) (E : Nat → Int) (Hs : List ASt) (k : Nat) (hk : k < 3) : WOp (fun σ => pw_bd (mf_W_fail 0 (-2 - (k : Int)) σ) (fun v s => some (v, s))) A T len E Hs (-2 - (k : Int)) A T len (bump E k) Hs := by
  intro σ hC
  refine ⟨_, by show pw_bd (mf_W_fail 0 (-2 - (k : Int)) σ) _ = _; rw [e_W_fail hC.1 k hk, ex_bd], hC.bumped k, Hi.st (by omega)⟩
theorem m_fail (A : ASt) (T : Nat → Int) (len : Nat) (E : Nat → Int) (Hs : List ASt) (k : Nat) (hk : k < 3) : MOp (fun σ => pw_bd (mf_M_fail 91 (-2 - (k : Int)) σ) (fun v s => some (v, s))) A T len E Hs (-2 - (k : Int)) A T len (bump E k) Hs := by
  intro σ hC
  refine ⟨_, by show pw_bd (mf_M_fail 91 (-2 - (k : Int)) σ) _ = _; rw [e_M_fail hC.1 k hk, ex_bd], hC.bumped k, Lo.st (by omega)⟩
theorem w_cong {f g : pw_Sto → Option (Int × pw_Sto)} {A : ASt} {T : Nat → Int} {len : Nat} {E : Nat → Int} {Hs : List ASt} {r : Int} {A' : ASt} {T' : Nat → Int} {len' : Nat} {E' : Nat → Int} {Hs' : List ASt} (h : WOp g A T len E Hs r A' T' len' E' Hs') (e : ∀ σ, CR σ A T len E Hs → f σ = g σ) : WOp f A T len E Hs r A' T' len' E' Hs' := by
  intro σ hC
  obtain ⟨σ', h1, h2⟩ := h σ hC
  exact ⟨σ', by rw [e σ hC]; exact h1, h2⟩
theorem m_cong {f g : pw_Sto → Option (Int × pw_Sto)} {A : ASt} {T : Nat → Int} {len : Nat} {E : Nat → Int} {Hs : List ASt} {r : Int} {A' : ASt} {T' : Nat → Int} {len' : Nat} {E' : Nat → Int} {Hs' : List ASt} (h : MOp g A T len E Hs r A' T' len' E' Hs') (e : ∀ σ, MR σ A T len E Hs → f σ = g σ) : MOp f A T len E Hs r A' T' len' E' Hs' := by
  intro σ hC
  obtain ⟨σ', h1, h2⟩ := h σ hC
  exact ⟨σ', by rw [e σ hC]; exact h1, h2⟩
/-! arguments -/
theorem e_W_isSlot {x : Int} {σ : pw_Sto} (hx : pw_R x) : mf_W_isSlot x σ = some (if 0 ≤ x ∧ x < 4 then 1 else 0, σ) := by
  unfold mf_W_isSlot
  rw [pw_ck_ok hx (by omega), pw_ck_ok hx (by omega)]
  by_cases h1 : x < 0
  · rw [if_pos h1, if_neg (by omega)]
  · by_cases h2 : 4 ≤ x
    · rw [if_neg h1, if_pos h2, if_neg (by omega)]
    · rw [if_neg h1, if_neg h2, if_pos (by omega)]
theorem e_W_isTerm {x : Int} {σ : pw_Sto} (hx : pw_R x) : mf_W_isTerm x σ = some (if 0 ≤ x ∧ x < 16 then 1 else 0, σ) := by
  unfold mf_W_isTerm
  rw [pw_ck_ok hx (by omega), pw_ck_ok hx (by omega)]
  by_cases h1 : x < 0
  · rw [if_pos h1, if_neg (by omega)]
  · by_cases h2 : 16 ≤ x
    · rw [if_neg h1, if_pos h2, if_neg (by omega)]
    · rw [if_neg h1, if_neg h2, if_pos (by omega)]
theorem e_W_isElement {x : Int} {σ : pw_Sto} {p : Nat} (hL : Lay σ) (hp : σ.2.1 1 0 = p) (hp2 : p ≤ 251) (hx : pw_R x) : mf_W_isElement 0 x σ = some (if 0 ≤ x ∧ x < p then 1 else 0, σ) := by
  have hN := hL.1
  have := sh_0
  have := sh_1
  unfold mf_W_isElement
  rw [ex_gd (by omega) (by omega), pw_ck_ok hx (by omega)]
  by_cases h1 : x < 0
  · rw [if_pos h1, if_neg (by omega)]
  · rw [if_neg h1, ex_gr (by omega) (by omega), lr_0_0 hL, Option.bind_some, ex_gi (by omega) (by omega), Option.bind_some, hp, pw_ck_ok hx (by omega)]
    by_cases h2 : (p : Int) ≤ x
    · rw [if_pos h2, if_neg (by omega)]
    · rw [if_neg h2, if_pos (by omega)]
theorem e_M_in {x a b : Int} {σ : pw_Sto} (hx : pw_R x) (ha : pw_R a) (hb : pw_R b) : mf_M_in x a b σ = some (if a ≤ x ∧ x ≤ b then 1 else 0, σ) := by
  unfold mf_M_in
  rw [pw_ck_ok hx ha, pw_ck_ok hx hb]
  by_cases h1 : x < a
  · rw [if_pos h1, if_neg (by omega)]
  · by_cases h2 : b < x
    · rw [if_neg h1, if_pos h2, if_neg (by omega)]
    · rw [if_neg h1, if_neg h2, if_pos (by omega)]
theorem e_M_isSlot {x : Int} {σ : pw_Sto} (hx : pw_R x) : mf_M_isSlot x σ = some (if 0 ≤ x ∧ x < 4 then 1 else 0, σ) := by
  unfold mf_M_isSlot
  rw [e_M_in hx (by omega) (by omega), ex_bd]
  by_cases h : 0 ≤ x ∧ x < 4
  · rw [if_pos h, if_pos (by omega)]; rfl
  · rw [if_neg h, if_neg (by omega)]; rfl
/-! errorCount, clearText, append, coefficient -/
theorem op_errorCount {x : Int} (hx : pw_R x) : OpOk (mf_W_errorCount 0 x) (mf_M_errorCount 91 x) := by
  apply op_of
  intro A T len E Hs hV
  by_cases h : 0 ≤ x ∧ x < 3
  · refine ⟨E x.toNat, A, T, len, E, Hs, fun σ hC => ?_, fun σ hM => ?_, hV⟩
    · obtain ⟨hL, h2, h3, h4, h5, h6⟩ := id hC
      have hN := hL.1
      have := sh_0
      have := sh_90
      refine ⟨σ, ?_, hC, Hi.refl σ⟩
      unfold mf_W_errorCount
      simp (disch := first | omega | (simp only [st_1]; omega)) only [ex_gd, pw_ck_ok, if_neg, if_pos, ex_gr, lr_0_10 hL, ex_ai, Option.bind_some]
      rw [h5 _ (by omega)]
    · obtain ⟨hL, h2, h3, h4, h5, h6⟩ := id hM
      have hN := hL.1
      have := sh_91
      have := sh_94
      refine ⟨σ, ?_, hM, Lo.refl σ⟩
      unfold mf_M_errorCount
      rw [ex_gd (by omega) (by omega), e_M_in hx (by omega) (by omega), ex_bd, if_pos (by omega), pw_ck_ok (by omega) (by omega), if_neg (by omega)]
      simp (disch := first | omega | (simp only [st_1]; omega)) only [ex_gr, lr_91_3 hL, ex_ai, Option.bind_some]
      rw [h4 _ (by omega)]
  · refine ⟨-2 - ((0 : Nat) : Int), A, T, len, bump E 0, Hs, w_cong (w_fail A T len E Hs 0 (by omega)) (fun σ hC => ?_), m_cong (m_fail A T len E Hs 0 (by omega)) (fun σ hM => ?_), hV⟩
    · have hN := hC.1.1
      have := sh_0
      unfold mf_W_errorCount
      rw [ex_gd (by omega) (by omega), pw_ck_ok hx (by omega), pw_ck_ok hx (by omega)]
      by_cases h1 : x < 0
      · rw [if_pos h1]; rfl
      · rw [if_neg h1, if_neg (by omega)]; rfl
    · have hN := hM.1.1
      have := sh_91
      unfold mf_M_errorCount
      rw [ex_gd (by omega) (by omega), e_M_in hx (by omega) (by omega), ex_bd, if_neg (by omega), pw_ck_ok (by omega) (by omega), if_pos rfl]
      rfl
theorem CR.text {σ : pw_Sto} {A : ASt} {T T' : Nat → Int} {len len' : Nat} {E : Nat → Int} {Hs : List ASt} (h : CR σ A T len E Hs) {f g : Nat → Int} (hf : f 1 = len') (hg : ∀ i, i < len' → g i = T' i) : CR (pw_st (pw_st σ 44 g) 43 f) A T' len' E Hs := by
  obtain ⟨h1, h2, h3, h4, h5, nx, h6, h7, h8, h9⟩ := h
  exact ⟨h1, h2, h3.kept (fun i _ hi => by rw [st_ne (by omega), st_ne (by omega)]), ⟨by rw [st_eq]; exact hf, fun i hi => by rw [st_ne (by omega), st_eq]; exact hg i hi⟩, fun q hq => by rw [st_ne (by omega), st_ne (by omega)]; exact h5 q hq, nx, h6, by rw [st_ne (by omega), st_ne (by omega)]; exact h7, by rw [st_ne (by omega), st_ne (by omega)]; exact h8, fun j B hj => (h9 j B hj).kept (fun i _ hi => by rw [st_ne (by omega), st_ne (by omega)])⟩
theorem MR.text {σ : pw_Sto} {A : ASt} {T T' : Nat → Int} {len len' : Nat} {E : Nat → Int} {Hs : List ASt} (h : MR σ A T len E Hs) {f g : Nat → Int} (hf : f 5 = len') (hf2 : f 2 = σ.2.1 91 2) (hg : ∀ i, i < len' → g i = T' i) : MR (pw_st (pw_st σ 95 g) 91 f) A T' len' E Hs := by
  obtain ⟨h1, h2, h3, h4, h5, h6⟩ := h
  exact ⟨h1, h2.kept (by rw [st_ne (by omega), st_ne (by omega)]), ⟨by rw [st_eq]; exact hf, fun i hi => by rw [st_ne (by omega), st_eq]; exact hg i hi⟩, fun q hq => by rw [st_ne (by omega), st_ne (by omega)]; exact h4 q hq, by rw [st_eq, hf2]; exact h5, fun j B hj => (h6 j B hj).kept (by rw [st_ne (by omega), st_ne (by omega)])⟩
theorem op_clearText : OpOk (mf_W_clearText 0) (mf_M_clearText 91) := by
  apply op_of
  intro A T len E Hs hV
  refine ⟨len, A, T, 0, E, Hs, fun σ hC => ?_, fun σ hM => ?_, ⟨hV.1, by omega, fun i hi => by omega, hV.2.2.2⟩⟩
  · obtain ⟨hL, h2, h3, h4, h5, h6⟩ := id hC
    have hN := hL.1
    have := sh_0
    have := sh_43
    refine ⟨pw_st (pw_st σ 44 (σ.2.1 44)) 43 (fun j => if j = 1 then 0 else σ.2.1 43 j), ?_, hC.text rfl (fun i hi => by omega), (Hi.st (by omega)).trans (Hi.st (by omega))⟩
    unfold mf_W_clearText
    simp (disch := first | omega | (simp only [st_1]; omega)) only [ex_gd, ex_gr, lr_0_2 hL, ex_gi, xs_pi, Option.bind_some, h4.1, st_self]
  · obtain ⟨hL, h2, h3, h4, h5, h6⟩ := id hM
    have hN := hL.1
    have := sh_91
    refine ⟨pw_st (pw_st σ 95 (σ.2.1 95)) 91 (fun j => if j = 5 then 0 else σ.2.1 91 j), ?_, hM.text rfl rfl (fun i hi => by omega), (Lo.st (by omega)).trans (Lo.st (by omega))⟩
    unfold mf_M_clearText
    simp (disch := first | omega | (simp only [st_1]; omega)) only [ex_gd, ex_gi, xs_pi, Option.bind_some, h3.1, st_self]
theorem op_append {x : Int} (hx : pw_R x) : OpOk (mf_W_append 0 x) (mf_M_append 91 x) := by
  apply op_of
  intro A T len E Hs hV
  have hlen := hV.2.1
  by_cases h : 0 ≤ x ∧ x ≤ 127
  · by_cases hf : len = 80
    · refine ⟨-2 - ((2 : Nat) : Int), A, T, len, bump E 2, Hs, w_cong (w_fail A T len E Hs 2 (by omega)) (fun σ hC => ?_), m_cong (m_fail A T len E Hs 2 (by omega)) (fun σ hM => ?_), hV⟩
      · obtain ⟨hL, h2, h3, h4, h5, h6⟩ := id hC
        have hN := hL.1
        have := sh_0
        have := sh_43
        unfold mf_W_append
        simp (disch := first | omega | (simp only [st_1]; omega)) only [ex_gd, ex_gr, lr_0_2 hL, ex_gi, pw_ck_ok, if_neg, if_pos, Option.bind_some, h4.1]
        rfl
      · obtain ⟨hL, h2, h3, h4, h5, h6⟩ := id hM
        have hN := hL.1
        have := sh_91
        unfold mf_M_append
        rw [ex_gd (by omega) (by omega), e_M_in hx (by omega) (by omega), ex_bd, if_pos (by omega), pw_ck_ok (by omega) (by omega), if_neg (by omega)]
        simp (disch := first | omega | (simp only [st_1]; omega)) only [ex_gi, pw_ck_ok, if_pos, Option.bind_some, h3.1]
        rfl
    · refine ⟨(len : Int) + 1, A, fun i => if i = len then x else T i, len + 1, E, Hs, fun σ hC => ?_, fun σ hM => ?_, ⟨hV.1, by omega, fun i hi => ?_, hV.2.2.2⟩⟩
      · obtain ⟨hL, h2, h3, h4, h5, h6⟩ := id hC
        have hN := hL.1
        have := sh_0
        have := sh_43
        have := sh_44
        refine ⟨pw_st (pw_st σ 44 (fun j => if j = len then x else σ.2.1 44 j)) 43 (fun j => if j = 1 then (len : Int) + 1 else σ.2.1 43 j), ?_, hC.text (by show (if (1 : Nat) = 1 then (len : Int) + 1 else _) = _; rw [if_pos rfl]; omega) (fun i hi => ?_), (Hi.st (by omega)).trans (Hi.st (by omega))⟩
        · unfold mf_W_append mf_T_put
          simp (disch := first | omega | (simp only [st_1]; omega)) only [ex_gd, ex_gr, lr_0_2 hL, lr_43_0 hL, ex_gi, pw_ck_ok, if_neg, if_pos, Option.bind_some, h4.1, xs_si, st_1, st_2, ex_bd, st_ne, xs_pi, Int.toNat_natCast, st_eq, if_true]
        · by_cases hi2 : i = len
          · rw [if_pos hi2, if_pos hi2]
          · rw [if_neg hi2, if_neg hi2]
            exact h4.2 i (by omega)
      · obtain ⟨hL, h2, h3, h4, h5, h6⟩ := id hM
        have hN := hL.1
        have := sh_91
        have := sh_95
        refine ⟨pw_st (pw_st σ 95 (fun j => if j = len then x else σ.2.1 95 j)) 91 (fun j => if j = 5 then (len : Int) + 1 else σ.2.1 91 j), ?_, hM.text (by show (if (5 : Nat) = 5 then (len : Int) + 1 else _) = _; rw [if_pos rfl]; omega) rfl (fun i hi => ?_), (Lo.st (by omega)).trans (Lo.st (by omega))⟩
        · unfold mf_M_append
          rw [ex_gd (by omega) (by omega), e_M_in hx (by omega) (by omega), ex_bd, if_pos (by omega), pw_ck_ok (by omega) (by omega), if_neg (by omega)]
          simp (disch := first | omega | (simp only [st_1]; omega)) only [ex_gr, lr_91_4 hL, ex_gi, pw_ck_ok, if_neg, if_pos, Option.bind_some, h3.1, xs_si, st_1, st_2, st_ne, xs_pi, Int.toNat_natCast, st_eq, if_true]
        · by_cases hi2 : i = len
          · rw [if_pos hi2, if_pos hi2]
          · rw [if_neg hi2, if_neg hi2]
            exact h3.2 i (by omega)
      · show 0 ≤ (if i = len then x else T i) ∧ (if i = len then x else T i) ≤ 127
        by_cases hi2 : i = len
        · rw [if_pos hi2]; exact h
        · rw [if_neg hi2]; exact hV.2.2.1 i (by omega)
  · refine ⟨-2 - ((0 : Nat) : Int), A, T, len, bump E 0, Hs, w_cong (w_fail A T len E Hs 0 (by omega)) (fun σ hC => ?_), m_cong (m_fail A T len E Hs 0 (by omega)) (fun σ hM => ?_), hV⟩
    · have hN := hC.1.1
      have := sh_0
      unfold mf_W_append
      rw [ex_gd (by omega) (by omega), pw_ck_ok hx (by omega), pw_ck_ok hx (by omega)]
      by_cases h1 : x < 0
      · rw [if_pos h1]; rfl
      · rw [if_neg h1, if_neg (by omega)]; rfl
    · have hN := hM.1.1
      have := sh_91
      unfold mf_M_append
      rw [ex_gd (by omega) (by omega), e_M_in hx (by omega) (by omega), ex_bd, if_neg (by omega), pw_ck_ok (by omega) (by omega), if_pos rfl]
      rfl
theorem e_M_term {σ : pw_Sto} {A : ASt} (hL : Lay σ) (hS : StM σ 92 0 A) {s k : Int} (h1 : 0 ≤ s) (h2 : s < 4) (h3 : 0 ≤ k) (h4 : k < 16) : mf_M_term 91 s k σ = some (A.2.1 s.toNat k.toNat, σ) := by
  have hN := hL.1
  have := sh_91
  have := sh_92
  unfold mf_M_term
  simp (disch := first | omega | (simp only [st_1]; omega)) only [ex_gd, ex_gr, lr_91_0 hL, ex_ai, Option.bind_some]
  have := hS.2.1 s.toNat k.toNat (by omega) (by omega)
  rw [← this, show (1 + 16 * s + k).toNat = 0 + 1 + 16 * s.toNat + k.toNat by omega]
theorem e_row {σ : pw_Sto} (hL : Lay σ) {s : Int} (h1 : 0 ≤ s) (h2 : s < 4) : pw_ar 13 2 s σ = some (3 + s.toNat) := by
  have hN := hL.1
  have := sh_2
  rw [ex_ar (by omega) (by omega) (by omega) (by omega)]
  have h := (st_refs hL (o := 1) (Or.inl rfl)).2.2.2 s.toNat (by omega)
  exact h
theorem sh_row {s : Nat} (h : s < 4) : (pw_sh (3 + s)).1 = 11 ∧ (pw_sh (3 + s)).2 = 16 := (st_shp (o := 1) (Or.inl rfl)).2.2.2.2.2.2.2.2 s h
theorem op_coefficient {x y : Int} (hx : pw_R x) (hy : pw_R y) : OpOk (mf_W_coefficient 0 x y) (mf_M_coefficient 91 x y) := by
  apply op_of
  intro A T len E Hs hV
  by_cases h : (0 ≤ x ∧ x < 4) ∧ (0 ≤ y ∧ y < 16)
  · refine ⟨A.2.1 x.toNat y.toNat, A, T, len, E, Hs, fun σ hC => ?_, fun σ hM => ?_, hV⟩
    · obtain ⟨hL, h2, h3, h4, h5, h6⟩ := id hC
      have hN := hL.1
      have := sh_0
      have := sh_1
      have := sh_row (s := x.toNat) (by omega)
      refine ⟨σ, ?_, hC, Hi.refl σ⟩
      unfold mf_W_coefficient
      rw [ex_gd (by omega) (by omega), e_W_isSlot hx, ex_bd, if_pos h.1, pw_ck_ok (by omega) (by omega), if_neg (by omega), e_W_isTerm hy, ex_bd, if_pos h.2, pw_ck_ok (by omega) (by omega), if_neg (by omega)]
      simp (disch := first | omega | (simp only [st_1]; omega)) only [ex_gr, lr_0_0 hL, lr_1_1 hL, e_row hL, ex_ai, Option.bind_some]
      have := h3.2.1 x.toNat y.toNat (by omega) (by omega)
      rw [← this]
    · obtain ⟨hL, h2, h3, h4, h5, h6⟩ := id hM
      have hN := hL.1
      have := sh_91
      refine ⟨σ, ?_, hM, Lo.refl σ⟩
      unfold mf_M_coefficient
      rw [ex_gd (by omega) (by omega), e_M_isSlot hx, ex_bd, if_pos h.1, pw_ck_ok (by omega) (by omega), if_neg (by omega), e_M_in hy (by omega) (by omega), ex_bd, if_pos (by omega), pw_ck_ok (by omega) (by omega), if_neg (by omega), e_M_term hL h2 h.1.1 h.1.2 h.2.1 h.2.2, ex_bd]
  · refine ⟨-2 - ((0 : Nat) : Int), A, T, len, bump E 0, Hs, w_cong (w_fail A T len E Hs 0 (by omega)) (fun σ hC => ?_), m_cong (m_fail A T len E Hs 0 (by omega)) (fun σ hM => ?_), hV⟩
    · have hN := hC.1.1
      have := sh_0
      unfold mf_W_coefficient
      rw [ex_gd (by omega) (by omega), e_W_isSlot hx, ex_bd]
      by_cases h1 : 0 ≤ x ∧ x < 4
      · rw [if_pos h1, pw_ck_ok (by omega) (by omega), if_neg (by omega), e_W_isTerm hy, ex_bd, if_neg (by omega), pw_ck_ok (by omega) (by omega), if_pos rfl]; rfl
      · rw [if_neg h1, pw_ck_ok (by omega) (by omega), if_pos rfl]; rfl
    · have hN := hM.1.1
      have := sh_91
      unfold mf_M_coefficient
      rw [ex_gd (by omega) (by omega), e_M_isSlot hx, ex_bd]
      by_cases h1 : 0 ≤ x ∧ x < 4
      · rw [if_pos h1, pw_ck_ok (by omega) (by omega), if_neg (by omega), e_M_in hy (by omega) (by omega), ex_bd, if_neg (by omega), pw_ck_ok (by omega) (by omega), if_pos rfl]; rfl
      · rw [if_neg h1, pw_ck_ok (by omega) (by omega), if_pos rfl]; rfl
