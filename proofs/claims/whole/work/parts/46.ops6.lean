/-! ## add, multiply, derivative -/
theorem row250 {A : ASt} (hV : VA A) {s k : Nat} (hs : s < 4) (hk : k < 16) : 0 ≤ A.2.1 s k ∧ A.2.1 s k ≤ 250 := by
  have h := hV.2.1 s k hs hk
  have := isPb_le hV.1
  omega
theorem cvI_congr {p : Nat} {a b a' b' : Nat → Int} {k : Nat} (ha : ∀ i, i ≤ k → a i = a' i) (hb : ∀ i, i ≤ k → b i = b' i) : cvI p a b k = cvI p a' b' k := by
  unfold cvI
  rw [sm_congr (g := fun i => a' i * b' (k - i)) (fun i hi => by rw [ha i (by omega), hb (k - i) (by omega)])]
/-- three slots, or an INVALID -/
theorem op_three {fW fM : Int → Int → Int → pw_Sto → Option (Int × pw_Sto)} {gW gM : Nat → Int → Int → Int → pw_Sto → Option (Int × pw_Sto)} {x y z : Int} (hx : pw_R x) (hy : pw_R y) (hz : pw_R z)
    (eW : ∀ σ, Lay σ → fW x y z σ = pw_bd (mf_W_isSlot x σ) (fun v2 s1 => pw_ck v2 0 (if v2 = 0 then pw_bd (mf_W_fail 0 (-2 : Int) s1) (fun v s => some (v, s)) else pw_bd (mf_W_isSlot y s1) (fun v6 s5 => pw_ck v6 0 (if v6 = 0 then pw_bd (mf_W_fail 0 (-2 : Int) s5) (fun v s => some (v, s)) else pw_bd (mf_W_isSlot z s5) (fun v8 s7 => pw_ck v8 0 (if v8 = 0 then pw_bd (mf_W_fail 0 (-2 : Int) s7) (fun v s => some (v, s)) else gW 0 x y z s7)))))))
    (eM : ∀ σ, Lay σ → fM x y z σ = pw_bd (mf_M_isSlot x σ) (fun v2 s1 => pw_ck v2 0 (if v2 = 0 then pw_bd (mf_M_fail 91 (-2 : Int) s1) (fun v s => some (v, s)) else pw_bd (mf_M_isSlot y s1) (fun v6 s5 => pw_ck v6 0 (if v6 = 0 then pw_bd (mf_M_fail 91 (-2 : Int) s5) (fun v s => some (v, s)) else pw_bd (mf_M_isSlot z s5) (fun v8 s7 => pw_ck v8 0 (if v8 = 0 then pw_bd (mf_M_fail 91 (-2 : Int) s7) (fun v s => some (v, s)) else gM 91 x y z s7)))))))
    (hin : (0 ≤ x ∧ x < 4) → (0 ≤ y ∧ y < 4) → (0 ≤ z ∧ z < 4) → ∀ A T len E Hs, VR A T len Hs → ∃ r A' T' len' E' Hs', WOp (gW 0 x y z) A T len E Hs r A' T' len' E' Hs' ∧ MOp (gM 91 x y z) A T len E Hs r A' T' len' E' Hs' ∧ VR A' T' len' Hs') : OpOk (fW x y z) (fM x y z) := by
  apply op_of
  intro A T len E Hs hV
  by_cases h : (0 ≤ x ∧ x < 4) ∧ (0 ≤ y ∧ y < 4) ∧ (0 ≤ z ∧ z < 4)
  · obtain ⟨r, A', T', len', E', Hs', a, b, c⟩ := hin h.1 h.2.1 h.2.2 A T len E Hs hV
    refine ⟨r, A', T', len', E', Hs', w_cong a (fun σ hC => ?_), m_cong b (fun σ hM => ?_), c⟩
    · rw [eW σ hC.1, e_W_isSlot hx, ex_bd, if_pos h.1, pw_ck_ok (by omega) (by omega), if_neg (show ¬ (1 : Int) = 0 by omega), e_W_isSlot hy, ex_bd, if_pos h.2.1, pw_ck_ok (by omega) (by omega), if_neg (show ¬ (1 : Int) = 0 by omega), e_W_isSlot hz, ex_bd, if_pos h.2.2, pw_ck_ok (by omega) (by omega), if_neg (show ¬ (1 : Int) = 0 by omega)]
    · rw [eM σ hM.1, e_M_isSlot hx, ex_bd, if_pos h.1, pw_ck_ok (by omega) (by omega), if_neg (show ¬ (1 : Int) = 0 by omega), e_M_isSlot hy, ex_bd, if_pos h.2.1, pw_ck_ok (by omega) (by omega), if_neg (show ¬ (1 : Int) = 0 by omega), e_M_isSlot hz, ex_bd, if_pos h.2.2, pw_ck_ok (by omega) (by omega), if_neg (show ¬ (1 : Int) = 0 by omega)]
  · refine ⟨-2 - ((0 : Nat) : Int), A, T, len, bump E 0, Hs, w_cong (w_fail A T len E Hs 0 (by omega)) (fun σ hC => ?_), m_cong (m_fail A T len E Hs 0 (by omega)) (fun σ hM => ?_), hV⟩
    · rw [eW σ hC.1, e_W_isSlot hx, ex_bd]
      by_cases h1 : 0 ≤ x ∧ x < 4
      · rw [if_pos h1, pw_ck_ok (by omega) (by omega), if_neg (show ¬ (1 : Int) = 0 by omega), e_W_isSlot hy, ex_bd]
        by_cases h2 : 0 ≤ y ∧ y < 4
        · rw [if_pos h2, pw_ck_ok (by omega) (by omega), if_neg (show ¬ (1 : Int) = 0 by omega), e_W_isSlot hz, ex_bd, if_neg (by omega), pw_ck_ok (by omega) (by omega), if_pos rfl]; rfl
        · rw [if_neg h2, pw_ck_ok (by omega) (by omega), if_pos rfl]; rfl
      · rw [if_neg h1, pw_ck_ok (by omega) (by omega), if_pos rfl]; rfl
    · rw [eM σ hM.1, e_M_isSlot hx, ex_bd]
      by_cases h1 : 0 ≤ x ∧ x < 4
      · rw [if_pos h1, pw_ck_ok (by omega) (by omega), if_neg (show ¬ (1 : Int) = 0 by omega), e_M_isSlot hy, ex_bd]
        by_cases h2 : 0 ≤ y ∧ y < 4
        · rw [if_pos h2, pw_ck_ok (by omega) (by omega), if_neg (show ¬ (1 : Int) = 0 by omega), e_M_isSlot hz, ex_bd, if_neg (by omega), pw_ck_ok (by omega) (by omega), if_pos rfl]; rfl
        · rw [if_neg h2, pw_ck_ok (by omega) (by omega), if_pos rfl]; rfl
      · rw [if_neg h1, pw_ck_ok (by omega) (by omega), if_pos rfl]; rfl
/-- the end of a call that stores: on either side -/
theorem w_store {g : pw_Sto → Option (Int × pw_Sto)} {A : ASt} {T : Nat → Int} {len : Nat} {E : Nat → Int} {Hs : List ASt} (hV : VR A T len Hs) {to : Int} (h1 : 0 ≤ to) (h2 : to < 4) {f : Nat → Int} (hf2 : ∀ k, k < 16 → 0 ≤ f k ∧ f k < A.1) (h : ∀ σ, CR σ A T len E Hs → ∃ s, g σ = pw_bd (mf_W_store 0 to s) (fun v s' => some (v, s')) ∧ CR s A T len E Hs ∧ Hi σ s ∧ ∀ k, k < 16 → s.2.1 88 k = f k) : WOp g A T len E Hs (cnt f) (A.1, setRow A.2.1 to.toNat f, A.2.2) T len E ((A :: Hs).take 4) := by
  intro σ hC
  obtain ⟨s, e1, c1, d1, f1⟩ := h σ hC
  obtain ⟨s', e2, c2, d2⟩ := e_W_store c1 hV h1 h2 f1 hf2
  exact ⟨s', by rw [e1, e2, ex_bd], c2, d1.trans d2⟩
theorem m_store {g : pw_Sto → Option (Int × pw_Sto)} {A : ASt} {T : Nat → Int} {len : Nat} {E : Nat → Int} {Hs : List ASt} (hV : VR A T len Hs) {to : Int} (h1 : 0 ≤ to) (h2 : to < 4) {f : Nat → Int} (hf2 : ∀ k, k < 16 → 0 ≤ f k ∧ f k < A.1) (h : ∀ σ, MR σ A T len E Hs → ∃ s, g σ = pw_bd (mf_M_store 91 to s) (fun v s' => some (v, s')) ∧ MR s A T len E Hs ∧ Lo σ s ∧ ∀ k, k < 16 → s.2.1 96 k = f k) : MOp g A T len E Hs (cnt f) (A.1, setRow A.2.1 to.toNat f, A.2.2) T len E ((A :: Hs).take 4) := by
  intro σ hM
  obtain ⟨s, e1, c1, d1, f1⟩ := h σ hM
  obtain ⟨s', e2, c2, d2⟩ := e_M_store c1 hV h1 h2 f1 hf2
  exact ⟨s', by rw [e1, e2, ex_bd], c2, d1.trans d2⟩
theorem CR.st88 {σ : pw_Sto} {A : ASt} {T : Nat → Int} {len : Nat} {E : Nat → Int} {Hs : List ASt} (h : CR σ A T len E Hs) {a : Nat} (ha : 45 ≤ a) (ha2 : a < 90) (f : Nat → Int) : CR (pw_st σ a f) A T len E Hs := h.scr rfl rfl (fun i hi => st_ne (by omega))
theorem MR.st96 {σ : pw_Sto} {A : ASt} {T : Nat → Int} {len : Nat} {E : Nat → Int} {Hs : List ASt} (h : MR σ A T len E Hs) {a : Nat} (ha : 96 ≤ a) (f : Nat → Int) : MR (pw_st σ a f) A T len E Hs := h.scr rfl rfl (fun i hi _ => st_ne (by omega)) (fun k _ => by rw [st_ne (by omega)])
theorem sh_rowp {s : Nat} (h : s < 4) : pw_sh (3 + s) = (11, 16) := by
  have := sh_row h
  exact Prod.ext this.1 this.2
theorem op_add {x y z : Int} (hx : pw_R x) (hy : pw_R y) (hz : pw_R z) : OpOk (mf_W_add 0 x y z) (mf_M_add 91 x y z) := by
  refine op_three (fW := mf_W_add 0) (fM := mf_M_add 91) (gW := fun x0 x1 x2 x3 s7 => (pw_gr 9 x0 0 s7).bind (fun v9 => (pw_gr 7 v9 1 s7).bind (fun v10 => (pw_ar 13 v10 x1 s7).bind (fun v11 => (pw_gr 9 x0 0 s7).bind (fun v12 => (pw_gr 7 v12 1 s7).bind (fun v13 => (pw_ar 13 v13 x2 s7).bind (fun v14 => (pw_gr 9 x0 8 s7).bind (fun v15 => (pw_gr 9 x0 0 s7).bind (fun v16 => (pw_gi 7 v16 0 s7).bind (fun v17 => pw_bd (mf_S_sum v11 v14 v15 v17 s7) (fun _ s18 => pw_bd (mf_W_store x0 x3 s18) (fun v20 s19 => some (v20, s19))))))))))))) (gM := fun x0 x1 x2 x3 s7 => ml_M_add_31 1000 x0 x1 x2 x3 (0 : Int) s7) hx hy hz (fun σ hL => ?_) (fun σ hL => ?_) (fun h1 h2 h3 A T len E Hs hV => ?_)
  · have hN := hL.1
    have := sh_0
    unfold mf_W_add
    rw [ex_gd (by omega) (by omega)]
    rfl
  · have hN := hL.1
    have := sh_91
    unfold mf_M_add
    rw [ex_gd (by omega) (by omega)]
    rfl
  have hp := isPb_le hV.1.1
  have hf2 : ∀ k, k < 16 → 0 ≤ (A.2.1 x.toNat k + A.2.1 y.toNat k) % A.1 ∧ (A.2.1 x.toNat k + A.2.1 y.toNat k) % A.1 < A.1 := fun k _ => mod_rng (by omega) _
  refine ⟨_, _, _, _, _, _, w_store hV h3.1 h3.2 hf2 (fun σ hC => ?_), m_store hV h3.1 h3.2 hf2 (fun σ hM => ?_), hV.saved (hV.1.row hf2)⟩
  · obtain ⟨hL, _, g3, g4, g5, g6⟩ := id hC
    have hN := hL.1
    have := sh_0
    have := sh_1
    have := sh_88
    have b2 := g3.2.1
    have hs := e_S_sum (σ := σ) (a := 3 + x.toNat) (b := 3 + y.toNat) (t := 88) (p := A.1) (by omega) (by omega) (by omega) (sh_rowp (by omega)) (sh_rowp (by omega)) rfl (by omega) (by omega) (by omega) (by omega) (fun k hk => by rw [b2 x.toNat k (by omega) hk]; exact row250 hV.1 (by omega) hk) (fun k hk => by rw [b2 y.toNat k (by omega) hk]; exact row250 hV.1 (by omega) hk)
    refine ⟨_, ?_, hC.st88 (a := 88) (by omega) (by omega) (fun j => if j < 16 then (σ.2.1 (3 + x.toNat) j + σ.2.1 (3 + y.toNat) j) % A.1 else σ.2.1 88 j), Hi.st (by omega), fun k hk => ?_⟩
    · simp (disch := omega) only [ex_gr, lr_0_0 hL, lr_1_1 hL, e_row hL, lr_0_8 hL, ex_gi, g3.1, Option.bind_some, hs, ex_bd]
    · rw [st_eq, if_pos hk, b2 x.toNat k (by omega) hk, b2 y.toNat k (by omega) hk]
  · obtain ⟨hL, g2, g3, g4, g5, g6⟩ := id hM
    have hN := hL.1
    have := sh_91
    have := sh_96
    have hlp := lp_fill (O := Int × pw_Sto) (fun n k s => ml_M_add_31 n 91 x y z k s) σ 96 0 16 (fun k => (A.2.1 x.toNat k + A.2.1 y.toNat k) % A.1) (fun s => pw_bd (mf_M_store 91 z s) (fun v s' => some (v, s')))
      (by
        intro n k hh hk0 hk w1 w2
        have hL' : Lay (pw_st σ 96 hh) := hL
        have hS' : StM (pw_st σ 96 hh) 92 0 A := g2.kept (st_ne (by omega))
        have r1 := row250 hV.1 (s := x.toNat) (k := k) (by omega) hk
        have r2 := row250 hV.1 (s := y.toNat) (k := k) (by omega) hk
        try dsimp only
        rw [us_M_add_31]
        unfold mb_M_add_31
        rw [pw_ck_ok (by omega) (by omega), if_neg (by omega), ex_gr (by rw [st_1]; omega) (by omega), lr_91_6 hL', Option.bind_some, e_M_term hL' hS' h1.1 h1.2 (by omega) (by omega), ex_bd, e_M_term hL' hS' h2.1 h2.2 (by omega) (by omega), ex_bd, Int.toNat_natCast, e_M_mod hL' hS'.1 (by omega) (by omega) (by omega), ex_bd, xs_si (by rw [st_1]; omega) (by omega) (by omega) (by omega), Option.bind_some, st_st, st_eq, Int.toNat_natCast]
        rfl)
      (by
        intro n hh
        try dsimp only
        rw [us_M_add_31]
        unfold mb_M_add_31
        rw [pw_ck_ok (by omega) (by omega), if_pos (by omega)]) 1000 (by omega) (by omega)
    refine ⟨_, hlp, hM.st96 (by omega) _, Lo.st (by omega), fun k hk => ?_⟩
    rw [st_eq, if_pos (by omega)]
theorem op_multiply {x y z : Int} (hx : pw_R x) (hy : pw_R y) (hz : pw_R z) : OpOk (mf_W_multiply 0 x y z) (mf_M_multiply 91 x y z) := by
  refine op_three (fW := mf_W_multiply 0) (fM := mf_M_multiply 91) (gW := fun x0 x1 x2 x3 s7 => (pw_gr 9 x0 0 s7).bind (fun v9 => (pw_gr 7 v9 1 s7).bind (fun v10 => (pw_ar 13 v10 x1 s7).bind (fun v11 => (pw_gr 9 x0 0 s7).bind (fun v12 => (pw_gr 7 v12 1 s7).bind (fun v13 => (pw_ar 13 v13 x2 s7).bind (fun v14 => (pw_gr 9 x0 8 s7).bind (fun v15 => (pw_gr 9 x0 0 s7).bind (fun v16 => (pw_gi 7 v16 0 s7).bind (fun v17 => pw_bd (mf_S_product v11 v14 v15 v17 s7) (fun _ s18 => pw_bd (mf_W_store x0 x3 s18) (fun v20 s19 => some (v20, s19))))))))))))) (gM := fun x0 x1 x2 x3 s7 => (pw_gr 10 x0 7 s7).bind (fun v9 => pw_bd (mf_M_take x0 x1 v9 s7) (fun _ s10 => (pw_gr 10 x0 8 s10).bind (fun v11 => pw_bd (mf_M_take x0 x2 v11 s10) (fun _ s12 => pw_bd (mf_M_makeProduct x0 s12) (fun _ s13 => pw_bd (mf_M_store x0 x3 s13) (fun v15 s14 => some (v15, s14)))))))) hx hy hz (fun σ hL => ?_) (fun σ hL => ?_) (fun h1 h2 h3 A T len E Hs hV => ?_)
  · have hN := hL.1
    have := sh_0
    unfold mf_W_multiply
    rw [ex_gd (by omega) (by omega)]
    rfl
  · have hN := hL.1
    have := sh_91
    unfold mf_M_multiply
    rw [ex_gd (by omega) (by omega)]
    rfl
  have hp := isPb_le hV.1.1
  have hf2 : ∀ k, k < 16 → 0 ≤ cvI A.1 (A.2.1 x.toNat) (A.2.1 y.toNat) k ∧ cvI A.1 (A.2.1 x.toNat) (A.2.1 y.toNat) k < A.1 := fun k _ => mod_rng (by omega) _
  refine ⟨_, _, _, _, _, _, w_store hV h3.1 h3.2 hf2 (fun σ hC => ?_), m_store hV h3.1 h3.2 hf2 (fun σ hM => ?_), hV.saved (hV.1.row hf2)⟩
  · obtain ⟨hL, _, g3, g4, g5, g6⟩ := id hC
    have hN := hL.1
    have := sh_0
    have := sh_1
    have := sh_88
    have b2 := g3.2.1
    have hs := e_S_product (σ := σ) (a := 3 + x.toNat) (b := 3 + y.toNat) (t := 88) (p := A.1) (by omega) (by omega) (by omega) (sh_rowp (by omega)) (sh_rowp (by omega)) rfl (by omega) (by omega) (by omega) (by omega) (fun k hk => by rw [b2 x.toNat k (by omega) hk]; exact row250 hV.1 (by omega) hk) (fun k hk => by rw [b2 y.toNat k (by omega) hk]; exact row250 hV.1 (by omega) hk)
    refine ⟨_, ?_, hC.st88 (a := 88) (by omega) (by omega) (fun j => if j < 16 then cvI A.1 (σ.2.1 (3 + x.toNat)) (σ.2.1 (3 + y.toNat)) j else σ.2.1 88 j), Hi.st (by omega), fun k hk => ?_⟩
    · simp (disch := omega) only [ex_gr, lr_0_0 hL, lr_1_1 hL, e_row hL, lr_0_8 hL, ex_gi, g3.1, Option.bind_some, hs, ex_bd]
    · rw [st_eq, if_pos hk]
      exact cvI_congr (fun i hi => b2 x.toNat i (by omega) (by omega)) (fun i hi => b2 y.toNat i (by omega) (by omega))
  · obtain ⟨hL, g2, g3, g4, g5, g6⟩ := id hM
    have hN := hL.1
    have := sh_91
    have t1 := e_M_take hL g2 (t := 97) (by omega) rfl (by omega) h1.1 h1.2
    generalize hs1 : pw_st σ 97 (fun j => if j < 16 then A.2.1 x.toNat j else σ.2.1 97 j) = s1 at t1
    have hM1 : MR s1 A T len E Hs := by rw [← hs1]; exact hM.st96 (by omega) _
    have t2 := e_M_take hM1.1 hM1.2.1 (t := 98) (by omega) rfl (by omega) h2.1 h2.2
    generalize hs2 : pw_st s1 98 (fun j => if j < 16 then A.2.1 y.toNat j else s1.2.1 98 j) = s2 at t2
    have hM2 : MR s2 A T len E Hs := by rw [← hs2]; exact hM1.st96 (by omega) _
    have v97 : ∀ k, k < 16 → s2.2.1 97 k = A.2.1 x.toNat k := fun k hk => by rw [← hs2, st_ne (by omega), ← hs1, st_eq, if_pos hk]
    have v98 : ∀ k, k < 16 → s2.2.1 98 k = A.2.1 y.toNat k := fun k hk => by rw [← hs2, st_eq, if_pos hk]
    have t3 := e_M_makeProduct hM2.1 hM2.2.1.1 (by omega) (by omega) (fun k hk => by rw [v97 k hk]; exact row250 hV.1 (by omega) hk) (fun k hk => by rw [v98 k hk]; exact row250 hV.1 (by omega) hk)
    have n1 := hM1.1.1
    refine ⟨_, ?_, hM2.st96 (a := 96) (by omega) (fun j => if j < 16 then cvI A.1 (s2.2.1 97) (s2.2.1 98) j else s2.2.1 96 j), ?_, fun k hk => ?_⟩
    · simp (disch := omega) only [ex_gr, lr_91_7 hL, Option.bind_some, t1, ex_bd, lr_91_8 hM1.1, t2, t3]
    · rw [← hs2, ← hs1]
      exact ((Lo.st (by omega)).trans (Lo.st (by omega))).trans (Lo.st (by omega))
    · rw [st_eq, if_pos hk]
      exact cvI_congr (fun i hi => v97 i (by omega)) (fun i hi => v98 i (by omega))
