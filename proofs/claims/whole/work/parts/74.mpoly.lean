section
/-! ## polynomials of the model -/
def Pm {p : Nat} [NeZero p] (σ : pw_Sto) (q : Nat) (a : PS (Fin p)) : Prop := (∀ k, k < 18 → σ.2.1 q k = vv (a k)) ∧ pBd a 18
theorem sh_pm {q : Nat} (h1 : 102 ≤ q) (h2 : q ≤ 106) : (pw_sh q).1 = 11 ∧ (pw_sh q).2 = 18 := by
  rcases (by omega : q = 102 ∨ q = 103 ∨ q = 104 ∨ q = 105 ∨ q = 106) with h | h | h | h | h <;> subst h <;> exact ⟨rfl, rfl⟩
theorem Pm.kept {p : Nat} [NeZero p] {σ s : pw_Sto} {q : Nat} {a : PS (Fin p)} (h : Pm σ q a) (k : s.2.1 q = σ.2.1 q) : Pm s q a := ⟨fun i hi => by rw [k]; exact h.1 i hi, h.2⟩
theorem e_M_inv {p : Nat} [NeZero p] (hp : isPb p = true) {σ : pw_Sto} (hL : Lay σ) (hp0 : σ.2.1 92 0 = p) {x : Fin p} (hx : x ≠ 0) : mf_M_inverse 91 (vv x) σ = some (vv (fi x), σ) := by
  have rr := vv_rng x
  have h0 : vv x ≠ 0 := fun q => hx (vv_z.mp q)
  have := e_M_inverse hL hp0 hp (a := (vv x).toNat) (by omega) (by omega)
  rw [show (((vv x).toNat : Nat) : Int) = vv x by omega, ← vv_fi hp] at this
  exact this
theorem e_M_degree {p : Nat} [NeZero p] (hp : p ≤ 251) {σ : pw_Sto} (hL : Lay σ) {q : Nat} (h1 : 102 ≤ q) (h2 : q ≤ 106) {a : PS (Fin p)} (hP : Pm σ q a) : mf_M_degree q σ = some ((pLn a 18 : Int) - 1, σ) := by
  have hN := hL.1
  have sq := sh_pm h1 h2
  have key : ∀ (d n k : Nat), k + d = 18 → d < n → ml_M_degree_4 n q ((pLn a k : Int) - 1) (k : Nat) σ = some ((pLn a 18 : Int) - 1, σ) := by
    intro d
    induction d with
    | zero =>
      intro n k h3 h4
      obtain ⟨n, rfl⟩ : ∃ k, n = k + 1 := ⟨n - 1, by omega⟩
      rw [us_M_degree_4]
      unfold mb_M_degree_4
      rw [pw_ck_ok (by omega) (by omega), if_pos (by omega), show k = 18 by omega]
    | succ d ih =>
      intro n k h3 h4
      obtain ⟨n, rfl⟩ : ∃ k, n = k + 1 := ⟨n - 1, by omega⟩
      have r1 := vv_rng (a k)
      have en : pLn a (k + 1) = if a k = 0 then pLn a k else k + 1 := rfl
      have hi := ih n (k + 1) (by omega) (by omega)
      rw [us_M_degree_4]
      unfold mb_M_degree_4
      rw [pw_ck_ok (by omega) (by omega), if_neg (by omega), ex_ai (by omega) (by omega) (by omega) (by omega), Option.bind_some, Int.toNat_natCast, hP.1 k (by omega), pw_ck_ok (by omega) (by omega)]
      by_cases c : a k = 0
      · rw [if_pos c] at en
        rw [if_pos (vv_z.mpr c), ← hi, en]
        rfl
      · rw [if_neg c] at en
        rw [if_neg (fun z => c (vv_z.mp z)), ← hi, en, show ((k + 1 : Nat) : Int) - 1 = (k : Int) by omega]
        rfl
  unfold mf_M_degree
  exact key 18 1000 0 (by omega) (by omega)
theorem e_M_copy {σ : pw_Sto} (hL : Lay σ) {q r : Nat} (h1 : 102 ≤ q) (h2 : q ≤ 106) (h3 : 102 ≤ r) (h4 : r ≤ 106) (hqr : q ≠ r) : mf_M_copy q r σ = some ((), pw_st σ r (fun j => if 0 ≤ j ∧ j < 18 then σ.2.1 q j else σ.2.1 r j)) := by
  have hN := hL.1
  have sq := sh_pm h1 h2
  have sr := sh_pm h3 h4
  unfold mf_M_copy
  exact lp_fill (O := Unit × pw_Sto) (fun n k t => ml_M_copy_2 n q r k t) σ r 0 18 (fun k => σ.2.1 q k) (fun t => some ((), t))
    (by
      intro n k h _ hk w1 w2
      have e1 : (pw_st σ r h).1 = 109 := hN
      try dsimp only
      rw [us_M_copy_2]
      unfold mb_M_copy_2
      rw [pw_ck_ok (by omega) (by omega), if_neg (by omega), ex_ai (by omega) (by omega) (by omega) (by omega), Option.bind_some, Int.toNat_natCast, st_ne hqr, xs_si (by omega) (by omega) (by omega) (by omega), Option.bind_some, st_st, st_eq, Int.toNat_natCast]
      rfl)
    (by
      intro n h
      try dsimp only
      rw [us_M_copy_2]
      unfold mb_M_copy_2
      rw [pw_ck_ok (by omega) (by omega), if_pos (by omega)]) 1000 (by omega) (by omega)
/-- only cell q has changed -/
def Fq (σ s : pw_Sto) (q : Nat) : Prop := s.1 = σ.1 ∧ s.2.2 = σ.2.2 ∧ ∀ i, i ≠ q → s.2.1 i = σ.2.1 i
theorem e_M_copyP {p : Nat} [NeZero p] {σ : pw_Sto} (hL : Lay σ) {q r : Nat} (h1 : 102 ≤ q) (h2 : q ≤ 106) (h3 : 102 ≤ r) (h4 : r ≤ 106) (hqr : q ≠ r) {a : PS (Fin p)} (hP : Pm σ q a) : ∃ s, mf_M_copy q r σ = some ((), s) ∧ Fq σ s r ∧ Pm s r a := by
  refine ⟨_, e_M_copy hL h1 h2 h3 h4 hqr, ⟨rfl, rfl, fun i hi => st_ne hi⟩, fun k hk => ?_, hP.2⟩
  rw [st_eq, if_pos (by omega)]
  exact hP.1 k hk
theorem e_M_clearP {p : Nat} [NeZero p] {σ : pw_Sto} (hL : Lay σ) {q : Nat} (h1 : 102 ≤ q) (h2 : q ≤ 106) : ∃ s, mf_M_clear q σ = some ((), s) ∧ Fq σ s q ∧ Pm s q (cc 0 : PS (Fin p)) := by
  have hN := hL.1
  have sq := sh_pm h1 h2
  refine ⟨_, e_M_clear (by omega) sq.1, ⟨rfl, rfl, fun i hi => st_ne hi⟩, fun k hk => ?_, fun k _ => cc_0 k⟩
  rw [st_eq, if_pos (by omega), cc_0, vv_0]
theorem Lay.fq {σ s : pw_Sto} {q : Nat} (h : Lay σ) (k : Fq σ s q) : Lay s := ⟨k.1.trans h.1, fun q hq => by rw [k.2.1]; exact h.2 q hq⟩
theorem Pm.fq {p : Nat} [NeZero p] {σ s : pw_Sto} {q r : Nat} {a : PS (Fin p)} (h : Pm σ q a) (k : Fq σ s r) (hne : q ≠ r) : Pm s q a := h.kept (k.2.2 q hne)
theorem rg_md {R : Type} [Lean.Grind.CommRing R] {A q B R0 f x : R} (h : A = q * B + R0) : A = (q + f * x) * B + (R0 - f * (x * B)) := by grind
/-- the inner loop -/
theorem e_M_divide_in {p : Nat} [NeZero p] (hp : isPb p = true) {a b q : Nat} (ha : 102 ≤ a ∧ a ≤ 106) (hb : 102 ≤ b ∧ b ≤ 106) (hab : a ≠ b) {σ : pw_Sto} (hL : Lay σ) (hp0 : σ.2.1 92 0 = p) {R B : PS (Fin p)} (hR : Pm σ a R) (hB : Pm σ b B) {dB s : Nat} (hd : dB + s < 18) (bB : pBd B (dB + 1)) (φ : Fin p) (w : Int) (rc : Nat → Nat → Nat → Nat → Int → Int → Int → pw_Sto → Option (Unit × pw_Sto)) : ∃ t, ml_M_divide_58 rc 1000 91 a b q dB w ((s + dB : Nat) : Int) (vv φ) 0 σ = rc 91 a b q dB w ((pLn (pSb R (cv (cc φ) (pSh s B))) 18 : Int) - 1) t ∧ Fq σ t a ∧ Pm t a (pSb R (cv (cc φ) (pSh s B))) := by
  have hp2 := isPb_le hp
  have hN := hL.1
  have sa := sh_pm ha.1 ha.2
  have sb := sh_pm hb.1 hb.2
  have s91 := sh_91
  obtain ⟨n, t, e1, hP⟩ := lp_ex (S := pw_Sto) (O := Unit × pw_Sto) (fun n k t => ml_M_divide_58 rc n 91 a b q dB w ((s + dB : Nat) : Int) (vv φ) k t) (fun j => (j : Int)) (dB + 1) (fun k t => Fq σ t a ∧ ∀ j, j < 18 → t.2.1 a j = vv (if s ≤ j ∧ j < s + k then R j - φ * B (j - s) else R j))
    (by
      intro n k t hk hI
      obtain ⟨f1, g⟩ := hI
      have hL1 := hL.fq f1
      have n1 := hL1.1
      have hp1 : t.2.1 92 0 = p := by rw [f1.2.2 92 (by omega)]; exact hp0
      have e3 : t.2.1 b k = vv (B k) := by rw [f1.2.2 b (by omega)]; exact hB.1 k (by omega)
      have e4 := g (s + k) (by omega)
      rw [if_neg (by omega)] at e4
      have r1 := vv_mm (p := p) (by omega) φ (B k)
      have r2 := vv_rng (R (s + k))
      refine ⟨pw_st t a (fun j => if j = s + k then vv (R (s + k) - φ * B k) else t.2.1 a j), ?_, ⟨f1.1, f1.2.1, fun i hi => by rw [st_ne hi]; exact f1.2.2 i hi⟩, fun j hj => ?_⟩
      · try dsimp only
        rw [us_M_divide_58]
        unfold mb_M_divide_58
        rw [pw_ck_ok (by omega) (by omega), if_neg (by omega), show ((s + dB : Nat) : Int) - (dB : Int) + (k : Int) = ((s + k : Nat) : Int) by omega, ex_ai (by omega) (by omega) (by omega) (by omega), Option.bind_some, ex_ai (by omega) (by omega) (by omega) (by omega), Option.bind_some, Int.toNat_natCast, Int.toNat_natCast, e3, e4, e_M_mod hL1 hp1 (by omega) (by omega) (by omega), ex_bd, ← vv_sm, xs_si (by omega) (by omega) (by omega) (by omega), Option.bind_some, Int.toNat_natCast]
        rfl
      · rw [st_eq]
        by_cases c : j = s + k
        · rw [if_pos c, if_pos (by omega), c, show s + k - s = k by omega]
        · rw [if_neg c, g j hj]
          by_cases c2 : s ≤ j ∧ j < s + k
          · rw [if_pos c2, if_pos (by omega)]
          · rw [if_neg c2, if_neg (by omega)]) (dB + 1) 0 1000 σ (by omega) (by omega) ⟨⟨rfl, rfl, fun _ _ => rfl⟩, fun j hj => by rw [if_neg (by omega)]; exact hR.1 j hj⟩
  obtain ⟨f1, g⟩ := hP
  have hL1 := hL.fq f1
  have hR' : Pm t a (pSb R (cv (cc φ) (pSh s B))) := by
    refine ⟨fun j hj => ?_, fun j hj => ?_⟩
    · rw [g j hj]
      show _ = vv (R j - cv (cc φ) (pSh s B) j)
      rw [cv_cc]
      show _ = vv (R j - φ * (if j < s then 0 else B (j - s)))
      by_cases c : s ≤ j ∧ j < s + (dB + 1)
      · rw [if_pos c, if_neg (by omega)]
      · rw [if_neg c]
        by_cases c2 : j < s
        · rw [if_pos c2]; congr 1; grind
        · rw [if_neg c2, bB (j - s) (by omega)]; congr 1; grind
    · show R j - cv (cc φ) (pSh s B) j = 0
      rw [hR.2 j hj, cv_cc]
      show 0 - φ * (if j < s then 0 else B (j - s)) = 0
      rw [if_neg (by omega), bB (j - s) (by omega)]; grind
  refine ⟨t, Eq.trans e1 ?_, f1, hR'⟩
  try dsimp only
  rw [us_M_divide_58]
  unfold mb_M_divide_58
  rw [pw_ck_ok (by omega) (by omega), if_pos (by omega), e_M_degree (p := p) (by omega) hL1 ha.1 ha.2 hR', ex_bd]
theorem e_M_divide {p : Nat} [NeZero p] (hp : isPb p = true) {a b q : Nat} (ha : 102 ≤ a ∧ a ≤ 106) (hb : 102 ≤ b ∧ b ≤ 106) (hq : 102 ≤ q ∧ q ≤ 106) (hab : a ≠ b) (haq : a ≠ q) (hbq : b ≠ q) {σ : pw_Sto} (hL : Lay σ) (hp0 : σ.2.1 92 0 = p) {A B : PS (Fin p)} (hA : Pm σ a A) (hB : Pm σ b B) (hz : 0 < pLn B 18) : ∃ s Q R, mf_M_divide 91 a b q σ = some ((), s) ∧ (s.1 = σ.1 ∧ s.2.2 = σ.2.2 ∧ ∀ i, i ≠ a → i ≠ q → s.2.1 i = σ.2.1 i) ∧ Pm s a R ∧ Pm s q Q ∧ A = pAd (cv Q B) R ∧ pBd R (pLn B 18 - 1) := by
  have hp2 := isPb_le hp
  have hN := hL.1
  have sa := sh_pm ha.1 ha.2
  have sb := sh_pm hb.1 hb.2
  have sq := sh_pm hq.1 hq.2
  have s91 := sh_91
  obtain ⟨dB, hdB⟩ : ∃ d, pLn B 18 = d + 1 := ⟨pLn B 18 - 1, by omega⟩
  have lB := ln_le B 18
  have bB : pBd B (dB + 1) := by rw [← hdB]; exact ln_bd hB.2
  have hBd : B dB ≠ 0 := by
    have := ln_nz (a := B) (n := 18) (by omega)
    rw [hdB] at this
    exact this
  have hinv := fi_ok hp hBd
  obtain ⟨s1, t1, f1, c1⟩ := e_M_clearP (p := p) hL hq.1 hq.2
  have hL1 := hL.fq f1
  have key : ∀ (v n : Nat) (t : pw_Sto) (R Q : PS (Fin p)), pLn R 18 = v → v < n → (t.1 = σ.1 ∧ t.2.2 = σ.2.2 ∧ ∀ i, i ≠ a → i ≠ q → t.2.1 i = σ.2.1 i) → Pm t a R → Pm t q Q → A = pAd (cv Q B) R → (∀ k, k + dB + 1 ≤ v → Q k = 0) → ∃ s Q R, ml_M_divide_26 n 91 a b q dB (vv (fi (B dB))) ((v : Int) - 1) t = some ((), s) ∧ (s.1 = σ.1 ∧ s.2.2 = σ.2.2 ∧ ∀ i, i ≠ a → i ≠ q → s.2.1 i = σ.2.1 i) ∧ Pm s a R ∧ Pm s q Q ∧ A = pAd (cv Q B) R ∧ pBd R (pLn B 18 - 1) := by
    intro v
    induction v using Nat.strongRecOn with
    | ind v ih =>
      intro n t R Q hv hn F hR hQ hE hZ
      obtain ⟨n, rfl⟩ : ∃ k, n = k + 1 := ⟨n - 1, by omega⟩
      obtain ⟨F1, F2, F3⟩ := F
      have lR := ln_le R 18
      have Lt : Lay t := ⟨F1.trans hN, fun q hq => by rw [F2]; exact hL.2 q hq⟩
      have Nt := Lt.1
      rw [us_M_divide_26]
      unfold mb_M_divide_26
      rw [pw_ck_ok (by omega) (by omega)]
      by_cases c : v ≤ dB
      · rw [if_pos (by omega)]
        exact ⟨t, Q, R, rfl, ⟨F1, F2, F3⟩, hR, hQ, hE, (ln_bd hR.2).mono (by omega)⟩
      · rw [if_neg (by omega)]
        obtain ⟨s, hs⟩ : ∃ s, v = s + dB + 1 := ⟨v - dB - 1, by omega⟩
        have pt : t.2.1 92 0 = p := by rw [F3 92 (by omega) (by omega)]; exact hp0
        have e1 : t.2.1 a (s + dB) = vv (R (s + dB)) := hR.1 (s + dB) (by omega)
        have r1 := vv_mm (p := p) (by omega) (R (s + dB)) (fi (B dB))
        rw [show (v : Int) - 1 = ((s + dB : Nat) : Int) by omega, ex_ai (by omega) (by omega) (by omega) (by omega), Option.bind_some, Int.toNat_natCast, e1, e_M_mod Lt pt (by omega) (by omega) (by omega), ex_bd, ← vv_mul, show ((s + dB : Nat) : Int) - (dB : Int) = (s : Int) by omega, xs_si (by omega) (by omega) (by omega) (by omega), Option.bind_some, Int.toNat_natCast]
        generalize hφ : R (s + dB) * fi (B dB) = φ
        have hu : ∀ j, (pw_st t q (fun j => if j = s then vv φ else t.2.1 q j)).2.1 q j = if j = s then vv φ else t.2.1 q j := fun j => by rw [st_eq]
        have hu2 : ∀ i, i ≠ q → (pw_st t q (fun j => if j = s then vv φ else t.2.1 q j)).2.1 i = t.2.1 i := fun i hi => st_ne hi
        have hu1 : (pw_st t q (fun j => if j = s then vv φ else t.2.1 q j)).1 = t.1 := rfl
        have hu3 : (pw_st t q (fun j => if j = s then vv φ else t.2.1 q j)).2.2 = t.2.2 := rfl
        have Lu : Lay (pw_st t q (fun j => if j = s then vv φ else t.2.1 q j)) := Lt
        generalize pw_st t q (fun j => if j = s then vv φ else t.2.1 q j) = u at *
        obtain ⟨t', e2, f2, R2⟩ := e_M_divide_in hp ha hb hab Lu (by rw [hu2 92 (by omega)]; exact pt) (hR.kept (hu2 a haq)) (hB.kept (by rw [hu2 b hbq, F3 b (by omega) hbq])) (dB := dB) (s := s) (by omega) bB φ (vv (fi (B dB))) (q := q) (ml_M_divide_26 n)
        have bR' : pBd (pSb R (cv (cc φ) (pSh s B))) (s + dB) := fun k hk => by
          show R k - cv (cc φ) (pSh s B) k = 0
          rw [cv_cc]
          show R k - φ * (if k < s then 0 else B (k - s)) = 0
          rw [if_neg (by omega)]
          by_cases ck : k = s + dB
          · rw [ck, show s + dB - s = dB by omega, ← hφ]
            grind
          · rw [ln_bd hR.2 k (by omega), bB (k - s) (by omega)]; grind
        have l2 := ln_bd_le (n := 18) bR'
        have hQ' : Pm t' q (pAd Q (cv (cc φ) (pXp s))) := by
          refine ⟨fun k hk => ?_, fun k hk => ?_⟩
          · rw [f2.2.2 q (fun z => haq z.symm), hu k]
            show _ = vv (Q k + cv (cc φ) (pXp s) k)
            rw [cv_cc]
            show _ = vv (Q k + φ * (if k = s then 1 else 0))
            by_cases ck : k = s
            · rw [if_pos ck, if_pos ck, hZ k (by omega)]
              congr 1
              grind
            · rw [if_neg ck, if_neg ck, hQ.1 k hk]
              congr 1
              grind
          · show Q k + cv (cc φ) (pXp s) k = 0
            rw [cv_cc, hQ.2 k hk]
            show 0 + φ * (if k = s then 1 else 0) = 0
            rw [if_neg (by omega)]; grind
        have hE' : A = pAd (cv (pAd Q (cv (cc φ) (pXp s))) B) (pSb R (cv (cc φ) (pSh s B))) := by
          rw [sh_cv]
          exact @rg_md (PS (Fin p)) (psRing (Fin p)) A Q B R (cc φ) (pXp s) hE
        obtain ⟨s', Q', R', e3, F', a1, a2, a3, a4⟩ := ih (pLn (pSb R (cv (cc φ) (pSh s B))) 18) (by omega) n t' _ _ rfl (by omega) ⟨by rw [f2.1, hu1]; exact F1, by rw [f2.2.1, hu3]; exact F2, fun i i1 i2 => by rw [f2.2.2 i i1, hu2 i i2]; exact F3 i i1 i2⟩ R2 hQ' hE' (fun k hk => by
          show Q k + cv (cc φ) (pXp s) k = 0
          rw [cv_cc, hZ k (by omega)]
          show 0 + φ * (if k = s then 1 else 0) = 0
          rw [if_neg (by omega)]; grind)
        exact ⟨s', Q', R', e2.trans e3, F', a1, a2, a3, a4⟩
  have lA := ln_le A 18
  obtain ⟨s, Q, R, e, F, a1, a2, a3, a4⟩ := key (pLn A 18) 1000 s1 A (cc 0) rfl (by omega) ⟨f1.1, f1.2.1, fun i i1 i2 => f1.2.2 i i2⟩ (hA.fq f1 haq) c1 (@rg_dv0 (PS (Fin p)) (psRing (Fin p)) B A) (fun k _ => cc_0 k)
  refine ⟨s, Q, R, ?_, F, a1, a2, a3, a4⟩
  have hB1 := hB.fq f1 hbq
  have p1 : s1.2.1 92 0 = p := by rw [f1.2.2 92 (by omega)]; exact hp0
  have n1 := hL1.1
  unfold mf_M_divide
  rw [ex_gd (by omega) (by omega), t1, ex_bd, e_M_degree (p := p) (by omega) hL1 hb.1 hb.2 hB1, ex_bd, ex_ai (by omega) (by omega) (by omega) (by omega), Option.bind_some, show ((pLn B 18 : Int) - 1).toNat = dB by omega, hB1.1 dB (by omega), e_M_inv hp hL1 p1 hBd, ex_bd, e_M_degree (p := p) (by omega) hL1 ha.1 ha.2 (hA.fq f1 haq), ex_bd, show (pLn B 18 : Int) - 1 = (dB : Int) by omega]
  exact e
theorem e_M_valueAt {p : Nat} [NeZero p] (hp : isPb p = true) {q : Nat} (hq : 102 ≤ q ∧ q ≤ 106) {σ : pw_Sto} (hL : Lay σ) (hp0 : σ.2.1 92 0 = p) {a : PS (Fin p)} (hP : Pm σ q a) (x : Fin p) : ∃ c, mf_M_valueAt 91 q (vv x) σ = some (vv c, σ) ∧ pEv a x c := by
  have hp2 := isPb_le hp
  have hN := hL.1
  have sq := sh_pm hq.1 hq.2
  have s91 := sh_91
  refine ⟨pHs a x 18 18, ?_, ev_hs x hP.2⟩
  have key : ∀ (d i n : Nat), i + d = 18 → d < n → ml_M_valueAt_6 n 91 q (vv x) (vv (pHs a x 18 i)) ((d : Int) - 1) σ = some (vv (pHs a x 18 18), σ) := by
    intro d
    induction d with
    | zero =>
      intro i n h1 h2
      obtain ⟨n, rfl⟩ : ∃ k, n = k + 1 := ⟨n - 1, by omega⟩
      rw [us_M_valueAt_6]
      unfold mb_M_valueAt_6
      rw [pw_ck_ok (by omega) (by omega), if_pos (by omega), show i = 18 by omega]
    | succ d ih =>
      intro i n h1 h2
      obtain ⟨n, rfl⟩ : ∃ k, n = k + 1 := ⟨n - 1, by omega⟩
      have r1 := vv_mm (p := p) (by omega) (pHs a x 18 i) x
      have r2 := vv_rng (a d)
      rw [us_M_valueAt_6]
      unfold mb_M_valueAt_6
      rw [pw_ck_ok (by omega) (by omega), if_neg (by omega), ex_ai (by omega) (by omega) (by omega) (by omega), Option.bind_some, show (((d + 1 : Nat) : Int) - 1).toNat = d by omega, hP.1 d (by omega), e_M_mod hL hp0 (by omega) (by omega) (by omega), ex_bd, ← vv_ma, show ((d + 1 : Nat) : Int) - 1 + -1 = (d : Int) - 1 by omega]
      have e : pHs a x 18 i * x + a d = pHs a x 18 (i + 1) := by
        rw [hs_s, show 18 - 1 - i = d by omega]
      rw [e]
      exact ih (i + 1) n (by omega) (by omega)
  unfold mf_M_valueAt
  rw [ex_gd (by omega) (by omega)]
  have h := key 18 0 1000 (by omega) (by omega)
  rw [hs_0, vv_0] at h
  exact h
end
