section
/-! ### cofactors -/
def pCut {p : Nat} [NeZero p] (q : PS (Fin p)) (i : Nat) : PS (Fin p) := fun k => if k < i then q k else 0
theorem cut_s {p : Nat} [NeZero p] (q : PS (Fin p)) (i : Nat) : pCut q (i + 1) = pAd (pCut q i) (cv (cc (q i)) (pXp i)) := by
  funext k
  show (if k < i + 1 then q k else 0) = (if k < i then q k else 0) + cv (cc (q i)) (pXp i) k
  rw [cv_cc]
  show (if k < i + 1 then q k else 0) = (if k < i then q k else 0) + q i * (if k = i then 1 else 0)
  by_cases c1 : k < i
  · rw [if_pos c1, if_pos (by omega), if_neg (by omega)]; grind
  · by_cases c2 : k = i
    · rw [if_neg c1, if_pos (by omega), if_pos c2, c2]; grind
    · rw [if_neg c1, if_neg (by omega), if_neg c2]; grind
theorem cut_0 {p : Nat} [NeZero p] (q : PS (Fin p)) : pCut q 0 = cc 0 := p_zero (fun k => if_neg (by omega))
theorem cut_all {p : Nat} [NeZero p] {q : PS (Fin p)} {n : Nat} (h : pBd q n) : pCut q n = q := by
  funext k
  show (if k < n then q k else 0) = q k
  by_cases c : k < n
  · rw [if_pos c]
  · rw [if_neg c, h k (by omega)]
theorem rg_fo0 {R : Type} [Lean.Grind.CommRing R] {C D : R} : C = C - 0 * D := by grind
theorem rg_fo1 {R : Type} [Lean.Grind.CommRing R] {C D q f n x : R} (hn : n = - f) : (C - q * D) + n * (x * D) = C - (q + f * x) * D := by grind
theorem e_E_follow {p : Nat} [NeZero p] (hp : isPb p = true) {σ : pw_Sto} {b l c d : Nat} (hE : EuR σ b l c d) (h5 : σ.2.1 47 5 = p) {C D q : PS (Fin p)} (hC : Pc σ c C) (hD : Pc σ d D) (hq : Pc σ 56 q) (hln : pLn D 17 + pLn q 17 ≤ 18) : ∃ s, mf_E_followWithCofactors 47 σ = some ((), s) ∧ EuR s b l d c ∧ Pc s d D ∧ Pc s c (pSb C (cv q D)) ∧ (∀ i, i ≠ c → i ≠ c + 1 → s.2.1 i = σ.2.1 i) ∧ Fe σ s := by
  have hp2 := isPb_le hp
  obtain ⟨_, _, PC, PD, PQ⟩ := hE.po
  obtain ⟨hY, hbl, hcd, ⟨r0, r1⟩, r2, r3⟩ := id hE
  have hN := hY.1
  have s47 := sh_47
  have lq := ln_le q 17
  have r4 := lr_47_4 hY
  obtain ⟨q1, q2, q3, q4, q5, q6⟩ := id PQ
  obtain ⟨n, t, e1, hP⟩ := lp_ex (S := pw_Sto) (O := Unit × pw_Sto) (fun n k t => ml_E_followWithCofactors_2 n 47 k t) (fun i => (i : Int)) (pLn q 17) (fun i t => (Fr σ t c ∧ t.2.1 c = σ.2.1 c) ∧ Pr t c (pSb C (cv (pCut q i) D)))
    (by
      intro n i t hi hI
      obtain ⟨⟨f1, f2⟩, g⟩ := hI
      have hqt : Pc t 56 q := hq.fr f1 (by omega) (by omega) (by omega)
      have hDt : Pc t d D := hD.fr f1 (by omega) (by omega) (by omega)
      have T2 : t.2.2 47 2 = some c := by rw [f1.2.1]; exact r2
      have T3 : t.2.2 47 3 = some d := by rw [f1.2.1]; exact r3
      have T4 : t.2.2 47 4 = some 56 := by rw [f1.2.1]; exact r4
      have Tq : t.2.2 56 0 = some (56 + 1) := by rw [f1.2.1]; exact q4
      have T5 : t.2.1 47 5 = p := by rw [f1.2.2 47 (by omega) (by omega)]; exact h5
      have n1 : t.1 = 109 := f1.1.trans hN
      have rq := vv_rng (q i)
      obtain ⟨s', ge, gf, gR⟩ := e_P_gather (p := p) (by omega) (PC.fr f1) (PD.fr f1) (by omega) (by omega) (by omega) g hDt (-(q i)) (s := i) (by omega)
      refine ⟨s', ?_, ⟨f1.trans gf.1, gf.2.trans f2⟩, ?_⟩
      · try dsimp only
        rw [us_E_followWithCofactors_2]
        unfold mb_E_followWithCofactors_2
        simp (disch := omega) only [ex_gr, ex_gi, T4, Option.bind_some, hqt.2]
        rw [pw_ck_ok (by omega) (by omega), if_neg (by omega)]
        simp (disch := omega) only [ex_gr, ex_gi, T4, Tq, Option.bind_some]
        rw [ex_ai (by omega) (by omega) (by omega) (by omega), Option.bind_some, Int.toNat_natCast, hqt.1.1 i (by omega), T5, e_K_negative rq.1 rq.2 (by omega), ex_bd, ← vv_neg]
        simp (disch := omega) only [ex_gr, ex_gi, T2, T3, T5, Option.bind_some, ge, ex_bd]
        rfl
      · rw [cut_s]
        rw [sh_cv] at gR
        have er : pAd (pSb C (cv (pCut q i) D)) (cv (cc (-(q i))) (cv (pXp i) D)) = pSb C (cv (pAd (pCut q i) (cv (cc (q i)) (pXp i))) D) := @rg_fo1 (PS (Fin p)) (psRing (Fin p)) C D (pCut q i) (cc (q i)) (cc (-(q i))) (pXp i) (cc_neg (q i))
        rw [← er]
        exact gR) (pLn q 17) 0 1000 σ (by omega) (by omega) ⟨⟨Fr.refl σ c, rfl⟩, by
          have er : C = pSb C (cv (cc 0) D) := @rg_fo0 (PS (Fin p)) (psRing (Fin p)) C D
          rw [cut_0, ← er]
          exact hC.1⟩
  obtain ⟨⟨f1, f2⟩, g⟩ := hP
  rw [cut_all (ln_bd hq.1.2)] at g
  have m1 := e_P_measure (p := p) (by omega) (PC.fr f1) g
  obtain ⟨mc, mf⟩ := mes_Pc g
  generalize mes t c ((pLn (pSb C (cv q D)) 17 : Int) - 1) = w at *
  have W22 : w.2.2 = σ.2.2 := by rw [mf.2.1, f1.2.1]
  have Wi : ∀ i, i ≠ c → i ≠ c + 1 → w.2.1 i = σ.2.1 i := fun i i1 i2 => by rw [mf.2.2 i i1 i2, f1.2.2 i i1 i2]
  have n1 : t.1 = 109 := f1.1.trans hN
  have n2 : w.1 = 109 := mf.1.trans n1
  have hqt : Pc t 56 q := hq.fr f1 (by omega) (by omega) (by omega)
  refine ⟨rsw w 47 2 d c, ?_, ⟨((hY.fr f1).fr mf).rsw (by omega), hbl, by omega, ⟨?_, ?_⟩, rsw_1, rsw_2⟩, ?_, mc, Wi, ⟨n2.trans hN.symm, fun i hi => Wi i (by omega) (by omega), fun i k hik => by rw [rsw_ne (by omega), W22]⟩⟩
  · have T2 : t.2.2 47 2 = some c := by rw [f1.2.1]; exact r2
    have T4 : t.2.2 47 4 = some 56 := by rw [f1.2.1]; exact r4
    have W2 : w.2.2 47 2 = some c := by rw [W22]; exact r2
    have W3 : w.2.2 47 3 = some d := by rw [W22]; exact r3
    unfold mf_E_followWithCofactors
    rw [ex_gd (by omega) (by omega)]
    refine Eq.trans e1 ?_
    try dsimp only
    rw [us_E_followWithCofactors_2]
    unfold mb_E_followWithCofactors_2
    simp (disch := omega) only [ex_gr, ex_gi, T4, Option.bind_some, hqt.2]
    rw [pw_ck_ok (by omega) (by omega), if_pos (by omega)]
    simp (disch := omega) only [ex_gr, T2, Option.bind_some, m1, ex_bd, W2, W3]
    exact e_sw (by omega) (by omega)
  · rw [rsw_ne (by omega), W22]; exact r0
  · rw [rsw_ne (by omega), W22]; exact r1
  · exact hD.kept (Wi (d + 1) (by omega) (by omega)) (Wi d (by omega) (by omega))
/-! ### what holds between the four polynomials -/
def EuQ {p : Nat} [NeZero p] (M f : PS (Fin p)) (N : Nat) (B L C D : PS (Fin p)) : Prop := (∃ X Y w, pFn X ∧ pFn Y ∧ B = pAd (cv C f) (cv X M) ∧ L = pAd (cv D f) (cv Y M) ∧ w ≠ 0 ∧ pSb (cv B D) (cv L C) = cv (cc w) M) ∧ pLn L 17 < pLn B 17 ∧ pLn B 17 ≤ N + 1 ∧ pBd C (N + 2 - pLn B 17) ∧ pBd D (N + 2 - pLn B 17) ∧ pBd B 17 ∧ pBd L 17
theorem rg_eu1 {R : Type} [Lean.Grind.CommRing R] {B q L R0 C D X Y M f : R} (h : B = q * L + R0) (h1 : B = C * f + X * M) (h2 : L = D * f + Y * M) : R0 = (C - q * D) * f + (X - q * Y) * M := by grind
theorem rg_eu2 {R : Type} [Lean.Grind.CommRing R] {B q L R0 C D w w' M : R} (h : B = q * L + R0) (h1 : B * D - L * C = w * M) (h2 : w' = - w) : L * (C - q * D) - R0 * D = w' * M := by grind
theorem eu_step {p : Nat} [NeZero p] {M f : PS (Fin p)} {N : Nat} {B L C D q R : PS (Fin p)} (h : EuQ M f N B L C D) (h0 : 0 < pLn L 17) (e : B = pAd (cv q L) R) (bR : pBd R (pLn L 17 - 1)) (bq : pBd q (pLn B 17 - pLn L 17 + 1)) : EuQ M f N L R D (pSb C (cv q D)) := by
  obtain ⟨⟨X, Y, w, fX, fY, e1, e2, hw, e3⟩, h1, h2, h3, h4, h5, h6⟩ := h
  have fq : pFn q := ⟨_, bq⟩
  have l1 := ln_bd_le (n := 17) bR
  have l2 := ln_le L 17
  refine ⟨⟨Y, pSb X (cv q Y), -w, fY, fn_sb fX (fn_cv fq fY), e2, @rg_eu1 (PS (Fin p)) (psRing (Fin p)) B q L R C D X Y M f e e1 e2, fun z => hw (by grind), @rg_eu2 (PS (Fin p)) (psRing (Fin p)) B q L R C D (cc w) (cc (-w)) M e e3 (cc_neg w)⟩, by omega, by omega, h4.mono (by omega), bd_sb (h3.mono (by omega)) ((bd_cv bq h4).mono (by omega)), h6, bR.mono (by omega)⟩
theorem rg_es1 {R : Type} [Lean.Grind.CommRing R] {M f : R} : M = 0 * f + 1 * M := by grind
theorem rg_es2 {R : Type} [Lean.Grind.CommRing R] {M f : R} : f = 1 * f + 0 * M := by grind
theorem rg_es3 {R : Type} [Lean.Grind.CommRing R] {M f : R} : M * 1 - f * 0 = 1 * M := by grind
theorem eu_start {p : Nat} [NeZero p] (hp : 2 ≤ p) {M f : PS (Fin p)} {N : Nat} (h1 : pBd M 17) (h2 : pLn M 17 = N + 1) (h3 : pBd f N) (hN : N ≤ 16) : EuQ M f N M f (cc 0) (cc 1) := by
  have l1 := ln_bd_le (n := 17) h3
  exact ⟨⟨cc 1, cc 0, 1, fn_cc 1, fn_cc 0, @rg_es1 (PS (Fin p)) (psRing (Fin p)) M f, @rg_es2 (PS (Fin p)) (psRing (Fin p)) M f, fp_one hp, @rg_es3 (PS (Fin p)) (psRing (Fin p)) M f⟩, by omega, by omega, fun k _ => cc_0 k, (bd_cc 1).mono (by omega), h1, h3.mono (by omega)⟩
/-- the cofactor is not zero -/
theorem eu_d {p : Nat} [NeZero p] (hp : isPb p = true) {M f : PS (Fin p)} {N : Nat} {B L C D : PS (Fin p)} (h : EuQ M f N B L C D) (hM : M N ≠ 0) : pNz D := by
  obtain ⟨⟨X, Y, w, fX, fY, e1, e2, hw, e3⟩, h1, h2, h3, h4, h5, h6⟩ := h
  refine p_nz (fun c => ?_)
  have e4 := congrFun e3 N
  rw [c, cv_cc] at e4
  have e5 : pSb (cv B (cc 0)) (cv L C) N = 0 := by
    show cv B (cc 0) N - cv L C N = 0
    rw [cv_comm, cv_cc, bd_cv (ln_bd h6) h3 N (by omega)]
    show (0 : Fin p) * B N - 0 = 0
    grind
  rw [e5] at e4
  rcases fp_dom hp e4.symm with z | z
  · exact hw z
  · exact hM z
/-- Bezout for the last remainder and its cofactor -/
theorem rg_eub {R : Type} [Lean.Grind.CommRing R] {B L C D w M : R} (h : B * D - L * C = w * M) : (0 - C) * L + B * D = w * M := by grind
theorem eu_bz {p : Nat} [NeZero p] {M f : PS (Fin p)} {N : Nat} {B L C D : PS (Fin p)} (h : EuQ M f N B L C D) : ∃ w, w ≠ 0 ∧ pBz L D (cv (cc w) M) := by
  obtain ⟨⟨X, Y, w, fX, fY, e1, e2, hw, e3⟩, h1, h2, h3, h4, h5, h6⟩ := h
  exact ⟨w, hw, pSb (cc 0) C, B, fn_sb (fn_cc 0) ⟨_, h3⟩, ⟨17, h5⟩, @rg_eub (PS (Fin p)) (psRing (Fin p)) B L C D (cc w) M e3⟩
/-! ### the loop -/
def EuS {p : Nat} [NeZero p] (σ : pw_Sto) (M f : PS (Fin p)) (N : Nat) (b l c d : Nat) (B L C D : PS (Fin p)) : Prop := EuR σ b l c d ∧ σ.2.1 47 5 = p ∧ Pc σ b B ∧ Pc σ l L ∧ Pc σ c C ∧ Pc σ d D ∧ EuQ M f N B L C D
theorem e_E_step {p : Nat} [NeZero p] (hp : isPb p = true) {σ : pw_Sto} {M f : PS (Fin p)} {N : Nat} (hN : N ≤ 16) {b l c d : Nat} {B L C D : PS (Fin p)} (h : EuS σ M f N b l c d B L C D) (h0 : 0 < pLn L 17) : ∃ s1 s2 q R, mf_E_divide 47 σ = some ((), s1) ∧ mf_E_followWithCofactors 47 s1 = some ((), s2) ∧ Fe σ s2 ∧ EuS s2 M f N l b d c L R D (pSb C (cv q D)) ∧ pLn R 17 < pLn L 17 := by
  obtain ⟨hE, h5, hB, hL, hC, hD, hQ⟩ := h
  obtain ⟨_, h1, h2, h3, h4, h5', h6⟩ := id hQ
  obtain ⟨hY, hbl, hcd, _⟩ := id hE
  obtain ⟨s1, q, R, t1, E1, L1, R1, q1, F1, G1, e, bR, bq⟩ := e_E_divide hp hE h5 hB hL h0 (by omega)
  have C1 : Pc s1 c C := hC.kept (F1 (c + 1) (by omega) (by omega) (by omega) (by omega)) (F1 c (by omega) (by omega) (by omega) (by omega))
  have D1 : Pc s1 d D := hD.kept (F1 (d + 1) (by omega) (by omega) (by omega) (by omega)) (F1 d (by omega) (by omega) (by omega) (by omega))
  have h51 : s1.2.1 47 5 = p := by rw [F1 47 (by omega) (by omega) (by omega) (by omega)]; exact h5
  have lq := ln_bd_le (n := 17) bq
  have lD := ln_bd_le (n := 17) h4
  obtain ⟨s2, t2, E2, D2, C2, F2, G2⟩ := e_E_follow hp E1 h51 C1 D1 q1 (by omega)
  have lR := ln_bd_le (n := 17) bR
  refine ⟨s1, s2, q, R, t1, t2, G1.trans G2, ⟨E2, by rw [F2 47 (by omega) (by omega)]; exact h51, L1.kept (F2 (l + 1) (by omega) (by omega)) (F2 l (by omega) (by omega)), R1.kept (F2 (b + 1) (by omega) (by omega)) (F2 b (by omega) (by omega)), D2, C2, eu_step hQ h0 e bR bq⟩, by omega⟩
theorem e_E_runDownTo {p : Nat} [NeZero p] (hp : isPb p = true) {σ : pw_Sto} {M f : PS (Fin p)} {N : Nat} (hN : N ≤ 16) {b l c d : Nat} {B L C D : PS (Fin p)} (h : EuS σ M f N b l c d B L C D) {m : Nat} (hm : m ≤ 16) (hB : m + 2 ≤ pLn B 17) (hL : pLn L 17 ≤ 16) : ∃ s b l c d B L C D, mf_E_runDownTo 47 m σ = some ((), s) ∧ Fe σ s ∧ EuS s M f N b l c d B L C D ∧ m + 2 ≤ pLn B 17 ∧ pLn L 17 ≤ m + 1 := by
  have s47 := sh_47
  have key : ∀ (w i n : Nat) (t : pw_Sto) (b l c d : Nat) (B L C D : PS (Fin p)), w = pLn L 17 → i + w ≤ 16 → w < n → EuS t M f N b l c d B L C D → m + 2 ≤ pLn B 17 → ∃ s b l c d B L C D, ml_E_runDownTo_2 n 47 m (i : Nat) t = some ((), s) ∧ Fe t s ∧ EuS s M f N b l c d B L C D ∧ m + 2 ≤ pLn B 17 ∧ pLn L 17 ≤ m + 1 := by
    intro w
    induction w using Nat.strongRecOn with
    | ind w ih =>
      intro i n t b l c d B L C D hw hi hn hS hB
      obtain ⟨n, rfl⟩ : ∃ k, n = k + 1 := ⟨n - 1, by omega⟩
      obtain ⟨hE, h5, PB, PL, PC, PD, hQ⟩ := id hS
      obtain ⟨hY, hbl, hcd, ⟨r0, r1⟩, r2, r3⟩ := id hE
      have hN1 := hY.1
      have o1 := hE.po.2.1.2.2.1
      have h1 : ml_E_runDownTo_2 (n + 1) 47 m (i : Nat) t = pw_ck ((pLn L 17 : Int) - 1) (m : Int) (if (pLn L 17 : Int) - 1 ≤ (m : Int) then some ((), t) else pw_bd (mf_E_divide 47 t) (fun _ s3 => pw_bd (mf_E_followWithCofactors 47 s3) (fun _ s4 => ml_E_runDownTo_2 n 47 m ((i : Int) + 1) s4))) := by
        rw [us_E_runDownTo_2]
        unfold mb_E_runDownTo_2
        rw [pw_ck_ok (by omega) (by omega), if_neg (by omega)]
        simp (disch := omega) only [ex_gr, ex_gi, r1, Option.bind_some, PL.2]
      rw [h1, pw_ck_ok (by omega) (by omega)]
      by_cases cc1 : pLn L 17 ≤ m + 1
      · rw [if_pos (by omega)]
        exact ⟨t, b, l, c, d, B, L, C, D, rfl, Fe.refl t, hS, hB, cc1⟩
      · rw [if_neg (by omega)]
        obtain ⟨s1, s2, q, R, t1, t2, F2, S2, lR⟩ := e_E_step hp hN hS (by omega)
        obtain ⟨s, b', l', c', d', B', L', C', D', e, F, S, k1, k2⟩ := ih (pLn R 17) (by omega) (i + 1) n s2 l b d c L R D (pSb C (cv q D)) rfl (by omega) (by omega) S2 (by omega)
        refine ⟨s, b', l', c', d', B', L', C', D', ?_, F2.trans F, S, k1, k2⟩
        rw [t1, ex_bd, t2, ex_bd]
        exact e
  obtain ⟨hE, _⟩ := id h
  have hN1 := hE.1.1
  obtain ⟨s, b', l', c', d', B', L', C', D', e, F, S, k1, k2⟩ := key (pLn L 17) 0 1000 σ b l c d B L C D rfl (by omega) (by omega) h hB
  refine ⟨s, b', l', c', d', B', L', C', D', ?_, F, S, k1, k2⟩
  unfold mf_E_runDownTo
  rw [ex_gd (by omega) (by omega)]
  exact e
/-! ### the start -/
theorem e_E_startCofactors {p : Nat} [NeZero p] (hp : 2 ≤ p) {σ : pw_Sto} {b l c d : Nat} (hE : EuR σ b l c d) : ∃ s, mf_E_startCofactors 47 σ = some ((), s) ∧ EuR s b l c d ∧ Pc s c (cc 0 : PS (Fin p)) ∧ Pc s d (cc 1 : PS (Fin p)) ∧ Fe σ s ∧ ∀ i, i < 52 ∨ 58 ≤ i → s.2.1 i = σ.2.1 i := by
  obtain ⟨_, _, PC, PD, PQ⟩ := hE.po
  obtain ⟨hY, hbl, hcd, ⟨r0, r1⟩, r2, r3⟩ := id hE
  have hN := hY.1
  have s47 := sh_47
  have r4 := lr_47_4 hY
  obtain ⟨s1, t1, f1, c1⟩ := e_P_becomeZero (p := p) PC
  obtain ⟨s2, t2, f2, c2⟩ := e_P_becomePower (p := p) hp (PD.fr f1) (e := 0) (by omega)
  obtain ⟨s3, t3, f3, c3⟩ := e_P_becomeZero (p := p) ((PQ.fr f1).fr f2)
  have n1 : s1.1 = 109 := f1.1.trans hN
  have n2 : s2.1 = 109 := f2.1.trans n1
  refine ⟨s3, ?_, ((hE.fr f1).fr f2).fr f3, (c1.fr f2 (by omega) (by omega) (by omega)).fr f3 (by omega) (by omega) (by omega), (c2.fr f3 (by omega) (by omega) (by omega)), ((Fe.fr f1 (by omega) (by omega)).trans (Fe.fr f2 (by omega) (by omega))).trans (Fe.fr f3 (by omega) (by omega)), fun i hi => by rw [f3.2.2 i (by omega) (by omega), f2.2.2 i (by omega) (by omega), f1.2.2 i (by omega) (by omega)]⟩
  have S3 : s1.2.2 47 3 = some d := by rw [f1.2.1]; exact r3
  have S4 : s2.2.2 47 4 = some 56 := by rw [f2.2.1, f1.2.1]; exact r4
  unfold mf_E_startCofactors
  rw [ex_gd (by omega) (by omega)]
  simp (disch := omega) only [ex_gr, r2, Option.bind_some, t1, ex_bd, S3, S4]
  rw [show (0 : Int) = ((0 : Nat) : Int) from rfl, t2, ex_bd, ex_gr (by omega) (by omega), S4, Option.bind_some, t3, ex_bd]
theorem e_E_startWithSeries {p : Nat} [NeZero p] (hp : isPb p = true) {σ : pw_Sto} {b l c d : Nat} (hE : EuR σ b l c d) {a s : Nat} (ha : a < 47) (sa : pw_sh a = (11, 16)) (hs : s < 16) {f : PS (Fin p)} (hf : ∀ k, k < 16 → σ.2.1 a k = vv (f k)) : ∃ s', mf_E_startWithSeries 47 a s p σ = some ((), s') ∧ Fe σ s' ∧ EuS s' (pXp (s + 1)) (pTr f s) (s + 1) b l c d (pXp (s + 1)) (pTr f s) (cc 0) (cc 1) := by
  have hp2 := isPb_le hp
  obtain ⟨hY, hbl, hcd, ⟨r0, r1⟩, r2, r3⟩ := id hE
  have hN := hY.1
  have s47 := sh_47
  have t0 : pw_pi 0 47 5 (p : Int) σ = some (pw_st σ 47 (fun j => if j = 5 then (p : Int) else σ.2.1 47 j)) := xs_pi (by omega) (by omega)
  have F0 : Fe σ (pw_st σ 47 (fun j => if j = 5 then (p : Int) else σ.2.1 47 j)) := ⟨rfl, fun i hi => st_ne (by omega), fun _ _ _ => rfl⟩
  have E0 : EuR (pw_st σ 47 (fun j => if j = 5 then (p : Int) else σ.2.1 47 j)) b l c d := hE
  have h5 : (pw_st σ 47 (fun j => if j = 5 then (p : Int) else σ.2.1 47 j)).2.1 47 5 = p := by rw [st_eq]; rfl
  have hf0 : ∀ k, k < 16 → (pw_st σ 47 (fun j => if j = 5 then (p : Int) else σ.2.1 47 j)).2.1 a k = vv (f k) := fun k hk => by rw [st_ne (by omega)]; exact hf k hk
  generalize pw_st σ 47 (fun j => if j = 5 then (p : Int) else σ.2.1 47 j) = u at *
  obtain ⟨hYu, _, _, ⟨u0, u1⟩, u2, u3⟩ := id E0
  have hNu := hYu.1
  obtain ⟨s1, t1, f1, c1⟩ := e_P_becomePower (p := p) (by omega) E0.po.1 (e := s + 1) (by omega)
  have E1 := E0.fr f1
  have n1 := E1.1.1
  obtain ⟨s2, t2, f2, c2⟩ := e_P_becomeStart (p := p) (by omega) E1.po.2.1 (c := a) (s := s) (by omega) sa (by omega) hs (f := f) (fun k hk => by rw [f1.2.2 a (by omega) (by omega)]; exact hf0 k hk)
  have E2 := E1.fr f2
  obtain ⟨s3, t3, E3, c3, d3, F3, G3⟩ := e_E_startCofactors (p := p) (by omega) E2
  refine ⟨s3, ?_, ((F0.trans (Fe.fr f1 (by omega) (by omega))).trans (Fe.fr f2 (by omega) (by omega))).trans F3, E3, ?_, ?_, ?_, c3, d3, ?_⟩
  · unfold mf_E_startWithSeries
    rw [ex_gd (by omega) (by omega), t0, Option.bind_some, ex_gr (by omega) (by omega), u0, Option.bind_some, show (s : Int) + 1 = ((s + 1 : Nat) : Int) by omega, t1, ex_bd, ex_gr (by omega) (by omega), E1.2.2.2.1.2, Option.bind_some, t2, ex_bd, t3, ex_bd]
  · rw [G3 47 (by omega), f2.2.2 47 (by omega) (by omega), f1.2.2 47 (by omega) (by omega)]
    exact h5
  · have := c1.fr f2 (by omega) (by omega) (by omega)
    exact this.kept (G3 (b + 1) (by omega)) (G3 b (by omega))
  · exact c2.kept (G3 (l + 1) (by omega)) (G3 l (by omega))
  · exact eu_start (by omega) (fun k hk => if_neg (by omega)) (xp_ln (by omega) (by omega)) (fun k hk => if_neg (by omega)) (by omega)
end
