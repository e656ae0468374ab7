section
/-! ## Euclid's quotients -/
def pIsD {p : Nat} [NeZero p] (a b : PS (Fin p)) (W : PS (Fin p) × PS (Fin p)) : Prop := pFn W.1 ∧ a = pAd (cv W.1 b) W.2 ∧ ∀ L, pBd b (L + 1) → b L ≠ 0 → pBd W.2 L
noncomputable def pDv {p : Nat} [NeZero p] (a b : PS (Fin p)) : PS (Fin p) × PS (Fin p) := @Classical.epsilon _ ⟨(cc 0, cc 0)⟩ (fun W => pIsD a b W)
theorem dv_is {p : Nat} [NeZero p] (hp : isPb p = true) {a b q r : PS (Fin p)} {n : Nat} (hb : pBd b n) (hl : 0 < pLn b n) (fq : pFn q) (e : a = pAd (cv q b) r) (hr : pBd r (pLn b n - 1)) : (q, r) = pDv a b := by
  obtain ⟨L, hL⟩ : ∃ L, pLn b n = L + 1 := ⟨pLn b n - 1, by omega⟩
  have b1 : pBd b (L + 1) := by rw [← hL]; exact ln_bd hb
  have b2 : b L ≠ 0 := by
    have := ln_nz (a := b) (n := n) hl
    rw [hL] at this
    exact this
  rw [hL] at hr
  have h1 : pIsD a b (q, r) := ⟨fq, e, fun L' c1 c2 => by
    have : L ≤ L' := Classical.byContradiction (fun z => b2 (c1 L (by omega)))
    exact hr.mono (by omega)⟩
  have h2 : pIsD a b (pDv a b) := Classical.epsilon_spec (p := fun W => pIsD a b W) ⟨(q, r), h1⟩
  have h3 := p_div_uniq hp b1 b2 fq h2.1 hr (h2.2.2 L b1 b2) (e.symm.trans h2.2.1)
  exact Prod.ext h3.1 h3.2
noncomputable def pEs {p : Nat} [NeZero p] (a b : PS (Fin p)) : Nat → PS (Fin p) × PS (Fin p)
  | 0 => (a, b)
  | i + 1 => ((pEs a b i).2, (pDv (pEs a b i).1 (pEs a b i).2).2)
theorem es_s {p : Nat} [NeZero p] (a b : PS (Fin p)) (i : Nat) : pEs a b (i + 1) = ((pEs a b i).2, (pDv (pEs a b i).1 (pEs a b i).2).2) := rfl
theorem op_bt {fW fM : pw_Sto → Option (Int × pw_Sto)} (h : ∀ A T len E Hs, VR A T len Hs → ((∀ σ, CR σ A T len E Hs → fW σ = pw_bd (mf_W_fail 0 (-2 : Int) σ) (fun v s => some (v, s))) ∧ (∀ σ, MR σ A T len E Hs → fM σ = pw_bd (mf_M_fail 91 (-2 : Int) σ) (fun v s => some (v, s)))) ∨ (∀ σ σ', CR σ A T len E Hs → MR σ' A T len E Hs → ∃ r s s', fW σ = some (r, s) ∧ CR s A T len E Hs ∧ Hi σ s ∧ fM σ' = some (r, s') ∧ Ms σ' s')) : OpOk fW fM := by
  intro σ hG
  obtain ⟨A, T, len, E, Hs, hC, hM, hV⟩ := hG
  rcases h A T len E Hs hV with ⟨h1, h2⟩ | h1
  · obtain ⟨σ1, e1, c1, d1⟩ := w_cong (w_fail A T len E Hs 0 (by omega)) h1 σ hC
    obtain ⟨σ2, e2, c2, d2⟩ := m_cong (m_fail A T len E Hs 0 (by omega)) h2 σ1 (hM.hi d1 c1.1)
    exact ⟨_, σ1, σ2, e1, e2, A, T, len, bump E 0, Hs, c1.lo d2, c2, hV⟩
  · obtain ⟨r0, s0, _, e0, c0, d0, _, _⟩ := h1 σ σ hC hM
    obtain ⟨r, s, s', e, c, d, e', k⟩ := h1 σ s0 hC (hM.hi d0 c0.1)
    have es : s = s0 ∧ r = r0 := by
      rw [e0] at e
      have := Option.some.inj e
      exact ⟨(congrArg Prod.snd this).symm, (congrArg Prod.fst this).symm⟩
    rw [es.1] at e
    exact ⟨r, s0, s', e, e', A, T, len, E, Hs, c0.lo (Lo.ms k), (hM.hi d0 c0.1).ms k, hV⟩
/-- the class's state after i divisions -/
def QS {p : Nat} [NeZero p] (σ t : pw_Sto) (a b : PS (Fin p)) (i : Nat) : Prop := Fe σ t ∧ (∃ bo lo co do', EuR t bo lo co do' ∧ Pc t bo (pEs a b i).1 ∧ Pc t lo (pEs a b i).2) ∧ t.2.1 47 5 = p ∧ pLn (pEs a b i).2 17 < pLn (pEs a b i).1 17 ∧ i + pLn (pEs a b i).2 17 ≤ 16 ∧ (∀ j, j < i → (pEs a b j).2 ≠ cc 0) ∧ ∀ j, i = j + 1 → Pc t 56 (pDv (pEs a b j).1 (pEs a b j).2).1
theorem qs_step {p : Nat} [NeZero p] (hp : isPb p = true) {σ t : pw_Sto} {a b : PS (Fin p)} {i : Nat} (h : QS σ t a b i) (hz : pLn (pEs a b i).2 17 ≠ 0) : ∃ s, mf_E_divide 47 t = some ((), s) ∧ QS σ s a b (i + 1) := by
  obtain ⟨F, ⟨bo, lo, co, do', hE, hB, hL⟩, h5, h6, h7, h8, _⟩ := h
  obtain ⟨s, q, R, e, E1, L1, R1, Q1, F1, F2, eq, bR, bq⟩ := e_E_divide hp hE h5 hB hL (by omega) (by omega)
  have hd := dv_is hp hL.1.2 (by omega) ⟨_, bq⟩ eq bR
  have hd1 : q = (pDv (pEs a b i).1 (pEs a b i).2).1 := congrArg Prod.fst hd
  have hd2 : R = (pDv (pEs a b i).1 (pEs a b i).2).2 := congrArg Prod.snd hd
  have hbl := hE.2.1
  have lR := ln_bd_le (n := 17) bR
  refine ⟨s, e, F.trans F2, ⟨lo, bo, co, do', E1, L1, ?_⟩, ?_, ?_, ?_, ?_, ?_⟩
  · rw [es_s, ← hd2]; exact R1
  · rw [F1 47 (by omega) (by omega) (by omega) (by omega)]; exact h5
  · rw [es_s, ← hd2]; show pLn R 17 < pLn (pEs a b i).2 17; omega
  · rw [es_s, ← hd2]; show i + 1 + pLn R 17 ≤ 16; omega
  · intro j hj
    by_cases c : j = i
    · rw [c]; exact fun z => hz ((ln_0 hL.1.2).mpr z)
    · exact h8 j (by omega)
  · intro j hj
    have : j = i := by omega
    rw [this, ← hd1]; exact Q1
theorem qs_deg {p : Nat} [NeZero p] {σ t : pw_Sto} {a b : PS (Fin p)} {i : Nat} (h : QS σ t a b i) : ∃ lo, t.2.2 47 1 = some lo ∧ (lo < 109 ∧ (pw_sh lo).1 = 4) ∧ t.2.1 lo 1 = (pLn (pEs a b i).2 17 : Int) - 1 ∧ Lay t := by
  obtain ⟨F, ⟨bo, lo, co, do', hE, hB, hL⟩, _⟩ := h
  have o := hE.po.2.1
  exact ⟨lo, hE.2.2.2.1.2, ⟨by have := o.2.1; omega, o.2.2.1⟩, hL.2, hE.1⟩
theorem qs_cr {p : Nat} [NeZero p] {σ t : pw_Sto} {a b : PS (Fin p)} {i : Nat} (h : QS σ t a b i) {A : ASt} {T : Nat → Int} {len : Nat} {E : Nat → Int} {Hs : List ASt} (hC : CR σ A T len E Hs) : CR t A T len E Hs ∧ Hi σ t := by
  obtain ⟨F, ⟨bo, lo, co, do', hE, hB, hL⟩, _⟩ := h
  exact ⟨hC.fc F.1 (fun i k h1 _ => F.2.2 i k h1) (fun i hi => F.2.1 i (by omega)) (hC.2.1.eu hE (F.2.2 84 1 (by omega)) (F.2.2 84 2 (by omega))), F.1, fun i hi => F.2.1 i (by omega)⟩
theorem qs_start {A : ASt} [NeZero A.1] (hV : VA A) {x : Int} (hx : 0 ≤ x ∧ x < 4) {s : Nat} (hs : s < 16) {σ : pw_Sto} {T : Nat → Int} {len : Nat} {E : Nat → Int} {Hs : List ASt} (hC : CR σ A T len E Hs) : ∃ t, mf_E_startWithSeries 47 (3 + x.toNat) s A.1 σ = some ((), t) ∧ QS σ t (pXp (s + 1)) (pTr (srs A.1 (A.2.1 x.toNat)) s) 0 := by
  have hp2 := isPb_le hV.1
  obtain ⟨b, l, c, d, hE⟩ := EuR.of hC.1 hC.2.1
  have hx4 : x.toNat < 4 := by omega
  obtain ⟨s1, t1, F1, S1⟩ := e_E_startWithSeries hV.1 hE (a := 3 + x.toNat) (s := s) (f := srs A.1 (A.2.1 x.toNat)) (by omega) (sh_rowp hx4) hs (fun k hk => by rw [srs_vv hk (hV.2.1 _ k hx4 hk)]; exact hC.2.2.1.2.1 x.toNat k hx4 hk)
  obtain ⟨E1, h5, hB, hL, _, _, hQ⟩ := S1
  have lt := ln_bd_le (n := 17) (a := pTr (srs A.1 (A.2.1 x.toNat)) s) (L := s + 1) (fun k hk => if_neg (by omega))
  exact ⟨s1, t1, F1, ⟨b, l, c, d, E1, hB, hL⟩, h5, hQ.2.1, by show 0 + pLn (pTr (srs A.1 (A.2.1 x.toNat)) s) 17 ≤ 16; omega, fun j hj => by omega, fun j hj => by omega⟩
/-! the model -/
theorem e_M_findQ {A : ASt} [NeZero A.1] (hV : VA A) {x : Int} (hx : 0 ≤ x ∧ x < 4) {s : Nat} (hs : s < 16) {w : Int} (hw : pw_R w) {σ : pw_Sto} {T : Nat → Int} {len : Nat} {E : Nat → Int} {Hs : List ASt} (hM : MR σ A T len E Hs) : ∃ t N, mf_M_findQuotients 91 x s w σ = some (((N : Nat) : Int), t) ∧ Ms σ t ∧ N ≤ 16 ∧ (pEs (pXp (s + 1)) (pTr (srs A.1 (A.2.1 x.toNat)) s) N).2 = cc 0 ∧ (∀ j, j < N → (pEs (pXp (s + 1)) (pTr (srs A.1 (A.2.1 x.toNat)) s) j).2 ≠ cc 0) ∧ ∀ j : Nat, j < N → w = (j : Int) → Pm t 103 (pDv (pEs (pXp (s + 1)) (pTr (srs A.1 (A.2.1 x.toNat)) s) j).1 (pEs (pXp (s + 1)) (pTr (srs A.1 (A.2.1 x.toNat)) s) j).2).1 := by
  have hp := hV.1
  have hp2 := isPb_le hp
  have s91 := sh_91
  have s104 := sh_104
  have s105 := sh_105
  have hL := hM.1
  have hN := hL.1
  generalize hf : srs A.1 (A.2.1 x.toNat) = f
  obtain ⟨s1, t1, F1, c1⟩ := e_M_clearP (p := A.1) hL (q := 104) (by omega) (by omega)
  have L1 := hL.fq F1
  have n1 := L1.1
  obtain ⟨s2, t2, F2, c2⟩ := e_M_clearP (p := A.1) L1 (q := 105) (by omega) (by omega)
  have L2 := L1.fq F2
  have n2 := L2.1
  have c1' := c1.fq F2 (by omega)
  have X3 : Fq s2 (pw_st s2 104 (fun j => if j = s + 1 then 1 else s2.2.1 104 j)) 104 := ⟨rfl, rfl, fun i hi => st_ne hi⟩
  have P3 : Pm (pw_st s2 104 (fun j => if j = s + 1 then 1 else s2.2.1 104 j)) 104 (pXp (s + 1) : PS (Fin A.1)) := by
    refine ⟨fun k hk => ?_, fun k hk => if_neg (by omega)⟩
    rw [st_eq]
    show _ = vv (if k = s + 1 then (1 : Fin A.1) else 0)
    by_cases c : k = s + 1
    · rw [if_pos c, if_pos c, vv_1 (by omega)]
    · rw [if_neg c, if_neg c, c1'.1 k hk, cc_0]
  have t3 : pw_si 104 ((s : Int) + 1) (1 : Int) s2 = some (pw_st s2 104 (fun j => if j = s + 1 then 1 else s2.2.1 104 j)) := by
    have := xs_si (a := 104) (i := (s : Int) + 1) (v := 1) (σ := s2) (by omega) (by omega) (by omega) (by omega)
    rw [show ((s : Int) + 1).toNat = s + 1 by omega] at this
    exact this
  generalize pw_st s2 104 (fun j => if j = s + 1 then 1 else s2.2.1 104 j) = s3 at *
  have Y3 : Ms σ s3 := ((Ms.fq F1 (by omega)).trans (Ms.fq F2 (by omega))).trans (Ms.fq X3 (by omega))
  have M3 := hM.ms Y3
  have n3 := M3.1.1
  have h26 := lp_fill (O := Int × pw_Sto) (fun q k t => ml_M_findQuotients_26 q 91 x s w k t) s3 105 0 (s + 1) (fun k => vv (f k)) (fun t => ml_M_findQuotients_55 1000 91 w 0 t)
    (by
      intro q k h _ hk w1 w2
      have M4 := M3.ms (Ms.st (a := 105) (f := h) (by omega))
      have n4 := M4.1.1
      have tt := e_M_termF M4.1 M4.2.1 hV hx (k := k) (by omega)
      rw [hf] at tt
      try dsimp only
      rw [us_M_findQuotients_26]
      unfold mb_M_findQuotients_26
      rw [pw_ck_ok (by omega) (by omega), if_neg (by omega), ex_gr (by omega) (by omega), lr_91_16 M4.1, Option.bind_some, tt, ex_bd, xs_si (by omega) (by omega) (by omega) (by omega), Option.bind_some, st_st, st_eq, Int.toNat_natCast]
      rfl)
    (by
      intro q h
      try dsimp only
      rw [us_M_findQuotients_26]
      unfold mb_M_findQuotients_26
      rw [pw_ck_ok (by omega) (by omega), if_pos (by omega)]) 1000 (by omega) (by omega)
  have X4 : Fq s3 (pw_st s3 105 (fun j => if 0 ≤ j ∧ j < s + 1 then vv (f j) else s3.2.1 105 j)) 105 := ⟨rfl, rfl, fun i hi => st_ne hi⟩
  have P4 : Pm (pw_st s3 105 (fun j => if 0 ≤ j ∧ j < s + 1 then vv (f j) else s3.2.1 105 j)) 105 (pTr f s) := by
    refine ⟨fun k hk => ?_, fun k hk => if_neg (by omega)⟩
    rw [st_eq]
    show _ = vv (if k ≤ s then f k else 0)
    by_cases c : k ≤ s
    · rw [if_pos (by omega), if_pos c]
    · rw [if_neg (by omega), if_neg c, X3.2.2 105 (by omega), c2.1 k hk, cc_0]
  generalize pw_st s3 105 (fun j => if 0 ≤ j ∧ j < s + 1 then vv (f j) else s3.2.1 105 j) = s4 at *
  have Y4 : Ms σ s4 := Y3.trans (Ms.fq X4 (by omega))
  have P3' := P3.fq X4 (by omega)
  generalize hA : (pXp (s + 1) : PS (Fin A.1)) = a at *
  have lb := ln_bd_le (n := 18) (a := pTr f s) (L := s + 1) (fun k hk => if_neg (by omega))
  generalize hB : pTr f s = b at *
  have key : ∀ (v n i : Nat) (t : pw_Sto), pLn (pEs a b i).2 18 = v → v < n → i + v ≤ 16 → Ms σ t → Pm t 104 (pEs a b i).1 → Pm t 105 (pEs a b i).2 → (∀ j, j < i → (pEs a b j).2 ≠ cc 0) → (∀ j : Nat, j < i → w = (j : Int) → Pm t 103 (pDv (pEs a b j).1 (pEs a b j).2).1) → ∃ u N, ml_M_findQuotients_55 n 91 w (i : Nat) t = some (((N : Nat) : Int), u) ∧ Ms σ u ∧ N ≤ 16 ∧ (pEs a b N).2 = cc 0 ∧ (∀ j, j < N → (pEs a b j).2 ≠ cc 0) ∧ ∀ j : Nat, j < N → w = (j : Int) → Pm u 103 (pDv (pEs a b j).1 (pEs a b j).2).1 := by
    intro v
    induction v using Nat.strongRecOn with
    | ind v ih =>
      intro n i t hv hn hi Y hPa hPb hz hq
      obtain ⟨n, rfl⟩ : ∃ k, n = k + 1 := ⟨n - 1, by omega⟩
      have M := hM.ms Y
      have nn := M.1.1
      rw [us_M_findQuotients_55]
      unfold mb_M_findQuotients_55
      rw [ex_gr (by omega) (by omega), lr_91_16 M.1, Option.bind_some, e_M_degree (p := A.1) (by omega) M.1 (by omega) (by omega) hPb, ex_bd, hv, pw_ck_ok (by omega) (by omega)]
      by_cases c : v = 0
      · rw [if_pos (by omega)]
        exact ⟨t, i, rfl, Y, by omega, (ln_0 hPb.2).mp (hv.trans c), hz, hq⟩
      · rw [if_neg (by omega)]
        obtain ⟨u1, q, R, e1, G1, R1, q1, eq, bR⟩ := e_M_divide hp (a := 104) (b := 105) (q := 106) (by omega) (by omega) (by omega) (by omega) (by omega) (by omega) M.1 M.2.1.1 hPa hPb (by omega)
        have hd := dv_is hp hPb.2 (by omega) ⟨18, q1.2⟩ eq bR
        have hd1 : q = (pDv (pEs a b i).1 (pEs a b i).2).1 := congrArg Prod.fst hd
        have hd2 : R = (pDv (pEs a b i).1 (pEs a b i).2).2 := congrArg Prod.snd hd
        have lR := ln_bd_le (n := 18) bR
        have Yu : Ms t u1 := Ms.fx (Fx.two G1 (by omega) (by omega) (by omega) (by omega))
        have Mu := M.ms Yu
        have nu := Mu.1.1
        have tail : ∀ (z : pw_Sto), Ms t z → Pm z 104 R → Pm z 105 (pEs a b i).2 → (∀ j : Nat, j < i + 1 → w = (j : Int) → Pm z 103 (pDv (pEs a b j).1 (pEs a b j).2).1) → ∃ u N, mj_M_findQuotients_98 (ml_M_findQuotients_55 n) 91 w (i : Nat) z = some (((N : Nat) : Int), u) ∧ Ms σ u ∧ N ≤ 16 ∧ (pEs a b N).2 = cc 0 ∧ (∀ j, j < N → (pEs a b j).2 ≠ cc 0) ∧ ∀ j : Nat, j < N → w = (j : Int) → Pm u 103 (pDv (pEs a b j).1 (pEs a b j).2).1 := by
          intro z Yz za zb zq
          have Lz := M.1.ms Yz
          have nz := Lz.1
          obtain ⟨z1, k1, H1, d1⟩ := e_M_copyP (q := 104) (r := 106) Lz (by omega) (by omega) (by omega) (by omega) (by omega) za
          have Lz1 := Lz.fq H1
          have nz1 := Lz1.1
          obtain ⟨z2, k2, H2, d2⟩ := e_M_copyP (q := 105) (r := 104) Lz1 (by omega) (by omega) (by omega) (by omega) (by omega) (zb.fq H1 (by omega))
          have Lz2 := Lz1.fq H2
          have nz2 := Lz2.1
          obtain ⟨z3, k3, H3, d3⟩ := e_M_copyP (q := 106) (r := 105) Lz2 (by omega) (by omega) (by omega) (by omega) (by omega) (d1.fq H2 (by omega))
          have Y3' : Ms σ z3 := (((Y.trans Yz).trans (Ms.fq H1 (by omega))).trans (Ms.fq H2 (by omega))).trans (Ms.fq H3 (by omega))
          obtain ⟨u, N, e, a1, a2⟩ := ih (pLn R 18) (by omega) n (i + 1) z3 (by rw [es_s, ← hd2]) (by omega) (by omega) Y3' (by rw [es_s]; exact d2.fq H3 (by omega)) (by rw [es_s, ← hd2]; exact d3) (fun j hj => by
            by_cases cj : j = i
            · rw [cj]; exact fun q => c (hv.symm.trans ((ln_0 hPb.2).mpr q))
            · exact hz j (by omega)) (fun j hj hwj => by
              have := zq j hj hwj
              exact this.kept (by rw [H3.2.2 103 (by omega), H2.2.2 103 (by omega), H1.2.2 103 (by omega)]))
          refine ⟨u, N, ?_, a1, a2⟩
          unfold mj_M_findQuotients_98
          simp (disch := omega) only [ex_gr, lr_91_15 Lz, lr_91_17 Lz, Option.bind_some, k1, ex_bd, lr_91_16 Lz1, lr_91_15 Lz1, k2, lr_91_17 Lz2, lr_91_16 Lz2, k3]
          exact e
        simp (disch := omega) only [ex_gr, lr_91_15 M.1, lr_91_16 M.1, lr_91_17 M.1, Option.bind_some, e1, ex_bd]
        rw [pw_ck_ok (by omega) hw]
        have zb1 : Pm u1 105 (pEs a b i).2 := hPb.kept (G1.2.2 105 (by omega) (by omega))
        by_cases cw : (i : Int) = w
        · rw [if_pos cw]
          obtain ⟨u2, e2, H2, d2⟩ := e_M_copyP (q := 106) (r := 103) Mu.1 (by omega) (by omega) (by omega) (by omega) (by omega) q1
          simp (disch := omega) only [ex_gr, lr_91_17 Mu.1, lr_91_14 Mu.1, Option.bind_some, e2, ex_bd]
          refine tail u2 (Yu.trans (Ms.fq H2 (by omega))) (R1.fq H2 (by omega)) (zb1.fq H2 (by omega)) (fun j hj hwj => ?_)
          have : j = i := by omega
          rw [this, ← hd1]
          exact d2
        · rw [if_neg cw]
          refine tail u1 Yu R1 zb1 (fun j hj hwj => ?_)
          have : j < i := by omega
          exact (hq j this hwj).kept (G1.2.2 103 (by omega) (by omega))
  obtain ⟨u, N, e, a1⟩ := key (pLn b 18) 1000 0 s4 rfl (by omega) (by omega) Y4 P3' P4 (fun j hj => by omega) (fun j hj => by omega)
  refine ⟨u, N, ?_, a1⟩
  unfold mf_M_findQuotients
  rw [ex_gd (by omega) (by omega), ex_gr (by omega) (by omega), lr_91_15 hL, Option.bind_some, t1, ex_bd, ex_gr (by omega) (by omega), lr_91_16 L1, Option.bind_some, t2, ex_bd, ex_gr (by omega) (by omega), lr_91_15 L2, Option.bind_some, t3, Option.bind_some]
  exact Eq.trans h26 e
end
