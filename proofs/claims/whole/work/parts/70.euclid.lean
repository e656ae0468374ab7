section
/-! ## Euclid's algorithm of the class -/
theorem lrt_dyn : ∀ q ∈ LRt, ¬ (q.1 = 47 ∧ q.2.1 < 4) ∧ ¬ (q.1 = 84 ∧ (q.2.1 = 1 ∨ q.2.1 = 2)) := by decide
def EuR (σ : pw_Sto) (b l c d : Nat) : Prop := Lay σ ∧ ((b = 48 ∧ l = 50) ∨ (b = 50 ∧ l = 48)) ∧ ((c = 52 ∧ d = 54) ∨ (c = 54 ∧ d = 52)) ∧ (σ.2.2 47 0 = some b ∧ σ.2.2 47 1 = some l) ∧ σ.2.2 47 2 = some c ∧ σ.2.2 47 3 = some d
theorem EuR.of {σ : pw_Sto} (hL : Lay σ) (hD : Dyn σ) : ∃ b l c d, EuR σ b l c d := by
  obtain ⟨h1, h2, _⟩ := hD
  rcases h1 with h1 | h1 <;> rcases h2 with h2 | h2
  · exact ⟨48, 50, 52, 54, hL, Or.inl ⟨rfl, rfl⟩, Or.inl ⟨rfl, rfl⟩, h1, h2.1, h2.2⟩
  · exact ⟨48, 50, 54, 52, hL, Or.inl ⟨rfl, rfl⟩, Or.inr ⟨rfl, rfl⟩, h1, h2.1, h2.2⟩
  · exact ⟨50, 48, 52, 54, hL, Or.inr ⟨rfl, rfl⟩, Or.inl ⟨rfl, rfl⟩, h1, h2.1, h2.2⟩
  · exact ⟨50, 48, 54, 52, hL, Or.inr ⟨rfl, rfl⟩, Or.inr ⟨rfl, rfl⟩, h1, h2.1, h2.2⟩
theorem EuR.po {σ : pw_Sto} {b l c d : Nat} (h : EuR σ b l c d) : PO σ b ∧ PO σ l ∧ PO σ c ∧ PO σ d ∧ PO σ 56 := by
  obtain ⟨hL, h1, h2, _⟩ := h
  exact ⟨PO.of hL (by omega), PO.of hL (by omega), PO.of hL (by omega), PO.of hL (by omega), PO.of hL (by omega)⟩
theorem EuR.fr {σ s : pw_Sto} {b l c d o : Nat} (h : EuR σ b l c d) (k : Fr σ s o) : EuR s b l c d := by
  obtain ⟨hL, h1, h2, h3⟩ := h
  refine ⟨hL.fr k, h1, h2, ?_⟩
  rw [k.2.1]
  exact h3
def rsw (σ : pw_Sto) (o k x y : Nat) : pw_Sto := (σ.1, σ.2.1, fun i j => if i = o ∧ j = k then some x else if i = o ∧ j = k + 1 then some y else σ.2.2 i j)
theorem e_sw {β : Type} {σ : pw_Sto} {c o x y k : Nat} {K : pw_Sto → Option β} (h1 : o < σ.1) (h2 : (pw_sh o).1 = c) : (pw_pr c o k x σ).bind (fun s => (pw_pr c o (k + 1) y s).bind K) = K (rsw σ o k x y) := by
  rw [ex_pr h1 h2, Option.bind_some, ex_pr (σ := (σ.1, σ.2.1, pw_u2 σ.2.2 o k (some x))) h1 h2, Option.bind_some]
  congr 1
  unfold rsw
  refine Prod.ext rfl (Prod.ext rfl ?_)
  funext i j
  show pw_u2 (pw_u2 σ.2.2 o k (some x)) o (k + 1) (some y) i j = if i = o ∧ j = k then some x else if i = o ∧ j = k + 1 then some y else σ.2.2 i j
  by_cases c1 : i = o
  · subst c1
    rw [pw_u2_at, pw_u2_at]
    by_cases c2 : j = k
    · rw [if_neg (by omega), if_pos c2, if_pos ⟨rfl, c2⟩]
    · by_cases c3 : j = k + 1
      · rw [if_pos c3, if_neg (by omega), if_pos ⟨rfl, c3⟩]
      · rw [if_neg c3, if_neg c2, if_neg (by omega), if_neg (by omega)]
  · rw [pw_u2_ne c1, pw_u2_ne c1, if_neg (by omega), if_neg (by omega)]
theorem rsw_ne {σ : pw_Sto} {o k x y i j : Nat} (h : ¬ (i = o ∧ (j = k ∨ j = k + 1))) : (rsw σ o k x y).2.2 i j = σ.2.2 i j := by
  show (if i = o ∧ j = k then some x else if i = o ∧ j = k + 1 then some y else σ.2.2 i j) = _
  rw [if_neg (by omega), if_neg (by omega)]
theorem rsw_1 {σ : pw_Sto} {o k x y : Nat} : (rsw σ o k x y).2.2 o k = some x := if_pos ⟨rfl, rfl⟩
theorem rsw_2 {σ : pw_Sto} {o k x y : Nat} : (rsw σ o k x y).2.2 o (k + 1) = some y := by
  show (if o = o ∧ k + 1 = k then some x else if o = o ∧ k + 1 = k + 1 then some y else σ.2.2 o (k + 1)) = _
  rw [if_neg (by omega), if_pos ⟨rfl, rfl⟩]
def Fe (σ s : pw_Sto) : Prop := s.1 = σ.1 ∧ (∀ i, ¬ (47 ≤ i ∧ i < 58) → s.2.1 i = σ.2.1 i) ∧ ∀ i k, ¬ (i = 47 ∧ k < 4) → s.2.2 i k = σ.2.2 i k
theorem Fe.refl (σ : pw_Sto) : Fe σ σ := ⟨rfl, fun _ _ => rfl, fun _ _ _ => rfl⟩
theorem Fe.trans {a b c : pw_Sto} (h : Fe a b) (k : Fe b c) : Fe a c := ⟨k.1.trans h.1, fun i hi => (k.2.1 i hi).trans (h.2.1 i hi), fun i j hij => (k.2.2 i j hij).trans (h.2.2 i j hij)⟩
theorem Fe.fr {σ s : pw_Sto} {o : Nat} (h : Fr σ s o) (h1 : 47 ≤ o) (h2 : o < 57) : Fe σ s := ⟨h.1, fun i hi => h.2.2 i (by omega) (by omega), fun i k _ => by rw [h.2.1]⟩
theorem Lay.fe {σ s : pw_Sto} (h : Lay σ) (k : Fe σ s) : Lay s := ⟨k.1.trans h.1, fun q hq => by rw [k.2.2 _ _ (lrt_dyn q hq).1]; exact h.2 q hq⟩
theorem Lay.rsw {σ : pw_Sto} (h : Lay σ) {k x y : Nat} (hk : k + 1 < 4) : Lay (rsw σ 47 k x y) := h.fe ⟨rfl, fun _ _ => rfl, fun i j hij => rsw_ne (by omega)⟩
theorem rg_dv0 {R : Type} [Lean.Grind.CommRing R] {L R0 : R} : R0 = 0 * L + R0 := by grind
theorem rg_dv1 {R : Type} [Lean.Grind.CommRing R] {B q L R0 f x n : R} (h : B = q * L + R0) (hn : n = - f) : B = (q + f * x) * L + (R0 + n * (x * L)) := by grind
theorem cc_neg {p : Nat} [NeZero p] (c : Fin p) : (cc (-c) : PS (Fin p)) = fun k => - cc c k := by
  funext k
  cases k with
  | zero => rw [cc_z, cc_z]
  | succ k => rw [cc_s, cc_s]; grind
theorem Pr.kept {p : Nat} [NeZero p] {σ s : pw_Sto} {o : Nat} {a : PS (Fin p)} (h : Pr σ o a) (k : s.2.1 (o + 1) = σ.2.1 (o + 1)) : Pr s o a := ⟨fun i hi => by rw [k]; exact h.1 i hi, h.2⟩
theorem Pc.kept {p : Nat} [NeZero p] {σ s : pw_Sto} {o : Nat} {a : PS (Fin p)} (h : Pc σ o a) (k : s.2.1 (o + 1) = σ.2.1 (o + 1)) (k2 : s.2.1 o = σ.2.1 o) : Pc s o a := ⟨h.1.kept k, by rw [k2]; exact h.2⟩
theorem e_E_divide {p : Nat} [NeZero p] (hp : isPb p = true) {σ : pw_Sto} {b l c d : Nat} (hE : EuR σ b l c d) (h5 : σ.2.1 47 5 = p) {B L : PS (Fin p)} (hB : Pc σ b B) (hL : Pc σ l L) (hL0 : 0 < pLn L 17) (hLB : pLn L 17 ≤ pLn B 17) : ∃ s q R, mf_E_divide 47 σ = some ((), s) ∧ EuR s l b c d ∧ Pc s l L ∧ Pc s b R ∧ Pc s 56 q ∧ (∀ i, i ≠ b → i ≠ b + 1 → i ≠ 56 → i ≠ 57 → s.2.1 i = σ.2.1 i) ∧ Fe σ s ∧ B = pAd (cv q L) R ∧ pBd R (pLn L 17 - 1) ∧ pBd q (pLn B 17 - pLn L 17 + 1) := by
  have hp2 := isPb_le hp
  obtain ⟨PB, PL, _, _, PQ⟩ := hE.po
  obtain ⟨hY, hbl, hcd, ⟨r0, r1⟩, r2, r3⟩ := id hE
  have hN := hY.1
  have s47 := sh_47
  have lB := ln_le B 17
  have r4 := lr_47_4 hY
  obtain ⟨s1, t1, f1, c1⟩ := e_P_becomeZero (p := p) PQ
  have hY1 := hY.fr f1
  have hB1 : Pc s1 b B := hB.fr f1 (by omega) (by omega) (by omega)
  have hL1 : Pc s1 l L := hL.fr f1 (by omega) (by omega) (by omega)
  obtain ⟨b1, b2, b3, b4, b5, b6⟩ := id (PB.fr f1)
  obtain ⟨l1, l2, l3, l4, l5, l6⟩ := id (PL.fr f1)
  obtain ⟨q1, q2, q3, q4, q5, q6⟩ := id (PQ.fr f1)
  have h51 : s1.2.1 47 5 = p := by rw [f1.2.2 47 (by omega) (by omega)]; exact h5
  have r0' : s1.2.2 47 0 = some b := by rw [f1.2.1]; exact r0
  have r1' : s1.2.2 47 1 = some l := by rw [f1.2.1]; exact r1
  have r4' : s1.2.2 47 4 = some 56 := by rw [f1.2.1]; exact r4
  obtain ⟨dl, hdl⟩ : ∃ dl, pLn L 17 = dl + 1 := ⟨pLn L 17 - 1, by omega⟩
  obtain ⟨e, he⟩ : ∃ e, pLn B 17 = pLn L 17 + e := ⟨pLn B 17 - pLn L 17, by omega⟩
  have hLd : L dl ≠ 0 := by
    have := ln_nz (a := L) (n := 17) (by omega)
    rw [hdl] at this
    exact this
  have bL := ln_bd hL.1.2
  have bB := ln_bd hB.1.2
  have hinv := fi_ok hp hLd
  obtain ⟨n, t, e1, hP⟩ := lp_ex (S := pw_Sto) (O := Unit × pw_Sto) (fun n k t => ml_E_divide_57 n 47 (vv (fi (L dl))) k t) (fun i => (e : Int) - (i : Int)) (e + 1) (fun i t => (t.1 = s1.1 ∧ t.2.2 = s1.2.2 ∧ ∀ j, j ≠ b + 1 → j ≠ 57 → t.2.1 j = s1.2.1 j) ∧ ∃ R q, Pr t b R ∧ Pr t 56 q ∧ B = pAd (cv q L) R ∧ pBd R (pLn B 17 - i) ∧ pBd q (e + 1) ∧ ∀ k, k + i ≤ e → q k = 0)
    (by
      intro n i t hi hI
      obtain ⟨⟨g1, g2, g3⟩, R, q, hR, hq, hBq, bR, bq, zq⟩ := hI
      have es : (e : Int) - (i : Int) = ((e - i : Nat) : Int) := by omega
      have T0 : t.2.2 47 0 = some b := by rw [g2]; exact r0'
      have T1 : t.2.2 47 1 = some l := by rw [g2]; exact r1'
      have T4 : t.2.2 47 4 = some 56 := by rw [g2]; exact r4'
      have T5 : t.2.1 47 5 = p := by rw [g3 47 (by omega) (by omega)]; exact h51
      have Tb : t.2.2 b 0 = some (b + 1) := by rw [g2]; exact b4
      have Tq : t.2.2 56 0 = some (56 + 1) := by rw [g2]; exact q4
      have TL : t.2.1 l 1 = (pLn L 17 : Int) - 1 := by rw [g3 l (by omega) (by omega)]; exact hL1.2
      have TR := hR.1 (e - i + dl) (by omega)
      have m1 := vv_mm (p := p) (by omega) (R (e - i + dl)) (fi (L dl))
      generalize hφ : R (e - i + dl) * fi (L dl) = φ at *
      have rφ := vv_rng φ
      have hu : ∀ j, (pw_st t 57 (fun j => if j = e - i then vv φ else t.2.1 57 j)).2.1 57 j = if j = e - i then vv φ else t.2.1 57 j := fun j => by rw [st_eq]
      have hu2 : ∀ a, a ≠ 57 → (pw_st t 57 (fun j => if j = e - i then vv φ else t.2.1 57 j)).2.1 a = t.2.1 a := fun a ha => st_ne ha
      have hu1 : (pw_st t 57 (fun j => if j = e - i then vv φ else t.2.1 57 j)).1 = t.1 := rfl
      have hu3 : (pw_st t 57 (fun j => if j = e - i then vv φ else t.2.1 57 j)).2.2 = t.2.2 := rfl
      have xsi : pw_si (56 + 1) ((e - i : Nat) : Int) (vv φ) t = some (pw_st t 57 (fun j => if j = e - i then vv φ else t.2.1 57 j)) := by
        have := xs_si (a := 56 + 1) (i := ((e - i : Nat) : Int)) (v := vv φ) (σ := t) (by omega) q5 (by omega) (by omega)
        rw [Int.toNat_natCast] at this
        exact this
      generalize pw_st t 57 (fun j => if j = e - i then vv φ else t.2.1 57 j) = u at *
      have PBu : PO u b := by unfold PO; rw [hu1, hu3, g1, g2]; exact ⟨b1, b2, b3, b4, b5, b6⟩
      have PLu : PO u l := by unfold PO; rw [hu1, hu3, g1, g2]; exact ⟨l1, l2, l3, l4, l5, l6⟩
      have U0 : u.2.2 47 0 = some b := by rw [hu3]; exact T0
      have U1 : u.2.2 47 1 = some l := by rw [hu3]; exact T1
      have U5 : u.2.1 47 5 = p := by rw [hu2 47 (by omega)]; exact T5
      have hRu : Pr u b R := hR.kept (hu2 (b + 1) (by omega))
      have hLu : Pc u l L := hL1.kept (by rw [hu2 (l + 1) (by omega), g3 (l + 1) (by omega) (by omega)]) (by rw [hu2 l (by omega), g3 l (by omega) (by omega)])
      obtain ⟨s', ge, ⟨gf, gd⟩, gR⟩ := e_P_gather (p := p) (by omega) PBu PLu (by omega) (by omega) (by omega) hRu hLu (-φ) (s := e - i) (by omega)
      have bq' : pBd (pAd q (cv (cc φ) (pXp (e - i)))) (e + 1) := fun k hk => by
        show q k + cv (cc φ) (pXp (e - i)) k = 0
        rw [bq k hk, cv_cc]
        show 0 + φ * (if k = e - i then 1 else 0) = 0
        rw [if_neg (by omega)]; grind
      refine ⟨s', ?_, ⟨by rw [gf.1, hu1]; exact g1, by rw [gf.2.1, hu3]; exact g2, fun j j1 j2 => ?_⟩, pAd R (cv (cc (-φ)) (pSh (e - i) L)), pAd q (cv (cc φ) (pXp (e - i))), gR, ⟨fun k hk => ?_, bq'.mono (by omega)⟩, ?_, fun k hk => ?_, bq', fun k hk => ?_⟩
      · try dsimp only
        rw [es, us_E_divide_57]
        unfold mb_E_divide_57
        rw [pw_ck_ok (by omega) (by omega), if_neg (by omega)]
        simp (disch := omega) only [ex_gr, ex_gi, T0, T1, Tb, T5, TL, Option.bind_some]
        rw [ex_ai (by omega) (by omega) (by omega) (by omega), Option.bind_some, show (((e - i : Nat) : Int) + ((pLn L 17 : Int) - 1)).toNat = e - i + dl by omega, TR, e_K_times (by omega) (by omega) (by omega) (by omega), ex_bd, ← vv_mul, hφ]
        simp (disch := omega) only [ex_gr, T4, Tq, Option.bind_some, xsi, U0, U1, ex_gi, U5]
        rw [e_K_negative rφ.1 rφ.2 (by omega), ex_bd, ← vv_neg, ex_gi (by omega) (by omega), Option.bind_some, U5, ge, ex_bd, show ((e - i : Nat) : Int) + -1 = (e : Int) - ((i + 1 : Nat) : Int) by omega]
      · by_cases jb : j = b
        · subst jb
          rw [gd, hu2 j (by omega)]
          exact g3 j (by omega) (by omega)
        · rw [gf.2.2 j jb j1, hu2 j j2]
          exact g3 j j1 j2
      · rw [gf.2.2 (56 + 1) (by omega) (by omega), hu k]
        show _ = vv (q k + cv (cc φ) (pXp (e - i)) k)
        rw [cv_cc]
        show _ = vv (q k + φ * (if k = e - i then 1 else 0))
        by_cases ck : k = e - i
        · rw [if_pos ck, if_pos ck, zq k (by omega)]
          congr 1
          grind
        · rw [if_neg ck, if_neg ck, hq.1 k hk]
          congr 1
          grind
      · rw [sh_cv]
        exact @rg_dv1 (PS (Fin p)) (psRing (Fin p)) B q L R (cc φ) (pXp (e - i)) (cc (-φ)) hBq (cc_neg φ)
      · show R k + cv (cc (-φ)) (pSh (e - i) L) k = 0
        rw [cv_cc]
        show R k + -φ * (if k < e - i then 0 else L (k - (e - i))) = 0
        rw [if_neg (by omega)]
        by_cases ck : k = e - i + dl
        · rw [ck, show e - i + dl - (e - i) = dl by omega, ← hφ]
          grind
        · rw [bR k (by omega), bL (k - (e - i)) (by omega)]; grind
      · show q k + cv (cc φ) (pXp (e - i)) k = 0
        rw [cv_cc, zq k (by omega)]
        show 0 + φ * (if k = e - i then 1 else 0) = 0
        rw [if_neg (by omega)]; grind) (e + 1) 0 1000 s1 (by omega) (by omega) ⟨⟨rfl, rfl, fun _ _ _ => rfl⟩, B, cc 0, hB1.1, c1.1, @rg_dv0 (PS (Fin p)) (psRing (Fin p)) L B, bB, fun k _ => cc_0 k, fun k _ => cc_0 k⟩
  obtain ⟨⟨g1, g2, g3⟩, R, q, hR, hq, hBq, bR, bq, _⟩ := hP
  have PQt : PO t 56 := by unfold PO; rw [g1, g2]; exact ⟨q1, q2, q3, q4, q5, q6⟩
  have m1 := e_P_measure (p := p) (by omega) PQt hq
  obtain ⟨mc, mf⟩ := mes_Pc hq
  generalize mes t 56 ((pLn q 17 : Int) - 1) = u at *
  have PBu : PO u b := by unfold PO; rw [mf.1, mf.2.1, g1, g2]; exact ⟨b1, b2, b3, b4, b5, b6⟩
  have hRu : Pr u b R := hR.fr mf (by omega) (by omega)
  have m2 := e_P_measure (p := p) (by omega) PBu hRu
  obtain ⟨nc, nf⟩ := mes_Pc hRu
  generalize mes u b ((pLn R 17 : Int) - 1) = w at *
  have Yw : Lay w := (((hY.fr f1).fe ⟨g1, fun i hi => g3 i (by omega) (by omega), fun i k _ => by rw [g2]⟩).fr mf).fr nf
  have W22 : w.2.2 = σ.2.2 := by rw [nf.2.1, mf.2.1, g2, f1.2.1]
  have U22 : u.2.2 = σ.2.2 := by rw [mf.2.1, g2, f1.2.1]
  have T22 : t.2.2 = σ.2.2 := by rw [g2, f1.2.1]
  have Wi : ∀ i, i ≠ b → i ≠ b + 1 → i ≠ 56 → i ≠ 57 → w.2.1 i = σ.2.1 i := fun i i1 i2 i3 i4 => by
    rw [nf.2.2 i i1 i2, mf.2.2 i i3 i4, g3 i i2 i4, f1.2.2 i i3 i4]
  have n1 : t.1 = 109 := g1.trans b1
  have n2 : u.1 = 109 := mf.1.trans n1
  have n3 : w.1 = 109 := nf.1.trans n2
  refine ⟨rsw w 47 0 l b, q, R, ?_, ⟨Yw.rsw (by omega), by omega, hcd, ⟨rsw_1, rsw_2⟩, ?_, ?_⟩, ?_, nc, (mc.fr nf (by omega) (by omega) (by omega) : Pc w 56 q), Wi, ?_, hBq, bR.mono (by omega), bq.mono (by omega)⟩
  · have Lr : s1.2.1 (l + 1) dl = vv (L dl) := hL1.1.1 dl (by omega)
    have hK : mf_K_inverse (vv (L dl)) p s1 = some (vv (fi (L dl)), s1) := by
      have rr := vv_rng (L dl)
      have := e_K_inverse (p := p) (a := (vv (L dl)).toNat) (σ := s1) (by omega) (by omega) (by omega)
      rw [show (((vv (L dl)).toNat : Nat) : Int) = vv (L dl) by omega, ← vv_fi hp] at this
      exact this
    unfold mf_E_divide
    rw [ex_gd (by omega) (by omega)]
    have o1 := PL.2.2.1
    simp (disch := omega) only [ex_gr, ex_gi, r1, Option.bind_some, hL.2]
    rw [pw_ck_ok (by omega) (by omega), if_pos (by omega)]
    simp (disch := omega) only [ex_gr, ex_gi, r4, Option.bind_some, t1, ex_bd, r1', l4, hL1.2, h51]
    rw [ex_ai (by omega) (by omega) (by omega) (by omega), Option.bind_some, show ((pLn L 17 : Int) - 1).toNat = dl by omega, Lr, hK, ex_bd]
    simp (disch := omega) only [ex_gr, ex_gi, Option.bind_some, r0', r1', hB1.2, hL1.2]
    rw [show (pLn B 17 : Int) - 1 - ((pLn L 17 : Int) - 1) = (e : Int) - ((0 : Nat) : Int) by omega]
    refine Eq.trans e1 ?_
    try dsimp only
    have T4 : t.2.2 47 4 = some 56 := by rw [T22]; exact r4
    have U0 : u.2.2 47 0 = some b := by rw [U22]; exact r0
    have W0 : w.2.2 47 0 = some b := by rw [W22]; exact r0
    have W1 : w.2.2 47 1 = some l := by rw [W22]; exact r1
    rw [us_E_divide_57]
    unfold mb_E_divide_57
    rw [pw_ck_ok (by omega) (by omega), if_pos (by omega)]
    simp (disch := omega) only [ex_gr, T4, Option.bind_some, m1, ex_bd, U0, m2, W0, W1]
    exact e_sw (by omega) (by omega)
  · rw [rsw_ne (by omega), W22]; exact r2
  · rw [rsw_ne (by omega), W22]; exact r3
  · exact hL.kept (Wi (l + 1) (by omega) (by omega) (by omega) (by omega)) (Wi l (by omega) (by omega) (by omega) (by omega))
  · refine ⟨n3.trans hN.symm, fun i hi => Wi i (by omega) (by omega) (by omega) (by omega), fun i k hik => ?_⟩
    rw [rsw_ne (by omega), W22]
end
