section
/-! ## interpolants of the class -/
theorem vv_sbp {p : Nat} [NeZero p] (x y : Fin p) : (vv x + (p : Int) - vv y) % p = vv (x - y) := by
  rw [← vv_fz, fz_sub, fz_add, fz_p, fz_vv, fz_vv]
  congr 1
  grind
/-- the points, as elements -/
def ptX (A : ASt) [NeZero A.1] : Nat → Fin A.1 := fun i => fz A.1 (A.2.2.2.1 i)
def ptY (A : ASt) [NeZero A.1] : Nat → Fin A.1 := fun i => fz A.1 (A.2.2.2.2 i)
theorem ptX_vv {A : ASt} [NeZero A.1] (hV : VA A) {i : Nat} (hi : i < A.2.2.1) : vv (ptX A i) = A.2.2.2.1 i := by
  have h := (hV.2.2.2.1 i hi).1
  unfold ptX
  rw [vv_fz, Int.emod_eq_of_lt h.1 h.2]
theorem ptY_vv {A : ASt} [NeZero A.1] (hV : VA A) {i : Nat} (hi : i < A.2.2.1) : vv (ptY A i) = A.2.2.2.2 i := by
  have h := (hV.2.2.2.1 i hi).2
  unfold ptY
  rw [vv_fz, Int.emod_eq_of_lt h.1 h.2]
theorem ptX_inj {A : ASt} [NeZero A.1] (hV : VA A) {i j : Nat} (hi : i < A.2.2.1) (hj : j < A.2.2.1) (h : ptX A i = ptX A j) : i = j := by
  refine hV.2.2.2.2 i j hi hj ?_
  rw [← ptX_vv hV hi, ← ptX_vv hV hj, h]
def ptL {p : Nat} (xs : Nat → Fin p) : Nat → List (Fin p)
  | 0 => []
  | n + 1 => xs n :: ptL xs n
theorem ptL_len {p : Nat} (xs : Nat → Fin p) : ∀ n, (ptL xs n).length = n := by
  intro n
  induction n with
  | zero => rfl
  | succ n ih => show (ptL xs n).length + 1 = n + 1; rw [ih]
theorem ptL_mem {p : Nat} (xs : Nat → Fin p) {r : Fin p} : ∀ {n : Nat}, r ∈ ptL xs n → ∃ i, i < n ∧ r = xs i := by
  intro n
  induction n with
  | zero => intro h; cases h
  | succ n ih =>
    intro h
    rcases List.mem_cons.mp h with z | z
    · exact ⟨n, by omega, z⟩
    · obtain ⟨i, i1, i2⟩ := ih z
      exact ⟨i, by omega, i2⟩
theorem mem_ptL {p : Nat} (xs : Nat → Fin p) {i : Nat} : ∀ {n : Nat}, i < n → xs i ∈ ptL xs n := by
  intro n
  induction n with
  | zero => intro h; omega
  | succ n ih =>
    intro h
    by_cases c : i = n
    · rw [c]; exact List.mem_cons_self
    · exact List.mem_cons_of_mem _ (ih (by omega))
theorem pr_ev0 {p : Nat} [NeZero p] {L : List (Fin p)} {r : Fin p} (h : r ∈ L) : pEv (pPr L) r 0 := by
  obtain ⟨L', e, _⟩ := pr_mem r L h
  rw [e]
  exact ev_x0 (pr_fn L')
/-- Newton's interpolation -/
def nwI {p : Nat} [NeZero p] (xs ys : Nat → Fin p) (i : Nat) (g : PS (Fin p)) : Prop := pBd g i ∧ ∀ j, j < i → pEv g (xs j) (ys j)
theorem sh_0s {p : Nat} [NeZero p] (b : PS (Fin p)) : pSh 0 b = b := by
  funext k
  show (if k < 0 then 0 else b (k - 0)) = b k
  rw [if_neg (by omega), Nat.sub_zero]
theorem e_E_points {A : ASt} [NeZero A.1] {σ : pw_Sto} {T : Nat → Int} {len : Nat} {E : Nat → Int} {Hs : List ASt} (hC : CR σ A T len E Hs) (hV : VA A) : ∃ s b l c d g, mf_E_startWithPoints 47 1 σ = some ((), s) ∧ Fe σ s ∧ EuS s (pPr (ptL (ptX A) A.2.2.1)) g A.2.2.1 b l c d (pPr (ptL (ptX A) A.2.2.1)) g (cc 0) (cc 1) ∧ nwI (ptX A) (ptY A) A.2.2.1 g := by
  have hp := hV.1
  have hp2 := isPb_le hp
  obtain ⟨hL, hD, hS, _⟩ := id hC
  have hN := hL.1
  have h10 := hV.2.2.1
  have s1' := sh_1
  have s7 := sh_7
  have s8 := sh_8
  have s47 := sh_47
  obtain ⟨b, l, c, d, hE⟩ := EuR.of hL hD
  obtain ⟨hY, hbl, hcd, ⟨r0, r1⟩, r2, r3⟩ := id hE
  have t0 : pw_pi 0 47 5 (A.1 : Int) σ = some (pw_st σ 47 (fun j => if j = 5 then (A.1 : Int) else σ.2.1 47 j)) := xs_pi (by omega) (by omega)
  have F0 : Fe σ (pw_st σ 47 (fun j => if j = 5 then (A.1 : Int) else σ.2.1 47 j)) := ⟨rfl, fun i hi => st_ne (by omega), fun _ _ _ => rfl⟩
  have E0 : EuR (pw_st σ 47 (fun j => if j = 5 then (A.1 : Int) else σ.2.1 47 j)) b l c d := hE
  have h5 : (pw_st σ 47 (fun j => if j = 5 then (A.1 : Int) else σ.2.1 47 j)).2.1 47 5 = A.1 := by rw [st_eq]; rfl
  generalize pw_st σ 47 (fun j => if j = 5 then (A.1 : Int) else σ.2.1 47 j) = u at *
  have nu := E0.1.1
  obtain ⟨s1, t1, f1, c1⟩ := e_P_becomePower (p := A.1) (by omega) E0.po.1 (e := 0) (by omega)
  have E1 := E0.fr f1
  have n1 := E1.1.1
  obtain ⟨s2, t2, f2, c2⟩ := e_P_becomeZero (p := A.1) E1.po.2.1
  have E2 := E1.fr f2
  have F2 : Fe σ s2 := (F0.trans (Fe.fr f1 (by omega) (by omega))).trans (Fe.fr f2 (by omega) (by omega))
  generalize hxs : ptX A = xs
  generalize hys : ptY A = ys
  obtain ⟨q, s3, e3, F3, E3, h53, g, B3, L3, G3⟩ := lp_ex (S := pw_Sto) (O := Unit × pw_Sto) (fun q k t => ml_E_startWithPoints_25 q 47 1 k t) (fun i => (i : Int)) A.2.2.1 (fun i t => Fe σ t ∧ EuR t b l c d ∧ t.2.1 47 5 = A.1 ∧ ∃ g, Pc t b (pPr (ptL xs i)) ∧ Pc t l g ∧ nwI xs ys i g)
    (by
      intro q i t hi hI
      obtain ⟨F, Et, h5t, g, hB, hG, hNw⟩ := hI
      have nt := Et.1.1
      have i1 : t.2.1 1 = σ.2.1 1 := F.2.1 1 (by omega)
      have a1 : t.2.1 1 2 = A.2.2.1 := by rw [i1]; exact hS.2.2.1
      have a2 : t.2.1 7 i = vv (xs i) := by rw [F.2.1 7 (by omega), ← hxs, ptX_vv hV hi]; exact (hS.2.2.2 i hi).1
      have a3 : t.2.1 8 i = vv (ys i) := by rw [F.2.1 8 (by omega), ← hys, ptY_vv hV hi]; exact (hS.2.2.2 i hi).2
      obtain ⟨gx, tg, eg⟩ := e_P_valueAt (p := A.1) (by omega) Et.po.2.1 hG (xs i)
      obtain ⟨mx, tm, em⟩ := e_P_valueAt (p := A.1) (by omega) Et.po.1 hB (xs i)
      have hmx : mx ≠ 0 := by
        obtain ⟨c', hc', ec'⟩ := pr_ev hp (xs i) (ptL xs i) (fun hm => by
          obtain ⟨j, j1, j2⟩ := ptL_mem xs hm
          rw [← hxs] at j2
          have := ptX_inj hV hi (by omega) j2
          omega)
        rw [ev_uniq hp em ec']
        exact hc'
      have ry := vv_rng (ys i)
      have rg := vv_rng gx
      have bM := (pr_bd (ptL xs i)).1
      rw [ptL_len] at bM
      have lM := ln_bd_le (n := 17) bM
      obtain ⟨u1, tu, ⟨fu, du⟩, gR⟩ := e_P_gather (p := A.1) (by omega) Et.po.2.1 Et.po.1 (by omega) (by omega) (by omega) hG.1 hB ((ys i - gx) * fi mx) (s := 0) (by omega)
      rw [sh_0s] at gR
      have Eu := Et.fr fu
      have nu' := Eu.1.1
      have hMe := e_P_measure (p := A.1) (by omega) Eu.po.2.1 gR
      obtain ⟨mc, mf⟩ := mes_Pc gR
      generalize mes u1 l ((pLn (pAd g (cv (cc ((ys i - gx) * fi mx)) (pPr (ptL xs i)))) 17 : Int) - 1) = u2 at *
      have Eu2 := Eu.fr mf
      have nu2 := Eu2.1.1
      have hB2 : Pc u2 b (pPr (ptL xs i)) := (hB.fr fu (by omega) (by omega) (by omega)).fr mf (by omega) (by omega) (by omega)
      obtain ⟨u3, t3, f3, c3⟩ := e_P_multiplyByRoot (p := A.1) (by omega) Eu2.po.1 hB2.1 (bM.mono (by omega)) (xs i)
      have h5u : u2.2.1 47 5 = A.1 := by rw [mf.2.2 47 (by omega) (by omega), fu.2.2 47 (by omega) (by omega)]; exact h5t
      refine ⟨u3, ?_, ((F.trans (Fe.fr fu (by omega) (by omega))).trans (Fe.fr mf (by omega) (by omega))).trans (Fe.fr f3 (by omega) (by omega)), Eu2.fr f3, by rw [f3.2.2 47 (by omega) (by omega)]; exact h5u, pAd g (cv (cc ((ys i - gx) * fi mx)) (pPr (ptL xs i))), c3, mc.fr f3 (by omega) (by omega) (by omega), ?_, fun j hj => ?_⟩
      · have U1 : u1.2.2 47 1 = some l := Eu.2.2.2.1.2
        have U0 : u2.2.2 47 0 = some b := Eu2.2.2.2.1.1
        try dsimp only
        rw [us_E_startWithPoints_25]
        unfold mb_E_startWithPoints_25
        rw [ex_gi (by omega) (by omega), Option.bind_some, a1, pw_ck_ok (by omega) (by omega), if_neg (by omega), pw_ck_ok (by omega) (by omega), if_neg (by omega)]
        simp (disch := omega) only [ex_gr, ex_gi, lr_1_3 Et.1, lr_1_4 Et.1, Option.bind_some]
        rw [ex_ai (by omega) (by omega) (by omega) (by omega), Option.bind_some, Int.toNat_natCast, a2, ex_ai (by omega) (by omega) (by omega) (by omega), Option.bind_some, Int.toNat_natCast, a3]
        simp (disch := omega) only [ex_gr, ex_gi, Et.2.2.2.1.1, Et.2.2.2.1.2, h5t, Option.bind_some, tg, ex_bd]
        rw [e_K_reduce (by omega) (by omega) (by omega) (by omega), ex_bd, vv_sbp]
        simp (disch := omega) only [ex_gr, ex_gi, Et.2.2.2.1.1, Et.2.2.2.1.2, h5t, Option.bind_some, tm, ex_bd, e_K_overF hp]
        rw [show (0 : Int) = ((0 : Nat) : Int) from rfl, tu, ex_bd]
        simp (disch := omega) only [ex_gr, ex_gi, U1, Option.bind_some, hMe, ex_bd, U0, h5u, t3]
        rfl
      · exact bd_ad (hNw.1.mono (by omega)) ((bd_cv (bd_cc _) bM).mono (by omega))
      · by_cases cj : j = i
        · rw [cj]
          have e1 := ev_add eg (ev_mul (ev_cc (xs i) ((ys i - gx) * fi mx)) em)
          have e2 := fi_ok hp hmx
          have e3 : gx + (ys i - gx) * fi mx * mx = ys i := by grind
          rw [e3] at e1
          exact e1
        · have e1 := ev_add (hNw.2 j (by omega)) (ev_mul (ev_cc (xs j) ((ys i - gx) * fi mx)) (pr_ev0 (mem_ptL xs (show j < i by omega))))
          have e3 : ys j + (ys i - gx) * fi mx * 0 = ys j := by grind
          rw [e3] at e1
          exact e1) A.2.2.1 0 1000 s2 (by omega) (by omega) ⟨F2, E2, by rw [f2.2.2 47 (by omega) (by omega), f1.2.2 47 (by omega) (by omega)]; exact h5, cc 0, c1.fr f2 (by omega) (by omega) (by omega), c2, fun k _ => cc_0 k, fun j hj => by omega⟩
  obtain ⟨s4, t4, E4, c4, d4, F4, G4⟩ := e_E_startCofactors (p := A.1) (by omega) E3
  have prb := pr_bd (ptL xs A.2.2.1)
  rw [ptL_len] at prb
  refine ⟨s4, b, l, c, d, g, ?_, F3.trans F4, ⟨E4, by rw [G4 47 (by omega)]; exact h53, B3.kept (G4 (b + 1) (by omega)) (G4 b (by omega)), L3.kept (G4 (l + 1) (by omega)) (G4 l (by omega)), c4, d4, eu_start (by omega) (prb.1.mono (by omega)) (ln_eq (by omega) (fun k h1 h2 => prb.1 k h1) (fun _ => by rw [show A.2.2.1 + 1 - 1 = A.2.2.1 by omega, prb.2]; exact fp_one (by omega))) G3.1 (by omega)⟩, G3⟩
  have a1 : s3.2.1 1 2 = A.2.2.1 := by rw [F3.2.1 1 (by omega)]; exact hS.2.2.1
  have n3 := E3.1.1
  unfold mf_E_startWithPoints
  rw [ex_gd (by omega) (by omega), ex_gi (by omega) (by omega), Option.bind_some, hS.1, t0, Option.bind_some, ex_gr (by omega) (by omega), E0.2.2.2.1.1, Option.bind_some, show (0 : Int) = ((0 : Nat) : Int) from rfl, t1, ex_bd, ex_gr (by omega) (by omega), E1.2.2.2.1.2, Option.bind_some, t2, ex_bd]
  refine Eq.trans e3 ?_
  try dsimp only
  rw [us_E_startWithPoints_25]
  unfold mb_E_startWithPoints_25 mj_E_startWithPoints_145
  rw [ex_gi (by omega) (by omega), Option.bind_some, a1, pw_ck_ok (by omega) (by omega), if_pos (by omega), t4, ex_bd]
theorem e_W_interpolate {A : ASt} [NeZero A.1] {σ : pw_Sto} {T : Nat → Int} {len : Nat} {E : Nat → Int} {Hs : List ASt} (hC : CR σ A T len E Hs) (hV : VA A) {m : Nat} (hm : m < A.2.2.1) : ∃ s P Q, mf_W_interpolate 0 m σ = some ((), s) ∧ CR s A T len E Hs ∧ Hi σ s ∧ Pc s 59 P ∧ Pc s 61 Q ∧ pIpp (ptX A) (ptY A) A.2.2.1 m (P, Q) := by
  have hp := hV.1
  have hp2 := isPb_le hp
  obtain ⟨hL, hD, hS, _⟩ := id hC
  have hN := hL.1
  have h10 := hV.2.2.1
  have s0 := sh_0
  have s1' := sh_1
  have s7 := sh_7
  have s47 := sh_47
  have s58 := sh_58
  obtain ⟨s1, b, l, c, d, g, t1, F1, S1, NW⟩ := e_E_points hC hV
  have prb := pr_bd (ptL (ptX A) A.2.2.1)
  rw [ptL_len] at prb
  have lM : pLn (pPr (ptL (ptX A) A.2.2.1)) 17 = A.2.2.1 + 1 := ln_eq (by omega) (fun k h1 h2 => prb.1 k h1) (fun _ => by rw [show A.2.2.1 + 1 - 1 = A.2.2.1 by omega, prb.2]; exact fp_one (by omega))
  have lg := ln_bd_le (n := 17) NW.1
  obtain ⟨s2, b2, l2, c2, d2, B, L, C, D, t2, F2, S2, kB, kL⟩ := e_E_runDownTo hp (by omega) S1 (m := m) (by omega) (by omega) (by omega)
  obtain ⟨E2, _, PB, PL, PC, PD, Q2⟩ := id S2
  obtain ⟨Y2, hbl, hcd, ⟨r0, r1⟩, r2, r3⟩ := id E2
  have MN : pPr (ptL (ptX A) A.2.2.1) A.2.2.1 ≠ 0 := by rw [prb.2]; exact fp_one (by omega)
  have zD := eu_d hp Q2 MN
  obtain ⟨w, hw, hB⟩ := eu_bz Q2
  obtain ⟨s3, P1, Q1, w1, R1, t3, F3, c59, c61, z1, hw1, m1, B1, X1⟩ := e_W_reduced hp Y2 (l := l2) (d := d2) (by omega) (by omega) PL PD zD hw hB
  have Y3 := Y2.ff F3
  have gi2 : ∀ i, ¬ (47 ≤ i ∧ i < 58) → s2.2.1 i = σ.2.1 i := fun i hi => by rw [F2.2.1 i hi, F1.2.1 i hi]
  have gi3 : ∀ i, ¬ (47 ≤ i ∧ i < 63) → s3.2.1 i = σ.2.1 i := fun i hi => by rw [F3.2.2 i (by omega), gi2 i (by omega)]
  generalize hxs : ptX A = xs at *
  generalize hys : ptY A = ys at *
  obtain ⟨q, s4, e4, F4, P2, Q2', R2, d59, d61, z2, m2, B2, G2, X2⟩ := lp_ex (S := pw_Sto) (O := Unit × pw_Sto) (fun q k t => ml_W_interpolate_42 q 0 k t) (fun i => (i : Int)) A.2.2.1 (fun i t => Ff s3 t ∧ ∃ P Q R, Pc t 59 P ∧ Pc t 61 Q ∧ pNz Q ∧ (∀ x, x ∈ R → x ∈ R1) ∧ pBz P Q (cv (cc w1) (pPr R)) ∧ (∀ j, j < i → pGd P Q (xs j)) ∧ pDb P1 Q1 P Q)
    (by
      intro q i t hi hI
      obtain ⟨F, P, Q, R, k1, k2, k3, k4, k5, k6, k7⟩ := hI
      have Yt := Y3.ff F
      have nt := Yt.1
      have gt : ∀ i, ¬ (47 ≤ i ∧ i < 63) → t.2.1 i = σ.2.1 i := fun i hi => by rw [F.2.2 i (by omega), gi3 i hi]
      have a1 : t.2.1 1 2 = A.2.2.1 := by rw [gt 1 (by omega)]; exact hS.2.2.1
      have a0 : t.2.1 1 0 = A.1 := by rw [gt 1 (by omega)]; exact hS.1
      have a2 : t.2.1 7 i = vv (xs i) := by rw [gt 7 (by omega), ← hxs, ptX_vv hV hi]; exact (hS.2.2.2 i hi).1
      obtain ⟨u, P', Q', R', tu, Fu, j1, j2, j3, j4, j5, j6, j7⟩ := e_R_cancelRoot hp (xs i) hw1 Yt k1 k2 k3 k5
      refine ⟨u, ?_, F.trans Fu, P', Q', R', j1, j2, j3, fun x hx => k4 x (j4 x hx), j5, fun j hj => ?_, k7.trans j7⟩
      · try dsimp only
        rw [us_W_interpolate_42]
        unfold mb_W_interpolate_42
        simp (disch := omega) only [ex_gr, ex_gi, lr_0_0 Yt, Option.bind_some, a1]
        rw [pw_ck_ok (by omega) (by omega), if_neg (by omega), pw_ck_ok (by omega) (by omega), if_neg (by omega)]
        simp (disch := omega) only [ex_gr, ex_gi, lr_0_0 Yt, lr_0_4 Yt, lr_1_3 Yt, Option.bind_some, a0]
        rw [ex_ai (by omega) (by omega) (by omega) (by omega), Option.bind_some, Int.toNat_natCast, a2, tu, ex_bd]
        rfl
      · by_cases cj : j = i
        · rw [cj]; exact j6
        · exact (k6 j (by omega)).db hp j7 ⟨17, j1.1.2⟩ ⟨17, j2.1.2⟩) A.2.2.1 0 1000 s3 (by omega) (by omega) ⟨Ff.refl s3, P1, Q1, R1, c59, c61, z1, fun _ h => h, B1, fun j hj => by omega, pDb.refl P1 Q1⟩
  have Y4 := Y3.ff F4
  have BB : pBz P2 Q2' (cc 1) := bz_list hp hw1 R2 (fun r hr => by
    obtain ⟨i, i1, i2⟩ := ptL_mem xs (m1 r (m2 r hr))
    rw [i2]
    exact G2 i i1) B2
  have XX : cv P2 D = cv L Q2' := by
    obtain ⟨G, _, g1, g2⟩ := X2
    have e1 : cv P2 Q1 = cv P1 Q2' := @rg_dbx (PS (Fin A.1)) (psRing (Fin A.1)) P1 Q1 P2 Q2' G g1 g2
    refine p_cancel hp (g := Q1) ?_ (nz_p z1)
    exact @rg_xx (PS (Fin A.1)) (psRing (Fin A.1)) P1 Q1 P2 Q2' L D e1 X1
  obtain ⟨s5, P3, Q3, t5, F5, e59, e61, LT⟩ := e_R_scale hp Y4 d59 d61 z2 BB XX
  have g22 : ∀ i k, ¬ (i = 47 ∧ k < 4) → s5.2.2 i k = σ.2.2 i k := fun i k hik => by
    rw [F5.2.1, F4.2.1, F3.2.1, F2.2.2 i k hik, F1.2.2 i k hik]
  have gi4 : ∀ i, ¬ (47 ≤ i ∧ i < 63) → s4.2.1 i = σ.2.1 i := fun i hi => by rw [F4.2.2 i (by omega), gi3 i (by omega)]
  have gi5 : ∀ i, ¬ (47 ≤ i ∧ i < 63) → s5.2.1 i = σ.2.1 i := fun i hi => by rw [F5.2.2 i (by omega), gi4 i (by omega)]
  have E5 : EuR s5 b2 l2 c2 d2 := ⟨Y4.ff F5, hbl, hcd, by rw [F5.2.1, F4.2.1, F3.2.1]; exact ⟨⟨r0, r1⟩, r2, r3⟩⟩
  have n5 : s5.1 = σ.1 := by rw [F5.1, F4.1, F3.1, F2.1, F1.1]
  refine ⟨s5, P3, Q3, ?_, hC.fc n5 (fun i k h1 _ => g22 i k h1) (fun i hi => gi5 i (by omega)) (hD.eu E5 (g22 84 1 (by omega)) (g22 84 2 (by omega))), ⟨n5, fun i hi => gi5 i (by omega)⟩, e59, e61, L, D, ⟨(ln_bd PL.1.2).mono kL, Q2.2.2.2.2.1.mono (by omega), zD, fun i hi => ?_⟩, LT⟩
  · have Y1 := hL.fe F1
    have N1 := Y1.1
    have N2 := Y2.1
    have N3 := Y3.1
    have N4 := Y4.1
    have p4 : s4.2.1 1 0 = A.1 := by rw [gi4 1 (by omega)]; exact hS.1
    have a4 : s4.2.1 1 2 = A.2.2.1 := by rw [gi4 1 (by omega)]; exact hS.2.2.1
    unfold mf_W_interpolate
    rw [ex_gd (by omega) (by omega)]
    simp (disch := omega) only [ex_gr, lr_0_3 hL, lr_0_0 hL, Option.bind_some, t1, ex_bd, lr_0_3 Y1, t2, lr_0_4 Y2, lr_0_3 Y2, r1, r3, t3]
    refine Eq.trans e4 ?_
    try dsimp only
    rw [us_W_interpolate_42]
    unfold mb_W_interpolate_42 mj_W_interpolate_88
    simp (disch := omega) only [ex_gr, ex_gi, lr_0_0 Y4, Option.bind_some, a4]
    rw [pw_ck_ok (by omega) (by omega), if_pos (by omega)]
    simp (disch := omega) only [ex_gr, ex_gi, lr_0_0 Y4, lr_0_4 Y4, Option.bind_some, p4, t5, ex_bd]
  · obtain ⟨X, Y, _, fX, fY, _, eL, _⟩ := Q2.1
    obtain ⟨dv, hd⟩ := ev_ex (xs i) (⟨_, PD.1.2⟩ : pFn D)
    obtain ⟨yv, hy⟩ := ev_ex (xs i) fY
    refine ⟨dv, hd, ?_⟩
    have e1 := ev_add (ev_mul hd (NW.2 i hi)) (ev_mul hy (pr_ev0 (mem_ptL xs hi)))
    have e2 : dv * ys i + yv * 0 = ys i * dv := by grind
    rw [e2, ← eL] at e1
    exact e1
end
