section
/-! ## lowest terms -/
def pBz {p : Nat} [NeZero p] (P Q D : PS (Fin p)) : Prop := ∃ U V, pFn U ∧ pFn V ∧ pAd (cv U P) (cv V Q) = D
theorem rg_swap {R : Type} [Lean.Grind.CommRing R] {a b d : R} (h : a + b = d) : b + a = d := by grind
theorem bz_comm {p : Nat} [NeZero p] {P Q D : PS (Fin p)} (h : pBz P Q D) : pBz Q P D := by
  obtain ⟨U, V, f1, f2, e⟩ := h
  exact ⟨V, U, f2, f1, @rg_swap (PS (Fin p)) (psRing (Fin p)) (cv U P) (cv V Q) D e⟩
theorem rg_bzr {R : Type} [Lean.Grind.CommRing R] {U V P Q D t : R} (h : U * P + V * Q = D) : (U + t * Q) * P + (V - t * P) * Q = D := by grind
theorem rg_bzx {R : Type} [Lean.Grind.CommRing R] {X U V P Q D : R} (h : (X * U) * P + (X * V) * Q = X * D) : X * (U * P + V * Q) = X * D := by grind
theorem bz_root1 {p : Nat} [NeZero p] (hp : isPb p = true) {P Q D : PS (Fin p)} {r c d : Fin p} (eP : pEv P r c) (eQ : pEv Q r d) (hc : c ≠ 0) (fD : pFn D) (hB : pBz P Q (cv (pXr r) D)) : pBz P Q D := by
  have hp2 := isPb_le hp
  obtain ⟨U, V, fU, fV, e⟩ := hB
  obtain ⟨v, hv⟩ := ev_ex r fV
  have fP := ev_fn eP
  have fQ := ev_fn eQ
  have e2 : pAd (cv (pAd U (cv (cc (v * fi c)) Q)) P) (cv (pSb V (cv (cc (v * fi c)) P)) Q) = cv (pXr r) D := @rg_bzr (PS (Fin p)) (psRing (Fin p)) U V P Q (cv (pXr r) D) (cc (v * fi c)) e
  have fU' : pFn (pAd U (cv (cc (v * fi c)) Q)) := fn_ad fU (fn_cv (fn_cc _) fQ)
  have hV' : pEv (pSb V (cv (cc (v * fi c)) P)) r 0 := by
    have h := ev_sub hv (ev_mul (ev_cc r (v * fi c)) eP)
    have h2 := fi_ok hp hc
    have h3 : v - v * fi c * c = 0 := by grind
    rw [h3] at h
    exact h
  generalize pAd U (cv (cc (v * fi c)) Q) = U' at e2 fU'
  generalize pSb V (cv (cc (v * fi c)) P) = V' at e2 hV'
  obtain ⟨u, hu⟩ := ev_ex r fU'
  have h4 := ev_add (ev_mul hu eP) (ev_mul hV' eQ)
  rw [e2] at h4
  have h5 := ev_uniq hp h4 (ev_x0 fD)
  have h6 : u * c = 0 := by grind
  rcases fp_dom hp h6 with w | w
  · rw [w] at hu
    obtain ⟨U1, f1, g1⟩ := ev_root hu
    obtain ⟨V1, f2, g2⟩ := ev_root hV'
    rw [g1, g2] at e2
    exact ⟨U1, V1, f1, f2, p_cancel hp (@rg_bzx (PS (Fin p)) (psRing (Fin p)) (pXr r) U1 V1 P Q D e2) (xr_nz (by omega) r)⟩
  · exact absurd w hc
theorem bz_root {p : Nat} [NeZero p] (hp : isPb p = true) {P Q D : PS (Fin p)} {r c d : Fin p} (eP : pEv P r c) (eQ : pEv Q r d) (hc : c ≠ 0 ∨ d ≠ 0) (fD : pFn D) (hB : pBz P Q (cv (pXr r) D)) : pBz P Q D := by
  rcases hc with h | h
  · exact bz_root1 hp eP eQ h fD hB
  · exact bz_comm (bz_root1 hp eQ eP h fD (bz_comm hB))
def pPr {p : Nat} [NeZero p] : List (Fin p) → PS (Fin p)
  | [] => cc 1
  | r :: L => cv (pXr r) (pPr L)
theorem pr_fn {p : Nat} [NeZero p] : ∀ (L : List (Fin p)), pFn (pPr L) := by
  intro L
  induction L with
  | nil => exact fn_cc 1
  | cons r L ih => exact fn_cv ⟨2, xr_bd r⟩ ih
theorem pr_bd {p : Nat} [NeZero p] : ∀ (L : List (Fin p)), pBd (pPr L) (L.length + 1) ∧ pPr L L.length = 1 := by
  intro L
  induction L with
  | nil => exact ⟨bd_cc 1, cc_z 1⟩
  | cons r L ih =>
    refine ⟨(bd_cv (xr_bd r) ih.1).mono (by simp only [List.length_cons]; omega), ?_⟩
    show cv (pXr r) (pPr L) (L.length + 1) = 1
    rw [xr_cs, ih.2, ih.1 (L.length + 1) (by omega)]
    grind
theorem pr_ev {p : Nat} [NeZero p] (hp : isPb p = true) (r : Fin p) : ∀ (L : List (Fin p)), r ∉ L → ∃ c, c ≠ 0 ∧ pEv (pPr L) r c := by
  have hp2 := isPb_le hp
  intro L
  induction L with
  | nil => intro _; exact ⟨1, fp_one (by omega), ev_cc r 1⟩
  | cons s L ih =>
    intro h
    have h1 : r ≠ s := fun q => h (by rw [q]; exact List.mem_cons_self)
    obtain ⟨c, hc, ec⟩ := ih (fun q => h (List.mem_cons_of_mem _ q))
    refine ⟨(r - s) * c, fun q => ?_, ev_mul (ev_xr r s) ec⟩
    rcases fp_dom hp q with w | w
    · exact h1 (by grind)
    · exact hc w
theorem rg_lc {R : Type} [Lean.Grind.CommRing R] {X Y a : R} : X * (Y * a) = Y * (X * a) := by grind
theorem p_lc {p : Nat} [NeZero p] (X Y a : PS (Fin p)) : cv X (cv Y a) = cv Y (cv X a) := @rg_lc (PS (Fin p)) (psRing (Fin p)) X Y a
theorem pr_mem {p : Nat} [NeZero p] (r : Fin p) : ∀ (L : List (Fin p)), r ∈ L → ∃ L', pPr L = cv (pXr r) (pPr L') ∧ ∀ x, x ∈ L' → x ∈ L := by
  intro L
  induction L with
  | nil => intro h; cases h
  | cons s L ih =>
    intro h
    by_cases c : r = s
    · rw [c]
      exact ⟨L, rfl, fun x hx => List.mem_cons_of_mem _ hx⟩
    · have h2 : r ∈ L := by
        rcases List.mem_cons.mp h with w | w
        · exact absurd w c
        · exact w
      obtain ⟨L', e, hm⟩ := ih h2
      refine ⟨s :: L', ?_, fun x hx => ?_⟩
      · show cv (pXr s) (pPr L) = cv (pXr r) (cv (pXr s) (pPr L'))
        rw [e, p_lc]
      · rcases List.mem_cons.mp hx with w | w
        · rw [w]; exact List.mem_cons_self
        · exact List.mem_cons_of_mem _ (hm x w)
theorem rg_bzc {R : Type} [Lean.Grind.CommRing R] {U V P Q w v : R} (h : U * P + V * Q = w * 1) (h2 : w * v = 1) : (v * U) * P + (v * V) * Q = 1 := by grind
theorem bz_list {p : Nat} [NeZero p] (hp : isPb p = true) {P Q : PS (Fin p)} {w : Fin p} (hw : w ≠ 0) : ∀ (L : List (Fin p)), (∀ r, r ∈ L → ∃ c d, pEv P r c ∧ pEv Q r d ∧ (c ≠ 0 ∨ d ≠ 0)) → pBz P Q (cv (cc w) (pPr L)) → pBz P Q (cc 1) := by
  intro L
  induction L with
  | nil =>
    intro _ h
    obtain ⟨U, V, f1, f2, e⟩ := h
    refine ⟨cv (cc (fi w)) U, cv (cc (fi w)) V, fn_cv (fn_cc _) f1, fn_cv (fn_cc _) f2, ?_⟩
    have e2 : cv (cc w) (cc (fi w)) = cc 1 := by rw [cc_mul, fi_ok hp hw]
    exact @rg_bzc (PS (Fin p)) (psRing (Fin p)) U V P Q (cc w) (cc (fi w)) e e2
  | cons s L ih =>
    intro h1 h2
    obtain ⟨c, d, eP, eQ, hc⟩ := h1 s List.mem_cons_self
    refine ih (fun r hr => h1 r (List.mem_cons_of_mem _ hr)) ?_
    refine bz_root hp eP eQ hc (fn_cv (fn_cc _) (pr_fn L)) ?_
    rw [p_lc]
    exact h2
theorem rg_bzk {R : Type} [Lean.Grind.CommRing R] {X U V P Q : R} : U * (X * P) + V * (X * Q) = X * (U * P + V * Q) := by grind
theorem bz_cancel {p : Nat} [NeZero p] (hp : isPb p = true) {P Q : PS (Fin p)} {w r : Fin p} (hw : w ≠ 0) {L : List (Fin p)} (fP : pFn P) (fQ : pFn Q) (h : pBz (cv (pXr r) P) (cv (pXr r) Q) (cv (cc w) (pPr L))) : ∃ L', (∀ x, x ∈ L' → x ∈ L) ∧ pBz P Q (cv (cc w) (pPr L')) := by
  have hp2 := isPb_le hp
  obtain ⟨U, V, f1, f2, e⟩ := h
  have e1 : pAd (cv U (cv (pXr r) P)) (cv V (cv (pXr r) Q)) = cv (pXr r) (pAd (cv U P) (cv V Q)) := @rg_bzk (PS (Fin p)) (psRing (Fin p)) (pXr r) U V P Q
  rw [e1] at e
  by_cases hr : r ∈ L
  · obtain ⟨L', e2, hm⟩ := pr_mem r L hr
    refine ⟨L', hm, U, V, f1, f2, p_cancel hp ?_ (xr_nz (by omega) r)⟩
    rw [e, e2, p_lc]
  · exfalso
    obtain ⟨c, hc, ec⟩ := pr_ev hp r L hr
    have h1 := ev_mul (ev_cc r w) ec
    rw [← e] at h1
    have h2 := ev_uniq hp h1 (ev_x0 (fn_ad (fn_cv f1 fP) (fn_cv f2 fQ)))
    rcases fp_dom hp h2 with q | q
    · exact hw q
    · exact hc q
def pNm {p : Nat} [NeZero p] (Q : PS (Fin p)) : Prop := ∃ k, Q k = 1 ∧ ∀ j, j < k → Q j = 0
def pLT {p : Nat} [NeZero p] (P0 Q0 P Q : PS (Fin p)) : Prop := pFn P ∧ pFn Q ∧ pBz P Q (cc 1) ∧ pNm Q ∧ cv P Q0 = cv P0 Q
theorem rg_cross {R : Type} [Lean.Grind.CommRing R] {P Q P' Q' P0 Q0 P1 Q1 : R} (h1 : P * Q0 = P0 * Q) (h2 : P' * Q1 = P1 * Q') (h3 : P0 * Q1 = P1 * Q0) : Q0 * (Q1 * (P * Q')) = Q0 * (Q1 * (P' * Q)) := by grind
theorem rg_bzW {R : Type} [Lean.Grind.CommRing R] {P Q P' Q' U V : R} (h : U * P + V * Q = 1) (h2 : P * Q' = P' * Q) : P' = P * (U * P' + V * Q') ∧ Q' = Q * (U * P' + V * Q') := by
  constructor
  · grind
  · grind
theorem rg_one {R : Type} [Lean.Grind.CommRing R] {Q Q' W W' : R} (h1 : Q' = Q * W) (h2 : Q = Q' * W') : Q * (W * W') = Q * 1 := by grind
theorem lt_uniq {p : Nat} [NeZero p] (hp : isPb p = true) {P0 Q0 P1 Q1 P Q P' Q' : PS (Fin p)} (h0 : pNz Q0) (h1 : pNz Q1) (hx : cv P0 Q1 = cv P1 Q0) (h : pLT P0 Q0 P Q) (h' : pLT P1 Q1 P' Q') : P = P' ∧ Q = Q' := by
  have hp2 := isPb_le hp
  obtain ⟨fP, fQ, ⟨U, V, fU, fV, eB⟩, ⟨k, hk, hk2⟩, e⟩ := h
  obtain ⟨fP', fQ', ⟨U', V', fU', fV', eB'⟩, ⟨k', hk', hk2'⟩, e'⟩ := h'
  have x1 : cv P Q' = cv P' Q := p_cancel hp (p_cancel hp (@rg_cross (PS (Fin p)) (psRing (Fin p)) P Q P' Q' P0 Q0 P1 Q1 e e' hx) (nz_p h0)) (nz_p h1)
  have w1 := @rg_bzW (PS (Fin p)) (psRing (Fin p)) P Q P' Q' U V eB x1
  have w2 := @rg_bzW (PS (Fin p)) (psRing (Fin p)) P' Q' P Q U' V' eB' x1.symm
  have fW : pFn (pAd (cv U P') (cv V Q')) := fn_ad (fn_cv fU fP') (fn_cv fV fQ')
  have fW' : pFn (pAd (cv U' P) (cv V' Q)) := fn_ad (fn_cv fU' fP) (fn_cv fV' fQ)
  have hQ : Q ≠ cc 0 := nz_p ⟨k, by rw [hk]; exact fp_one (by omega)⟩
  have w3 : P' = cv P (pAd (cv U P') (cv V Q')) := w1.1
  have w4 : Q' = cv Q (pAd (cv U P') (cv V Q')) := w1.2
  have w5 : Q = cv Q' (pAd (cv U' P) (cv V' Q)) := w2.2
  generalize hW : pAd (cv U P') (cv V Q') = W at fW w3 w4
  generalize hW' : pAd (cv U' P) (cv V' Q) = W' at fW' w5
  have w6 : cv W W' = cc 1 := p_cancel hp (@rg_one (PS (Fin p)) (psRing (Fin p)) Q Q' W W' w4 w5) hQ
  have nW : pNz W := p_nz (fun q => by
    rw [q] at w6
    have e1 := congrFun w6 0
    rw [cc_z] at e1
    have e2 : cv (cc 0) W' 0 = (0 : Fin p) := by rw [cv_cc]; show (0 : Fin p) * W' 0 = 0; grind
    rw [e2] at e1
    exact fp_one (by omega) e1.symm)
  have nW' : pNz W' := p_nz (fun q => by
    rw [q, cv_comm] at w6
    have e1 := congrFun w6 0
    rw [cc_z] at e1
    have e2 : cv (cc 0) W 0 = (0 : Fin p) := by rw [cv_cc]; show (0 : Fin p) * W 0 = 0; grind
    rw [e2] at e1
    exact fp_one (by omega) e1.symm)
  obtain ⟨n, hn⟩ := fW
  obtain ⟨n', hn'⟩ := fW'
  obtain ⟨t, t1, t2, _⟩ := p_top hn nW
  obtain ⟨t', t1', t2', _⟩ := p_top hn' nW'
  have e3 := cv_top t2 t2'
  have t0 : t = 0 := Classical.byContradiction (fun q => by
    rw [w6, show t + t' = (t + t' - 1) + 1 by omega, cc_s] at e3
    rcases fp_dom hp e3.symm with w | w
    · exact t1 w
    · exact t1' w)
  subst t0
  have eW : W = cc (W 0) := by
    funext j
    cases j with
    | zero => rw [cc_z]
    | succ j => rw [cc_s]; exact t2 (j + 1) (by omega)
  have eQ' : ∀ j, Q' j = W 0 * Q j := fun j => by
    rw [w4, cv_comm]
    have := congrFun (cv_cc (W 0) Q) j
    rw [← eW] at this
    exact this
  have kk : k = k' := by
    by_cases a1 : k < k'
    · exfalso
      have := hk2' k a1
      rw [eQ', hk] at this
      exact t1 (by grind)
    · by_cases a2 : k' < k
      · exfalso
        rw [eQ', hk2 k' a2] at hk'
        exact fp_one (p := p) (by omega) (by grind)
      · omega
  subst kk
  have w1' : W 0 = 1 := by
    rw [eQ', hk] at hk'
    grind
  rw [eW, w1', cv_comm, cv_cc] at w3 w4
  constructor
  · rw [w3]; funext j; show P j = 1 * P j; grind
  · rw [w4]; funext j; show Q j = 1 * Q j; grind
/-! ## approximants -/
def pAp {p : Nat} [NeZero p] (f : PS (Fin p)) (m n : Nat) (P Q : PS (Fin p)) : Prop := pBd P (m + 1) ∧ pBd Q (n + 1) ∧ pNz Q ∧ ∀ k, k ≤ m + n → cv Q f k = P k
theorem rg_apx {R : Type} [Lean.Grind.CommRing R] {Q Q' f : R} : (Q * f) * Q' = (Q' * f) * Q := by grind
theorem ap_cross {p : Nat} [NeZero p] {f : PS (Fin p)} {m n : Nat} {P Q P' Q' : PS (Fin p)} (h : pAp f m n P Q) (h' : pAp f m n P' Q') : cv P Q' = cv P' Q := by
  funext k
  by_cases c : k ≤ m + n
  · have e1 : cv P Q' k = cv (cv Q f) Q' k := cv_congr (fun i hi => (h.2.2.2 i (by omega)).symm) (fun i hi => rfl)
    have e2 : cv P' Q k = cv (cv Q' f) Q k := cv_congr (fun i hi => (h'.2.2.2 i (by omega)).symm) (fun i hi => rfl)
    have e3 : cv (cv Q f) Q' = cv (cv Q' f) Q := @rg_apx (PS (Fin p)) (psRing (Fin p)) Q Q' f
    rw [e1, e2, e3]
  · rw [bd_cv h.1 h'.2.1 k (by omega), bd_cv h'.1 h.2.1 k (by omega)]
def pApp {p : Nat} [NeZero p] (f : PS (Fin p)) (m n : Nat) (W : PS (Fin p) × PS (Fin p)) : Prop := ∃ P0 Q0, pAp f m n P0 Q0 ∧ pLT P0 Q0 W.1 W.2
theorem app_uniq {p : Nat} [NeZero p] (hp : isPb p = true) {f : PS (Fin p)} {m n : Nat} {W W' : PS (Fin p) × PS (Fin p)} (h : pApp f m n W) (h' : pApp f m n W') : W = W' := by
  obtain ⟨P0, Q0, a, b⟩ := h
  obtain ⟨P1, Q1, a', b'⟩ := h'
  have e := lt_uniq hp a.2.2.1 a'.2.2.1 (ap_cross a a') b b'
  exact Prod.ext e.1 e.2
/-! ## interpolants -/
def pIp {p : Nat} [NeZero p] (xs ys : Nat → Fin p) (N m : Nat) (P Q : PS (Fin p)) : Prop := pBd P (m + 1) ∧ pBd Q (N - m) ∧ pNz Q ∧ ∀ i, i < N → ∃ d, pEv Q (xs i) d ∧ pEv P (xs i) (ys i * d)
theorem ip_cross {p : Nat} [NeZero p] (hp : isPb p = true) {xs ys : Nat → Fin p} {N m : Nat} (hx : ∀ i j, i < N → j < N → xs i = xs j → i = j) (hm : m < N) {P Q P' Q' : PS (Fin p)} (h : pIp xs ys N m P Q) (h' : pIp xs ys N m P' Q') : cv P Q' = cv P' Q := by
  refine sb_zero (roots_zero hp hx (fun i hi => ?_) (bd_sb ((bd_cv h.1 h'.2.1).mono (by omega)) ((bd_cv h'.1 h.2.1).mono (by omega))))
  obtain ⟨d, h1, h2⟩ := h.2.2.2 i hi
  obtain ⟨d', h1', h2'⟩ := h'.2.2.2 i hi
  have e := ev_sub (ev_mul h2 h1') (ev_mul h2' h1)
  have e0 : ys i * d * d' - ys i * d' * d = 0 := by grind
  rw [e0] at e
  exact e
def pIpp {p : Nat} [NeZero p] (xs ys : Nat → Fin p) (N m : Nat) (W : PS (Fin p) × PS (Fin p)) : Prop := ∃ P0 Q0, pIp xs ys N m P0 Q0 ∧ pLT P0 Q0 W.1 W.2
theorem ipp_uniq {p : Nat} [NeZero p] (hp : isPb p = true) {xs ys : Nat → Fin p} {N m : Nat} (hx : ∀ i j, i < N → j < N → xs i = xs j → i = j) (hm : m < N) {W W' : PS (Fin p) × PS (Fin p)} (h : pIpp xs ys N m W) (h' : pIpp xs ys N m W') : W = W' := by
  obtain ⟨P0, Q0, a, b⟩ := h
  obtain ⟨P1, Q1, a', b'⟩ := h'
  have e := lt_uniq hp a.2.2.1 a'.2.2.1 (ip_cross hp hx hm a a') b b'
  exact Prod.ext e.1 e.2
/-- the constant term of the denominator of an approximant -/
theorem app_q0 {p : Nat} [NeZero p] (hp : isPb p = true) {f : PS (Fin p)} {m n : Nat} {W : PS (Fin p) × PS (Fin p)} (h : pApp f m n W) : W.2 0 ≠ 0 := by
  have hp2 := isPb_le hp
  obtain ⟨P0, Q0, a, fP, fQ, hB, hN, e⟩ := h
  intro hq
  obtain ⟨k, hk⟩ := a.2.2.1
  obtain ⟨i, hi, hi2⟩ := p_low k hk
  have hin : i ≤ n := by
    refine Classical.byContradiction (fun c => hi (a.2.1 i (by omega)))
  have p0 : ∀ t, t < i → P0 t = 0 := fun t ht => by
    rw [← a.2.2.2 t (by omega)]
    show sm (fun u => Q0 u * f (t - u)) (t + 1) = 0
    refine sm_zero (fun u hu => ?_)
    rw [hi2 u (by omega)]
    grind
  have e1 : cv W.1 Q0 i = W.1 0 * Q0 i := by
    have := cv_low (a := W.1) (b := Q0) (i := 0) (j := i) (fun t ht => by omega) hi2
    rw [Nat.zero_add] at this
    exact this
  have e2 : cv P0 W.2 i = P0 i * W.2 0 := by
    have := cv_low (a := P0) (b := W.2) (i := i) (j := 0) p0 (fun t ht => by omega)
    exact this
  rw [e, e2, hq] at e1
  have e3 : W.1 0 * Q0 i = 0 := by rw [← e1]; grind
  rcases fp_dom hp e3 with w | w
  · obtain ⟨U, V, _, _, eB⟩ := hB
    have e4 := congrFun eB 0
    rw [cc_z] at e4
    have e5 : pAd (cv U W.1) (cv V W.2) 0 = U 0 * W.1 0 + V 0 * W.2 0 := by
      show (0 : Fin p) + U 0 * W.1 0 + (0 + V 0 * W.2 0) = _
      grind
    rw [e5, w, hq] at e4
    exact fp_one (p := p) (by omega) (by grind)
  · exact hi w
end
