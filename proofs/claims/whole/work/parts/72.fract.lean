section
/-! ## fractions of the class -/
def Ff (σ s : pw_Sto) : Prop := s.1 = σ.1 ∧ s.2.2 = σ.2.2 ∧ ∀ i, ¬ (59 ≤ i ∧ i < 63) → s.2.1 i = σ.2.1 i
theorem Ff.refl (σ : pw_Sto) : Ff σ σ := ⟨rfl, rfl, fun _ _ => rfl⟩
theorem Ff.trans {a b c : pw_Sto} (h : Ff a b) (k : Ff b c) : Ff a c := ⟨k.1.trans h.1, k.2.1.trans h.2.1, fun i hi => (k.2.2 i hi).trans (h.2.2 i hi)⟩
theorem Ff.fr {σ s : pw_Sto} {o : Nat} (h : Fr σ s o) (h1 : 59 ≤ o) (h2 : o < 62) : Ff σ s := ⟨h.1, h.2.1, fun i hi => h.2.2 i (by omega) (by omega)⟩
theorem Lay.ff {σ s : pw_Sto} (h : Lay σ) (k : Ff σ s) : Lay s := ⟨k.1.trans h.1, fun q hq => by rw [k.2.1]; exact h.2 q hq⟩
theorem e_R_take {p : Nat} [NeZero p] (hp : 2 ≤ p) {σ : pw_Sto} (hL : Lay σ) {l d : Nat} (hl : l = 48 ∨ l = 50) (hd : d = 52 ∨ d = 54) {P Q : PS (Fin p)} (hP : Pc σ l P) (hQ : Pc σ d Q) : ∃ s Q', mf_R_take 58 l d σ = some ((), s) ∧ Ff σ s ∧ Pc s 59 P ∧ Pc s 61 Q' ∧ ((P = cc 0 ∧ Q' = cc 1) ∨ (P ≠ cc 0 ∧ Q' = Q)) := by
  have hN := hL.1
  have s58 := sh_58
  have s59 := sh_59
  have O1 : PO σ 59 := PO.of hL (by omega)
  have O2 : PO σ 61 := PO.of hL (by omega)
  obtain ⟨s1, t1, f1, c1⟩ := e_P_copyFrom (p := p) O1 (PO.of hL (o := l) (by omega)) (by omega) (by omega) hP
  have hL1 := hL.fr f1
  have n1 := hL1.1
  have l17 := ln_le P 17
  by_cases c : P = cc 0
  · obtain ⟨s2, t2, f2, c2⟩ := e_P_becomePower (p := p) hp (O2.fr f1) (e := 0) (by omega)
    refine ⟨s2, cc 1, ?_, (Ff.fr f1 (by omega) (by omega)).trans (Ff.fr f2 (by omega) (by omega)), c1.fr f2 (by omega) (by omega) (by omega), c2, Or.inl ⟨c, rfl⟩⟩
    have l0 := (ln_0 hP.1.2).mpr c
    unfold mf_R_take
    rw [ex_gd (by omega) (by omega)]
    simp (disch := omega) only [ex_gr, ex_gi, lr_58_0 hL, lr_58_0 hL1, lr_58_1 hL1, Option.bind_some, t1, ex_bd, c1.2]
    rw [pw_ck_ok (by omega) (by omega), if_neg (by omega)]
    rw [show (0 : Int) = ((0 : Nat) : Int) from rfl, t2, ex_bd]
  · obtain ⟨s2, t2, f2, c2⟩ := e_P_copyFrom (p := p) (O2.fr f1) (PO.of hL1 (o := d) (by omega)) (by omega) (by omega) (hQ.fr f1 (by omega) (by omega) (by omega))
    refine ⟨s2, Q, ?_, (Ff.fr f1 (by omega) (by omega)).trans (Ff.fr f2 (by omega) (by omega)), c1.fr f2 (by omega) (by omega) (by omega), c2, Or.inr ⟨c, rfl⟩⟩
    have l0 : pLn P 17 ≠ 0 := fun q => c ((ln_0 hP.1.2).mp q)
    unfold mf_R_take
    rw [ex_gd (by omega) (by omega)]
    simp (disch := omega) only [ex_gr, ex_gi, lr_58_0 hL, lr_58_0 hL1, lr_58_1 hL1, Option.bind_some, t1, ex_bd, c1.2]
    rw [pw_ck_ok (by omega) (by omega), if_pos (by omega)]
    simp (disch := omega) only [ex_gr, lr_58_1 hL1, Option.bind_some, t2, ex_bd]
theorem qd_root {p : Nat} [NeZero p] (hp : isPb p = true) {a : PS (Fin p)} {r : Fin p} {n : Nat} (h : pBd a n) (h0 : pEv a r 0) : a = cv (pXr r) (pQd a r n) := by
  have e1 := ev_uniq hp (ev_hs r h) h0
  have e2 := qd_eq r h
  rw [e1] at e2
  refine e2.trans ?_
  funext k
  show cv (pXr r) (pQd a r n) k + cc 0 k = _
  rw [cc_0]; grind
def pGd {p : Nat} [NeZero p] (P Q : PS (Fin p)) (r : Fin p) : Prop := ∃ c d, pEv P r c ∧ pEv Q r d ∧ (c ≠ 0 ∨ d ≠ 0)
def pDb {p : Nat} [NeZero p] (P Q P' Q' : PS (Fin p)) : Prop := ∃ G, pFn G ∧ P = cv G P' ∧ Q = cv G Q'
theorem rg_1l {R : Type} [Lean.Grind.CommRing R] {a : R} : a = 1 * a := by grind
theorem rg_as {R : Type} [Lean.Grind.CommRing R] {P G P' H P'' : R} (h1 : P = G * P') (h2 : P' = H * P'') : P = (G * H) * P'' := by grind
theorem pDb.refl {p : Nat} [NeZero p] (P Q : PS (Fin p)) : pDb P Q P Q := ⟨cc 1, fn_cc 1, @rg_1l (PS (Fin p)) (psRing (Fin p)) P, @rg_1l (PS (Fin p)) (psRing (Fin p)) Q⟩
theorem pDb.trans {p : Nat} [NeZero p] {P Q P' Q' P'' Q'' : PS (Fin p)} (h : pDb P Q P' Q') (k : pDb P' Q' P'' Q'') : pDb P Q P'' Q'' := by
  obtain ⟨G, f1, e1, e2⟩ := h
  obtain ⟨H, f2, e3, e4⟩ := k
  exact ⟨cv G H, fn_cv f1 f2, @rg_as (PS (Fin p)) (psRing (Fin p)) P G P' H P'' e1 e3, @rg_as (PS (Fin p)) (psRing (Fin p)) Q G Q' H Q'' e2 e4⟩
theorem pGd.db {p : Nat} [NeZero p] (hp : isPb p = true) {P Q P' Q' : PS (Fin p)} {r : Fin p} (h : pGd P Q r) (k : pDb P Q P' Q') (fP : pFn P') (fQ : pFn Q') : pGd P' Q' r := by
  obtain ⟨c, d, e1, e2, h3⟩ := h
  obtain ⟨G, fG, g1, g2⟩ := k
  obtain ⟨g, hg⟩ := ev_ex r fG
  obtain ⟨c', hc'⟩ := ev_ex r fP
  obtain ⟨d', hd'⟩ := ev_ex r fQ
  refine ⟨c', d', hc', hd', ?_⟩
  have x1 := ev_mul hg hc'
  rw [← g1] at x1
  have x2 := ev_mul hg hd'
  rw [← g2] at x2
  have y1 := ev_uniq hp e1 x1
  have y2 := ev_uniq hp e2 x2
  rcases h3 with z | z
  · exact Or.inl (fun q => z (by rw [y1, q]; grind))
  · exact Or.inr (fun q => z (by rw [y2, q]; grind))
theorem e_R_cancelRoot {p : Nat} [NeZero p] (hp : isPb p = true) (r : Fin p) {w : Fin p} (hw : w ≠ 0) {σ : pw_Sto} (hL : Lay σ) {P Q : PS (Fin p)} {L : List (Fin p)} (hP : Pc σ 59 P) (hQ : Pc σ 61 Q) (hz : pNz Q) (hB : pBz P Q (cv (cc w) (pPr L))) : ∃ s P' Q' L', mf_R_cancelRoot 58 (vv r) p σ = some ((), s) ∧ Ff σ s ∧ Pc s 59 P' ∧ Pc s 61 Q' ∧ pNz Q' ∧ (∀ x, x ∈ L' → x ∈ L) ∧ pBz P' Q' (cv (cc w) (pPr L')) ∧ pGd P' Q' r ∧ pDb P Q P' Q' := by
  have hp2 := isPb_le hp
  have s58 := sh_58
  have key : ∀ (v i n : Nat) (t : pw_Sto) (P Q : PS (Fin p)) (L : List (Fin p)), pLn Q 17 = v → i + v ≤ 17 → v < n → Lay t → Pc t 59 P → Pc t 61 Q → pNz Q → pBz P Q (cv (cc w) (pPr L)) → ∃ s P' Q' L', ml_R_cancelRoot_2 n 58 (vv r) p (i : Nat) t = some ((), s) ∧ Ff t s ∧ Pc s 59 P' ∧ Pc s 61 Q' ∧ pNz Q' ∧ (∀ x, x ∈ L' → x ∈ L) ∧ pBz P' Q' (cv (cc w) (pPr L')) ∧ pGd P' Q' r ∧ pDb P Q P' Q' := by
    intro v
    induction v using Nat.strongRecOn with
    | ind v ih =>
      intro i n t P Q L hv hi hn hY hP hQ hz hB
      obtain ⟨n, rfl⟩ : ∃ k, n = k + 1 := ⟨n - 1, by omega⟩
      have hN := hY.1
      have v0 : v ≠ 0 := fun q => nz_p hz ((ln_0 hQ.1.2).mp (hv.trans q))
      obtain ⟨c, tc, ec⟩ := e_P_valueAt (p := p) (by omega) (PO.of hY (o := 59) (by omega)) hP r
      obtain ⟨d, td, ed⟩ := e_P_valueAt (p := p) (by omega) (PO.of hY (o := 61) (by omega)) hQ r
      have rc := vv_rng c
      have rd := vv_rng d
      rw [us_R_cancelRoot_2]
      unfold mb_R_cancelRoot_2
      rw [pw_ck_ok (by omega) (by omega), if_neg (by omega), ex_gr (by omega) (by omega), lr_58_0 hY, Option.bind_some, tc, ex_bd, pw_ck_ok (by omega) (by omega)]
      by_cases c0 : vv c = 0
      · rw [if_pos c0, ex_gr (by omega) (by omega), lr_58_1 hY, Option.bind_some, td, ex_bd, pw_ck_ok (by omega) (by omega)]
        by_cases d0 : vv d = 0
        · rw [if_pos d0]
          rw [vv_z.mp c0] at ec
          rw [vv_z.mp d0] at ed
          obtain ⟨s1, t1, f1, c1⟩ := e_P_divideByRoot (p := p) (by omega) (PO.of hY (o := 59) (by omega)) hP.1 r
          have hY1 := hY.fr f1
          have n1 := hY1.1
          obtain ⟨s2, t2, f2, c2⟩ := e_P_divideByRoot (p := p) (by omega) (PO.of hY1 (o := 61) (by omega)) (hQ.fr f1 (by omega) (by omega) (by omega)).1 r
          have eP := qd_root hp hP.1.2 ec
          have eQ := qd_root hp hQ.1.2 ed
          generalize hP1 : pQd P r 17 = P1 at *
          generalize hQ1 : pQd Q r 17 = Q1 at *
          have fP1 : pFn P1 := ⟨17, c1.1.2⟩
          have fQ1 : pFn Q1 := ⟨17, c2.1.2⟩
          have bQ1 : pBd Q1 (v - 1) := xr_len fQ1 (by rw [← eQ, show v - 1 + 1 = v by omega, ← hv]; exact ln_bd hQ.1.2)
          have lQ1 := ln_bd_le (n := 17) bQ1
          have z1 : pNz Q1 := p_nz (fun q => nz_p hz (by rw [eQ, q]; exact @rg_x0' (PS (Fin p)) (psRing (Fin p)) (pXr r)))
          rw [eP, eQ] at hB
          obtain ⟨L1, m1, B1⟩ := bz_cancel hp hw fP1 fQ1 hB
          obtain ⟨s, P', Q', L', e, F, a1, a2, a3, a4, a5, a6, a7⟩ := ih (pLn Q1 17) (by omega) (i + 1) n s2 P1 Q1 L1 rfl (by omega) (by omega) (hY1.fr f2) (c1.fr f2 (by omega) (by omega) (by omega)) c2 z1 B1
          refine ⟨s, P', Q', L', ?_, ((Ff.fr f1 (by omega) (by omega)).trans (Ff.fr f2 (by omega) (by omega))).trans F, a1, a2, a3, fun x hx => m1 x (a4 x hx), a5, a6, pDb.trans ⟨pXr r, ⟨2, xr_bd r⟩, eP, eQ⟩ a7⟩
          simp (disch := omega) only [ex_gr, lr_58_0 hY, lr_58_1 hY1, Option.bind_some, t1, t2, ex_bd]
          exact e
        · rw [if_neg d0]
          exact ⟨t, P, Q, L, rfl, Ff.refl t, hP, hQ, hz, fun _ h => h, hB, ⟨c, d, ec, ed, Or.inr (fun q => d0 (vv_z.mpr q))⟩, pDb.refl P Q⟩
      · rw [if_neg c0]
        exact ⟨t, P, Q, L, rfl, Ff.refl t, hP, hQ, hz, fun _ h => h, hB, ⟨c, d, ec, ed, Or.inl (fun q => c0 (vv_z.mpr q))⟩, pDb.refl P Q⟩
  have hN := hL.1
  have l17 := ln_le Q 17
  obtain ⟨s, P', Q', L', e, F, a⟩ := key (pLn Q 17) 0 1000 σ P Q L rfl (by omega) (by omega) hL hP hQ hz hB
  refine ⟨s, P', Q', L', ?_, F, a⟩
  unfold mf_R_cancelRoot
  rw [ex_gd (by omega) (by omega)]
  exact e
theorem ln_scale {p : Nat} [NeZero p] (hp : isPb p = true) {φ : Fin p} (h : φ ≠ 0) (a : PS (Fin p)) (n : Nat) : pLn (cv (cc φ) a) n = pLn a n := by
  rw [cv_cc]
  refine ln_eq (ln_le a n) (fun k h1 h2 => ?_) (fun h0 q => ?_)
  · show φ * a k = 0
    rw [ln_z h1 h2]; grind
  · have q' : φ * a (pLn a n - 1) = 0 := q
    rcases fp_dom hp q' with z | z
    · exact h z
    · exact ln_nz h0 z
theorem rg_sc {R : Type} [Lean.Grind.CommRing R] {U V P Q f w : R} (h : U * P + V * Q = 1) (h2 : w * f = 1) : (w * U) * (f * P) + (w * V) * (f * Q) = 1 := by grind
theorem rg_scx {R : Type} [Lean.Grind.CommRing R] {P Q P0 Q0 f : R} (h : P * Q0 = P0 * Q) : (f * P) * Q0 = P0 * (f * Q) := by grind
theorem e_R_scale {p : Nat} [NeZero p] (hp : isPb p = true) {σ : pw_Sto} (hL : Lay σ) {P Q P0 Q0 : PS (Fin p)} (hP : Pc σ 59 P) (hQ : Pc σ 61 Q) (hz : pNz Q) (hB : pBz P Q (cc 1)) (hX : cv P Q0 = cv P0 Q) : ∃ s P' Q', mf_R_scale 58 p σ = some ((), s) ∧ Ff σ s ∧ Pc s 59 P' ∧ Pc s 61 Q' ∧ pLT P0 Q0 P' Q' := by
  have hp2 := isPb_le hp
  have s58 := sh_58
  have hN := hL.1
  obtain ⟨k, hk, hk2, t0⟩ := e_P_lowest (p := p) (by omega) (PO.of hL (o := 61) (by omega)) hQ.1 hz
  have hK : mf_K_inverse (vv (Q k)) p σ = some (vv (fi (Q k)), σ) := by
    have rr := vv_rng (Q k)
    have := e_K_inverse (p := p) (a := (vv (Q k)).toNat) (σ := σ) (by omega) (by omega) (by omega)
    rw [show (((vv (Q k)).toNat : Nat) : Int) = vv (Q k) by omega, ← vv_fi hp] at this
    exact this
  have hi := fi_ok hp hk
  have hi0 : fi (Q k) ≠ 0 := fun q => fp_one (p := p) (by omega) (by rw [q] at hi; grind)
  generalize fi (Q k) = φ at *
  obtain ⟨s1, t1, ⟨f1, d1⟩, c1⟩ := e_P_scaleBy (p := p) (by omega) (PO.of hL (o := 59) (by omega)) hP.1 φ
  have hL1 := hL.fr f1
  have n1 := hL1.1
  obtain ⟨s2, t2, ⟨f2, d2⟩, c2⟩ := e_P_scaleBy (p := p) (by omega) (PO.of hL1 (o := 61) (by omega)) (hQ.fr f1 (by omega) (by omega) (by omega)).1 φ
  obtain ⟨U, V, fU, fV, eB⟩ := hB
  refine ⟨s2, cv (cc φ) P, cv (cc φ) Q, ?_, (Ff.fr f1 (by omega) (by omega)).trans (Ff.fr f2 (by omega) (by omega)), ⟨c1.fr f2 (by omega) (by omega), ?_⟩, ⟨c2, ?_⟩, ⟨17, c1.2⟩, ⟨17, c2.2⟩, ?_, ?_, ?_⟩
  · unfold mf_R_scale
    rw [ex_gd (by omega) (by omega)]
    simp (disch := omega) only [ex_gr, lr_58_1 hL, Option.bind_some, t0, ex_bd, hK, lr_58_0 hL, t1, lr_58_1 hL1, t2]
  · rw [ln_scale hp hi0, f2.2.2 59 (by omega) (by omega), d1]
    exact hP.2
  · rw [ln_scale hp hi0, d2, f1.2.2 61 (by omega) (by omega)]
    exact hQ.2
  · refine ⟨cv (cc (Q k)) U, cv (cc (Q k)) V, fn_cv (fn_cc _) fU, fn_cv (fn_cc _) fV, ?_⟩
    have e2 : cv (cc (Q k)) (cc φ) = cc 1 := by rw [cc_mul, hi]
    exact @rg_sc (PS (Fin p)) (psRing (Fin p)) U V P Q (cc φ) (cc (Q k)) eB e2
  · refine ⟨k, ?_, fun j hj => ?_⟩
    · rw [cv_cc]; show φ * Q k = 1; grind
    · rw [cv_cc]; show φ * Q j = 0; rw [hk2 j hj]; grind
  · exact @rg_scx (PS (Fin p)) (psRing (Fin p)) P Q P0 Q0 (cc φ) hX
theorem xp_pr {p : Nat} [NeZero p] : ∀ n, (pXp n : PS (Fin p)) = pPr (List.replicate n 0) := by
  intro n
  induction n with
  | zero => rfl
  | succ n ih =>
    rw [List.replicate_succ]
    show _ = cv (pXr 0) (pPr (List.replicate n 0))
    rw [← ih]
    funext k
    cases k with
    | zero => rw [xr_c0]; show (if 0 = n + 1 then (1 : Fin p) else 0) = _; rw [if_neg (by omega)]; grind
    | succ k =>
      rw [xr_cs]
      show (if k + 1 = n + 1 then (1 : Fin p) else 0) = (if k = n then 1 else 0) - 0 * _
      by_cases c : k = n
      · rw [if_pos (by omega), if_pos c]; grind
      · rw [if_neg (by omega), if_neg c]; grind
theorem rg_dbx {R : Type} [Lean.Grind.CommRing R] {P Q P' Q' G : R} (h1 : P = G * P') (h2 : Q = G * Q') : P' * Q = P * Q' := by grind
theorem rg_b01 {R : Type} [Lean.Grind.CommRing R] : (0 : R) * 0 + 1 * 1 = 1 * 1 := by grind
theorem rg_zz {R : Type} [Lean.Grind.CommRing R] {a b : R} : (0 : R) * a = 0 * b := by grind
theorem Dyn.eu {σ s : pw_Sto} (h : Dyn σ) {b l c d : Nat} (hE : EuR s b l c d) (h1 : s.2.2 84 1 = σ.2.2 84 1) (h2 : s.2.2 84 2 = σ.2.2 84 2) : Dyn s := by
  obtain ⟨_, hbl, hcd, ⟨r0, r1⟩, r2, r3⟩ := hE
  refine ⟨?_, ?_, by rw [h1, h2]; exact h.2.2⟩
  · rw [r0, r1]
    rcases hbl with z | z
    · left; rw [z.1, z.2]; exact ⟨rfl, rfl⟩
    · right; rw [z.1, z.2]; exact ⟨rfl, rfl⟩
  · rw [r2, r3]
    rcases hcd with z | z
    · left; rw [z.1, z.2]; exact ⟨rfl, rfl⟩
    · right; rw [z.1, z.2]; exact ⟨rfl, rfl⟩
theorem CR.fc {σ s : pw_Sto} {A : ASt} {T : Nat → Int} {len : Nat} {E : Nat → Int} {Hs : List ASt} (h : CR σ A T len E Hs) (h1 : s.1 = σ.1) (h2 : ∀ i k, ¬ (i = 47 ∧ k < 4) → ¬ (i = 84 ∧ (k = 1 ∨ k = 2)) → s.2.2 i k = σ.2.2 i k) (h3 : ∀ i, ¬ (45 ≤ i ∧ i < 90) → s.2.1 i = σ.2.1 i) (hD : Dyn s) : CR s A T len E Hs := by
  obtain ⟨g1, g2, g3, g4, g5, nx, g6, g7, g8, g9⟩ := h
  exact ⟨⟨h1.trans g1.1, fun q hq => by rw [h2 _ _ (lrt_dyn q hq).1 (lrt_dyn q hq).2]; exact g1.2 q hq⟩, hD, g3.kept (fun i _ hi => h3 i (by omega)), ⟨by rw [h3 43 (by omega)]; exact g4.1, fun i hi => by rw [h3 44 (by omega)]; exact g4.2 i hi⟩, fun q hq => by rw [h3 90 (by omega)]; exact g5 q hq, nx, g6, by rw [h3 9 (by omega)]; exact g7, by rw [h3 9 (by omega)]; exact g8, fun j B hj => (g9 j B hj).kept (fun i a b => h3 i (by omega))⟩
/-- a series of the state -/
def srs (p : Nat) [NeZero p] (a : Nat → Int) : PS (Fin p) := fun k => if k < 16 then fz p (a k) else 0
theorem srs_vv {p : Nat} [NeZero p] {a : Nat → Int} {k : Nat} (hk : k < 16) (h : 0 ≤ a k ∧ a k < p) : vv (srs p a k) = a k := by
  show vv (if k < 16 then fz p (a k) else 0) = a k
  rw [if_pos hk, vv_fz, Int.emod_eq_of_lt h.1 h.2]
theorem e_ser {σ : pw_Sto} (hL : Lay σ) {x : Int} (h1 : 0 ≤ x) (h2 : x < 4) : pw_ar 13 2 x σ = some (3 + x.toNat) := by
  have hN := hL.1
  have := sh_2
  rw [ex_ar (by omega) (by omega) (by omega) (by omega)]
  have : ∀ k, k < 4 → σ.2.2 2 k = some (3 + k) := fun k hk => hL.2 (2, k, 3 + k) (by
    have : ∀ k, k < 4 → (2, k, 3 + k) ∈ LRt := by decide
    exact this k hk)
  exact this x.toNat (by omega)
end
