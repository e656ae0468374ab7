section
/-! ### the register of the class -/
def Rg {p : Nat} [NeZero p] (σ : pw_Sto) (o sp : Nat) (C O : PS (Fin p)) (L : Nat) : Prop := Lay σ ∧ ((o = 86 ∧ sp = 87) ∨ (o = 87 ∧ sp = 86)) ∧ (σ.2.2 84 1 = some o ∧ σ.2.2 84 2 = some sp) ∧ (∀ k, k < 17 → σ.2.1 85 k = vv (C k)) ∧ (∀ k, k < 17 → σ.2.1 o k = vv (O k)) ∧ σ.2.1 84 3 = L
theorem sh_rg {o sp : Nat} (h : (o = 86 ∧ sp = 87) ∨ (o = 87 ∧ sp = 86)) : ((pw_sh o).1 = 11 ∧ (pw_sh o).2 = 17) ∧ (pw_sh sp).1 = 11 ∧ (pw_sh sp).2 = 17 := by
  rcases h with ⟨h1, h2⟩ | ⟨h1, h2⟩ <;> subst h1 <;> subst h2
  · exact ⟨sh_86, sh_87⟩
  · exact ⟨sh_87, sh_86⟩
def Fb (σ s : pw_Sto) : Prop := s.1 = σ.1 ∧ (∀ i, ¬ (84 ≤ i ∧ i < 88) → s.2.1 i = σ.2.1 i) ∧ ∀ i k, ¬ (i = 84 ∧ (k = 1 ∨ k = 2)) → s.2.2 i k = σ.2.2 i k
theorem Fb.refl (σ : pw_Sto) : Fb σ σ := ⟨rfl, fun _ _ => rfl, fun _ _ _ => rfl⟩
theorem Fb.trans {a b c : pw_Sto} (h : Fb a b) (k : Fb b c) : Fb a c := ⟨k.1.trans h.1, fun i hi => (k.2.1 i hi).trans (h.2.1 i hi), fun i j hij => (k.2.2 i j hij).trans (h.2.2 i j hij)⟩
theorem Fb.st {σ : pw_Sto} {a : Nat} {f : Nat → Int} (h : 84 ≤ a) (h2 : a < 88) : Fb σ (pw_st σ a f) := ⟨rfl, fun i hi => st_ne (by omega), fun _ _ _ => rfl⟩
theorem Lay.fb {σ s : pw_Sto} (h : Lay σ) (k : Fb σ s) : Lay s := ⟨k.1.trans h.1, fun q hq => by rw [k.2.2 _ _ (lrt_dyn q hq).2]; exact h.2 q hq⟩
theorem e_B_gapAt {p : Nat} [NeZero p] (hp : isPb p = true) {σ : pw_Sto} {o sp : Nat} {C O f : PS (Fin p)} {L : Nat} (hR : Rg σ o sp C O L) (bC : pBd C (L + 1)) (hL16 : L ≤ 16) {a k : Nat} (ha : a < 47) (sa : pw_sh a = (11, 16)) (hk : k < 16) (hf : ∀ k, k < 16 → σ.2.1 a k = vv (f k)) : mf_B_gapAt 84 a k p σ = some (vv (cv C f k), σ) := by
  have hp2 := isPb_le hp
  obtain ⟨hL, hos, hrf, h85, hO, h3⟩ := hR
  have hN := hL.1
  have s84 := sh_84
  have s85 := sh_85
  have sa1 : (pw_sh a).1 = 11 := by rw [sa]
  have sa2 : (pw_sh a).2 = 16 := by rw [sa]
  obtain ⟨e, he⟩ : ∃ e, (e = k + 1 ∧ k ≤ L) ∨ (e = L + 1 ∧ L ≤ k) := by
    by_cases c : k ≤ L
    · exact ⟨k + 1, Or.inl ⟨rfl, c⟩⟩
    · exact ⟨L + 1, Or.inr ⟨rfl, by omega⟩⟩
  have h := lp_sum0 (O := Int × pw_Sto) (fun n i z => ml_B_gapAt_6 n 84 a k p z i σ) e (fun i => vv (C i) * vv (f (k - i))) (fun z => mj_B_gapAt_46 p z σ)
    (by
      intro n i z hi
      try dsimp only
      rw [us_B_gapAt_6]
      unfold mb_B_gapAt_6
      rw [ex_gi (by omega) (by omega), Option.bind_some, h3, pw_ck_ok (by omega) (by omega), if_neg (by omega), pw_ck_ok (by omega) (by omega), if_neg (by omega), ex_gr (by omega) (by omega), lr_84_0 hL, Option.bind_some, ex_ai (by omega) (by omega) (by omega) (by omega), Option.bind_some, ex_ai (by omega) (by omega) (by omega) (by omega), Option.bind_some, Int.toNat_natCast, show ((k : Int) - (i : Int)).toNat = k - i by omega, hf (k - i) (by omega), h85 i (by omega)]
      rfl)
    (by
      intro n z
      try dsimp only
      rw [us_B_gapAt_6]
      unfold mb_B_gapAt_6
      rw [ex_gi (by omega) (by omega), Option.bind_some, h3, pw_ck_ok (by omega) (by omega)]
      by_cases c : (L : Int) < (e : Int)
      · rw [if_pos c]
      · rw [if_neg c, pw_ck_ok (by omega) (by omega), if_pos (by omega)]) 1000 0 (by omega)
  rw [Int.zero_add] at h
  have hb := sm_bd (f := fun i => vv (C i) * vv (f (k - i))) (C := 63001) (n := e) (fun i _ => vv_mm (by omega) (C i) (f (k - i)))
  have hv : (sm (fun i => vv (C i) * vv (f (k - i))) e) % p = vv (cv C f k) := by
    rw [← vv_fz, sm_fz]
    congr 1
    have e1 : sm (fun i => fz p (vv (C i) * vv (f (k - i)))) e = sm (fun i => C i * f (k - i)) e := sm_congr (fun i _ => by rw [fz_mul, fz_vv, fz_vv])
    rw [e1]
    refine (sm_pad (n := e) (m := k + 1) (by omega) (fun i h1 h2 => ?_)).symm
    rw [bC i (by omega)]; grind
  unfold mf_B_gapAt
  rw [ex_gd (by omega) (by omega)]
  refine Eq.trans h ?_
  unfold mj_B_gapAt_46
  rw [e_K_reduce hb.1 (by omega) (by omega) (by omega), ex_bd, hv]
theorem e_B_correct {p : Nat} [NeZero p] (hp : isPb p = true) {σ : pw_Sto} {o sp : Nat} {C O : PS (Fin p)} {L : Nat} (hR : Rg σ o sp C O L) (φ : Fin p) {sh : Nat} (hsh : sh ≤ 17) : ∃ s, mf_B_correct 84 (vv φ) sh p σ = some ((), s) ∧ Fb σ s ∧ Rg s o sp (pSb C (cv (cc φ) (pSh sh O))) O L ∧ ∀ k, k < 17 → s.2.1 sp k = vv (C k) := by
  have hp2 := isPb_le hp
  obtain ⟨hL, hos, hrf, h85, hO, h3⟩ := hR
  have hN := hL.1
  have s84 := sh_84
  have s85 := sh_85
  have sos := sh_rg hos
  have rφ := vv_rng φ
  have t2 : pw_cp 85 (0 : Int) sp (0 : Int) (17 : Int) σ = some (pw_st σ sp (va_cpy (σ.2.1 85) (σ.2.1 sp) 0 0 17)) := xs_cp (by omega) (by omega) (by omega) (by omega) (by omega) (by omega) (by omega) (by omega) (by omega)
  have F1 : Fb σ (pw_st σ sp (va_cpy (σ.2.1 85) (σ.2.1 sp) 0 0 17)) := Fb.st (by omega) (by omega)
  have v1 : ∀ k, k < 17 → (pw_st σ sp (va_cpy (σ.2.1 85) (σ.2.1 sp) 0 0 17)).2.1 sp k = vv (C k) := fun k hk => by
    rw [st_eq]
    unfold va_cpy
    rw [if_pos (by omega), show 0 + (k - 0) = k by omega, h85 k hk]
  have v2 : ∀ i, i ≠ sp → (pw_st σ sp (va_cpy (σ.2.1 85) (σ.2.1 sp) 0 0 17)).2.1 i = σ.2.1 i := fun i hi => st_ne hi
  have v3 : (pw_st σ sp (va_cpy (σ.2.1 85) (σ.2.1 sp) 0 0 17)).2.2 = σ.2.2 := rfl
  generalize pw_st σ sp (va_cpy (σ.2.1 85) (σ.2.1 sp) 0 0 17) = s1 at *
  have L1 := hL.fb F1
  obtain ⟨n, s2, e2, F2, g⟩ := lp_ex (S := pw_Sto) (O := Unit × pw_Sto) (fun n i t => ml_B_correct_18 n 84 (vv φ) sh p i t) (fun i => (i : Int)) (17 - sh) (fun i t => Fq s1 t 85 ∧ ∀ j, j < 17 → t.2.1 85 j = vv (if sh ≤ j ∧ j < sh + i then C j - φ * O (j - sh) else C j))
    (by
      intro n i t hi hI
      obtain ⟨f1, g⟩ := hI
      have Lt := L1.fq f1
      have nt := Lt.1
      have R1 : t.2.2 84 1 = some o := by rw [f1.2.1, v3]; exact hrf.1
      have e3 : t.2.1 o i = vv (O i) := by rw [f1.2.2 o (by omega), v2 o (by omega)]; exact hO i (by omega)
      have e4 := g (i + sh) (by omega)
      rw [if_neg (by omega)] at e4
      have r1 := vv_rng (C (i + sh))
      have r2 := vv_rng (O i)
      have r3 := imul251 (f := (p : Int) - vv φ) (w := vv (O i)) (by omega) (by omega) (by omega) (by omega)
      refine ⟨pw_st t 85 (fun j => if j = i + sh then vv (C (i + sh) - φ * O i) else t.2.1 85 j), ?_, ⟨f1.1, f1.2.1, fun a ha => by rw [st_ne ha]; exact f1.2.2 a ha⟩, fun j hj => ?_⟩
      · try dsimp only
        rw [us_B_correct_18]
        unfold mb_B_correct_18
        rw [pw_ck_ok (by omega) (by omega), if_neg (by omega), ex_gr (by omega) (by omega), lr_84_0 Lt]
        simp only [Option.bind_some]
        rw [ex_ai (by omega) (by omega) (by omega) (by omega), Option.bind_some, show ((i : Int) + (sh : Int)).toNat = i + sh by omega, e4, ex_gr (by omega) (by omega), R1, Option.bind_some, ex_ai (by omega) (by omega) (by omega) (by omega), Option.bind_some, Int.toNat_natCast, e3]
        rw [e_K_reduce (by omega) (by omega) (by omega) (by omega), ex_bd, vv_cl, xs_si (by omega) (by omega) (by omega) (by omega), Option.bind_some, show ((i : Int) + (sh : Int)).toNat = i + sh by omega]
        rfl
      · rw [st_eq]
        by_cases c : j = i + sh
        · rw [if_pos c, if_pos (by omega), c, show i + sh - sh = i by omega]
        · rw [if_neg c, g j hj]
          by_cases c2 : sh ≤ j ∧ j < sh + i
          · rw [if_pos c2, if_pos (by omega)]
          · rw [if_neg c2, if_neg (by omega)]) (17 - sh) 0 1000 s1 (by omega) (by omega) ⟨⟨rfl, rfl, fun _ _ => rfl⟩, fun j hj => by rw [if_neg (by omega), v2 85 (by omega)]; exact h85 j hj⟩
  have FF : Fb s1 s2 := ⟨F2.1, fun i hi => F2.2.2 i (by omega), fun i k _ => by rw [F2.2.1]⟩
  refine ⟨s2, ?_, F1.trans FF, ⟨L1.fb FF, hos, by rw [F2.2.1, v3]; exact hrf, fun k hk => ?_, fun k hk => by rw [F2.2.2 o (by omega), v2 o (by omega)]; exact hO k hk, by rw [F2.2.2 84 (by omega), v2 84 (by omega)]; exact h3⟩, fun k hk => by rw [F2.2.2 sp (by omega)]; exact v1 k hk⟩
  · unfold mf_B_correct
    rw [ex_gd (by omega) (by omega), ex_gr (by omega) (by omega), lr_84_0 hL, Option.bind_some, ex_gr (by omega) (by omega), hrf.2, Option.bind_some, t2, Option.bind_some]
    refine Eq.trans e2 ?_
    try dsimp only
    rw [us_B_correct_18]
    unfold mb_B_correct_18
    rw [pw_ck_ok (by omega) (by omega), if_pos (by omega)]
  · rw [g k hk]
    congr 1
    show _ = C k - cv (cc φ) (pSh sh O) k
    rw [cv_cc]
    show _ = C k - φ * (if k < sh then 0 else O (k - sh))
    by_cases c : sh ≤ k ∧ k < sh + (17 - sh)
    · rw [if_pos c, if_neg (by omega)]
    · rw [if_neg c, if_pos (by omega)]; grind
theorem e_B_loop {p : Nat} [NeZero p] (hp : isPb p = true) {f : PS (Fin p)} {a len : Nat} (ha : a < 47) (sa : pw_sh a = (11, 16)) (hlen : len ≤ 16) : ∀ (d n k L sh o sp : Nat) (C O : PS (Fin p)) (g : Fin p) (t : pw_Sto), k + d = len → d < n → sh ≤ k + 1 → (∀ k, k < 16 → t.2.1 a k = vv (f k)) → Rg t o sp C O L → pBM f k L C sh O g → ∃ s L' C' O' o' sp' sh' g', ml_B_fit_44 n 84 a len p (vv g) sh (k : Nat) t = some ((), s) ∧ Fb t s ∧ Rg s o' sp' C' O' L' ∧ pBM f len L' C' sh' O' g' := by
  have hp2 := isPb_le hp
  have s84 := sh_84
  intro d
  induction d with
  | zero =>
    intro n k L sh o sp C O g t h1 h2 h3 hf hR hB
    obtain ⟨n, rfl⟩ : ∃ k, n = k + 1 := ⟨n - 1, by omega⟩
    have e : k = len := by omega
    subst e
    refine ⟨t, L, C, O, o, sp, sh, g, ?_, Fb.refl t, hR, hB⟩
    rw [us_B_fit_44]
    unfold mb_B_fit_44
    rw [pw_ck_ok (by omega) (by omega), if_pos (by omega)]
  | succ d ih =>
    intro n k L sh o sp C O g t h1 h2 h3 hf hR hB
    obtain ⟨n, rfl⟩ : ∃ k, n = k + 1 := ⟨n - 1, by omega⟩
    have hLk := hB.1.2
    have hg := e_B_gapAt hp hR hB.1.1.2.1 (by omega) ha sa (k := k) (by omega) hf
    have rδ := vv_rng (cv C f k)
    rw [us_B_fit_44]
    unfold mb_B_fit_44
    rw [pw_ck_ok (by omega) (by omega), if_neg (by omega), pw_ck_ok (by omega) (by omega), if_neg (by omega), hg, ex_bd, pw_ck_ok (by omega) (by omega)]
    by_cases hz : cv C f k = 0
    · rw [if_pos (vv_z.mpr hz)]
      exact ih n (k + 1) L (sh + 1) o sp C O g t (by omega) (by omega) (by omega) hf hR (bm_zero hB hz)
    · rw [if_neg (fun q => hz (vv_z.mp q)), e_K_overF hp, ex_bd]
      obtain ⟨s1, t1, F1, R1, v1⟩ := e_B_correct hp hR (cv C f k * fi g) (sh := sh) (by omega)
      obtain ⟨L1, hos, hrf, h85, hO, h3'⟩ := id R1
      have n1 := L1.1
      have hf1 : ∀ k, k < 16 → s1.2.1 a k = vv (f k) := fun k hk => by rw [F1.2.1 a (by omega)]; exact hf k hk
      rw [t1, ex_bd, ex_gi (by omega) (by omega)]
      simp only [Option.bind_some]
      rw [h3', pw_ck_ok (by omega) (by omega)]
      by_cases c : k < 2 * L
      · rw [if_pos (by omega)]
        obtain ⟨s, L', C', O', o', sp', sh', g', e, F, R, B⟩ := ih n (k + 1) L (sh + 1) o sp _ O g s1 (by omega) (by omega) (by omega) hf1 R1 ((bm_cor hp hB hz).1 c)
        exact ⟨s, L', C', O', o', sp', sh', g', e, F1.trans F, R, B⟩
      · rw [if_neg (by omega), xs_pi (by omega) (by omega), Option.bind_some]
        have F2 : Fb s1 (pw_st s1 84 (fun j => if j = 3 then (k : Int) + 1 - (L : Int) else s1.2.1 84 j)) := Fb.st (by omega) (by omega)
        have w1 : ∀ i, i ≠ 84 → (pw_st s1 84 (fun j => if j = 3 then (k : Int) + 1 - (L : Int) else s1.2.1 84 j)).2.1 i = s1.2.1 i := fun i hi => st_ne hi
        have w2 : (pw_st s1 84 (fun j => if j = 3 then (k : Int) + 1 - (L : Int) else s1.2.1 84 j)).2.1 84 3 = ((k + 1 - L : Nat) : Int) := by
          rw [st_eq, if_pos rfl]; omega
        have w3 : (pw_st s1 84 (fun j => if j = 3 then (k : Int) + 1 - (L : Int) else s1.2.1 84 j)).2.2 = s1.2.2 := rfl
        generalize pw_st s1 84 (fun j => if j = 3 then (k : Int) + 1 - (L : Int) else s1.2.1 84 j) = s2 at *
        have L2 := L1.fb F2
        have n2 := L2.1
        have hk : mf_B_keepOlder 84 s2 = some ((), rsw s2 84 1 sp o) := by
          unfold mf_B_keepOlder
          rw [ex_gd (by omega) (by omega), ex_gr (by omega) (by omega), w3, hrf.1, Option.bind_some, ex_gr (by omega) (by omega), w3, hrf.2, Option.bind_some]
          exact e_sw (by omega) (by omega)
        have F3 : Fb s2 (rsw s2 84 1 sp o) := ⟨rfl, fun _ _ => rfl, fun i k hik => rsw_ne (by omega)⟩
        have R3 : Rg (rsw s2 84 1 sp o) sp o (pSb C (cv (cc (cv C f k * fi g)) (pSh sh O))) C (k + 1 - L) := ⟨L2.fb F3, by omega, ⟨rsw_1, rsw_2⟩, fun j hj => by show s2.2.1 85 j = _; rw [w1 85 (by omega)]; exact h85 j hj, fun j hj => by show s2.2.1 sp j = _; rw [w1 sp (by omega)]; exact v1 j hj, w2⟩
        obtain ⟨s, L', C', O', o', sp', sh', g', e, F, R, B⟩ := ih n (k + 1) (k + 1 - L) 1 sp o _ C (cv C f k) (rsw s2 84 1 sp o) (by omega) (by omega) (by omega) (fun k hk => by show s2.2.1 a k = _; rw [w1 a (by omega)]; exact hf1 k hk) R3 ((bm_cor hp hB hz).2 (by omega))
        refine ⟨s, L', C', O', o', sp', sh', g', ?_, ((F1.trans F2).trans F3).trans F, R, B⟩
        rw [hk, ex_bd]
        exact e
theorem e_B_fit {p : Nat} [NeZero p] (hp : isPb p = true) {f : PS (Fin p)} {a len : Nat} (ha : a < 47) (sa : pw_sh a = (11, 16)) (hlen : len ≤ 16) {σ : pw_Sto} (hL : Lay σ) (hD : Dyn σ) (hf : ∀ k, k < 16 → σ.2.1 a k = vv (f k)) : ∃ s L C O o sp sh g, mf_B_fit 84 a len p σ = some ((), s) ∧ Fb σ s ∧ Rg s o sp C O L ∧ pBM f len L C sh O g := by
  have hp2 := isPb_le hp
  have hN := hL.1
  have s84 := sh_84
  have s85 := sh_85
  obtain ⟨o, sp, hos, hrf⟩ : ∃ o sp, ((o = 86 ∧ sp = 87) ∨ (o = 87 ∧ sp = 86)) ∧ (σ.2.2 84 1 = some o ∧ σ.2.2 84 2 = some sp) := by
    rcases hD.2.2 with h | h
    · exact ⟨86, 87, Or.inl ⟨rfl, rfl⟩, h⟩
    · exact ⟨87, 86, Or.inr ⟨rfl, rfl⟩, h⟩
  have sos := sh_rg hos
  have t1 := e_A_fill (a := 85) (v := 0) (σ := σ) (by omega) s85.1
  have F1 : Fb σ (pw_st σ 85 (fun j => if j < (pw_sh 85).2 then 0 else σ.2.1 85 j)) := Fb.st (by omega) (by omega)
  have v1 : ∀ k, k < 17 → (pw_st σ 85 (fun j => if j < (pw_sh 85).2 then 0 else σ.2.1 85 j)).2.1 85 k = 0 := fun k hk => by rw [st_eq, if_pos (by omega)]
  have r1 : (pw_st σ 85 (fun j => if j < (pw_sh 85).2 then 0 else σ.2.1 85 j)).2.2 = σ.2.2 := rfl
  generalize pw_st σ 85 (fun j => if j < (pw_sh 85).2 then 0 else σ.2.1 85 j) = s1 at *
  have L1 := hL.fb F1
  have n1 := L1.1
  have t2 := e_A_fill (a := o) (v := 0) (σ := s1) (by omega) sos.1.1
  have F2 : Fb s1 (pw_st s1 o (fun j => if j < (pw_sh o).2 then 0 else s1.2.1 o j)) := Fb.st (by omega) (by omega)
  have v2 : ∀ k, k < 17 → (pw_st s1 o (fun j => if j < (pw_sh o).2 then 0 else s1.2.1 o j)).2.1 o k = 0 := fun k hk => by rw [st_eq, if_pos (by omega)]
  have u2 : (pw_st s1 o (fun j => if j < (pw_sh o).2 then 0 else s1.2.1 o j)).2.1 85 = s1.2.1 85 := st_ne (by omega)
  have r2 : (pw_st s1 o (fun j => if j < (pw_sh o).2 then 0 else s1.2.1 o j)).2.2 = s1.2.2 := rfl
  generalize pw_st s1 o (fun j => if j < (pw_sh o).2 then 0 else s1.2.1 o j) = s2 at *
  have L2 := L1.fb F2
  have n2 := L2.1
  have t3 := xs_si (a := 85) (i := 0) (v := 1) (σ := s2) (by omega) s85.1 (by omega) (by omega)
  have F3 : Fb s2 (pw_st s2 85 (fun j => if j = (0 : Int).toNat then 1 else s2.2.1 85 j)) := Fb.st (by omega) (by omega)
  have v3 : ∀ k, k < 17 → (pw_st s2 85 (fun j => if j = (0 : Int).toNat then 1 else s2.2.1 85 j)).2.1 85 k = vv ((cc 1 : PS (Fin p)) k) := fun k hk => by
    rw [st_eq]
    cases k with
    | zero => rw [if_pos (show (0 : Nat) = (0 : Int).toNat from rfl), cc_z, vv_1 (by omega)]
    | succ k => rw [if_neg (by show ¬ k + 1 = 0; omega), cc_s, vv_0, u2]; exact v1 _ hk
  have u3 : (pw_st s2 85 (fun j => if j = (0 : Int).toNat then 1 else s2.2.1 85 j)).2.1 o = s2.2.1 o := st_ne (by omega)
  have r3 : (pw_st s2 85 (fun j => if j = (0 : Int).toNat then 1 else s2.2.1 85 j)).2.2 = s2.2.2 := rfl
  generalize pw_st s2 85 (fun j => if j = (0 : Int).toNat then 1 else s2.2.1 85 j) = s3 at *
  have L3 := L2.fb F3
  have n3 := L3.1
  have t4 := xs_si (a := o) (i := 0) (v := 1) (σ := s3) (by omega) sos.1.1 (by omega) (by omega)
  have F4 : Fb s3 (pw_st s3 o (fun j => if j = (0 : Int).toNat then 1 else s3.2.1 o j)) := Fb.st (by omega) (by omega)
  have v4 : ∀ k, k < 17 → (pw_st s3 o (fun j => if j = (0 : Int).toNat then 1 else s3.2.1 o j)).2.1 o k = vv ((cc 1 : PS (Fin p)) k) := fun k hk => by
    rw [st_eq]
    cases k with
    | zero => rw [if_pos (show (0 : Nat) = (0 : Int).toNat from rfl), cc_z, vv_1 (by omega)]
    | succ k => rw [if_neg (by show ¬ k + 1 = 0; omega), cc_s, vv_0, u3]; exact v2 _ hk
  have u4 : (pw_st s3 o (fun j => if j = (0 : Int).toNat then 1 else s3.2.1 o j)).2.1 85 = s3.2.1 85 := st_ne (by omega)
  have r4 : (pw_st s3 o (fun j => if j = (0 : Int).toNat then 1 else s3.2.1 o j)).2.2 = s3.2.2 := rfl
  generalize pw_st s3 o (fun j => if j = (0 : Int).toNat then 1 else s3.2.1 o j) = s4 at *
  have L4 := L3.fb F4
  have n4 := L4.1
  have t5 := xs_pi (c := 5) (o := 84) (k := 3) (v := 0) (σ := s4) (by omega) (by omega)
  have F5 : Fb s4 (pw_st s4 84 (fun j => if j = 3 then 0 else s4.2.1 84 j)) := Fb.st (by omega) (by omega)
  have v5 : (pw_st s4 84 (fun j => if j = 3 then 0 else s4.2.1 84 j)).2.1 84 3 = ((0 : Nat) : Int) := by rw [st_eq, if_pos rfl]; rfl
  have u5 : ∀ i, i ≠ 84 → (pw_st s4 84 (fun j => if j = 3 then 0 else s4.2.1 84 j)).2.1 i = s4.2.1 i := fun i hi => st_ne hi
  have r5 : (pw_st s4 84 (fun j => if j = 3 then 0 else s4.2.1 84 j)).2.2 = s4.2.2 := rfl
  generalize pw_st s4 84 (fun j => if j = 3 then 0 else s4.2.1 84 j) = s5 at *
  have L5 := L4.fb F5
  have F15 : Fb σ s5 := (((F1.trans F2).trans F3).trans F4).trans F5
  have R5 : Rg s5 o sp (cc 1 : PS (Fin p)) (cc 1) 0 := ⟨L5, hos, by rw [r5, r4, r3, r2, r1]; exact hrf, fun k hk => by rw [u5 85 (by omega), u4]; exact v3 k hk, fun k hk => by rw [u5 o (by omega)]; exact v4 k hk, v5⟩
  obtain ⟨s, L', C', O', o', sp', sh', g', e, F, R, B⟩ := e_B_loop hp (f := f) ha sa hlen len 1000 0 0 1 o sp (cc 1) (cc 1) 1 s5 (by omega) (by omega) (by omega) (fun k hk => by rw [F15.2.1 a (by omega)]; exact hf k hk) R5 (bm_start (by omega) f)
  rw [vv_1 (by omega)] at e
  refine ⟨s, L', C', O', o', sp', sh', g', ?_, F15.trans F, R, B⟩
  have q1 : s1.2.2 84 1 = some o := by rw [r1]; exact hrf.1
  have q3 : s3.2.2 84 1 = some o := by rw [r3, r2, r1]; exact hrf.1
  unfold mf_B_fit
  rw [ex_gd (by omega) (by omega), ex_gr (by omega) (by omega), lr_84_0 hL, Option.bind_some, t1, ex_bd, ex_gr (by omega) (by omega), q1, Option.bind_some, t2, ex_bd, ex_gr (by omega) (by omega), lr_84_0 L2, Option.bind_some, t3, Option.bind_some, ex_gr (by omega) (by omega), q3, Option.bind_some, t4, Option.bind_some, t5, Option.bind_some]
  exact e
end
