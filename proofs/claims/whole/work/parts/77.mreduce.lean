section
/-! ## reduced form, model -/
theorem fsF_z {u : Nat → Int} : ∀ {d r i : Nat}, r ≤ i → i < fsF u d r → u i = 0 := by
  intro d
  induction d with
  | zero => intro r i h1 h2; exact absurd (show i < r from h2) (by omega)
  | succ d ih =>
    intro r i h1
    show i < (if u r = 0 then fsF u d (r + 1) else r) → u i = 0
    by_cases c : u r = 0
    · rw [if_pos c]
      intro h2
      by_cases e : i = r
      · rw [e]; exact c
      · exact ih (r := r + 1) (by omega) h2
    · rw [if_neg c]; intro h2; omega
theorem fs_z {u : Nat → Int} {n k i : Nat} (h1 : k ≤ i) (h2 : i < fs u n k) : u i = 0 := fsF_z h1 h2
def Mt {p : Nat} [NeZero p] (σ : pw_Sto) (X : Nat → Nat → Fin p) : Prop := ∀ r c, r < 18 → c < 18 → σ.2.1 99 (18 * r + c) = vv (X r c)
theorem Mt.kept {p : Nat} [NeZero p] {σ s : pw_Sto} {X : Nat → Nat → Fin p} (h : Mt σ X) (k : s.2.1 99 = σ.2.1 99) : Mt s X := fun r c hr hc => by rw [k]; exact h r c hr hc
theorem e_M_scaleRow {p : Nat} [NeZero p] (hp : isPb p = true) {σ : pw_Sto} (hL : Lay σ) (hp0 : σ.2.1 92 0 = p) {X : Nat → Nat → Fin p} (hX : Mt σ X) {ρ : Nat} (hρ : ρ < 18) (φ : Fin p) (rows cols col : Int) (r5 : Nat → Int → Int → Int → Int → pw_Sto → Option (Unit × pw_Sto)) : ∃ t, ml_M_reduce_71 r5 1000 91 rows cols ρ col (vv φ) 0 σ = ml_M_reduce_118 r5 1000 91 rows cols ρ col 0 t ∧ Fq σ t 99 ∧ Mt t (scM X ρ φ) := by
  have hp2 := isPb_le hp
  have hN := hL.1
  have s91 := sh_91
  have s99 := sh_99
  obtain ⟨n, t, e1, f1, g⟩ := lp_ex (S := pw_Sto) (O := Unit × pw_Sto) (fun n k t => ml_M_reduce_71 r5 n 91 rows cols ρ col (vv φ) k t) (fun j => (j : Int)) 18 (fun k t => Fq σ t 99 ∧ ∀ r c, r < 18 → c < 18 → t.2.1 99 (18 * r + c) = vv (if r = ρ ∧ c < k then X r c * φ else X r c))
    (by
      intro n k t hk hI
      obtain ⟨f1, g⟩ := hI
      have L1 := hL.fq f1
      have n1 := L1.1
      have p1 : t.2.1 92 0 = p := by rw [f1.2.2 92 (by omega)]; exact hp0
      have e4 := g ρ k hρ (by omega)
      rw [if_neg (by omega)] at e4
      have r1 := vv_mm (p := p) (by omega) (X ρ k) φ
      refine ⟨pw_st t 99 (fun j => if j = 18 * ρ + k then vv (X ρ k * φ) else t.2.1 99 j), ?_, ⟨f1.1, f1.2.1, fun i hi => by rw [st_ne hi]; exact f1.2.2 i hi⟩, fun r c hr hc => ?_⟩
      · try dsimp only
        rw [us_M_reduce_71]
        unfold mb_M_reduce_71
        rw [pw_ck_ok (by omega) (by omega), if_neg (by omega), ex_gr (by omega) (by omega), lr_91_10 L1]
        simp only [Option.bind_some]
        rw [ex_ai (by omega) (by omega) (by omega) (by omega), Option.bind_some, show ((18 : Int) * (ρ : Int) + (k : Int)).toNat = 18 * ρ + k by omega, e4, e_M_mod L1 p1 (by omega) (by omega) (by omega), ex_bd, ← vv_mul, xs_si (by omega) (by omega) (by omega) (by omega), Option.bind_some, show ((18 : Int) * (ρ : Int) + (k : Int)).toNat = 18 * ρ + k by omega]
        rfl
      · rw [st_eq]
        by_cases e : r = ρ ∧ c = k
        · rw [if_pos (by omega), if_pos (by omega), e.1, e.2]
        · rw [if_neg (by omega), g r c hr hc]
          by_cases e2 : r = ρ ∧ c < k
          · rw [if_pos e2, if_pos (by omega)]
          · rw [if_neg e2, if_neg (by omega)]) 18 0 1000 σ (by omega) (by omega) ⟨⟨rfl, rfl, fun _ _ => rfl⟩, fun r c hr hc => by rw [if_neg (by omega)]; exact hX r c hr hc⟩
  refine ⟨t, Eq.trans e1 ?_, f1, fun r c hr hc => ?_⟩
  · try dsimp only
    rw [us_M_reduce_71]
    unfold mb_M_reduce_71
    rw [pw_ck_ok (by omega) (by omega), if_pos (by omega)]
  · rw [g r c hr hc]
    unfold scM
    by_cases e : r = ρ
    · rw [if_pos (by omega), if_pos e]
    · rw [if_neg (by omega), if_neg e]
theorem e_M_elim {p : Nat} [NeZero p] (hp : isPb p = true) {σ : pw_Sto} (hL : Lay σ) (hp0 : σ.2.1 92 0 = p) {X : Nat → Nat → Fin p} (hX : Mt σ X) {ρ rows col : Nat} (hρ : ρ < 18) (hr : rows ≤ 18) (hc : col < 18) (cols : Int) (r5 : Nat → Int → Int → Int → Int → pw_Sto → Option (Unit × pw_Sto)) : ∃ t, ml_M_reduce_118 r5 1000 91 rows cols ρ col 0 σ = r5 91 rows cols ((ρ : Int) + 1) ((col : Int) + 1) t ∧ Fq σ t 99 ∧ Mt t (elA X ρ col rows) := by
  have hp2 := isPb_le hp
  have hN := hL.1
  have s91 := sh_91
  have s99 := sh_99
  obtain ⟨n, t, e1, f1, g⟩ := lp_ex (S := pw_Sto) (O := Unit × pw_Sto) (fun n k t => ml_M_reduce_118 r5 n 91 rows cols ρ col k t) (fun j => (j : Int)) rows (fun k t => Fq σ t 99 ∧ Mt t (elA X ρ col k))
    (by
      intro n k t hk hI
      obtain ⟨f1, g⟩ := hI
      have L1 := hL.fq f1
      have n1 := L1.1
      have p1 : t.2.1 92 0 = p := by rw [f1.2.2 92 (by omega)]; exact hp0
      by_cases e : k = ρ
      · refine ⟨t, ?_, f1, fun r c h1 h2 => ?_⟩
        · try dsimp only
          rw [us_M_reduce_118]
          unfold mb_M_reduce_118
          rw [pw_ck_ok (by omega) (by omega), if_neg (by omega), pw_ck_ok (by omega) (by omega), if_pos (by omega)]
          rfl
        · rw [g r c h1 h2]
          unfold elA
          by_cases e2 : r < k ∧ r ≠ ρ
          · rw [if_pos e2, if_pos (by omega)]
          · rw [if_neg e2, if_neg (by omega)]
      · have e4 : t.2.1 99 (18 * k + col) = vv (X k col) := by
          rw [g k col (by omega) hc]
          unfold elA
          rw [if_neg (by omega)]
        have rk := vv_rng (X k col)
        have gk : ∀ c, c < 18 → t.2.1 99 (18 * k + c) = vv (X k c) := fun c hc => by
          rw [g k c (by omega) hc]
          unfold elA
          rw [if_neg (by omega)]
        have gρ : ∀ c, c < 18 → t.2.1 99 (18 * ρ + c) = vv (X ρ c) := fun c hc => by
          rw [g ρ c (by omega) hc]
          unfold elA
          rw [if_neg (by omega)]
        have hls := e_M_lessRow (σ := t) L1 p1 (by omega) (by omega) (a := k) (b := ρ) e (by omega) (by omega) (f := vv (X k col)) rk.1 (by omega) (fun c hc => by rw [gk c hc]; have := vv_rng (X k c); omega) (fun c hc => by rw [gρ c hc]; have := vv_rng (X ρ c); omega)
        refine ⟨pw_st t 99 (lw (t.2.1 99) p k ρ (vv (X k col)) 18), ?_, ⟨f1.1, f1.2.1, fun i hi => ?_⟩, fun r c h1 h2 => ?_⟩
        · try dsimp only
          rw [us_M_reduce_118]
          unfold mb_M_reduce_118
          rw [pw_ck_ok (by omega) (by omega), if_neg (by omega), pw_ck_ok (by omega) (by omega), if_neg (by omega), ex_gr (by omega) (by omega), lr_91_10 L1, Option.bind_some, ex_ai (by omega) (by omega) (by omega) (by omega), Option.bind_some, show ((18 : Int) * (k : Int) + (col : Int)).toNat = 18 * k + col by omega, e4, hls, ex_bd]
          rfl
        · rw [st_ne hi]; exact f1.2.2 i hi
        · rw [st_eq]
          unfold lw
          by_cases e2 : r = k
          · rw [if_pos (by omega), show (18 * r + c) % 18 = c by omega, e2, gk c h2, gρ c h2, ← vv_sm]
            unfold elA
            rw [if_pos (by omega)]
          · rw [if_neg (by omega), g r c h1 h2]
            unfold elA
            by_cases e3 : r < k ∧ r ≠ ρ
            · rw [if_pos e3, if_pos (by omega)]
            · rw [if_neg e3, if_neg (by omega)]) rows 0 1000 σ (by omega) (by omega) ⟨⟨rfl, rfl, fun _ _ => rfl⟩, fun r c h1 h2 => by
              unfold elA
              rw [if_neg (by omega)]
              exact hX r c h1 h2⟩
  refine ⟨t, Eq.trans e1 ?_, f1, g⟩
  try dsimp only
  rw [us_M_reduce_118]
  unfold mb_M_reduce_118
  rw [pw_ck_ok (by omega) (by omega), if_pos (by omega)]
def Fz (σ s : pw_Sto) : Prop := s.1 = σ.1 ∧ s.2.2 = σ.2.2 ∧ ∀ i, i ≠ 99 → i ≠ 100 → s.2.1 i = σ.2.1 i
theorem Fz.refl (σ : pw_Sto) : Fz σ σ := ⟨rfl, rfl, fun _ _ _ => rfl⟩
theorem Fz.trans {a b c : pw_Sto} (h : Fz a b) (k : Fz b c) : Fz a c := ⟨k.1.trans h.1, k.2.1.trans h.2.1, fun i h1 h2 => (k.2.2 i h1 h2).trans (h.2.2 i h1 h2)⟩
theorem Fz.fq {σ s : pw_Sto} {q : Nat} (h : Fq σ s q) (hq : q = 99 ∨ q = 100) : Fz σ s := ⟨h.1, h.2.1, fun i h1 h2 => h.2.2 i (by omega)⟩
theorem Fz.st {σ : pw_Sto} {a : Nat} {f : Nat → Int} (h : a = 99 ∨ a = 100) : Fz σ (pw_st σ a f) := ⟨rfl, rfl, fun i h1 h2 => st_ne (by omega)⟩
theorem Lay.fz {σ s : pw_Sto} (h : Lay σ) (k : Fz σ s) : Lay s := ⟨k.1.trans h.1, fun q hq => by rw [k.2.1]; exact h.2 q hq⟩
theorem e_M_reduce {p : Nat} [NeZero p] (hp : isPb p = true) {σ : pw_Sto} (hL : Lay σ) (hp0 : σ.2.1 92 0 = p) {X : Nat → Nat → Fin p} (hX : Mt σ X) {rows cols : Nat} (hr : rows ≤ 18) (hc : cols ≤ 18) : ∃ s Y pv ρ, mf_M_reduce 91 rows cols σ = some ((), s) ∧ Fz σ s ∧ Mt s Y ∧ (∀ c, c < cols → s.2.1 100 c = pv c) ∧ pRF Y pv ρ rows cols ∧ pKq X Y rows := by
  have hp2 := isPb_le hp
  have s91 := sh_91
  have s99 := sh_99
  have s100 := sh_100
  have key : ∀ (d n col ρ : Nat) (t : pw_Sto) (Z : Nat → Nat → Fin p) (pv : Nat → Int), col + d = cols → d < n → Lay t → t.2.1 92 0 = p → Mt t Z → (∀ c, c < col → t.2.1 100 c = pv c) → pRF Z pv ρ rows col → pKq X Z rows → ∃ s Y pv' ρ', ml_M_reduce_5 n 91 rows cols (ρ : Nat) (col : Nat) t = some ((), s) ∧ Fz t s ∧ Mt s Y ∧ (∀ c, c < cols → s.2.1 100 c = pv' c) ∧ pRF Y pv' ρ' rows cols ∧ pKq X Y rows := by
    intro d
    induction d with
    | zero =>
      intro n col ρ t Z pv h1 h2 hY hq hZ hpv hRF hK
      obtain ⟨n, rfl⟩ : ∃ k, n = k + 1 := ⟨n - 1, by omega⟩
      have e : col = cols := by omega
      subst e
      refine ⟨t, Z, pv, ρ, ?_, Fz.refl t, hZ, hpv, hRF, hK⟩
      rw [us_M_reduce_5]
      unfold mb_M_reduce_5
      rw [pw_ck_ok (by omega) (by omega), if_pos (by omega)]
    | succ d ih =>
      intro n col ρ t Z pv h1 h2 hY hq hZ hpv hRF hK
      obtain ⟨n, rfl⟩ : ∃ k, n = k + 1 := ⟨n - 1, by omega⟩
      have hN := hY.1
      have hρ := hRF.1
      have hu : ∀ r, r < 18 → t.2.1 99 (18 * r + col) = vv (Z r col) := fun r hr => hZ r col hr (by omega)
      have hrow := e_M_rowWith (σ := t) hY (k := ρ) (n := rows) (c := col) hr hρ (by omega) (by omega) (fun r hr => by rw [hu r (by omega)]; have := vv_rng (Z r col); exact ⟨by omega, by omega⟩)
      have hfl := fs_le (u := fun r => t.2.1 99 (18 * r + col)) hρ
      rw [us_M_reduce_5]
      unfold mb_M_reduce_5
      rw [pw_ck_ok (by omega) (by omega), if_neg (by omega), hrow, ex_bd, ex_gr (by omega) (by omega), lr_91_11 hY, Option.bind_some]
      have hfz : ∀ i, ρ ≤ i → i < fs (fun r => t.2.1 99 (18 * r + col)) rows ρ → t.2.1 99 (18 * i + col) = 0 := fun i i1 i2 => fs_z (u := fun r => t.2.1 99 (18 * r + col)) i1 i2
      have hfn : fs (fun r => t.2.1 99 (18 * r + col)) rows ρ < rows → t.2.1 99 (18 * fs (fun r => t.2.1 99 (18 * r + col)) rows ρ + col) ≠ 0 := fun q => fs_ne (u := fun r => t.2.1 99 (18 * r + col)) hρ q
      generalize fs (fun r => t.2.1 99 (18 * r + col)) rows ρ = f at *
      by_cases cf : f < rows
      · rw [if_pos cf, pw_ck_ok (by omega) (by omega), if_pos (by omega)]
        unfold mj_M_reduce_37
        rw [xs_si (by omega) (by omega) (by omega) (by omega), Option.bind_some, pw_ck_ok (by omega) (by omega), if_neg (by omega), Int.toNat_natCast]
        have F1 : Fz t (pw_st t 100 (fun j => if j = col then (ρ : Int) else t.2.1 100 j)) := Fz.st (Or.inr rfl)
        have g1 : ∀ c, (pw_st t 100 (fun j => if j = col then (ρ : Int) else t.2.1 100 j)).2.1 100 c = if c = col then (ρ : Int) else t.2.1 100 c := fun c => by rw [st_eq]
        have Z1 : Mt (pw_st t 100 (fun j => if j = col then (ρ : Int) else t.2.1 100 j)) Z := hZ.kept (st_ne (by omega))
        generalize pw_st t 100 (fun j => if j = col then (ρ : Int) else t.2.1 100 j) = s1 at *
        have L1 := hY.fz F1
        have n1 := L1.1
        have hfne : Z f col ≠ 0 := fun q => hfn cf (by rw [hu f (by omega), q, vv_0])
        rw [e_M_exchange L1 (a := ρ) (b := f) (by omega) (by omega), ex_bd]
        have F2 : Fq s1 (pw_st s1 99 (xg (s1.2.1 99) ρ f 18)) 99 := ⟨rfl, rfl, fun i hi => st_ne hi⟩
        have Z2 : Mt (pw_st s1 99 (xg (s1.2.1 99) ρ f 18)) (exM Z ρ f) := fun r c r1 c1 => by
          rw [st_eq]
          unfold xg exM
          rw [if_pos (by omega), show (18 * r + c) / 18 = r by omega, show (18 * r + c) % 18 = c by omega]
          by_cases e1 : r = ρ
          · rw [if_pos e1, if_pos e1]; exact Z1 f c (by omega) c1
          · by_cases e2 : r = f
            · rw [if_neg e1, if_neg e1, if_pos e2, if_pos e2]; exact Z1 ρ c (by omega) c1
            · rw [if_neg e1, if_neg e1, if_neg e2, if_neg e2]; exact Z1 r c r1 c1
        generalize pw_st s1 99 (xg (s1.2.1 99) ρ f 18) = s2 at *
        have L2 := L1.fq F2
        have n2 := L2.1
        have e3 : s2.2.1 99 (18 * ρ + col) = vv (Z f col) := by
          rw [Z2 ρ col (by omega) (by omega)]
          unfold exM
          rw [if_pos rfl]
        have p2 : s2.2.1 92 0 = p := by rw [F2.2.2 92 (by omega), F1.2.2 92 (by omega) (by omega)]; exact hq
        rw [ex_gr (by omega) (by omega), lr_91_10 L2, Option.bind_some, ex_ai (by omega) (by omega) (by omega) (by omega), Option.bind_some, show ((18 : Int) * (ρ : Int) + (col : Int)).toNat = 18 * ρ + col by omega, e3, e_M_inv hp L2 p2 hfne, ex_bd]
        obtain ⟨s3, e4, F3, Z3⟩ := e_M_scaleRow hp L2 p2 Z2 (ρ := ρ) (by omega) (fi (Z f col)) rows cols col (ml_M_reduce_5 n)
        have L3 := L2.fq F3
        have p3 : s3.2.1 92 0 = p := by rw [F3.2.2 92 (by omega)]; exact p2
        obtain ⟨s4, e5, F4, Z4⟩ := e_M_elim hp L3 p3 Z3 (ρ := ρ) (rows := rows) (col := col) (by omega) hr (by omega) cols (ml_M_reduce_5 n)
        obtain ⟨rf, kq⟩ := rf_yes hp hRF (f := f) (by omega) cf hfne
        have F14 : Fz t s4 := ((F1.trans (Fz.fq F2 (Or.inl rfl))).trans (Fz.fq F3 (Or.inl rfl))).trans (Fz.fq F4 (Or.inl rfl))
        obtain ⟨s, Y, pv', ρ', e6, F5, a1, a2, a3, a4⟩ := ih n (col + 1) (ρ + 1) s4 _ (pvS pv col ρ) (by omega) (by omega) (L3.fq F4) (by rw [F4.2.2 92 (by omega)]; exact p3) Z4 (fun c hc => by
          rw [F4.2.2 100 (by omega), F3.2.2 100 (by omega), F2.2.2 100 (by omega), g1 c]
          unfold pvS
          by_cases e : c = col
          · rw [if_pos e, if_pos e]
          · rw [if_neg e, if_neg e]; exact hpv c (by omega)) rf (hK.trans kq)
        refine ⟨s, Y, pv', ρ', ?_, F14.trans F5, a1, a2, a3, a4⟩
        rw [e4, e5]
        exact e6
      · rw [if_neg cf, pw_ck_ok (by omega) (by omega), if_neg (by omega)]
        unfold mj_M_reduce_37
        rw [xs_si (by omega) (by omega) (by omega) (by omega), Option.bind_some, pw_ck_ok (by omega) (by omega), if_pos (by omega), Int.toNat_natCast]
        have F1 : Fz t (pw_st t 100 (fun j => if j = col then (-1 : Int) else t.2.1 100 j)) := Fz.st (Or.inr rfl)
        have g1 : ∀ c, (pw_st t 100 (fun j => if j = col then (-1 : Int) else t.2.1 100 j)).2.1 100 c = if c = col then (-1 : Int) else t.2.1 100 c := fun c => by rw [st_eq]
        have Z1 : Mt (pw_st t 100 (fun j => if j = col then (-1 : Int) else t.2.1 100 j)) Z := hZ.kept (st_ne (by omega))
        generalize pw_st t 100 (fun j => if j = col then (-1 : Int) else t.2.1 100 j) = s1 at *
        obtain ⟨s, Y, pv', ρ', e6, F5, a1, a2, a3, a4⟩ := ih n (col + 1) ρ s1 Z (pvS pv col (-1)) (by omega) (by omega) (hY.fz F1) (by rw [F1.2.2 92 (by omega) (by omega)]; exact hq) Z1 (fun c hc => by
          rw [g1 c]
          unfold pvS
          by_cases e : c = col
          · rw [if_pos e, if_pos e]
          · rw [if_neg e, if_neg e]; exact hpv c (by omega)) (rf_no hRF (fun r r1 r2 => vv_z.mp (by rw [← hu r (by omega)]; exact hfz r r1 (by omega)))) hK
        exact ⟨s, Y, pv', ρ', e6, F1.trans F5, a1, a2, a3, a4⟩
  have hN := hL.1
  obtain ⟨s, Y, pv, ρ, e, a⟩ := key cols 1000 0 0 σ X (fun _ => 0) (by omega) (by omega) hL hp0 hX (fun c hc => by omega) ⟨by omega, fun c hc => by omega, fun r _ _ c hc => by omega, fun i hi => by omega, fun _ => rfl⟩ (pKq.refl X rows)
  refine ⟨s, Y, pv, ρ, ?_, a⟩
  unfold mf_M_reduce
  rw [ex_gd (by omega) (by omega)]
  exact e
theorem e_M_findVector {p : Nat} [NeZero p] (hp : isPb p = true) {σ : pw_Sto} (hL : Lay σ) (hp0 : σ.2.1 92 0 = p) {X : Nat → Nat → Fin p} (hX : Mt σ X) {rows cols : Nat} (hr : rows < cols) (hc : cols ≤ 18) : ∃ s v, mf_M_findVector 91 rows cols σ = some ((), s) ∧ (s.1 = σ.1 ∧ s.2.2 = σ.2.2 ∧ ∀ i, i ≠ 99 → i ≠ 100 → i ≠ 101 → s.2.1 i = σ.2.1 i) ∧ (∀ c, c < cols → s.2.1 101 c = vv (v c)) ∧ (∃ c, c < cols ∧ v c ≠ 0) ∧ ∀ r, r < rows → rS X v cols r = 0 := by
  have hp2 := isPb_le hp
  have hN := hL.1
  have s91 := sh_91
  have s99 := sh_99
  have s100 := sh_100
  have s101 := sh_101
  obtain ⟨s1, Y, pv, ρ, t1, F1, Z1, P1, RF, KQ⟩ := e_M_reduce hp hL hp0 hX (rows := rows) (cols := cols) (by omega) hc
  have L1 := hL.fz F1
  have n1 := L1.1
  have p1 : s1.2.1 92 0 = p := by rw [F1.2.2 92 (by omega) (by omega)]; exact hp0
  obtain ⟨h1, h2, h3, h4, h5⟩ := id RF
  have hex : ∃ c, c < cols ∧ pv c = -1 := Classical.byContradiction (fun q => by
    have := h5 (fun c hc z => q ⟨c, hc, z⟩)
    omega)
  have hmin : ∃ fr, fr < cols ∧ pv fr = -1 ∧ ∀ c, c < fr → pv c ≠ -1 := by
    obtain ⟨c, hc, hz⟩ := hex
    induction c using Nat.strongRecOn with
    | ind c ih =>
      by_cases q : ∃ j, j < c ∧ pv j = -1
      · obtain ⟨j, j1, j2⟩ := q
        exact ih j j1 (by omega) j2
      · exact ⟨c, hc, hz, fun j hj z => q ⟨j, hj, z⟩⟩
  obtain ⟨fr, f1, f2, f3⟩ := hmin
  have rng : ∀ c, c < cols → pv c = -1 ∨ ∃ i : Nat, i < ρ ∧ pv c = (i : Int) := fun c hc => by
    rcases h2 c hc with z | ⟨i, i1, i2, _⟩
    · exact Or.inl z
    · exact Or.inr ⟨i, i1, i2⟩
  have hl := lp_fill (O := Unit × pw_Sto) (fun n k t => ml_M_findVector_26 n 91 cols fr k t) s1 101 0 cols (fun k => vv (nuV Y pv fr k)) (fun t => some ((), t))
    (by
      intro n k h _ hk w1 w2
      have e1 : (pw_st s1 101 h).1 = 109 := n1
      have L2 : Lay (pw_st s1 101 h) := L1
      have p2 : (pw_st s1 101 h).2.1 92 0 = p := by rw [st_ne (by omega)]; exact p1
      have e2 : (pw_st s1 101 h).2.1 100 k = pv k := by rw [st_ne (by omega)]; exact P1 k hk
      try dsimp only
      rw [us_M_findVector_26]
      unfold mb_M_findVector_26 nuV
      rw [pw_ck_ok (by omega) (by omega), if_neg (by omega), ex_gr (by omega) (by omega), lr_91_12 L2, Option.bind_some, ex_gr (by omega) (by omega), lr_91_11 L2]
      simp only [Option.bind_some]
      rw [ex_ai (by omega) (by omega) (by omega) (by omega)]
      simp only [Option.bind_some]
      rw [Int.toNat_natCast, e2]
      rcases rng k hk with z | ⟨i, i1, i2⟩
      · rw [z, pw_ck_ok (by omega) (by omega), if_pos (by omega), pw_ck_ok (by omega) (by omega), if_neg (show ¬ (0 : Int) ≤ -1 by omega)]
        by_cases c : k = fr
        · rw [if_pos (by omega), xs_si (by omega) (by omega) (by omega) (by omega), Option.bind_some, st_st, st_eq, Int.toNat_natCast, if_pos c, vv_1 (by omega)]
          rfl
        · rw [if_neg (by omega), xs_si (by omega) (by omega) (by omega) (by omega), Option.bind_some, st_st, st_eq, Int.toNat_natCast, if_neg c, vv_0]
          rfl
      · have e3 : (pw_st s1 101 h).2.1 99 (18 * i + fr) = vv (Y i fr) := by rw [st_ne (by omega)]; exact Z1 i fr (by omega) (by omega)
        have rr := vv_rng (Y i fr)
        rw [i2, pw_ck_ok (by omega) (by omega), if_neg (by omega), if_pos (show (0 : Int) ≤ (i : Int) by omega), Int.toNat_natCast, ex_gr (by omega) (by omega), lr_91_10 L2, Option.bind_some, ex_ai (by omega) (by omega) (by omega) (by omega), Option.bind_some, show ((18 : Int) * (i : Int) + (fr : Int)).toNat = 18 * i + fr by omega, e3, e_M_mod L2 p2 (by omega) (by omega) (by omega), ex_bd, ← vv_ng, xs_si (by omega) (by omega) (by omega) (by omega), Option.bind_some, st_st, st_eq, Int.toNat_natCast]
        rfl)
    (by
      intro n h
      try dsimp only
      rw [us_M_findVector_26]
      unfold mb_M_findVector_26
      rw [pw_ck_ok (by omega) (by omega), if_pos (by omega)]) 1000 (by omega) (by omega)
  refine ⟨pw_st s1 101 (fun j => if 0 ≤ j ∧ j < cols then vv (nuV Y pv fr j) else s1.2.1 101 j), nuV Y pv fr, ?_, ⟨F1.1, F1.2.1, fun i i1 i2 i3 => by rw [st_ne i3]; exact F1.2.2 i i1 i2⟩, fun c hc => by rw [st_eq, if_pos (by omega)], ⟨fr, f1, ?_⟩, ?_⟩
  · have key : ∀ (d j n : Nat), j + d = fr → d < n → ml_M_findVector_8 n 91 cols (j : Nat) s1 = ml_M_findVector_26 1000 91 cols fr 0 s1 := by
      intro d
      induction d with
      | zero =>
        intro j n h1 h2
        obtain ⟨n, rfl⟩ : ∃ k, n = k + 1 := ⟨n - 1, by omega⟩
        have hj : j = fr := by omega
        subst hj
        rw [us_M_findVector_8]
        unfold mb_M_findVector_8
        rw [ex_gr (by omega) (by omega), lr_91_11 L1, Option.bind_some, ex_ai (by omega) (by omega) (by omega) (by omega), Option.bind_some, Int.toNat_natCast, P1 j f1, f2, pw_ck_ok (by omega) (by omega), if_pos (by omega)]
      | succ d ih =>
        intro j n h1 h2
        obtain ⟨n, rfl⟩ : ∃ k, n = k + 1 := ⟨n - 1, by omega⟩
        rcases rng j (by omega) with z | ⟨i, i1, i2⟩
        · exact absurd z (f3 j (by omega))
        · rw [us_M_findVector_8]
          unfold mb_M_findVector_8
          rw [ex_gr (by omega) (by omega), lr_91_11 L1, Option.bind_some, ex_ai (by omega) (by omega) (by omega) (by omega), Option.bind_some, Int.toNat_natCast, P1 j (by omega), i2, pw_ck_ok (by omega) (by omega), if_neg (by omega), show (j : Int) + 1 = ((j + 1 : Nat) : Int) by omega]
          exact ih (j + 1) n (by omega) (by omega)
    unfold mf_M_findVector
    rw [ex_gd (by omega) (by omega), t1, ex_bd]
    exact (key fr 0 1000 (by omega) (by omega)).trans hl
  · unfold nuV
    rw [f2, if_neg (by omega), if_pos rfl]
    exact fp_one (by omega)
  · exact (KQ (nuV Y pv fr) cols).mpr (nu_ker (by omega) RF f1 f2)
end
