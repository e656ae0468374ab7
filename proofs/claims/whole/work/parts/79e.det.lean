section
/-! ## determinants -/
def elB {p : Nat} [NeZero p] (Y : Nat → Nat → Fin p) (k : Nat) : Nat → Nat → Fin p := fun i c => if k < i then Y i c - (Y i k * fi (Y k k)) * Y k c else Y i c
def dvF {p : Nat} [NeZero p] (n : Nat) : Nat → Nat → Fin p → (Nat → Nat → Fin p) → Fin p
  | 0, _, d, _ => d
  | m + 1, k, d, X => if fs (fun i => vv (X i k)) n k < n then dvF n m (k + 1) (if fs (fun i => vv (X i k)) n k = k then d * X (fs (fun i => vv (X i k)) n k) k else -(d * X (fs (fun i => vv (X i k)) n k) k)) (elB (exM X k (fs (fun i => vv (X i k)) n k)) k) else 0
theorem dvF_cg {p : Nat} [NeZero p] {n : Nat} : ∀ {m k : Nat} {d : Fin p} {X Y : Nat → Nat → Fin p}, k + m = n → (∀ i c, k ≤ i → i < n → k ≤ c → c < n → X i c = Y i c) → dvF n m k d X = dvF n m k d Y := by
  intro m
  induction m with
  | zero => intro k d X Y _ _; rfl
  | succ m ih =>
    intro k d X Y hk h
    have ef : fs (fun i => vv (X i k)) n k = fs (fun i => vv (Y i k)) n k := fs_cg (fun i h1 h2 => by
      show vv (X i k) = vv (Y i k)
      rw [h i k h1 h2 (by omega) (by omega)])
    have hfl := fs_le (u := fun i => vv (Y i k)) (n := n) (k := k) (by omega)
    unfold dvF
    rw [ef]
    generalize fs (fun i => vv (Y i k)) n k = f at *
    by_cases c1 : f < n
    · rw [if_pos c1, if_pos c1, h f k (by omega) c1 (by omega) (by omega)]
      have ex : ∀ i c, k ≤ i → i < n → k ≤ c → c < n → exM X k f i c = exM Y k f i c := fun i c h1 h2 h3 h4 => by
        unfold exM
        rw [h f c (by omega) c1 h3 h4, h k c (by omega) (by omega) h3 h4, h i c h1 h2 h3 h4]
      refine ih (by omega) (fun i c h1 h2 h3 h4 => ?_)
      unfold elB
      rw [ex i c (by omega) h2 (by omega) h4, ex i k (by omega) h2 (by omega) (by omega), ex k k (by omega) (by omega) (by omega) (by omega), ex k c (by omega) (by omega) (by omega) h4]
    · rw [if_neg c1, if_neg c1]
theorem e_D_pivotRow2 {σ : pw_Sto} (hL : Lay σ) {k n : Nat} (hk : k < 16) (hn : n ≤ 16) (hkn : k ≤ n) (hr : ∀ r, r < n → pw_R (σ.2.1 (65 + r) k)) : mf_D_pivotRow 63 k n σ = some (if fs (fun r => σ.2.1 (65 + r) k) n k < n then (fs (fun r => σ.2.1 (65 + r) k) n k : Int) else -1, σ) := by
  have hN := hL.1
  have := sh_63
  have key : ∀ (d m r : Nat), r + d = n → d < m → ml_D_pivotRow_2 m 63 k n r σ = some (if fsF (fun r => σ.2.1 (65 + r) k) d r < n then (fsF (fun r => σ.2.1 (65 + r) k) d r : Int) else -1, σ) := by
    intro d
    induction d with
    | zero =>
      intro m r h1 h2
      obtain ⟨m, rfl⟩ : ∃ k, m = k + 1 := ⟨m - 1, by omega⟩
      rw [us_D_pivotRow_2]
      unfold mb_D_pivotRow_2
      rw [pw_ck_ok (by omega) (by omega), if_pos (by omega)]
      show _ = some (if r < n then (r : Int) else -1, σ)
      rw [if_neg (by omega)]
    | succ d ih =>
      intro m r h1 h2
      obtain ⟨m, rfl⟩ : ∃ k, m = k + 1 := ⟨m - 1, by omega⟩
      have hrr := hr r (by omega)
      have sr := sh_drow (r := r) (by omega)
      rw [us_D_pivotRow_2]
      unfold mb_D_pivotRow_2
      rw [pw_ck_ok (by omega) (by omega), if_neg (by omega), pw_ck_ok (by omega) (by omega), if_neg (by omega), ex_gr (by omega) (by omega), lr_63_0 hL, Option.bind_some, e_drow hL (by omega) (by omega), Option.bind_some, Int.toNat_natCast, ex_ai (by omega) (by omega) (by omega) (by omega), Option.bind_some, Int.toNat_natCast, pw_ck_ok hrr (by omega)]
      have en : fsF (fun r => σ.2.1 (65 + r) k) (d + 1) r = if σ.2.1 (65 + r) k = 0 then fsF (fun r => σ.2.1 (65 + r) k) d (r + 1) else r := rfl
      by_cases c : σ.2.1 (65 + r) k = 0
      · rw [if_pos c] at en ⊢
        rw [en, show (r : Int) + 1 = ((r + 1 : Nat) : Int) by omega, ih m (r + 1) (by omega) (by omega)]
      · rw [if_neg c] at en ⊢
        rw [en, if_pos (by omega)]
  unfold mf_D_pivotRow
  rw [ex_gd (by omega) (by omega)]
  exact key (n - k) 1000 k (by omega) (by omega)
def Fdt (σ s : pw_Sto) : Prop := s.1 = σ.1 ∧ s.2.2 = σ.2.2 ∧ ∀ i, ¬ (65 ≤ i ∧ i < 81) → s.2.1 i = σ.2.1 i
theorem Fdt.trans {a b c : pw_Sto} (h : Fdt a b) (k : Fdt b c) : Fdt a c := ⟨k.1.trans h.1, k.2.1.trans h.2.1, fun i hi => (k.2.2 i hi).trans (h.2.2 i hi)⟩
theorem Lay.fdt {σ s : pw_Sto} (h : Lay σ) (k : Fdt σ s) : Lay s := ⟨k.1.trans h.1, fun q hq => by rw [k.2.1]; exact h.2 q hq⟩
def Dt {p : Nat} [NeZero p] (σ : pw_Sto) (n : Nat) (X : Nat → Nat → Fin p) : Prop := ∀ r c, r < n → c < n → σ.2.1 (65 + r) c = vv (X r c)
theorem vv_cl {p : Nat} [NeZero p] (x f z : Fin p) : (vv x + ((p : Int) - vv f) * vv z) % p = vv (x - f * z) := by
  rw [← vv_fz, fz_add, fz_mul, fz_sub, fz_p, fz_vv, fz_vv, fz_vv]
  congr 1
  grind
theorem e_D_step {p : Nat} [NeZero p] (hp : isPb p = true) {n k : Nat} (hk : k < n) (hn : n ≤ 16) {σ : pw_Sto} (hL : Lay σ) {Y : Nat → Nat → Fin p} (hY : Dt σ n Y) (h0 : Y k k ≠ 0) (d : Fin p) (r13 : Nat → Int → Int → Int → Int → pw_Sto → Option (Int × pw_Sto)) : ∃ s Z, mj_D_valueOf_66 r13 63 n p (vv d) k σ = r13 63 n p (vv (d * Y k k)) ((k : Int) + 1) s ∧ Fdt σ s ∧ Dt s n Z ∧ ∀ i c, k < i → i < n → k < c → c < n → Z i c = elB Y k i c := by
  have hp2 := isPb_le hp
  have hN := hL.1
  have s63 := sh_63
  have sk' := sh_drow (r := k) (by omega)
  have r1 := vv_mm (p := p) (by omega) d (Y k k)
  obtain ⟨s, t, g1, g2, g3, g4⟩ := e_D_clearBelow (σ := σ) hL hp hk hn (fun r c hr hc => by rw [hY r c hr hc]; exact vv_rng _) (by rw [hY k k hk hk]; exact fun q => h0 (vv_z.mp q))
  refine ⟨s, fun i c => if k < i ∧ k ≤ c then elB Y k i c else Y i c, ?_, ⟨g1, g2, fun i hi => g3 i (by omega)⟩, fun r c hr hc => ?_, fun i c h1 h2 h3 h4 => if_pos (by omega)⟩
  · unfold mj_D_valueOf_66
    rw [ex_gr (by omega) (by omega), lr_63_0 hL, Option.bind_some, e_drow hL (by omega) (by omega), Option.bind_some, Int.toNat_natCast, ex_ai (by omega) (by omega) (by omega) (by omega), Option.bind_some, Int.toNat_natCast, hY k k hk hk, e_K_times (by omega) (by omega) (by omega) (by omega), ex_bd, ← vv_mul, t, ex_bd]
  · try dsimp only
    by_cases c1 : k < r
    · rw [g4 r c c1 hr]
      by_cases c2 : k ≤ c
      · rw [if_pos ⟨c2, hc⟩, if_pos ⟨c1, c2⟩, hY r c hr hc, hY r k hr hk, hY k k hk hk, hY k c hk hc, ← vv_fi hp, ← vv_mul, vv_cl]
        unfold elB
        rw [if_pos c1]
      · rw [if_neg (by omega), if_neg (by omega), hY r c hr hc]
    · rw [g3 (65 + r) (by omega), if_neg (by omega), hY r c hr hc]
theorem e_D_loop {p : Nat} [NeZero p] (hp : isPb p = true) {n : Nat} (hn : n ≤ 16) : ∀ (m N k : Nat) (d : Fin p) (σ : pw_Sto) (X : Nat → Nat → Fin p), k + m = n → m < N → Lay σ → Dt σ n X → ∃ s, ml_D_valueOf_13 N 63 n p (vv d) (k : Nat) σ = some (vv (dvF n m k d X), s) ∧ Fdt σ s := by
  have hp2 := isPb_le hp
  have s63 := sh_63
  intro m
  induction m with
  | zero =>
    intro N k d σ X h1 h2 hL hX
    obtain ⟨N, rfl⟩ : ∃ k, N = k + 1 := ⟨N - 1, by omega⟩
    refine ⟨σ, ?_, ⟨rfl, rfl, fun _ _ => rfl⟩⟩
    rw [us_D_valueOf_13]
    unfold mb_D_valueOf_13
    rw [pw_ck_ok (by omega) (by omega), if_pos (by omega)]
    rfl
  | succ m ih =>
    intro N k d σ X h1 h2 hL hX
    obtain ⟨N, rfl⟩ : ∃ k, N = k + 1 := ⟨N - 1, by omega⟩
    have hN := hL.1
    have rd := vv_rng d
    have hpv := e_D_pivotRow2 (σ := σ) hL (k := k) (n := n) (by omega) hn (by omega) (fun r hr => by rw [hX r k hr (by omega)]; have := vv_rng (X r k); exact ⟨by omega, by omega⟩)
    have ef : fs (fun r => σ.2.1 (65 + r) k) n k = fs (fun i => vv (X i k)) n k := fs_cg (fun i h3 h4 => hX i k h4 (by omega))
    rw [ef] at hpv
    have hfl := fs_le (u := fun i => vv (X i k)) (n := n) (k := k) (by omega)
    have hfn : fs (fun i => vv (X i k)) n k < n → X (fs (fun i => vv (X i k)) n k) k ≠ 0 := fun q z => fs_ne (u := fun i => vv (X i k)) (by omega) q (vv_z.mpr z)
    rw [us_D_valueOf_13]
    unfold mb_D_valueOf_13 dvF
    rw [pw_ck_ok (by omega) (by omega), if_neg (by omega), pw_ck_ok (by omega) (by omega), if_neg (by omega), hpv, ex_bd]
    generalize fs (fun i => vv (X i k)) n k = f at *
    by_cases cf : f < n
    · rw [if_pos cf, if_pos cf, pw_ck_ok (by omega) (by omega), if_pos (by omega), pw_ck_ok (by omega) (by omega)]
      have hf0 := hfn cf
      by_cases cfk : f = k
      · subst cfk
        have eX : exM X f f = X := by
          funext r c
          unfold exM
          by_cases c1 : r = f
          · rw [if_pos c1, c1]
          · rw [if_neg c1, if_neg c1]
        obtain ⟨s1, Z, e1, F1, D1, hZ⟩ := e_D_step hp (by omega) hn hL hX hf0 d (ml_D_valueOf_13 N)
        obtain ⟨s, e2, F2⟩ := ih N (f + 1) (d * X f f) s1 Z (by omega) (by omega) (hL.fdt F1) D1
        refine ⟨s, ?_, F1.trans F2⟩
        rw [if_pos rfl, if_pos rfl, e1, show (f : Int) + 1 = ((f + 1 : Nat) : Int) by omega, e2, eX, dvF_cg (m := m) (k := f + 1) (by omega) (fun i c h3 h4 h5 h6 => hZ i c (by omega) h4 (by omega) h6)]
      · have hsw := e_D_swapRows (σ := σ) hL (a := f) (b := k) (by omega) (by omega) cfk
        have F0 : Fdt σ (swS σ f k 16) := ⟨rfl, rfl, fun i hi => by unfold swS; rw [st_ne (by omega), st_ne (by omega)]⟩
        have D0 : Dt (swS σ f k 16) n (exM X k f) := fun r c hr hc => by
          unfold exM
          by_cases c1 : r = k
          · rw [if_pos c1, c1, swS_b, if_pos (by omega)]; exact hX f c cf hc
          · by_cases c2 : r = f
            · rw [if_neg c1, if_pos c2, c2, swS_a cfk, if_pos (by omega)]; exact hX k c (by omega) hc
            · rw [if_neg c1, if_neg c2]
              unfold swS
              rw [st_ne (by omega), st_ne (by omega)]
              exact hX r c hr hc
        generalize swS σ f k 16 = s0 at *
        have hY0 : exM X k f k k ≠ 0 := by
          unfold exM
          rw [if_pos rfl]
          exact hf0
        obtain ⟨s1, Z, e1, F1, D1, hZ⟩ := e_D_step hp (by omega) hn (hL.fdt F0) D0 hY0 (-d) (ml_D_valueOf_13 N)
        obtain ⟨s, e2, F2⟩ := ih N (k + 1) (-d * exM X k f k k) s1 Z (by omega) (by omega) ((hL.fdt F0).fdt F1) D1
        refine ⟨s, ?_, (F0.trans F1).trans F2⟩
        have ed : -d * exM X k f k k = -(d * X f k) := by
          unfold exM
          rw [if_pos rfl]
          grind
        rw [if_neg (by omega), if_neg cfk, hsw, ex_bd, e_K_negative rd.1 rd.2 (by omega), ex_bd, ← vv_neg, e1, show (k : Int) + 1 = ((k + 1 : Nat) : Int) by omega, e2, ed, dvF_cg (m := m) (k := k + 1) (by omega) (fun i c h3 h4 h5 h6 => hZ i c (by omega) h4 (by omega) h6)]
    · rw [if_neg cf, if_neg cf, pw_ck_ok (by omega) (by omega), if_neg (by omega)]
      exact ⟨σ, by rw [vv_0], ⟨rfl, rfl, fun _ _ => rfl⟩⟩
def dtX {p : Nat} [NeZero p] (f : PS (Fin p)) (m : Nat) : Nat → Nat → Fin p := fun r c => if m + r < c then 0 else f (m + r - c)
/-! the model -/
theorem e_M_dstep {p : Nat} [NeZero p] (hp : isPb p = true) {n k : Nat} (hk : k < n) (hn : n ≤ 16) {σ : pw_Sto} (hL : Lay σ) (hp0 : σ.2.1 92 0 = p) {Y : Nat → Nat → Fin p} (hY : Mt σ Y) (h0 : Y k k ≠ 0) (d : Int) (r118 : Nat → Int → Int → Int → pw_Sto → Option (Int × pw_Sto)) : ∃ s Z, ml_M_determinant_204 r118 1000 91 n d k (vv (Y k k)) ((k : Int) + 1) σ = r118 91 n d ((k : Int) + 1) s ∧ Fq σ s 99 ∧ Mt s Z ∧ ∀ i c, k < i → i < n → Z i c = elB Y k i c := by
  have hp2 := isPb_le hp
  have hN := hL.1
  have s91 := sh_91
  have s99 := sh_99
  obtain ⟨q, t, e1, f1, g⟩ := lp_ex (S := pw_Sto) (O := Int × pw_Sto) (fun q j t => ml_M_determinant_204 r118 q 91 n d k (vv (Y k k)) j t) (fun j => ((k + 1 + j : Nat) : Int)) (n - (k + 1)) (fun j t => Fq σ t 99 ∧ Mt t (fun i c => if k < i ∧ i < k + 1 + j then elB Y k i c else Y i c))
    (by
      intro q j t hj hI
      obtain ⟨f1, g⟩ := hI
      have L1 := hL.fq f1
      have n1 := L1.1
      have p1 : t.2.1 92 0 = p := by rw [f1.2.2 92 (by omega)]; exact hp0
      have gk : ∀ c, c < 18 → t.2.1 99 (18 * (k + 1 + j) + c) = vv (Y (k + 1 + j) c) := fun c hc => by
        rw [g (k + 1 + j) c (by omega) hc]
        try dsimp only
        rw [if_neg (by omega)]
      have gρ : ∀ c, c < 18 → t.2.1 99 (18 * k + c) = vv (Y k c) := fun c hc => by
        rw [g k c (by omega) hc]
        try dsimp only
        rw [if_neg (by omega)]
      have rm := vv_mm (p := p) (by omega) (Y (k + 1 + j) k) (fi (Y k k))
      generalize hφ : Y (k + 1 + j) k * fi (Y k k) = φ
      have rφ := vv_rng φ
      have hls := e_M_lessRow (σ := t) L1 p1 (by omega) (by omega) (a := k + 1 + j) (b := k) (by omega) (by omega) (by omega) (f := vv φ) rφ.1 (by omega) (fun c hc => by rw [gk c hc]; have := vv_rng (Y (k + 1 + j) c); omega) (fun c hc => by rw [gρ c hc]; have := vv_rng (Y k c); omega)
      refine ⟨pw_st t 99 (lw (t.2.1 99) p (k + 1 + j) k (vv φ) 18), ?_, ⟨f1.1, f1.2.1, fun i hi => by rw [st_ne hi]; exact f1.2.2 i hi⟩, fun r c hr hc => ?_⟩
      · try dsimp only
        rw [us_M_determinant_204]
        unfold mb_M_determinant_204
        rw [pw_ck_ok (by omega) (by omega), if_neg (by omega), ex_gr (by omega) (by omega), lr_91_10 L1, Option.bind_some, ex_ai (by omega) (by omega) (by omega) (by omega), Option.bind_some, show ((18 : Int) * ((k + 1 + j : Nat) : Int) + (k : Int)).toNat = 18 * (k + 1 + j) + k by omega, gk k (by omega), e_M_inv hp L1 p1 h0, ex_bd, e_M_mod L1 p1 (by omega) (by omega) (by omega), ex_bd, ← vv_mul, hφ, hls, ex_bd, show ((k + 1 + j : Nat) : Int) + 1 = ((k + 1 + (j + 1) : Nat) : Int) by omega]
      · rw [st_eq]
        unfold lw
        try dsimp only
        by_cases e2 : r = k + 1 + j
        · rw [if_pos (by omega), show (18 * r + c) % 18 = c by omega, e2, gk c hc, gρ c hc, ← vv_sm, if_pos (by omega)]
          unfold elB
          rw [if_pos (by omega), hφ]
        · rw [if_neg (by omega), g r c hr hc]
          try dsimp only
          by_cases e3 : k < r ∧ r < k + 1 + j
          · rw [if_pos e3, if_pos (by omega)]
          · rw [if_neg e3, if_neg (by omega)]) (n - (k + 1)) 0 1000 σ (by omega) (by omega) ⟨⟨rfl, rfl, fun _ _ => rfl⟩, fun r c hr hc => by
            try dsimp only
            rw [if_neg (by omega)]
            exact hY r c hr hc⟩
  refine ⟨t, _, ?_, f1, g, fun i c h1 h2 => if_pos (by omega)⟩
  rw [show (k : Int) + 1 = ((k + 1 + 0 : Nat) : Int) by omega]
  refine Eq.trans e1 ?_
  try dsimp only
  rw [us_M_determinant_204]
  unfold mb_M_determinant_204
  rw [pw_ck_ok (by omega) (by omega), if_pos (by omega)]
  rfl
theorem e_M_dloop {p : Nat} [NeZero p] (hp : isPb p = true) {n : Nat} (hn : n ≤ 16) : ∀ (m N k : Nat) (d : Fin p) (σ : pw_Sto) (X : Nat → Nat → Fin p), k + m = n → m < N → Lay σ → σ.2.1 92 0 = p → Mt σ X → d ≠ 0 → ∃ s, ml_M_determinant_118 N 91 n (vv d) (k : Nat) σ = some (vv (dvF n m k d X), s) ∧ Ms σ s := by
  have hp2 := isPb_le hp
  have s91 := sh_91
  have s99 := sh_99
  intro m
  induction m with
  | zero =>
    intro N k d σ X h1 h2 hL hp0 hX hd
    obtain ⟨N, rfl⟩ : ∃ k, N = k + 1 := ⟨N - 1, by omega⟩
    refine ⟨σ, ?_, Ms.refl σ⟩
    rw [us_M_determinant_118]
    unfold mb_M_determinant_118
    rw [pw_ck_ok (by omega) (by omega), if_pos (by omega)]
    rfl
  | succ m ih =>
    intro N k d σ X h1 h2 hL hp0 hX hd
    obtain ⟨N, rfl⟩ : ∃ k, N = k + 1 := ⟨N - 1, by omega⟩
    have hN := hL.1
    have rd := vv_rng d
    have rd0 : vv d ≠ 0 := fun q => hd (vv_z.mp q)
    have hpv := e_M_rowWith (σ := σ) hL (k := k) (n := n) (c := k) (by omega) (by omega) (by omega) (by omega) (fun r hr => by rw [hX r k (by omega) (by omega)]; have := vv_rng (X r k); exact ⟨by omega, by omega⟩)
    have ef : fs (fun r => σ.2.1 99 (18 * r + k)) n k = fs (fun i => vv (X i k)) n k := fs_cg (fun i h3 h4 => hX i k (by omega) (by omega))
    rw [ef] at hpv
    have hfl := fs_le (u := fun i => vv (X i k)) (n := n) (k := k) (by omega)
    have hfn : fs (fun i => vv (X i k)) n k < n → X (fs (fun i => vv (X i k)) n k) k ≠ 0 := fun q z => fs_ne (u := fun i => vv (X i k)) (by omega) q (vv_z.mpr z)
    rw [us_M_determinant_118]
    unfold mb_M_determinant_118 dvF
    rw [pw_ck_ok (by omega) (by omega), if_neg (by omega), pw_ck_ok (by omega) (by omega), if_neg rd0, hpv, ex_bd]
    generalize fs (fun i => vv (X i k)) n k = f at *
    by_cases cf : f < n
    · rw [if_pos cf, if_pos cf, pw_ck_ok (by omega) (by omega), if_pos (by omega)]
      have hf0 := hfn cf
      rw [e_M_exchange hL (a := k) (b := f) (by omega) (by omega), ex_bd]
      have F0 : Fq σ (pw_st σ 99 (xg (σ.2.1 99) k f 18)) 99 := ⟨rfl, rfl, fun i hi => st_ne hi⟩
      have D0 : Mt (pw_st σ 99 (xg (σ.2.1 99) k f 18)) (exM X k f) := fun r c r1 c1 => by
        rw [st_eq]
        unfold xg exM
        rw [if_pos (by omega), show (18 * r + c) / 18 = r by omega, show (18 * r + c) % 18 = c by omega]
        by_cases e1 : r = k
        · rw [if_pos e1, if_pos e1]; exact hX f c (by omega) c1
        · by_cases e2 : r = f
          · rw [if_neg e1, if_neg e1, if_pos e2, if_pos e2]; exact hX k c (by omega) c1
          · rw [if_neg e1, if_neg e1, if_neg e2, if_neg e2]; exact hX r c r1 c1
      generalize pw_st σ 99 (xg (σ.2.1 99) k f 18) = s0 at *
      have L0 := hL.fq F0
      have n0 := L0.1
      have p0 : s0.2.1 92 0 = p := by rw [F0.2.2 92 (by omega)]; exact hp0
      have hYk : exM X k f k k = X f k := by unfold exM; rw [if_pos rfl]
      have hY0 : exM X k f k k ≠ 0 := by rw [hYk]; exact hf0
      have e3 : s0.2.1 99 (18 * k + k) = vv (X f k) := by rw [D0 k k (by omega) (by omega), hYk]
      have rx := vv_rng (X f k)
      have rm := vv_mm (p := p) (by omega) d (X f k)
      rw [ex_gr (by omega) (by omega), lr_91_10 L0, Option.bind_some, ex_ai (by omega) (by omega) (by omega) (by omega), Option.bind_some, show ((18 : Int) * (k : Int) + (k : Int)).toNat = 18 * k + k by omega, e3, pw_ck_ok (by omega) (by omega)]
      have tail : ∀ d' : Fin p, d' ≠ 0 → ∃ s, ml_M_determinant_204 (ml_M_determinant_118 N) 1000 91 n (vv d') k (vv (X f k)) ((k : Int) + 1) s0 = some (vv (dvF n m (k + 1) d' (elB (exM X k f) k)), s) ∧ Ms σ s := by
        intro d' hd'
        obtain ⟨s1, Z, e1, F1, D1, hZ⟩ := e_M_dstep hp (k := k) (by omega) hn L0 p0 D0 hY0 (vv d') (ml_M_determinant_118 N)
        rw [hYk] at e1
        obtain ⟨s, e2, F2⟩ := ih N (k + 1) d' s1 Z (by omega) (by omega) (L0.fq F1) (by rw [F1.2.2 92 (by omega)]; exact p0) D1 hd'
        refine ⟨s, ?_, ((Ms.fq F0 (by omega)).trans (Ms.fq F1 (by omega))).trans F2⟩
        rw [e1, show (k : Int) + 1 = ((k + 1 : Nat) : Int) by omega, e2, dvF_cg (m := m) (k := k + 1) (by omega) (fun i c h3 h4 h5 h6 => hZ i c (by omega) h4)]
      have hd2 : d * X f k ≠ 0 := fun q => by
        rcases fp_dom hp q with z | z
        · exact hd z
        · exact hf0 z
      unfold mj_M_determinant_192
      by_cases cfk : f = k
      · rw [if_pos (by omega), if_pos cfk, e_M_mod L0 p0 (by omega) (by omega) (by omega), ex_bd, ← vv_mul]
        exact tail (d * X f k) hd2
      · have em : (vv d * -vv (X f k)) % p = vv (-(d * X f k)) := by
          rw [← vv_fz, fz_mul, fz_neg, fz_vv, fz_vv]
          congr 1
          grind
        have em2 : vv d * -vv (X f k) = -(vv d * vv (X f k)) := Int.mul_neg _ _
        rw [if_neg (by omega), if_neg cfk, e_M_mod L0 p0 (by omega) (by omega) (by rw [em2]; exact ⟨by omega, by omega⟩), ex_bd, em]
        exact tail (-(d * X f k)) (fun q => hd2 (by grind))
    · rw [if_neg cf, if_neg cf, pw_ck_ok (by omega) (by omega), if_neg (by omega)]
      refine ⟨σ, ?_, Ms.refl σ⟩
      obtain ⟨N, rfl⟩ : ∃ k, N = k + 1 := ⟨N - 1, by omega⟩
      rw [us_M_determinant_118]
      unfold mb_M_determinant_118
      rw [pw_ck_ok (by omega) (by omega), vv_0]
      by_cases c2 : (n : Int) ≤ (k : Int) + 1
      · rw [if_pos c2]
      · rw [if_neg c2, pw_ck_ok (by omega) (by omega), if_pos rfl]
end
