section
/-! ### recurrences of the model -/
def recX {p : Nat} [NeZero p] (f : PS (Fin p)) (d : Nat) : Nat → Nat → Fin p := fun r c => if c < d then f (r + d - 1 - c) else if c = d then f (r + d) else 0
def rcC {p : Nat} [NeZero p] (v : Nat → Fin p) (d : Nat) : PS (Fin p) := fun k => if k = 0 then v d else if k ≤ d then v (k - 1) else 0
theorem rcC_bd {p : Nat} [NeZero p] (v : Nat → Fin p) (d : Nat) : pBd (rcC v d) (d + 1) := fun k hk => by
  unfold rcC
  rw [if_neg (by omega), if_neg (by omega)]
theorem rc_row {p : Nat} [NeZero p] (f : PS (Fin p)) (v : Nat → Fin p) (d r : Nat) : cv (rcC v d) f (r + d) = rS (recX f d) v (d + 1) r := by
  have e1 : cv (rcC v d) f (r + d) = sm (fun i => rcC v d i * f (r + d - i)) (d + 1) := sm_pad (n := d + 1) (by omega) (fun i h1 h2 => by
    rw [rcC_bd v d i h1]; grind)
  rw [e1, sm_first]
  unfold rS
  show rcC v d 0 * f (r + d - 0) + sm (fun i => rcC v d (i + 1) * f (r + d - (i + 1))) d = sm (fun c => recX f d r c * v c) d + recX f d r d * v d
  have e2 : sm (fun i => rcC v d (i + 1) * f (r + d - (i + 1))) d = sm (fun c => recX f d r c * v c) d := sm_congr (fun i hi => by
    unfold rcC recX
    rw [if_neg (by omega), if_pos (show i + 1 ≤ d by omega), if_pos hi, show i + 1 - 1 = i by omega, show r + d - (i + 1) = r + d - 1 - i by omega]
    grind)
  rw [e2]
  have e3 : rcC v d 0 = v d := if_pos rfl
  have e4 : recX f d r d = f (r + d) := by unfold recX; rw [if_neg (by omega), if_pos rfl]
  rw [e3, e4, Nat.sub_zero]
  grind
theorem rec_to {p : Nat} [NeZero p] {f : PS (Fin p)} {N d ρ : Nat} {Y : Nat → Nat → Fin p} (hd : d ≤ N) (hK : pKq (recX f d) Y (N - d)) {v : Nat → Fin p} (hv : ∀ r, r < N - d → rS Y v (d + 1) r = 0) : ∀ j, d ≤ j → j < N → cv (rcC v d) f j = 0 := by
  intro j h1 h2
  have h := (hK v (d + 1)).mpr hv (j - d) (by omega)
  rw [← rc_row, show j - d + d = j by omega] at h
  exact h
theorem rec_iff {p : Nat} [NeZero p] (hp : 2 ≤ p) {f : PS (Fin p)} {N d ρ : Nat} {Y : Nat → Nat → Fin p} {pv : Nat → Int} (hd : d ≤ N) (hRF : pRF Y pv ρ (N - d) (d + 1)) (hK : pKq (recX f d) Y (N - d)) : pv d = -1 ↔ ∃ C, pRc f N d C := by
  constructor
  · intro h
    refine ⟨rcC (nuV Y pv d) d, ?_, rcC_bd _ d, rec_to (ρ := ρ) hd hK (nu_ker hp hRF (by omega) h)⟩
    show (if 0 = 0 then nuV Y pv d d else _) = 1
    rw [if_pos rfl]
    unfold nuV
    rw [h, if_neg (by omega), if_pos rfl]
  · rintro ⟨C, c0, c1, c2⟩
    rcases hRF.2.1 d (by omega) with z | ⟨i, i1, i2, i3, i4⟩
    · exact z
    · exfalso
      have hi : i < N - d := by have := hRF.1; omega
      have eC : rcC (fun c => if c = d then 1 else C (c + 1)) d = C := by
        funext k
        unfold rcC
        by_cases k0 : k = 0
        · rw [if_pos k0]
          show (if d = d then (1 : Fin p) else C (d + 1)) = C k
          rw [if_pos rfl, k0, c0]
        · by_cases k1 : k ≤ d
          · rw [if_neg k0, if_pos k1]
            show (if k - 1 = d then (1 : Fin p) else C (k - 1 + 1)) = C k
            rw [if_neg (by omega), show k - 1 + 1 = k by omega]
          · rw [if_neg k0, if_neg k1, c1 k (by omega)]
      have hX : ∀ r, r < N - d → rS (recX f d) (fun c => if c = d then 1 else C (c + 1)) (d + 1) r = 0 := fun r hr => by
        rw [← rc_row, eC]
        exact c2 (r + d) (by omega) (by omega)
      have hY := (hK _ _).mp hX i hi
      have e : rS Y (fun c => if c = d then 1 else C (c + 1)) (d + 1) i = 1 := by
        unfold rS
        refine (sm_one (i := d) (by omega) (fun t t1 t2 => ?_)).trans ?_
        · try dsimp only
          rw [i4 t (by omega)]; grind
        · try dsimp only
          rw [if_pos rfl, i3 i hi, if_pos rfl]; grind
      rw [e] at hY
      exact fp_one hp hY
theorem rg_sbm {R : Type} [Lean.Grind.CommRing R] {C D f : R} : (C - D) * f = C * f - D * f := by grind
theorem rec_val {p : Nat} [NeZero p] (hp : isPb p = true) {f : PS (Fin p)} {N L ρ : Nat} {C : PS (Fin p)} {Y : Nat → Nat → Fin p} {pv : Nat → Int} (hx : pCx f N L) (h2 : 2 * L ≤ N) (hC : pRc f N L C) (hRF : pRF Y pv ρ (N - L) (L + 1)) (hK : pKq (recX f L) Y (N - L)) (hz : pv L = -1) {c : Nat} (hc : c < L) : ∃ r : Nat, pv c = (r : Int) ∧ r < ρ ∧ Y r L = - C (c + 1) := by
  have hp2 := isPb_le hp
  rcases hRF.2.1 c (by omega) with z | ⟨i, i1, i2, i3, i4⟩
  · exfalso
    have hk := rec_to (ρ := ρ) (by omega) hK (nu_ker (by omega) hRF (show c < L + 1 by omega) z)
    have hD := cx_null hp hx h2 (D := rcC (nuV Y pv c) L) (by
      show (if 0 = 0 then nuV Y pv c L else _) = 0
      rw [if_pos rfl]
      unfold nuV
      rw [hz, if_neg (by omega), if_neg (by omega)]) (rcC_bd _ L) hk
    have e := congrFun hD (c + 1)
    rw [cc_s] at e
    have e2 : rcC (nuV Y pv c) L (c + 1) = 1 := by
      unfold rcC nuV
      rw [if_neg (by omega), if_pos (by omega), show c + 1 - 1 = c by omega, z, if_neg (by omega), if_pos rfl]
    rw [e2] at e
    exact fp_one (by omega) e
  · refine ⟨i, i2, i1, ?_⟩
    have hk := rec_to (ρ := ρ) (by omega) hK (nu_ker (by omega) hRF (show L < L + 1 by omega) hz)
    have e0 : rcC (nuV Y pv L) L 0 = 1 := by
      show (if 0 = 0 then nuV Y pv L L else _) = 1
      rw [if_pos rfl]
      unfold nuV
      rw [hz, if_neg (by omega), if_pos rfl]
    have hD := cx_null hp hx h2 (D := pSb C (rcC (nuV Y pv L) L)) (by
      show C 0 - rcC (nuV Y pv L) L 0 = 0
      rw [e0, hC.1]; grind) (bd_sb hC.2.1 (rcC_bd _ L)) (fun j j1 j2 => by
      have e : cv (pSb C (rcC (nuV Y pv L) L)) f = pSb (cv C f) (cv (rcC (nuV Y pv L) L) f) := @rg_sbm (PS (Fin p)) (psRing (Fin p)) C (rcC (nuV Y pv L) L) f
      rw [e]
      show cv C f j - cv (rcC (nuV Y pv L) L) f j = 0
      rw [hC.2.2 j j1 j2, hk j j1 j2]; grind)
    have e := congrFun (sb_zero hD) (c + 1)
    have e2 : rcC (nuV Y pv L) L (c + 1) = - Y i L := by
      unfold rcC nuV
      rw [if_neg (by omega), if_pos (by omega), show c + 1 - 1 = c by omega, i2, if_pos (by omega), Int.toNat_natCast]
    rw [e2] at e
    rw [e]; grind
theorem e_M_recRow {A : ASt} [NeZero A.1] (hV : VA A) {x : Int} (hx : 0 ≤ x ∧ x < 4) {N d r : Nat} (hN16 : N ≤ 16) (hr : r + d < N) {σ : pw_Sto} {T : Nat → Int} {len : Nat} {E : Nat → Int} {Hs : List ASt} (hM : MR σ A T len E Hs) (hX : Mt σ (fun r' c => if r' < r then recX (srs A.1 (A.2.1 x.toNat)) d r' c else 0)) (r10 : Nat → Int → Int → Int → Int → pw_Sto → Option (Int × pw_Sto)) : ∃ t, ml_M_isRecurrent_19 r10 1000 91 x N d ((r + d : Nat) : Int) 1 σ = r10 91 x N d (((r + d : Nat) : Int) + 1) t ∧ Fq σ t 99 ∧ Mt t (fun r' c => if r' < r + 1 then recX (srs A.1 (A.2.1 x.toNat)) d r' c else 0) := by
  have hp2 := isPb_le hV.1
  have s91 := sh_91
  have s99 := sh_99
  generalize hf : srs A.1 (A.2.1 x.toNat) = f at *
  obtain ⟨q, t, e1, f1, g⟩ := lp_ex (S := pw_Sto) (O := Int × pw_Sto) (fun q k t => ml_M_isRecurrent_19 r10 q 91 x N d ((r + d : Nat) : Int) k t) (fun j => (j : Int) + 1) d (fun k t => Fq σ t 99 ∧ Mt t (fun r' c => if r' < r ∨ (r' = r ∧ c < k) then recX f d r' c else 0))
    (by
      intro q k t hk hI
      obtain ⟨f1, g⟩ := hI
      have M1 := hM.ms (Ms.fq f1 (by omega))
      have L1 := M1.1
      have n1 := L1.1
      have tt := e_M_termF L1 M1.2.1 hV hx (k := r + d - 1 - k) (by omega)
      rw [hf] at tt
      refine ⟨pw_st t 99 (fun j => if j = 18 * r + k then vv (recX f d r k) else t.2.1 99 j), ?_, ⟨f1.1, f1.2.1, fun i hi => by rw [st_ne hi]; exact f1.2.2 i hi⟩, fun r' c h1 h2 => ?_⟩
      · try dsimp only
        rw [us_M_isRecurrent_19]
        unfold mb_M_isRecurrent_19 recX
        rw [pw_ck_ok (by omega) (by omega), if_neg (by omega), ex_gr (by omega) (by omega), lr_91_10 L1, Option.bind_some, show ((r + d : Nat) : Int) - ((k : Int) + 1) = ((r + d - 1 - k : Nat) : Int) by omega, tt, ex_bd, xs_si (by omega) (by omega) (by omega) (by omega), Option.bind_some, show ((18 : Int) * (((r + d : Nat) : Int) - (d : Int)) + ((k : Int) + 1) - 1).toNat = 18 * r + k by omega, if_pos hk]
        rfl
      · rw [st_eq]
        try dsimp only
        by_cases e : r' = r ∧ c = k
        · rw [if_pos (by omega), if_pos (by omega), e.1, e.2]
        · rw [if_neg (by omega), g r' c h1 h2]
          try dsimp only
          by_cases e2 : r' < r ∨ (r' = r ∧ c < k)
          · rw [if_pos e2, if_pos (by omega)]
          · rw [if_neg e2, if_neg (by omega)]) d 0 1000 σ (by omega) (by omega) ⟨⟨rfl, rfl, fun _ _ => rfl⟩, fun r' c h1 h2 => by
            rw [hX r' c h1 h2]
            try dsimp only
            by_cases e : r' < r
            · rw [if_pos e, if_pos (by omega)]
            · rw [if_neg e, if_neg (by omega)]⟩
  have M1 := hM.ms (Ms.fq f1 (by omega))
  have L1 := M1.1
  have n1 := L1.1
  have tt := e_M_termF L1 M1.2.1 hV hx (k := r + d) (by omega)
  rw [hf] at tt
  refine ⟨pw_st t 99 (fun j => if j = 18 * r + d then vv (f (r + d)) else t.2.1 99 j), ?_, ⟨f1.1, f1.2.1, fun i hi => by rw [st_ne hi]; exact f1.2.2 i hi⟩, fun r' c h1 h2 => ?_⟩
  · rw [show (1 : Int) = ((0 : Nat) : Int) + 1 by omega]
    refine Eq.trans e1 ?_
    try dsimp only
    rw [us_M_isRecurrent_19]
    unfold mb_M_isRecurrent_19
    rw [pw_ck_ok (by omega) (by omega), if_pos (by omega), ex_gr (by omega) (by omega), lr_91_10 L1, Option.bind_some, tt, ex_bd, xs_si (by omega) (by omega) (by omega) (by omega), Option.bind_some, show ((18 : Int) * (((r + d : Nat) : Int) - (d : Int)) + (d : Int)).toNat = 18 * r + d by omega]
    rfl
  · rw [st_eq]
    try dsimp only
    by_cases e : r' = r ∧ c = d
    · rw [if_pos (by omega), if_pos (by omega), e.1, e.2]
      unfold recX
      rw [if_neg (by omega), if_pos rfl]
    · rw [if_neg (by omega), g r' c h1 h2]
      try dsimp only
      by_cases e2 : r' < r ∨ (r' = r ∧ c < d)
      · rw [if_pos e2, if_pos (by omega)]
      · rw [if_neg e2]
        by_cases e3 : r' < r + 1
        · rw [if_pos e3]
          unfold recX
          rw [if_neg (by omega), if_neg (by omega)]
        · rw [if_neg e3]
theorem e_M_isRec {A : ASt} [NeZero A.1] (hV : VA A) {x : Int} (hx : 0 ≤ x ∧ x < 4) {N d : Nat} (hN16 : N ≤ 16) (hd : d ≤ N) {σ : pw_Sto} {T : Nat → Int} {len : Nat} {E : Nat → Int} {Hs : List ASt} (hM : MR σ A T len E Hs) : ∃ s Y pv ρ, mf_M_isRecurrent 91 x N d σ = some (if pv d = -1 then 1 else 0, s) ∧ Ms σ s ∧ Mt s Y ∧ (∀ c, c < d + 1 → s.2.1 100 c = pv c) ∧ pRF Y pv ρ (N - d) (d + 1) ∧ pKq (recX (srs A.1 (A.2.1 x.toNat)) d) Y (N - d) := by
  have hp := hV.1
  have hp2 := isPb_le hp
  have s91 := sh_91
  have s99 := sh_99
  have s100 := sh_100
  have hN := hM.1.1
  obtain ⟨s1, t1, F1, Z1⟩ := e_M_clearMt (p := A.1) hM.1
  have M1 := hM.ms (Ms.fq F1 (by omega))
  generalize hf : srs A.1 (A.2.1 x.toNat) = f
  obtain ⟨q2, s2, e2, F2, Z2⟩ := lp_ex (S := pw_Sto) (O := Int × pw_Sto) (fun q k t => ml_M_isRecurrent_10 q 91 x N d k t) (fun j => ((j + d : Nat) : Int)) (N - d) (fun k t => Fq s1 t 99 ∧ Mt t (fun r' c => if r' < k then recX f d r' c else 0))
    (by
      intro q k t hk hI
      obtain ⟨f1, g⟩ := hI
      rw [← hf] at g
      obtain ⟨t', e, f2, g2⟩ := e_M_recRow hV hx hN16 (r := k) (by omega) (M1.ms (Ms.fq f1 (by omega))) g (ml_M_isRecurrent_10 q)
      rw [hf] at g2
      refine ⟨t', ?_, ⟨f2.1.trans f1.1, f2.2.1.trans f1.2.1, fun i hi => (f2.2.2 i hi).trans (f1.2.2 i hi)⟩, g2⟩
      try dsimp only
      rw [us_M_isRecurrent_10]
      unfold mb_M_isRecurrent_10
      rw [pw_ck_ok (by omega) (by omega), if_neg (by omega), e, show ((k + d : Nat) : Int) + 1 = ((k + 1 + d : Nat) : Int) by omega]) (N - d) 0 1000 s1 (by omega) (by omega) ⟨⟨rfl, rfl, fun _ _ => rfl⟩, fun r' c h1 h2 => by
        try dsimp only
        rw [if_neg (by omega)]
        exact Z1 r' c h1 h2⟩
  have M2 := M1.ms (Ms.fq F2 (by omega))
  obtain ⟨s3, Y, pv, ρ, t3, F3, Z3, P3, RF, KQ⟩ := e_M_reduce hp M2.1 M2.2.1.1 Z2 (rows := N - d) (cols := d + 1) (by omega) (by omega)
  have M3 := M2.ms (Ms.fz F3)
  have n3 := M3.1.1
  refine ⟨s3, Y, pv, ρ, ?_, ((Ms.fq F1 (by omega)).trans (Ms.fq F2 (by omega))).trans (Ms.fz F3), Z3, P3, RF, fun v n => ?_⟩
  · unfold mf_M_isRecurrent
    rw [ex_gd (by omega) (by omega), ex_gr (by omega) (by omega), lr_91_10 hM.1, Option.bind_some, t1, ex_bd, show (d : Int) = ((0 + d : Nat) : Int) by omega]
    have e2' := e2
    rw [show ((0 + d : Nat) : Int) = (d : Int) by omega] at e2' ⊢
    refine Eq.trans e2' ?_
    try dsimp only
    rw [us_M_isRecurrent_10]
    unfold mb_M_isRecurrent_10
    rw [pw_ck_ok (by omega) (by omega), if_pos (by omega), show (N : Int) - (d : Int) = ((N - d : Nat) : Int) by omega, show (d : Int) + 1 = ((d + 1 : Nat) : Int) by omega, t3, ex_bd, ex_gr (by omega) (by omega), lr_91_11 M3.1, Option.bind_some, ex_ai (by omega) (by omega) (by omega) (by omega), Option.bind_some, Int.toNat_natCast, P3 d (by omega)]
    rcases RF.2.1 d (by omega) with z | ⟨i, i1, i2, _⟩
    · rw [z, pw_ck_ok (by omega) (by omega), if_neg (by omega), if_pos rfl]
    · have hi : i < 17 := by have := RF.1; omega
      rw [i2, pw_ck_ok (by omega) (by omega), if_pos (by omega), if_neg (by omega)]
  · rw [← KQ v n]
    constructor
    · intro h r hr
      rw [← h r hr]
      unfold rS
      refine sm_congr (fun i _ => ?_)
      try dsimp only
      rw [if_pos hr]
    · intro h r hr
      rw [← h r hr]
      unfold rS
      refine sm_congr (fun i _ => ?_)
      try dsimp only
      rw [if_pos hr]
theorem e_M_cx {A : ASt} [NeZero A.1] (hV : VA A) {x : Int} (hx : 0 ≤ x ∧ x < 4) {N : Nat} (hN16 : N ≤ 16) {σ : pw_Sto} {T : Nat → Int} {len : Nat} {E : Nat → Int} {Hs : List ASt} (hM : MR σ A T len E Hs) : ∃ s d Y pv ρ, mf_M_complexityOf 91 x N σ = some (((d : Nat) : Int), s) ∧ Ms σ s ∧ d ≤ N ∧ pCx (srs A.1 (A.2.1 x.toNat)) N d ∧ pv d = -1 ∧ Mt s Y ∧ (∀ c, c < d + 1 → s.2.1 100 c = pv c) ∧ pRF Y pv ρ (N - d) (d + 1) ∧ pKq (recX (srs A.1 (A.2.1 x.toNat)) d) Y (N - d) := by
  have hp := hV.1
  have hp2 := isPb_le hp
  have s91 := sh_91
  have hN := hM.1.1
  have key : ∀ (m n d : Nat) (t : pw_Sto), d + m = N → m < n → MR t A T len E Hs → (∀ d', d' < d → ¬ ∃ C, pRc (srs A.1 (A.2.1 x.toNat)) N d' C) → ∃ s d' Y pv ρ, ml_M_complexityOf_2 n 91 x N (d : Nat) t = some (((d' : Nat) : Int), s) ∧ Ms t s ∧ d' ≤ N ∧ pCx (srs A.1 (A.2.1 x.toNat)) N d' ∧ pv d' = -1 ∧ Mt s Y ∧ (∀ c, c < d' + 1 → s.2.1 100 c = pv c) ∧ pRF Y pv ρ (N - d') (d' + 1) ∧ pKq (recX (srs A.1 (A.2.1 x.toNat)) d') Y (N - d') := by
    intro m
    induction m with
    | zero =>
      intro n d t h1 h2 hMt hno
      obtain ⟨n, rfl⟩ : ∃ k, n = k + 1 := ⟨n - 1, by omega⟩
      obtain ⟨s, Y, pv, ρ, e, X, Z, P, RF, KQ⟩ := e_M_isRec hV hx hN16 (d := d) (by omega) hMt
      have hyes : pv d = -1 := (rec_iff (by omega) (by omega) RF KQ).mpr ⟨cc 1, cc_z 1, (bd_cc 1).mono (by omega), fun j j1 j2 => by omega⟩
      refine ⟨s, d, Y, pv, ρ, ?_, X, by omega, ⟨(rec_iff (by omega) (by omega) RF KQ).mp hyes, fun d' D hD => Classical.byContradiction (fun q => hno d' (by omega) ⟨D, hD⟩)⟩, hyes, Z, P, RF, KQ⟩
      rw [us_M_complexityOf_2]
      unfold mb_M_complexityOf_2
      rw [e, ex_bd, if_pos hyes, pw_ck_ok (by omega) (by omega), if_neg (by omega)]
    | succ m ih =>
      intro n d t h1 h2 hMt hno
      obtain ⟨n, rfl⟩ : ∃ k, n = k + 1 := ⟨n - 1, by omega⟩
      obtain ⟨s, Y, pv, ρ, e, X, Z, P, RF, KQ⟩ := e_M_isRec hV hx hN16 (d := d) (by omega) hMt
      rw [us_M_complexityOf_2]
      unfold mb_M_complexityOf_2
      rw [e, ex_bd]
      by_cases hyes : pv d = -1
      · refine ⟨s, d, Y, pv, ρ, ?_, X, by omega, ⟨(rec_iff (by omega) (by omega) RF KQ).mp hyes, fun d' D hD => Classical.byContradiction (fun q => hno d' (by omega) ⟨D, hD⟩)⟩, hyes, Z, P, RF, KQ⟩
        rw [if_pos hyes, pw_ck_ok (by omega) (by omega), if_neg (by omega)]
      · obtain ⟨s', d', Y', pv', ρ', e', X', r⟩ := ih n (d + 1) s (by omega) (by omega) (hMt.ms X) (fun d' hd' hC => by
          by_cases c : d' = d
          · rw [c] at hC
            exact hyes ((rec_iff (by omega) (by omega) RF KQ).mpr hC)
          · exact hno d' (by omega) hC)
        refine ⟨s', d', Y', pv', ρ', ?_, X.trans X', r⟩
        rw [if_neg hyes, pw_ck_ok (by omega) (by omega), if_pos rfl]
        exact e'
  obtain ⟨s, d, Y, pv, ρ, e, r⟩ := key N 1000 0 σ (by omega) (by omega) hM (fun d' hd' => by omega)
  refine ⟨s, d, Y, pv, ρ, ?_, r⟩
  unfold mf_M_complexityOf
  rw [ex_gd (by omega) (by omega)]
  exact e
end
