section
/-! ### digest of the model -/
theorem hS2_s (f g : Nat → Int) (h : Int64) (k : Nat) : hS2 f g h (k + 1) = hMx (hMx (hS2 f g h k) (f k)) (g k) := rfl
theorem hMx_eq (h : Int64) (v : Int) : ((31 : Int64) * h) + (Int32.toInt64 (iI v)) = hMx h v := rfl
theorem e_M_degN {p : Nat} [NeZero p] (hp : p ≤ 251) {σ : pw_Sto} (hL : Lay σ) {P : PS (Fin p)} (hP : Pm σ 102 P) (bP : pBd P 17) : mf_M_degreeOrNone 91 102 σ = some ((pLn P 17 : Int) - 1, σ) := by
  have hN := hL.1
  have s91 := sh_91
  have l17 := ln_le P 17
  unfold mf_M_degreeOrNone
  rw [ex_gd (by omega) (by omega), e_M_degree (p := p) hp hL (by omega) (by omega) hP, ex_bd, ln_18 bP, pw_ck_ok (by omega) (by omega)]
  by_cases c : pLn P 17 = 0
  · rw [if_neg (by omega), c]
    rfl
  · rw [if_pos (by omega)]
theorem e_M_dig108 {A : ASt} [NeZero A.1] (hV : VA A) {x : Nat} (hx : x < 4) (h1 : Int64) {σ : pw_Sto} {T : Nat → Int} {len : Nat} {E : Nat → Int} {Hs : List ASt} (hM : MR σ A T len E Hs) (r69 : Nat → Int64 → Int → pw_Sto → Option (Int64 × pw_Sto)) : ∃ s, ml_M_digest_108 r69 1000 91 h1 x ((0 : Nat) : Int) σ = r69 91 (hMx (hMx (hS2 (ordV (srs A.1 (A.2.1 x))) (degV (srs A.1 (A.2.1 x))) h1 8) ((cxN (srs A.1 (A.2.1 x)) 16 : Nat) : Int)) (nrC (srs A.1 (A.2.1 x)) 7)) ((x + 1 : Nat) : Int) s ∧ Ms σ s := by
  have hp2 := isPb_le hV.1
  have s91 := sh_91
  have hxI : 0 ≤ (x : Int) ∧ (x : Int) < 4 := by omega
  have hxn : (x : Int).toNat = x := by omega
  generalize hf : srs A.1 (A.2.1 x) = f
  obtain ⟨q, ⟨h2, t⟩, e2, hh2, X2⟩ := lp_ex (S := Int64 × pw_Sto) (O := Int64 × pw_Sto) (fun q k z => ml_M_digest_108 r69 q 91 z.1 x k z.2) (fun i => (i : Int)) 8 (fun i z => z.1 = hS2 (ordV f) (degV f) h1 i ∧ Ms σ z.2)
    (by
      intro q i z hi hI
      obtain ⟨h2, t⟩ := z
      obtain ⟨g1, g2⟩ := hI
      dsimp only at g1 g2
      have M1 := hM.ms g2
      have n1 := M1.1.1
      obtain ⟨t1, e1, X1, ⟨P1, Q1⟩, q0, bP, bQ⟩ := e_M_ap2 hV hxI (m := i) (n := 7 - i) (by omega) M1
      have M2 := M1.ms X1
      obtain ⟨t2, e2, X2, g3⟩ := e_M_orderOf hV hxI M2 P1 Q1 q0
      rw [hxn, hf] at P1 bP e2
      have M3 := M2.ms X2
      have n3 := M3.1.1
      have e4 := e_M_degN (p := A.1) (by omega) M3.1 (P1.kept (g3 102 (by omega))) bP
      refine ⟨(hMx (hMx h2 (ordV f i)) (degV f i), t2), ?_, ?_, (g2.trans X1).trans X2⟩
      · try dsimp only
        rw [us_M_digest_108]
        unfold mb_M_digest_108
        rw [pw_ck_ok (by omega) (by omega), if_neg (by omega), show (7 : Int) - (i : Int) = ((7 - i : Nat) : Int) by omega, e1, ex_bd, e2, ex_bd, ex_gr (by omega) (by omega), lr_91_13 M3.1, Option.bind_some, e4, ex_bd, hMx_eq, hMx_eq, show (i : Int) + 1 = ((i + 1 : Nat) : Int) by omega]
        unfold ordV degV
        rfl
      · dsimp only
        rw [g1, hS2_s]) 8 0 1000 (h1, σ) (by omega) (by omega) ⟨rfl, Ms.refl σ⟩
  dsimp only at e2 hh2 X2
  have M2 := hM.ms X2
  obtain ⟨s3, d, Y, pv, ρ, t3, X3, _, cx, _⟩ := e_M_cx hV hxI (N := 16) (by omega) M2
  rw [hxn, hf] at cx
  have M3 := M2.ms X3
  obtain ⟨s4, t4, X4⟩ := e_M_normals hV hxI (s := 7) (by omega) M3
  rw [hxn, hf] at t4
  refine ⟨s4, ?_, (X2.trans X3).trans X4⟩
  rw [show ((16 : Nat) : Int) = (16 : Int) from rfl] at t3
  rw [show ((7 : Nat) : Int) = (7 : Int) from rfl] at t4
  rw [e2, us_M_digest_108]
  unfold mb_M_digest_108
  rw [pw_ck_ok (by omega) (by omega), if_pos (by omega), t3, ex_bd, t4, ex_bd, hMx_eq, hMx_eq, hh2, ← cx_is cx, show (x : Int) + 1 = ((x + 1 : Nat) : Int) by omega]
theorem e_M_dig77 {A : ASt} [NeZero A.1] (hV : VA A) {x : Nat} (hx : x < 4) (h : Int64) {σ : pw_Sto} {T : Nat → Int} {len : Nat} {E : Nat → Int} {Hs : List ASt} (hM : MR σ A T len E Hs) (r69 : Nat → Int64 → Int → pw_Sto → Option (Int64 × pw_Sto)) : ∃ s, ml_M_digest_77 r69 1000 91 h x ((0 : Nat) : Int) σ = r69 91 (hSr A h x) ((x + 1 : Nat) : Int) s ∧ Ms σ s := by
  have s91 := sh_91
  have hxn : (x : Int).toNat = x := by omega
  obtain ⟨q, h1, e1, hh1⟩ := lp_ex (S := Int64) (O := Int64 × pw_Sto) (fun q k z => ml_M_digest_77 r69 q 91 z x k σ) (fun i => (i : Int)) 16 (fun i z => z = hSq (A.2.1 x) h i)
    (by
      intro q i z hi hI
      have tt := e_M_term hM.1 hM.2.1 (s := (x : Int)) (k := (i : Int)) (by omega) (by omega) (by omega) (by omega)
      rw [hxn, Int.toNat_natCast] at tt
      refine ⟨hMx z (A.2.1 x i), ?_, by rw [hI, hSq_s]⟩
      try dsimp only
      rw [us_M_digest_77]
      unfold mb_M_digest_77
      rw [pw_ck_ok (by omega) (by omega), if_neg (by omega), tt, ex_bd, hMx_eq, show (i : Int) + 1 = ((i + 1 : Nat) : Int) by omega]) 16 0 1000 h (by omega) (by omega) rfl
  obtain ⟨s, e2, X⟩ := e_M_dig108 hV hx h1 hM r69
  refine ⟨s, ?_, X⟩
  refine Eq.trans e1 ?_
  try dsimp only
  rw [us_M_digest_77]
  unfold mb_M_digest_77
  rw [pw_ck_ok (by omega) (by omega), if_pos (by omega)]
  rw [show ((0 : Nat) : Int) = (0 : Int) from rfl] at e2
  rw [e2, hh1]
  unfold hSr
  rfl
theorem e_M_dig262 {A : ASt} [NeZero A.1] (hV : VA A) (h1 : Int64) {σ : pw_Sto} {T : Nat → Int} {len : Nat} {E : Nat → Int} {Hs : List ASt} (hM : MR σ A T len E Hs) : ∃ s, ml_M_digest_262 1000 91 h1 ((0 : Nat) : Int) σ = some (hSq (fun m => msC (ptX A) (ptY A) A.2.2.1 (ipW (ptX A) (ptY A) A.2.2.1 m)) h1 A.2.2.1, s) ∧ Ms σ s := by
  have hp2 := isPb_le hV.1
  have h10 := hV.2.2.1
  have s91 := sh_91
  have hNp : ∀ t, MR t A T len E Hs → t.2.1 92 65 = A.2.2.1 := fun t hMt => by
    have := hMt.2.1.2.2.1
    rw [show 0 + 65 = 65 by omega] at this
    exact this
  obtain ⟨q, ⟨h2, t⟩, e2, hh2, X2⟩ := lp_ex (S := Int64 × pw_Sto) (O := Int64 × pw_Sto) (fun q k z => ml_M_digest_262 q 91 z.1 k z.2) (fun i => (i : Int)) A.2.2.1 (fun i z => z.1 = hSq (fun m => msC (ptX A) (ptY A) A.2.2.1 (ipW (ptX A) (ptY A) A.2.2.1 m)) h1 i ∧ Ms σ z.2)
    (by
      intro q i z hi hI
      obtain ⟨h2, t⟩ := z
      obtain ⟨g1, g2⟩ := hI
      dsimp only at g1 g2
      have M1 := hM.ms g2
      obtain ⟨t1, e1, X1⟩ := e_M_missed hV (m := i) hi M1
      refine ⟨(hMx h2 (msC (ptX A) (ptY A) A.2.2.1 (ipW (ptX A) (ptY A) A.2.2.1 i)), t1), ?_, ?_, g2.trans X1⟩
      · try dsimp only
        rw [us_M_digest_262]
        unfold mb_M_digest_262
        rw [e_M_points M1.1, ex_bd, hNp t M1, pw_ck_ok (by omega) (by omega), if_neg (by omega), e1, ex_bd, hMx_eq, show (i : Int) + 1 = ((i + 1 : Nat) : Int) by omega]
      · dsimp only
        rw [g1, hSq_s]) A.2.2.1 0 1000 (h1, σ) (by omega) (by omega) ⟨rfl, Ms.refl σ⟩
  dsimp only at e2 hh2 X2
  have M2 := hM.ms X2
  refine ⟨t, ?_, X2⟩
  rw [e2, us_M_digest_262]
  unfold mb_M_digest_262
  rw [e_M_points M2.1, ex_bd, hNp t M2, pw_ck_ok (by omega) (by omega), if_pos (by omega), hh2]
theorem e_M_dig212 {A : ASt} [NeZero A.1] (hV : VA A) (h : Int64) {σ : pw_Sto} {T : Nat → Int} {len : Nat} {E : Nat → Int} {Hs : List ASt} (hM : MR σ A T len E Hs) : ∃ s, ml_M_digest_212 1000 91 (hMx h A.2.2.1) ((0 : Nat) : Int) σ = some (hPt A h, s) ∧ Ms σ s := by
  have hp2 := isPb_le hV.1
  have h10 := hV.2.2.1
  have s91 := sh_91
  have s92 := sh_92
  have hL := hM.1
  have hN := hL.1
  have hNp : σ.2.1 92 65 = A.2.2.1 := by
    have := hM.2.1.2.2.1
    rw [show 0 + 65 = 65 by omega] at this
    exact this
  obtain ⟨q, h1, e1, hh1⟩ := lp_ex (S := Int64) (O := Int64 × pw_Sto) (fun q k z => ml_M_digest_212 q 91 z k σ) (fun i => (i : Int)) A.2.2.1 (fun i z => z = hS2 A.2.2.2.1 A.2.2.2.2 (hMx h A.2.2.1) i)
    (by
      intro q i z hi hI
      have a1 := (hM.2.1.2.2.2 i hi).1
      have a2 := (hM.2.1.2.2.2 i hi).2
      rw [show 0 + 66 + i = 66 + i by omega] at a1
      rw [show 0 + 76 + i = 76 + i by omega] at a2
      refine ⟨hMx (hMx z (A.2.2.2.1 i)) (A.2.2.2.2 i), ?_, by rw [hI, hS2_s]⟩
      try dsimp only
      rw [us_M_digest_212]
      unfold mb_M_digest_212
      rw [e_M_points hL, ex_bd, hNp, pw_ck_ok (by omega) (by omega), if_neg (by omega), ex_gr (by omega) (by omega), lr_91_0 hL, Option.bind_some, ex_ai (by omega) (by omega) (by omega) (by omega), Option.bind_some, show ((66 : Int) + (i : Int)).toNat = 66 + i by omega, a1, Option.bind_some, ex_ai (by omega) (by omega) (by omega) (by omega), Option.bind_some, show ((76 : Int) + (i : Int)).toNat = 76 + i by omega, a2, hMx_eq, hMx_eq, show (i : Int) + 1 = ((i + 1 : Nat) : Int) by omega]) A.2.2.1 0 1000 (hMx h A.2.2.1) (by omega) (by omega) rfl
  obtain ⟨s, e2, X⟩ := e_M_dig262 hV h1 hM
  refine ⟨s, ?_, X⟩
  refine Eq.trans e1 ?_
  try dsimp only
  rw [us_M_digest_212]
  unfold mb_M_digest_212
  rw [e_M_points hL, ex_bd, hNp, pw_ck_ok (by omega) (by omega), if_pos (by omega)]
  rw [show ((0 : Nat) : Int) = (0 : Int) from rfl] at e2
  rw [e2, hh1]
  unfold hPt
  rfl
theorem e_M_dig69 {A : ASt} [NeZero A.1] (hV : VA A) (hz : Int64) {σ : pw_Sto} {T : Nat → Int} {len : Nat} {E : Nat → Int} {Hs : List ASt} (hM : MR σ A T len E Hs) : ∃ s, ml_M_digest_69 1000 91 hz ((0 : Nat) : Int) σ = some (hPt A (hSl A hz 4), s) ∧ Ms σ s := by
  have s91 := sh_91
  obtain ⟨q, ⟨h2, t⟩, e2, hh2, X2⟩ := lp_ex (S := Int64 × pw_Sto) (O := Int64 × pw_Sto) (fun q k z => ml_M_digest_69 q 91 z.1 k z.2) (fun i => (i : Int)) 4 (fun i z => z.1 = hSl A hz i ∧ Ms σ z.2)
    (by
      intro q i z hi hI
      obtain ⟨h2, t⟩ := z
      obtain ⟨g1, g2⟩ := hI
      dsimp only at g1 g2
      obtain ⟨u, t1, X1⟩ := e_M_dig77 hV hi h2 (hM.ms g2) (ml_M_digest_69 q)
      refine ⟨(hSr A h2 i, u), ?_, ?_, g2.trans X1⟩
      · try dsimp only
        rw [us_M_digest_69]
        unfold mb_M_digest_69
        rw [show ((0 : Nat) : Int) = (0 : Int) from rfl] at t1
        rw [pw_ck_ok (by omega) (by omega), if_neg (by omega), t1]
      · dsimp only
        rw [g1, hSl_s]) 4 0 1000 (hz, σ) (by omega) (by omega) ⟨rfl, Ms.refl σ⟩
  dsimp only at e2 hh2 X2
  have M2 := hM.ms X2
  have hNp : t.2.1 92 65 = A.2.2.1 := by
    have := M2.2.1.2.2.1
    rw [show 0 + 65 = 65 by omega] at this
    exact this
  obtain ⟨s, e3, X3⟩ := e_M_dig212 hV h2 M2
  refine ⟨s, ?_, X2.trans X3⟩
  rw [show ((0 : Nat) : Int) = (0 : Int) from rfl] at e3
  rw [e2, us_M_digest_69]
  unfold mb_M_digest_69
  rw [pw_ck_ok (by omega) (by omega), if_pos (by omega), e_M_points M2.1, ex_bd, hNp, hMx_eq, e3, hh2]
theorem e_M_dig6 {A : ASt} (h0 : Int64) {σ : pw_Sto} {T : Nat → Int} {len : Nat} {E : Nat → Int} {Hs : List ASt} (hM : MR σ A T len E Hs) : ml_M_digest_6 1000 91 h0 ((0 : Nat) : Int) σ = ml_M_digest_69 1000 91 (hMx (hMx (hMx (hSq E h0 3) len) Hs.length) A.1) ((0 : Nat) : Int) σ := by
  have s91 := sh_91
  have s94 := sh_94
  have hL := hM.1
  have hN := hL.1
  obtain ⟨g1, g2, g3, g4, g5, g6⟩ := id hM
  obtain ⟨q1, h1, e1, hh1⟩ := lp_ex (S := Int64) (O := Int64 × pw_Sto) (fun q k z => ml_M_digest_6 q 91 z k σ) (fun i => (i : Int)) 3 (fun i z => z = hSq E h0 i)
    (by
      intro q i z hi hI
      refine ⟨hMx z (E i), ?_, by rw [hI, hSq_s]⟩
      try dsimp only
      rw [us_M_digest_6]
      unfold mb_M_digest_6
      rw [pw_ck_ok (by omega) (by omega), if_neg (by omega), ex_gr (by omega) (by omega), lr_91_3 hL, Option.bind_some, ex_ai (by omega) (by omega) (by omega) (by omega), Option.bind_some, Int.toNat_natCast, g4 i hi, hMx_eq, show (i : Int) + 1 = ((i + 1 : Nat) : Int) by omega]) 3 0 1000 h0 (by omega) (by omega) rfl
  refine Eq.trans e1 ?_
  try dsimp only
  rw [us_M_digest_6]
  unfold mb_M_digest_6
  rw [pw_ck_ok (by omega) (by omega), if_pos (by omega), ex_gi (by omega) (by omega), Option.bind_some, g3.1, ex_gi (by omega) (by omega), Option.bind_some, g5, e_M_prime hL, ex_bd, g2.1, hMx_eq, hMx_eq, hMx_eq, hh1]
  exact congrArg (fun z => ml_M_digest_69 1000 91 (hMx (hMx (hMx (hSq E h0 3) len) Hs.length) A.1) z σ) rfl
theorem e_M_digest {A : ASt} [NeZero A.1] (hV : VA A) {σ : pw_Sto} {T : Nat → Int} {len : Nat} {E : Nat → Int} {Hs : List ASt} (hM : MR σ A T len E Hs) : ∃ s, mf_M_digest 91 σ = some (hDg A E len Hs.length, s) ∧ Ms σ s := by
  have s91 := sh_91
  have hN := hM.1.1
  obtain ⟨s, e, r⟩ := e_M_dig69 hV (hMx (hMx (hMx (hSq E 12475 3) len) Hs.length) A.1) hM
  refine ⟨s, ?_, r⟩
  unfold mf_M_digest hDg
  rw [ex_gd (by omega) (by omega), ← e, ← e_M_dig6 12475 hM]
  congr 1
def OpOkL (fW fM : pw_Sto → Option (Int64 × pw_Sto)) : Prop := ∀ σ, Good σ → ∃ r σ1 σ2, fW σ = some (r, σ1) ∧ fM σ1 = some (r, σ2) ∧ Good σ2
theorem op_digest : OpOkL (mf_W_digest 0) (mf_M_digest 91) := by
  intro σ hG
  obtain ⟨A, T, len, E, Hs, hC, hM, hV⟩ := hG
  haveI := nz_of hV.1.1
  obtain ⟨σ1, e1, c1, d1⟩ := e_W_digest hV.1 hC
  obtain ⟨σ2, e2, k⟩ := e_M_digest hV.1 (hM.hi d1 c1.1)
  exact ⟨_, σ1, σ2, e1, e2, A, T, len, E, Hs, c1.lo (Lo.ms k), (hM.hi d1 c1.1).ms k, hV⟩
end
