section
/-! ## digest -/
def hMx (h : Int64) (v : Int) : Int64 := (((31 : Int64) * h) + (Int32.toInt64 (iI v)))
def hSq (f : Nat → Int) (h : Int64) : Nat → Int64
  | 0 => h
  | k + 1 => hMx (hSq f h k) (f k)
def hS2 (f g : Nat → Int) (h : Int64) : Nat → Int64
  | 0 => h
  | k + 1 => hMx (hMx (hS2 f g h k) (f k)) (g k)
noncomputable def ordV {p : Nat} [NeZero p] (f : PS (Fin p)) (m : Nat) : Int := ((fd (cv (apW f m (7 - m)).2 f) (apW f m (7 - m)).1 16 0 : Nat) : Int)
noncomputable def degV {p : Nat} [NeZero p] (f : PS (Fin p)) (m : Nat) : Int := (pLn (apW f m (7 - m)).1 17 : Int) - 1
noncomputable def hSr (A : ASt) [NeZero A.1] (h : Int64) (x : Nat) : Int64 := hMx (hMx (hS2 (ordV (srs A.1 (A.2.1 x))) (degV (srs A.1 (A.2.1 x))) (hSq (A.2.1 x) h 16) 8) ((cxN (srs A.1 (A.2.1 x)) 16 : Nat) : Int)) (nrC (srs A.1 (A.2.1 x)) 7)
noncomputable def hSl (A : ASt) [NeZero A.1] (h : Int64) : Nat → Int64
  | 0 => h
  | x + 1 => hSr A (hSl A h x) x
noncomputable def hPt (A : ASt) [NeZero A.1] (h : Int64) : Int64 := hSq (fun m => msC (ptX A) (ptY A) A.2.2.1 (ipW (ptX A) (ptY A) A.2.2.1 m)) (hS2 A.2.2.2.1 A.2.2.2.2 (hMx h A.2.2.1) A.2.2.1) A.2.2.1
noncomputable def hDg (A : ASt) [NeZero A.1] (E : Nat → Int) (len hs : Nat) : Int64 := hPt A (hSl A (hMx (hMx (hMx (hSq E 12475 3) len) hs) A.1) 4)
theorem e_W_mix (h : Int64) (v : Int) (σ : pw_Sto) : mf_W_mix h v σ = some (hMx h v, σ) := rfl
theorem e_W_mixSeries {A : ASt} [NeZero A.1] (hV : VA A) {x : Nat} (hx : x < 4) (h : Int64) {σ : pw_Sto} {T : Nat → Int} {len : Nat} {E : Nat → Int} {Hs : List ASt} (hC : CR σ A T len E Hs) : ∃ s, mf_W_mixSeries 0 h x σ = some (hSr A h x, s) ∧ CR s A T len E Hs ∧ Hi σ s := by
  have hp := hV.1
  have hp2 := isPb_le hp
  have s0 := sh_0
  have s1' := sh_1
  have s58 := sh_58
  have s59 := sh_59
  have s84 := sh_84
  have hL := hC.1
  have hN := hL.1
  have srow := sh_row hx
  have hxI : 0 ≤ (x : Int) ∧ (x : Int) < 4 := by omega
  have hxn : (x : Int).toNat = x := by omega
  obtain ⟨q1, h1, e1, hh1⟩ := lp_ex (S := Int64) (O := Int64 × pw_Sto) (fun q k z => ml_W_mixSeries_17 q 0 x z (3 + x) k σ) (fun i => (i : Int)) 16 (fun i z => z = hSq (A.2.1 x) h i)
    (by
      intro q i z hi hI
      have a1 : σ.2.1 (3 + x) i = A.2.1 x i := hC.2.2.1.2.1 x i hx hi
      refine ⟨hMx z (A.2.1 x i), ?_, by rw [hI]; rfl⟩
      try dsimp only
      rw [us_W_mixSeries_17]
      unfold mb_W_mixSeries_17
      rw [pw_ck_ok (by omega) (by omega), if_neg (by omega), ex_ai (by omega) (by omega) (by omega) (by omega), Option.bind_some, Int.toNat_natCast, a1, e_W_mix, ex_bd]
      rfl) 16 0 1000 h (by omega) (by omega) rfl
  generalize hf : srs A.1 (A.2.1 x) = f
  obtain ⟨q2, ⟨h2, c, t⟩, e2, hh2, hc2, C2, H2⟩ := lp_ex (S := Int64 × Int × pw_Sto) (O := Int64 × pw_Sto) (fun q k z => ml_W_mixSeries_48 q 0 x z.1 (3 + x) z.2.1 k z.2.2) (fun i => (i : Int)) 8 (fun i z => z.1 = hS2 (ordV f) (degV f) h1 i ∧ z.2.1 = sm (nrG f 7) i ∧ CR z.2.2 A T len E Hs ∧ Hi σ z.2.2)
    (by
      intro q i z hi hI
      obtain ⟨h2, c, t⟩ := z
      obtain ⟨g1, g2, g3, g4⟩ := hI
      dsimp only at g1 g2 g3 g4
      have n1 := g3.1.1
      obtain ⟨u, t1, C1, H1, P1, Q1⟩ := e_W_ap g3 hV hxI (m := i) (n := 7 - i) (by omega)
      have ag := e_W_agr hV hxI C1 P1 Q1
      rw [hxn] at ag P1 Q1
      have bk := e_R_block (f := srs A.1 (A.2.1 x)) C1.1 P1 Q1
      rw [hf] at ag bk P1 Q1
      have n2 := C1.1.1
      have p1 : u.2.1 1 0 = A.1 := C1.2.2.1.1
      have br := bk_rng f (apW f i (7 - i)).1 (apW f i (7 - i)).2
      have esm : sm (nrG f 7) (i + 1) = sm (nrG f 7) i + nrG f 7 i := rfl
      refine ⟨(hMx (hMx h2 (ordV f i)) (degV f i), c + nrG f 7 i, u), ?_, ?_, ?_, C1, g4.trans H1⟩
      · try dsimp only
        rw [us_W_mixSeries_48]
        unfold mb_W_mixSeries_48 nrG
        rw [pw_ck_ok (by omega) (by omega), if_neg (by omega), show (7 : Int) - (i : Int) = ((7 - i : Nat) : Int) by omega, t1, ex_bd]
        simp (disch := omega) only [ex_gr, ex_gi, lr_0_4 C1.1, lr_0_0 C1.1, lr_58_0 C1.1, Option.bind_some, p1, ag, ex_bd, e_W_mix, P1.2, bk]
        rw [pw_ck_ok (by omega) (by omega)]
        by_cases b : bkV f (apW f i (7 - i)).1 (apW f i (7 - i)).2 = 0
        · rw [if_pos b, if_pos b]
          rfl
        · rw [if_neg b, if_neg b, Int.add_zero]
          rfl
      · dsimp only
        rw [g1]
        rfl
      · dsimp only
        rw [g2, esm]) 8 0 1000 (h1, 0, σ) (by omega) (by omega) ⟨rfl, rfl, hC, Hi.refl σ⟩
  dsimp only at e2 hh2 hc2 C2 H2
  have n2 := C2.1.1
  obtain ⟨s, L, C, t3, C3, H3, ⟨F3, e3, _⟩, cx, _, _⟩ := e_W_fit C2 hV hxI (N := 16) (by omega)
  rw [hxn] at t3 cx
  rw [hf] at cx
  have n3 := C3.1.1
  have p2 : t.2.1 1 0 = A.1 := C2.2.2.1.1
  refine ⟨s, ?_, C3, H2.trans H3⟩
  unfold mf_W_mixSeries hSr nrC
  rw [ex_gd (by omega) (by omega), hf, ← cx_is cx]
  simp (disch := omega) only [ex_gr, lr_0_0 hL, lr_1_1 hL, e_ser hL, Option.bind_some, hxn]
  refine Eq.trans e1 ?_
  try dsimp only
  rw [us_W_mixSeries_17]
  unfold mb_W_mixSeries_17
  rw [pw_ck_ok (by omega) (by omega), if_pos (by omega)]
  refine Eq.trans e2 ?_
  rw [us_W_mixSeries_48]
  unfold mb_W_mixSeries_48
  rw [pw_ck_ok (by omega) (by omega), if_pos (by omega)]
  rw [show ((16 : Nat) : Int) = (16 : Int) from rfl] at t3
  simp (disch := omega) only [ex_gr, ex_gi, lr_0_7 C2.1, lr_0_0 C2.1, Option.bind_some, p2, t3, ex_bd, lr_0_7 C3.1, e3, e_W_mix]
  rw [hh2, hc2, hh1]
theorem e_W_mixPoints {A : ASt} [NeZero A.1] (hV : VA A) (h : Int64) {σ : pw_Sto} {T : Nat → Int} {len : Nat} {E : Nat → Int} {Hs : List ASt} (hC : CR σ A T len E Hs) : ∃ s, mf_W_mixPoints 0 h σ = some (hPt A h, s) ∧ CR s A T len E Hs ∧ Hi σ s := by
  have hp2 := isPb_le hV.1
  have h10 := hV.2.2.1
  have s0 := sh_0
  have s1' := sh_1
  have s7 := sh_7
  have s8 := sh_8
  have hL := hC.1
  have hN := hL.1
  have hS := hC.2.2.1
  obtain ⟨q1, h1, e1, hh1⟩ := lp_ex (S := Int64) (O := Int64 × pw_Sto) (fun q k z => ml_W_mixPoints_15 q 0 z k σ) (fun i => (i : Int)) A.2.2.1 (fun i z => z = hS2 A.2.2.2.1 A.2.2.2.2 (hMx h A.2.2.1) i)
    (by
      intro q i z hi hI
      have a1 := (hS.2.2.2 i hi).1
      have a2 := (hS.2.2.2 i hi).2
      refine ⟨hMx (hMx z (A.2.2.2.1 i)) (A.2.2.2.2 i), ?_, by rw [hI]; rfl⟩
      try dsimp only
      rw [us_W_mixPoints_15]
      unfold mb_W_mixPoints_15
      simp (disch := omega) only [ex_gr, ex_gi, lr_0_0 hL, Option.bind_some, hS.2.2.1]
      rw [pw_ck_ok (by omega) (by omega), if_neg (by omega), pw_ck_ok (by omega) (by omega), if_neg (by omega)]
      simp (disch := omega) only [ex_gr, lr_0_0 hL, lr_1_3 hL, Option.bind_some]
      rw [ex_ai (by omega) (by omega) (by omega) (by omega), Option.bind_some, Int.toNat_natCast, a1, e_W_mix, ex_bd]
      simp (disch := omega) only [ex_gr, lr_0_0 hL, lr_1_4 hL, Option.bind_some]
      rw [ex_ai (by omega) (by omega) (by omega) (by omega), Option.bind_some, Int.toNat_natCast, a2, e_W_mix, ex_bd]
      rfl) A.2.2.1 0 1000 (hMx h A.2.2.1) (by omega) (by omega) rfl
  obtain ⟨q2, ⟨h2, t⟩, e2, hh2, C2, H2⟩ := lp_ex (S := Int64 × pw_Sto) (O := Int64 × pw_Sto) (fun q k z => ml_W_mixPoints_73 q 0 z.1 k z.2) (fun i => (i : Int)) A.2.2.1 (fun i z => z.1 = hSq (fun m => msC (ptX A) (ptY A) A.2.2.1 (ipW (ptX A) (ptY A) A.2.2.1 m)) h1 i ∧ CR z.2 A T len E Hs ∧ Hi σ z.2)
    (by
      intro q i z hi hI
      obtain ⟨h2, t⟩ := z
      obtain ⟨g1, g2, g3⟩ := hI
      dsimp only at g1 g2 g3
      have n1 := g2.1.1
      obtain ⟨u, t1, C1, H1, P1, Q1⟩ := e_W_ip g2 hV (m := i) hi
      have a1 : t.2.1 1 2 = A.2.2.1 := g2.2.2.1.2.2.1
      refine ⟨(hMx h2 (msC (ptX A) (ptY A) A.2.2.1 (ipW (ptX A) (ptY A) A.2.2.1 i)), u), ?_, ?_, C1, g3.trans H1⟩
      · try dsimp only
        rw [us_W_mixPoints_73]
        unfold mb_W_mixPoints_73
        simp (disch := omega) only [ex_gr, ex_gi, lr_0_0 g2.1, Option.bind_some, a1]
        rw [pw_ck_ok (by omega) (by omega), if_neg (by omega), pw_ck_ok (by omega) (by omega), if_neg (by omega), t1, ex_bd, e_W_missed hV C1 P1 Q1, ex_bd, e_W_mix, ex_bd]
        rfl
      · dsimp only
        rw [g1]
        rfl) A.2.2.1 0 1000 (h1, σ) (by omega) (by omega) ⟨rfl, hC, Hi.refl σ⟩
  dsimp only at e2 hh2 C2 H2
  have n2 := C2.1.1
  have a2 : t.2.1 1 2 = A.2.2.1 := C2.2.2.1.2.2.1
  refine ⟨t, ?_, C2, H2⟩
  unfold mf_W_mixPoints hPt
  rw [ex_gd (by omega) (by omega)]
  simp (disch := omega) only [ex_gr, ex_gi, lr_0_0 hL, Option.bind_some, hS.2.2.1, e_W_mix, ex_bd]
  refine Eq.trans e1 ?_
  try dsimp only
  rw [us_W_mixPoints_15]
  unfold mb_W_mixPoints_15
  simp (disch := omega) only [ex_gr, ex_gi, lr_0_0 hL, Option.bind_some, hS.2.2.1]
  rw [pw_ck_ok (by omega) (by omega), if_pos (by omega)]
  refine Eq.trans e2 ?_
  rw [us_W_mixPoints_73]
  unfold mb_W_mixPoints_73
  simp (disch := omega) only [ex_gr, ex_gi, lr_0_0 C2.1, Option.bind_some, a2]
  rw [pw_ck_ok (by omega) (by omega), if_pos (by omega), hh2, hh1]
theorem hSl_s (A : ASt) [NeZero A.1] (h : Int64) (x : Nat) : hSl A h (x + 1) = hSr A (hSl A h x) x := rfl
theorem hSq_s (f : Nat → Int) (h : Int64) (k : Nat) : hSq f h (k + 1) = hMx (hSq f h k) (f k) := rfl
theorem e_W_dig66 {A : ASt} [NeZero A.1] (hV : VA A) (hz : Int64) {σ : pw_Sto} {T : Nat → Int} {len : Nat} {E : Nat → Int} {Hs : List ASt} (hC : CR σ A T len E Hs) : ∃ s, ml_W_digest_66 1000 0 hz ((0 : Nat) : Int) σ = some (hPt A (hSl A hz 4), s) ∧ CR s A T len E Hs ∧ Hi σ s := by
  obtain ⟨q2, ⟨h2, t⟩, e2, hh2, C2, H2⟩ := lp_ex (S := Int64 × pw_Sto) (O := Int64 × pw_Sto) (fun q k z => ml_W_digest_66 q 0 z.1 k z.2) (fun i => (i : Int)) 4 (fun i z => z.1 = hSl A hz i ∧ CR z.2 A T len E Hs ∧ Hi σ z.2)
    (by
      intro q i z hi hI
      obtain ⟨h2, t⟩ := z
      obtain ⟨k1, k2, k3⟩ := hI
      dsimp only at k1 k2 k3
      obtain ⟨u, t1, C1, H1⟩ := e_W_mixSeries hV hi h2 k2
      refine ⟨(hSr A h2 i, u), ?_, ?_, C1, k3.trans H1⟩
      · try dsimp only
        rw [us_W_digest_66]
        unfold mb_W_digest_66
        rw [pw_ck_ok (by omega) (by omega), if_neg (by omega), t1, ex_bd, show (i : Int) + 1 = ((i + 1 : Nat) : Int) by omega]
      · dsimp only
        rw [k1, hSl_s]) 4 0 1000 (hz, σ) (by omega) (by omega) ⟨rfl, hC, Hi.refl σ⟩
  dsimp only at e2 hh2 C2 H2
  obtain ⟨s, t3, C3, H3⟩ := e_W_mixPoints hV h2 C2
  refine ⟨s, ?_, C3, H2.trans H3⟩
  rw [e2, us_W_digest_66]
  unfold mb_W_digest_66
  rw [pw_ck_ok (by omega) (by omega), if_pos (by omega), t3, ex_bd, hh2]
theorem e_W_dig6 {A : ASt} (h0 : Int64) {σ : pw_Sto} {T : Nat → Int} {len : Nat} {E : Nat → Int} {Hs : List ASt} (hC : CR σ A T len E Hs) : ml_W_digest_6 1000 0 h0 ((0 : Nat) : Int) σ = ml_W_digest_66 1000 0 (hMx (hMx (hMx (hSq E h0 3) len) Hs.length) A.1) ((0 : Nat) : Int) σ := by
  have s0 := sh_0
  have s1' := sh_1
  have s9 := sh_9
  have s43 := sh_43
  have s90 := sh_90
  have hL := hC.1
  have hN := hL.1
  obtain ⟨g1, g2, g3, g4, g5, nx, g6, g7, g8, g9⟩ := id hC
  obtain ⟨q1, h1, e1, hh1⟩ := lp_ex (S := Int64) (O := Int64 × pw_Sto) (fun q k z => ml_W_digest_6 q 0 z k σ) (fun i => (i : Int)) 3 (fun i z => z = hSq E h0 i)
    (by
      intro q i z hi hI
      refine ⟨hMx z (E i), ?_, by rw [hI, hSq_s]⟩
      try dsimp only
      rw [us_W_digest_6]
      unfold mb_W_digest_6
      rw [pw_ck_ok (by omega) (by omega), if_neg (by omega), ex_gr (by omega) (by omega), lr_0_10 hL, Option.bind_some, ex_ai (by omega) (by omega) (by omega) (by omega), Option.bind_some, Int.toNat_natCast, g5 i hi, e_W_mix, ex_bd, show (i : Int) + 1 = ((i + 1 : Nat) : Int) by omega]) 3 0 1000 h0 (by omega) (by omega) rfl
  refine Eq.trans e1 ?_
  try dsimp only
  rw [us_W_digest_6]
  unfold mb_W_digest_6
  rw [pw_ck_ok (by omega) (by omega), if_pos (by omega)]
  rw [ex_gr (by omega) (by omega), lr_0_2 hL, Option.bind_some, ex_gi (by omega) (by omega), Option.bind_some, g4.1, e_W_mix, ex_bd, ex_gr (by omega) (by omega), lr_0_1 hL, Option.bind_some, ex_gi (by omega) (by omega), Option.bind_some, g8, e_W_mix, ex_bd, ex_gr (by omega) (by omega), lr_0_0 hL, Option.bind_some, ex_gi (by omega) (by omega), Option.bind_some, g3.1, e_W_mix, ex_bd, hh1]
  exact congrArg (fun z => ml_W_digest_66 1000 0 (hMx (hMx (hMx (hSq E h0 3) len) Hs.length) A.1) z σ) rfl
theorem e_W_digest {A : ASt} [NeZero A.1] (hV : VA A) {σ : pw_Sto} {T : Nat → Int} {len : Nat} {E : Nat → Int} {Hs : List ASt} (hC : CR σ A T len E Hs) : ∃ s, mf_W_digest 0 σ = some (hDg A E len Hs.length, s) ∧ CR s A T len E Hs ∧ Hi σ s := by
  have s0 := sh_0
  have hN := hC.1.1
  obtain ⟨s, e, r⟩ := e_W_dig66 hV (hMx (hMx (hMx (hSq E 12475 3) len) Hs.length) A.1) hC
  refine ⟨s, ?_, r⟩
  unfold mf_W_digest hDg
  rw [ex_gd (by omega) (by omega), ← e, ← e_W_dig6 12475 hC]
  congr 1
end
