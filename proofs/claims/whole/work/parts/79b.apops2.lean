section
theorem e_W_agr {A : ASt} [NeZero A.1] (hV : VA A) {x : Int} (hx : 0 ≤ x ∧ x < 4) {σ : pw_Sto} {T : Nat → Int} {len : Nat} {E : Nat → Int} {Hs : List ASt} (hC : CR σ A T len E Hs) {P Q : PS (Fin A.1)} (hP : Pc σ 59 P) (hQ : Pc σ 61 Q) : mf_R_agreement 58 (3 + x.toNat) A.1 σ = some (((fd (cv Q (srs A.1 (A.2.1 x.toNat))) P 16 0 : Nat) : Int), σ) := e_R_agreement hV.1 hC.1 hP hQ (by omega) (sh_rowp (by omega)) (fun k hk => by rw [srs_vv hk (hV.2.1 _ k (by omega) hk)]; exact hC.2.2.1.2.1 x.toNat k (by omega) hk)
theorem op_order {x m n : Int} (hx : pw_R x) (hm : pw_R m) (hn : pw_R n) : OpOk (mf_W_order 0 x m n) (mf_M_order 91 x m n) := by
  apply op_ro
  intro A T len E Hs hV
  haveI := nz_of hV.1.1
  have hp2 := isPb_le hV.1.1
  have s0 := sh_0
  have s1 := sh_1
  have s91 := sh_91
  by_cases h : apC x m n
  · right
    obtain ⟨m, rfl⟩ : ∃ k : Nat, m = k := ⟨m.toNat, by unfold apC at h; omega⟩
    obtain ⟨n, rfl⟩ : ∃ k : Nat, n = k := ⟨n.toNat, by unfold apC at h; omega⟩
    have hmn : m + n ≤ 15 := by unfold apC at h; omega
    have hx4 := h.1
    refine ⟨((fd (cv (apW (srs A.1 (A.2.1 x.toNat)) m n).2 (srs A.1 (A.2.1 x.toNat))) (apW (srs A.1 (A.2.1 x.toNat)) m n).1 16 0 : Nat) : Int), fun σ hC => ?_, fun σ hM => ?_⟩
    · obtain ⟨s, t, C1, H1, P1, Q1⟩ := e_W_ap hC hV.1 h.1 hmn
      have hN := hC.1.1
      have n1 := C1.1.1
      have ag := e_W_agr hV.1 hx4 C1 P1 Q1
      have p1 : s.2.1 1 0 = A.1 := C1.2.2.1.1
      refine ⟨s, ?_, C1, H1⟩
      unfold mf_W_order
      rw [ex_gd (by omega) (by omega), (e_W_isApp hx hm hn).1 h, ex_bd, pw_ck_ok (by omega) (by omega), if_neg (by omega), t, ex_bd]
      simp (disch := omega) only [ex_gr, ex_gi, lr_0_4 C1.1, lr_0_0 C1.1, lr_1_1 C1.1, e_ser C1.1, Option.bind_some, p1, ag, ex_bd]
    · obtain ⟨s, t, X1, ⟨P1, Q1⟩, q0, bP, bQ⟩ := e_M_ap2 hV.1 h.1 hmn hM
      have hN := hM.1.1
      have M1 := hM.ms X1
      obtain ⟨s2, t2, X2, g2⟩ := e_M_orderOf hV.1 hx4 M1 P1 Q1 q0
      refine ⟨s2, ?_, X1.trans X2⟩
      unfold mf_M_order
      rw [ex_gd (by omega) (by omega), (e_M_isPair hM.1 hx hm hn).1 h, ex_bd, pw_ck_ok (by omega) (by omega), if_neg (by omega), t, ex_bd, t2, ex_bd]
  · left
    refine ⟨fun σ hC => ?_, fun σ hM => ?_⟩
    · have hN := hC.1.1
      unfold mf_W_order
      rw [ex_gd (by omega) (by omega), (e_W_isApp hx hm hn).2 h, ex_bd, pw_ck_ok (by omega) (by omega), if_pos rfl]
    · have hN := hM.1.1
      unfold mf_M_order
      rw [ex_gd (by omega) (by omega), (e_M_isPair hM.1 hx hm hn).2 h, ex_bd, pw_ck_ok (by omega) (by omega), if_pos rfl]
theorem op_blockSize {x m n : Int} (hx : pw_R x) (hm : pw_R m) (hn : pw_R n) : OpOk (mf_W_blockSize 0 x m n) (mf_M_blockSize 91 x m n) := by
  apply op_ro
  intro A T len E Hs hV
  haveI := nz_of hV.1.1
  have hp2 := isPb_le hV.1.1
  have s0 := sh_0
  have s1 := sh_1
  have s91 := sh_91
  by_cases h : apC x m n
  · right
    obtain ⟨m, rfl⟩ : ∃ k : Nat, m = k := ⟨m.toNat, by unfold apC at h; omega⟩
    obtain ⟨n, rfl⟩ : ∃ k : Nat, n = k := ⟨n.toNat, by unfold apC at h; omega⟩
    have hmn : m + n ≤ 15 := by unfold apC at h; omega
    have hx4 := h.1
    refine ⟨bkV (srs A.1 (A.2.1 x.toNat)) (apW (srs A.1 (A.2.1 x.toNat)) m n).1 (apW (srs A.1 (A.2.1 x.toNat)) m n).2, fun σ hC => ?_, fun σ hM => ?_⟩
    · obtain ⟨s, t, C1, H1, P1, Q1⟩ := e_W_ap hC hV.1 h.1 hmn
      have hN := hC.1.1
      have n1 := C1.1.1
      have ag := e_W_agr hV.1 hx4 C1 P1 Q1
      have bk := e_R_block (f := srs A.1 (A.2.1 x.toNat)) C1.1 P1 Q1
      have p1 : s.2.1 1 0 = A.1 := C1.2.2.1.1
      refine ⟨s, ?_, C1, H1⟩
      unfold mf_W_blockSize
      rw [ex_gd (by omega) (by omega), (e_W_isApp hx hm hn).1 h, ex_bd, pw_ck_ok (by omega) (by omega), if_neg (by omega), t, ex_bd]
      simp (disch := omega) only [ex_gr, ex_gi, lr_0_4 C1.1, lr_0_0 C1.1, lr_1_1 C1.1, e_ser C1.1, Option.bind_some, p1, ag, ex_bd, bk]
    · obtain ⟨s, t, X1, ⟨P1, Q1⟩, q0, bP, bQ⟩ := e_M_ap2 hV.1 h.1 hmn hM
      have hN := hM.1.1
      have M1 := hM.ms X1
      have n1 := M1.1.1
      have l17 := ln_le (apW (srs A.1 (A.2.1 x.toNat)) m n).1 17
      by_cases c : pLn (apW (srs A.1 (A.2.1 x.toNat)) m n).1 17 = 0
      · refine ⟨s, ?_, X1⟩
        unfold mf_M_blockSize bkV
        rw [ex_gd (by omega) (by omega), (e_M_isPair hM.1 hx hm hn).1 h, ex_bd, pw_ck_ok (by omega) (by omega), if_neg (by omega), t, ex_bd, ex_gr (by omega) (by omega), lr_91_13 M1.1, Option.bind_some, e_M_degree (p := A.1) (by omega) M1.1 (by omega) (by omega) P1, ex_bd, ln_18 bP, c, pw_ck_ok (by omega) (by omega), if_neg (by omega), if_pos rfl]
      · obtain ⟨s2, t2, X2, g2⟩ := e_M_sizeOf hV.1 hx4 M1 P1 Q1 q0 bP bQ c
        refine ⟨s2, ?_, X1.trans X2⟩
        unfold mf_M_blockSize
        rw [ex_gd (by omega) (by omega), (e_M_isPair hM.1 hx hm hn).1 h, ex_bd, pw_ck_ok (by omega) (by omega), if_neg (by omega), t, ex_bd, ex_gr (by omega) (by omega), lr_91_13 M1.1, Option.bind_some, e_M_degree (p := A.1) (by omega) M1.1 (by omega) (by omega) P1, ex_bd, ln_18 bP, pw_ck_ok (by omega) (by omega), if_pos (by omega), t2, ex_bd]
  · left
    refine ⟨fun σ hC => ?_, fun σ hM => ?_⟩
    · have hN := hC.1.1
      unfold mf_W_blockSize
      rw [ex_gd (by omega) (by omega), (e_W_isApp hx hm hn).2 h, ex_bd, pw_ck_ok (by omega) (by omega), if_pos rfl]
    · have hN := hM.1.1
      unfold mf_M_blockSize
      rw [ex_gd (by omega) (by omega), (e_M_isPair hM.1 hx hm hn).2 h, ex_bd, pw_ck_ok (by omega) (by omega), if_pos rfl]
theorem e_K_overF {p : Nat} [NeZero p] (hp : isPb p = true) {σ : pw_Sto} (x y : Fin p) : mf_K_over (vv x) (vv y) p σ = some (vv (x * fi y), σ) := by
  have h := e_K_over (p := p) (a := x.val) (b := y.val) (σ := σ) hp x.isLt y.isLt
  have e : (((x.val * iv p y.val % p : Nat)) : Int) = vv (x * fi y) := by
    rw [vv_mul, vv_fi hp]
    unfold vv
    rw [Int.toNat_natCast, ← Int.natCast_mul, ← Int.natCast_emod]
  rw [← e]
  exact h
theorem op_evaluate {x m n z : Int} (hx : pw_R x) (hm : pw_R m) (hn : pw_R n) (hz : pw_R z) : OpOk (mf_W_evaluate 0 x m n z) (mf_M_evaluate 91 x m n z) := by
  apply op_ro
  intro A T len E Hs hV
  haveI := nz_of hV.1.1
  have hp := hV.1.1
  have hp2 := isPb_le hV.1.1
  have s0 := sh_0
  have s1 := sh_1
  have s58 := sh_58
  have s91 := sh_91
  by_cases h : apC x m n
  · by_cases h2 : 0 ≤ z ∧ z < A.1
    · right
      obtain ⟨m, rfl⟩ : ∃ k : Nat, m = k := ⟨m.toNat, by unfold apC at h; omega⟩
      obtain ⟨n, rfl⟩ : ∃ k : Nat, n = k := ⟨n.toNat, by unfold apC at h; omega⟩
      have hmn : m + n ≤ 15 := by unfold apC at h; omega
      have hzv : vv (fz A.1 z) = z := by rw [vv_fz, Int.emod_eq_of_lt h2.1 h2.2]
      generalize fz A.1 z = ζ at hzv
      subst hzv
      generalize hW : apW (srs A.1 (A.2.1 x.toNat)) m n = W
      by_cases hfW : pFn W.1 ∧ pFn W.2
      · obtain ⟨c, ec⟩ := ev_ex ζ hfW.1
        obtain ⟨d, ed⟩ := ev_ex ζ hfW.2
        have rd := vv_rng d
        refine ⟨if vv d = 0 then -1 else vv (c * fi d), fun σ hC => ?_, fun σ hM => ?_⟩
        · obtain ⟨s, t, C1, H1, P1, Q1⟩ := e_W_ap hC hV.1 h.1 hmn
          rw [hW] at P1 Q1
          have hN := hC.1.1
          have n1 := C1.1.1
          have p1 : s.2.1 1 0 = A.1 := C1.2.2.1.1
          obtain ⟨d', td, ed'⟩ := e_P_valueAt (p := A.1) (by omega) (PO.of C1.1 (o := 61) (by omega)) Q1 ζ
          obtain ⟨c', tc, ec'⟩ := e_P_valueAt (p := A.1) (by omega) (PO.of C1.1 (o := 59) (by omega)) P1 ζ
          have hd := ev_uniq hp ed' ed
          have hc := ev_uniq hp ec' ec
          subst hd
          subst hc
          refine ⟨s, ?_, C1, H1⟩
          unfold mf_W_evaluate
          rw [ex_gd (by omega) (by omega), (e_W_isApp hx hm hn).1 h, ex_bd, pw_ck_ok (by omega) (by omega), if_neg (by omega), e_W_isElement hC.1 hC.2.2.1.1 (by omega) hz, ex_bd, if_pos h2, pw_ck_ok (by omega) (by omega), if_neg (by omega), t, ex_bd]
          simp (disch := omega) only [ex_gr, ex_gi, lr_0_4 C1.1, lr_0_0 C1.1, lr_58_1 C1.1, Option.bind_some, p1, td, ex_bd]
          rw [pw_ck_ok (by omega) (by omega)]
          by_cases c0 : vv d' = 0
          · rw [if_pos c0, if_pos c0]
          · rw [if_neg c0, if_neg c0]
            simp (disch := omega) only [ex_gr, ex_gi, lr_0_4 C1.1, lr_0_0 C1.1, lr_58_0 C1.1, Option.bind_some, p1, tc, ex_bd, e_K_overF hp]
        · obtain ⟨s, t, X1, ⟨P1, Q1⟩, q0, bP, bQ⟩ := e_M_ap2 hV.1 h.1 hmn hM
          rw [hW] at P1 Q1
          have hN := hM.1.1
          have M1 := hM.ms X1
          have n1 := M1.1.1
          have p1 : s.2.1 92 0 = A.1 := M1.2.1.1
          obtain ⟨d', td, ed'⟩ := e_M_valueAt hp (q := 103) (by omega) M1.1 p1 Q1 ζ
          obtain ⟨c', tc, ec'⟩ := e_M_valueAt hp (q := 102) (by omega) M1.1 p1 P1 ζ
          have hd := ev_uniq hp ed' ed
          have hc := ev_uniq hp ec' ec
          subst hd
          subst hc
          refine ⟨s, ?_, X1⟩
          unfold mf_M_evaluate
          rw [ex_gd (by omega) (by omega), (e_M_isPair hM.1 hx hm hn).1 h, ex_bd, pw_ck_ok (by omega) (by omega), if_neg (by omega), e_M_prime hM.1, ex_bd, hM.2.1.1, e_M_in hz (by omega) (by omega), ex_bd, if_pos (by omega), pw_ck_ok (by omega) (by omega), if_neg (by omega), t, ex_bd, ex_gr (by omega) (by omega), lr_91_14 M1.1, Option.bind_some, td, ex_bd, pw_ck_ok (by omega) (by omega)]
          by_cases c0 : vv d' = 0
          · rw [if_pos c0, if_pos c0]
          · have r1 := vv_mm (p := A.1) (by omega) c' (fi d')
            rw [if_neg c0, if_neg c0, ex_gr (by omega) (by omega), lr_91_13 M1.1, Option.bind_some, tc, ex_bd, e_M_inv hp M1.1 p1 (fun q => c0 (vv_z.mpr q)), ex_bd, e_M_mod M1.1 p1 (by omega) (by omega) (by omega), ex_bd, ← vv_mul]
      · refine ⟨0, fun σ hC => ?_, fun σ hM => ?_⟩
        · exfalso
          obtain ⟨s, t, C1, H1, P1, Q1⟩ := e_W_ap hC hV.1 h.1 hmn
          rw [hW] at P1 Q1
          exact hfW ⟨⟨17, P1.1.2⟩, ⟨17, Q1.1.2⟩⟩
        · exfalso
          obtain ⟨s, t, X1, ⟨P1, Q1⟩, q0, bP, bQ⟩ := e_M_ap2 hV.1 h.1 hmn hM
          rw [hW] at P1 Q1
          exact hfW ⟨⟨18, P1.2⟩, ⟨18, Q1.2⟩⟩
    · left
      refine ⟨fun σ hC => ?_, fun σ hM => ?_⟩
      · have hN := hC.1.1
        unfold mf_W_evaluate mj_W_evaluate_18
        rw [ex_gd (by omega) (by omega), (e_W_isApp hx hm hn).1 h, ex_bd, pw_ck_ok (by omega) (by omega), if_neg (by omega), e_W_isElement hC.1 hC.2.2.1.1 (by omega) hz, ex_bd, if_neg h2, pw_ck_ok (by omega) (by omega), if_pos rfl]
      · have hN := hM.1.1
        unfold mf_M_evaluate mj_M_evaluate_25
        rw [ex_gd (by omega) (by omega), (e_M_isPair hM.1 hx hm hn).1 h, ex_bd, pw_ck_ok (by omega) (by omega), if_neg (by omega), e_M_prime hM.1, ex_bd, hM.2.1.1, e_M_in hz (by omega) (by omega), ex_bd, if_neg (by omega), pw_ck_ok (by omega) (by omega), if_pos rfl]
  · left
    refine ⟨fun σ hC => ?_, fun σ hM => ?_⟩
    · have hN := hC.1.1
      unfold mf_W_evaluate mj_W_evaluate_18
      rw [ex_gd (by omega) (by omega), (e_W_isApp hx hm hn).2 h, ex_bd, pw_ck_ok (by omega) (by omega), if_pos rfl]
    · have hN := hM.1.1
      unfold mf_M_evaluate mj_M_evaluate_25
      rw [ex_gd (by omega) (by omega), (e_M_isPair hM.1 hx hm hn).2 h, ex_bd, pw_ck_ok (by omega) (by omega), if_pos rfl]
/-! normalCount -/
noncomputable def nrG {p : Nat} [NeZero p] (f : PS (Fin p)) (s m : Nat) : Int := if bkV f (apW f m (s - m)).1 (apW f m (s - m)).2 = 0 then 1 else 0
noncomputable def nrC {p : Nat} [NeZero p] (f : PS (Fin p)) (s : Nat) : Int := sm (nrG f s) (s + 1)
theorem bk_rng {p : Nat} [NeZero p] (f P Q : PS (Fin p)) : -100 ≤ bkV f P Q ∧ bkV f P Q ≤ 100 := by
  have l1 := ln_le P 17
  have l2 := ln_le Q 17
  have l3 := (fd_sp (a := cv Q f) (b := P) (d := 16) (r := 0)).1
  unfold bkV
  by_cases c : pLn P 17 = 0
  · rw [if_pos c]; omega
  · rw [if_neg c]; omega
theorem e_M_normals {A : ASt} [NeZero A.1] (hV : VA A) {x : Int} (hx : 0 ≤ x ∧ x < 4) {s : Nat} (hs : s ≤ 15) {σ : pw_Sto} {T : Nat → Int} {len : Nat} {E : Nat → Int} {Hs : List ASt} (hM : MR σ A T len E Hs) : ∃ t, mf_M_normals 91 x s σ = some (nrC (srs A.1 (A.2.1 x.toNat)) s, t) ∧ Ms σ t := by
  have hp2 := isPb_le hV.1
  have s91 := sh_91
  have hN := hM.1.1
  generalize hf : srs A.1 (A.2.1 x.toNat) = f
  obtain ⟨n, ⟨c, t⟩, e1, h1, h2⟩ := lp_ex (S := Int × pw_Sto) (O := Int × pw_Sto) (fun n k q => ml_M_normals_5 n 91 x s q.1 k q.2) (fun j => (j : Int)) (s + 1) (fun k q => q.1 = sm (nrG f s) k ∧ Ms σ q.2)
    (by
      intro n k q hk hI
      obtain ⟨c, t⟩ := q
      obtain ⟨g1, g2⟩ := hI
      dsimp only at g1 g2
      have M1 := hM.ms g2
      have n1 := M1.1.1
      obtain ⟨t1, e1, X1, ⟨P1, Q1⟩, q0, bP, bQ⟩ := e_M_ap2 hV hx (m := k) (n := s - k) (by omega) M1
      rw [hf] at P1 Q1 q0 bP bQ
      have M2 := M1.ms X1
      have n2 := M2.1.1
      have l17 := ln_le (apW f k (s - k)).1 17
      have esm : sm (nrG f s) (k + 1) = sm (nrG f s) k + nrG f s k := rfl
      by_cases z : pLn (apW f k (s - k)).1 17 = 0
      · refine ⟨(c + 0, t1), ?_, ?_, g2.trans X1⟩
        · try dsimp only
          rw [us_M_normals_5]
          unfold mb_M_normals_5 mj_M_normals_45 mj_M_normals_46
          rw [pw_ck_ok (by omega) (by omega), if_neg (by omega), show (s : Int) - (k : Int) = ((s - k : Nat) : Int) by omega, e1, ex_bd, ex_gr (by omega) (by omega), lr_91_13 M2.1, Option.bind_some, e_M_degree (p := A.1) (by omega) M2.1 (by omega) (by omega) P1, ex_bd, ln_18 bP, z, pw_ck_ok (by omega) (by omega), if_pos (by omega)]
          rfl
        · dsimp only
          rw [g1, esm]
          unfold nrG bkV
          rw [if_pos z, if_neg (by omega)]
      · obtain ⟨t2, e2, X2, _⟩ := e_M_sizeOf hV hx M2 P1 Q1 q0 bP bQ z
        rw [hf] at e2
        have br := bk_rng f (apW f k (s - k)).1 (apW f k (s - k)).2
        refine ⟨(c + nrG f s k, t2), ?_, ?_, (g2.trans X1).trans X2⟩
        · try dsimp only
          rw [us_M_normals_5]
          unfold mb_M_normals_5 mj_M_normals_45 mj_M_normals_46 nrG
          rw [pw_ck_ok (by omega) (by omega), if_neg (by omega), show (s : Int) - (k : Int) = ((s - k : Nat) : Int) by omega, e1, ex_bd, ex_gr (by omega) (by omega), lr_91_13 M2.1, Option.bind_some, e_M_degree (p := A.1) (by omega) M2.1 (by omega) (by omega) P1, ex_bd, ln_18 bP, pw_ck_ok (by omega) (by omega), if_neg (by omega), e2, ex_bd, pw_ck_ok (by omega) (by omega)]
          by_cases b : bkV f (apW f k (s - k)).1 (apW f k (s - k)).2 = 0
          · rw [if_pos b, if_pos b]
            rfl
          · rw [if_neg b, if_neg b]
            rfl
        · dsimp only
          rw [g1, esm]) (s + 1) 0 1000 (0, σ) (by omega) (by omega) ⟨rfl, Ms.refl σ⟩
  dsimp only at h1 h2 e1
  refine ⟨t, ?_, h2⟩
  unfold mf_M_normals nrC
  rw [ex_gd (by omega) (by omega)]
  refine Eq.trans e1 ?_
  rw [us_M_normals_5]
  unfold mb_M_normals_5
  rw [pw_ck_ok (by omega) (by omega), if_pos (by omega), h1]
theorem op_normalCount {x s : Int} (hx : pw_R x) (hs : pw_R s) : OpOk (mf_W_normalCount 0 x s) (mf_M_normalCount 91 x s) := by
  apply op_ro
  intro A T len E Hs hV
  haveI := nz_of hV.1.1
  have hp := hV.1.1
  have hp2 := isPb_le hV.1.1
  have s0 := sh_0
  have s1 := sh_1
  have s91 := sh_91
  by_cases h : 0 ≤ x ∧ x < 4
  · by_cases h2 : 0 ≤ s ∧ s < 16
    · right
      obtain ⟨s, rfl⟩ : ∃ k : Nat, s = k := ⟨s.toNat, by omega⟩
      refine ⟨nrC (srs A.1 (A.2.1 x.toNat)) s, fun σ hC => ?_, fun σ hM => ?_⟩
      · have hN := hC.1.1
        generalize hf : srs A.1 (A.2.1 x.toNat) = f
        obtain ⟨n, ⟨c, t⟩, e1, h1, h2', h3⟩ := lp_ex (S := Int × pw_Sto) (O := Int × pw_Sto) (fun n k q => ml_W_normalCount_26 n 0 x s q.1 k q.2) (fun j => (j : Int)) (s + 1) (fun k q => q.1 = sm (nrG f s) k ∧ CR q.2 A T len E Hs ∧ Hi σ q.2)
          (by
            intro n k q hk hI
            obtain ⟨c, t⟩ := q
            obtain ⟨g1, g2, g3⟩ := hI
            dsimp only at g1 g2 g3
            have n1 := g2.1.1
            obtain ⟨t1, e1, C1, H1, P1, Q1⟩ := e_W_ap g2 hV.1 h (m := k) (n := s - k) (by omega)
            have ag := e_W_agr hV.1 h C1 P1 Q1
            have bk := e_R_block (f := srs A.1 (A.2.1 x.toNat)) C1.1 P1 Q1
            rw [hf] at ag bk
            have n2 := C1.1.1
            have p1 : t1.2.1 1 0 = A.1 := C1.2.2.1.1
            have br := bk_rng f (apW f k (s - k)).1 (apW f k (s - k)).2
            have esm : sm (nrG f s) (k + 1) = sm (nrG f s) k + nrG f s k := rfl
            refine ⟨(c + nrG f s k, t1), ?_, ?_, C1, g3.trans H1⟩
            · try dsimp only
              rw [us_W_normalCount_26]
              unfold mb_W_normalCount_26 nrG
              rw [pw_ck_ok (by omega) (by omega), if_neg (by omega), show (s : Int) - (k : Int) = ((s - k : Nat) : Int) by omega, e1, ex_bd]
              simp (disch := omega) only [ex_gr, ex_gi, lr_0_4 C1.1, lr_0_0 C1.1, lr_1_1 C1.1, e_ser C1.1, Option.bind_some, p1, ag, ex_bd, bk]
              rw [pw_ck_ok (by omega) (by omega)]
              by_cases b : bkV f (apW f k (s - k)).1 (apW f k (s - k)).2 = 0
              · rw [if_pos b, if_pos b]
                rfl
              · rw [if_neg b, if_neg b, Int.add_zero]
                rfl
            · dsimp only
              rw [g1, esm]) (s + 1) 0 1000 (0, σ) (by omega) (by omega) ⟨rfl, hC, Hi.refl σ⟩
        dsimp only at h1 h2' h3 e1
        refine ⟨t, ?_, h2', h3⟩
        unfold mf_W_normalCount nrC
        rw [ex_gd (by omega) (by omega), e_W_isSlot hx, ex_bd, if_pos h, pw_ck_ok (by omega) (by omega), if_neg (by omega), e_W_isTerm hs, ex_bd, if_pos h2, pw_ck_ok (by omega) (by omega), if_neg (by omega)]
        refine Eq.trans e1 ?_
        rw [us_W_normalCount_26]
        unfold mb_W_normalCount_26
        rw [pw_ck_ok (by omega) (by omega), if_pos (by omega), h1]
      · have hN := hM.1.1
        obtain ⟨t, e, X⟩ := e_M_normals hV.1 h (s := s) (by omega) hM
        refine ⟨t, ?_, X⟩
        unfold mf_M_normalCount
        rw [ex_gd (by omega) (by omega), e_M_isSlot hx, ex_bd, if_pos h, pw_ck_ok (by omega) (by omega), if_neg (by omega), e_M_in hs (by omega) (by omega), ex_bd, if_pos (by omega), pw_ck_ok (by omega) (by omega), if_neg (by omega), e, ex_bd]
    · left
      refine ⟨fun σ hC => ?_, fun σ hM => ?_⟩
      · have hN := hC.1.1
        unfold mf_W_normalCount mj_W_normalCount_14
        rw [ex_gd (by omega) (by omega), e_W_isSlot hx, ex_bd, if_pos h, pw_ck_ok (by omega) (by omega), if_neg (by omega), e_W_isTerm hs, ex_bd, if_neg h2, pw_ck_ok (by omega) (by omega), if_pos rfl]
      · have hN := hM.1.1
        unfold mf_M_normalCount mj_M_normalCount_26
        rw [ex_gd (by omega) (by omega), e_M_isSlot hx, ex_bd, if_pos h, pw_ck_ok (by omega) (by omega), if_neg (by omega), e_M_in hs (by omega) (by omega), ex_bd, if_neg (by omega), pw_ck_ok (by omega) (by omega), if_pos rfl]
  · left
    refine ⟨fun σ hC => ?_, fun σ hM => ?_⟩
    · have hN := hC.1.1
      unfold mf_W_normalCount mj_W_normalCount_14
      rw [ex_gd (by omega) (by omega), e_W_isSlot hx, ex_bd, if_neg h, pw_ck_ok (by omega) (by omega), if_pos rfl]
    · have hN := hM.1.1
      unfold mf_M_normalCount mj_M_normalCount_26
      rw [ex_gd (by omega) (by omega), e_M_isSlot hx, ex_bd, if_neg h, pw_ck_ok (by omega) (by omega), if_pos rfl]
end
