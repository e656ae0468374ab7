section
theorem e_M_interpolate {A : ASt} [NeZero A.1] (hV : VA A) {m : Nat} (hm : m < A.2.2.1) {σ : pw_Sto} {T : Nat → Int} {len : Nat} {E : Nat → Int} {Hs : List ASt} (hM : MR σ A T len E Hs) : ∃ s P Q, mf_M_interpolate 91 m σ = some ((), s) ∧ Ms σ s ∧ Pm s 102 P ∧ Pm s 103 Q ∧ pIpp (ptX A) (ptY A) A.2.2.1 m (P, Q) := by
  have hp := hV.1
  have hp2 := isPb_le hp
  have h10 := hV.2.2.1
  have s91 := sh_91
  have s101 := sh_101
  have s102 := sh_102
  have s103 := sh_103
  have hL := hM.1
  have hN := hL.1
  have hNp : σ.2.1 92 65 = A.2.2.1 := by
    have := hM.2.1.2.2.1
    rw [show 0 + 65 = 65 by omega] at this
    exact this
  obtain ⟨s1, t1, F1, Z1⟩ := e_M_clearMt (p := A.1) hL
  have M1 := hM.ms (Ms.fq F1 (by omega))
  obtain ⟨q2, s2, e2, F2, Z2⟩ := lp_ex (S := pw_Sto) (O := Unit × pw_Sto) (fun q k t => ml_M_interpolate_14 q 91 m A.2.2.1 k t) (fun j => (j : Int)) A.2.2.1 (fun k t => Fq s1 t 99 ∧ Mt t (fun r' c => if r' < k then ipX (ptX A) (ptY A) m A.2.2.1 r' c else 0))
    (by
      intro q k t hk hI
      obtain ⟨f1, g⟩ := hI
      obtain ⟨t', e, f2, g2⟩ := e_M_ipRow hV hm hk (M1.ms (Ms.fq f1 (by omega))) g (ml_M_interpolate_14 q)
      refine ⟨t', ?_, ⟨f2.1.trans f1.1, f2.2.1.trans f1.2.1, fun i hi => (f2.2.2 i hi).trans (f1.2.2 i hi)⟩, g2⟩
      try dsimp only
      rw [us_M_interpolate_14]
      unfold mb_M_interpolate_14
      rw [pw_ck_ok (by omega) (by omega), if_neg (by omega), e]
      rfl) A.2.2.1 0 1000 s1 (by omega) (by omega) ⟨⟨rfl, rfl, fun _ _ => rfl⟩, fun r' c h1 h2 => by
        try dsimp only
        rw [if_neg (by omega)]
        exact Z1 r' c h1 h2⟩
  have M2 := M1.ms (Ms.fq F2 (by omega))
  obtain ⟨s3, v, t3, F3, v3, nz, ker⟩ := e_M_findVector hp M2.1 M2.2.1.1 Z2 (rows := A.2.2.1) (cols := A.2.2.1 + 1) (by omega) (by omega)
  have X3 : Ms s2 s3 := ⟨F3.1, F3.2.1, fun i hi => F3.2.2 i (by omega) (by omega) (by omega)⟩
  have M3 := M2.ms X3
  have n3 := M3.1.1
  obtain ⟨s4, t4, F4, c4⟩ := e_M_clearP (p := A.1) M3.1 (q := 102) (by omega) (by omega)
  have M4 := M3.ms (Ms.fq F4 (by omega))
  have n4 := M4.1.1
  obtain ⟨s5, t5, F5, c5⟩ := e_M_clearP (p := A.1) M4.1 (q := 103) (by omega) (by omega)
  have M5 := M4.ms (Ms.fq F5 (by omega))
  have n5 := M5.1.1
  have v5 : ∀ c, c < A.2.2.1 + 1 → s5.2.1 101 c = vv (v c) := fun c hc => by rw [F5.2.2 101 (by omega), F4.2.2 101 (by omega)]; exact v3 c hc
  obtain ⟨q6, s6, e6, F6, U6, W6⟩ := lp_ex (S := pw_Sto) (O := Unit × pw_Sto) (fun q k t => ml_M_interpolate_148 q 91 m A.2.2.1 k t) (fun j => (j : Int)) (A.2.2.1 + 1) (fun i t => (t.1 = s5.1 ∧ t.2.2 = s5.2.2 ∧ ∀ a, a ≠ 102 → a ≠ 103 → t.2.1 a = s5.2.1 a) ∧ (∀ j, j < 18 → t.2.1 102 j = vv (if j ≤ m ∧ j < i then v j else 0)) ∧ ∀ j, j < 18 → t.2.1 103 j = vv (if j + m + 1 < i then v (m + 1 + j) else 0))
    (by
      intro q k t hk hI
      obtain ⟨f1, g1, g2⟩ := hI
      have L1 : Lay t := ⟨f1.1.trans n5, fun q hq => by rw [f1.2.1]; exact M5.1.2 q hq⟩
      have n1 := L1.1
      have e1 : t.2.1 101 k = vv (v k) := by rw [f1.2.2 101 (by omega) (by omega)]; exact v5 k hk
      by_cases c : m < k
      · refine ⟨pw_st t 103 (fun j => if j = k - m - 1 then vv (v k) else t.2.1 103 j), ?_, ⟨f1.1, f1.2.1, fun a a1 a2 => by rw [st_ne a2]; exact f1.2.2 a a1 a2⟩, fun j hj => ?_, fun j hj => ?_⟩
        · try dsimp only
          rw [us_M_interpolate_148]
          unfold mb_M_interpolate_148
          rw [pw_ck_ok (by omega) (by omega), if_neg (by omega), pw_ck_ok (by omega) (by omega), if_pos (by omega), ex_gr (by omega) (by omega), lr_91_14 L1, Option.bind_some, ex_gr (by omega) (by omega), lr_91_12 L1, Option.bind_some, ex_ai (by omega) (by omega) (by omega) (by omega), Option.bind_some, Int.toNat_natCast, e1, xs_si (by omega) (by omega) (by omega) (by omega), Option.bind_some, show ((k : Int) - (m : Int) - 1).toNat = k - m - 1 by omega]
          rfl
        · rw [st_ne (by omega), g1 j hj]
          by_cases e : j ≤ m ∧ j < k
          · rw [if_pos e, if_pos (by omega)]
          · rw [if_neg e, if_neg (by omega)]
        · rw [st_eq]
          by_cases e : j = k - m - 1
          · rw [if_pos e, if_pos (by omega), show m + 1 + j = k by omega]
          · rw [if_neg e, g2 j hj]
            by_cases e2 : j + m + 1 < k
            · rw [if_pos e2, if_pos (by omega)]
            · rw [if_neg e2, if_neg (by omega)]
      · refine ⟨pw_st t 102 (fun j => if j = k then vv (v k) else t.2.1 102 j), ?_, ⟨f1.1, f1.2.1, fun a a1 a2 => by rw [st_ne a1]; exact f1.2.2 a a1 a2⟩, fun j hj => ?_, fun j hj => ?_⟩
        · try dsimp only
          rw [us_M_interpolate_148]
          unfold mb_M_interpolate_148
          rw [pw_ck_ok (by omega) (by omega), if_neg (by omega), pw_ck_ok (by omega) (by omega), if_neg (by omega), ex_gr (by omega) (by omega), lr_91_13 L1, Option.bind_some, ex_gr (by omega) (by omega), lr_91_12 L1, Option.bind_some, ex_ai (by omega) (by omega) (by omega) (by omega), Option.bind_some, Int.toNat_natCast, e1, xs_si (by omega) (by omega) (by omega) (by omega), Option.bind_some, Int.toNat_natCast]
          rfl
        · rw [st_eq]
          by_cases e : j = k
          · rw [if_pos e, if_pos (by omega), e]
          · rw [if_neg e, g1 j hj]
            by_cases e2 : j ≤ m ∧ j < k
            · rw [if_pos e2, if_pos (by omega)]
            · rw [if_neg e2, if_neg (by omega)]
        · rw [st_ne (by omega), g2 j hj]
          by_cases e2 : j + m + 1 < k
          · rw [if_pos e2, if_pos (by omega)]
          · rw [if_neg e2, if_neg (by omega)]) (A.2.2.1 + 1) 0 1000 s5 (by omega) (by omega) ⟨⟨rfl, rfl, fun _ _ _ => rfl⟩, fun j hj => by rw [if_neg (by omega), F5.2.2 102 (by omega), c4.1 j hj, cc_0], fun j hj => by rw [if_neg (by omega), c5.1 j hj, cc_0]⟩
  have X6 : Ms s5 s6 := ⟨F6.1, F6.2.1, fun i hi => F6.2.2 i (by omega) (by omega)⟩
  have M6 := M5.ms X6
  have P6 : Pm s6 102 (ipP v m) := by
    refine ⟨fun k hk => ?_, fun k hk => if_neg (by omega)⟩
    rw [U6 k hk]
    unfold ipP
    by_cases c : k ≤ m
    · rw [if_pos c, if_pos (by omega)]
    · rw [if_neg c, if_neg (by omega)]
  have Q6 : Pm s6 103 (ipQ v m A.2.2.1) := by
    refine ⟨fun k hk => ?_, fun k hk => if_neg (by omega)⟩
    rw [W6 k hk]
    unfold ipQ
    by_cases c : k + m + 1 ≤ A.2.2.1
    · rw [if_pos c, if_pos (by omega)]
    · rw [if_neg c, if_neg (by omega)]
  have ker' : ∀ r, r < A.2.2.1 → rS (ipX (ptX A) (ptY A) m A.2.2.1) v (A.2.2.1 + 1) r = 0 := fun r hr => by
    rw [← ker r hr]
    unfold rS
    refine sm_congr (fun i _ => ?_)
    try dsimp only
    rw [if_pos hr]
  have ev := fun r hr => ip_row hm (ker' r hr)
  have zQ : pNz (ipQ v m A.2.2.1) := p_nz (fun hz => by
    have hP0 : ipP v m = cc 0 := roots_zero hp (N := A.2.2.1) (xs := ptX A) (fun i j hi hj h => ptX_inj hV hi hj h) (fun i hi => by
      obtain ⟨d, d1, d2⟩ := ev i hi
      rw [hz] at d1
      have := ev_uniq hp d1 (ev_cc (ptX A i) 0)
      rw [this] at d2
      have e0 : ptY A i * 0 = 0 := by grind
      rw [e0] at d2
      exact d2) (fun k hk => if_neg (by omega))
    obtain ⟨c, hc, hv⟩ := nz
    by_cases cm : c ≤ m
    · have := congrFun hP0 c
      rw [cc_0] at this
      exact hv (by rw [← this]; exact (if_pos cm).symm)
    · have := congrFun hz (c - m - 1)
      rw [cc_0] at this
      refine hv ?_
      rw [← this]
      unfold ipQ
      rw [if_pos (by omega), show m + 1 + (c - m - 1) = c by omega])
  obtain ⟨s8, P, Q, t8, F8, a102, a103, LT⟩ := e_M_toLowest hp M6.1 M6.2.1.1 P6 Q6 zQ
  refine ⟨s8, P, Q, ?_, ((((((Ms.fq F1 (by omega)).trans (Ms.fq F2 (by omega))).trans X3).trans (Ms.fq F4 (by omega))).trans (Ms.fq F5 (by omega))).trans X6).trans (Ms.fx F8), a102, a103, _, _, ⟨fun k hk => if_neg (by omega), fun k hk => if_neg (by omega), zQ, ev⟩, LT⟩
  unfold mf_M_interpolate
  rw [ex_gd (by omega) (by omega), e_M_points hL, ex_bd, hNp, ex_gr (by omega) (by omega), lr_91_10 hL, Option.bind_some, t1, ex_bd]
  refine Eq.trans e2 ?_
  try dsimp only
  rw [us_M_interpolate_14]
  unfold mb_M_interpolate_14
  rw [pw_ck_ok (by omega) (by omega), if_pos (by omega), show (A.2.2.1 : Int) + 1 = ((A.2.2.1 + 1 : Nat) : Int) by omega, t3, ex_bd, ex_gr (by omega) (by omega), lr_91_13 M3.1, Option.bind_some, t4, ex_bd, ex_gr (by omega) (by omega), lr_91_14 M4.1, Option.bind_some, t5, ex_bd]
  refine Eq.trans e6 ?_
  try dsimp only
  rw [us_M_interpolate_148]
  unfold mb_M_interpolate_148
  rw [pw_ck_ok (by omega) (by omega), if_pos (by omega), t8, ex_bd]
noncomputable def ipW {p : Nat} [NeZero p] (xs ys : Nat → Fin p) (N m : Nat) : PS (Fin p) × PS (Fin p) := @Classical.epsilon _ ⟨(cc 0, cc 0)⟩ (fun W => pIpp xs ys N m W)
theorem ip_is {A : ASt} [NeZero A.1] (hV : VA A) {m : Nat} (hm : m < A.2.2.1) {W : PS (Fin A.1) × PS (Fin A.1)} (h : pIpp (ptX A) (ptY A) A.2.2.1 m W) : W = ipW (ptX A) (ptY A) A.2.2.1 m := ipp_uniq hV.1 (fun i j hi hj h => ptX_inj hV hi hj h) hm h (Classical.epsilon_spec (p := fun W => pIpp (ptX A) (ptY A) A.2.2.1 m W) ⟨W, h⟩)
theorem ipp_bd {A : ASt} [NeZero A.1] (hV : VA A) {m : Nat} (hm : m < A.2.2.1) {W : PS (Fin A.1) × PS (Fin A.1)} (h : pIpp (ptX A) (ptY A) A.2.2.1 m W) : pBd W.1 17 ∧ pBd W.2 17 := by
  have h10 := hV.2.2.1
  obtain ⟨P0, Q0, a, b⟩ := h
  have := lt_bd hV.1 b a.1 a.2.1 a.2.2.1
  exact ⟨this.1.mono (by omega), this.2.mono (by omega)⟩
theorem e_W_ip {A : ASt} [NeZero A.1] {σ : pw_Sto} {T : Nat → Int} {len : Nat} {E : Nat → Int} {Hs : List ASt} (hC : CR σ A T len E Hs) (hV : VA A) {m : Nat} (hm : m < A.2.2.1) : ∃ s, mf_W_interpolate 0 m σ = some ((), s) ∧ CR s A T len E Hs ∧ Hi σ s ∧ Pc s 59 (ipW (ptX A) (ptY A) A.2.2.1 m).1 ∧ Pc s 61 (ipW (ptX A) (ptY A) A.2.2.1 m).2 := by
  obtain ⟨s, P, Q, t, h1, h2, h3, h4, h5⟩ := e_W_interpolate hC hV hm
  have e := ip_is hV hm h5
  rw [← e]
  exact ⟨s, t, h1, h2, h3, h4⟩
theorem e_M_ip {A : ASt} [NeZero A.1] (hV : VA A) {m : Nat} (hm : m < A.2.2.1) {σ : pw_Sto} {T : Nat → Int} {len : Nat} {E : Nat → Int} {Hs : List ASt} (hM : MR σ A T len E Hs) : ∃ s, mf_M_interpolate 91 m σ = some ((), s) ∧ Ms σ s ∧ Pm s 102 (ipW (ptX A) (ptY A) A.2.2.1 m).1 ∧ Pm s 103 (ipW (ptX A) (ptY A) A.2.2.1 m).2 ∧ pBd (ipW (ptX A) (ptY A) A.2.2.1 m).1 17 ∧ pBd (ipW (ptX A) (ptY A) A.2.2.1 m).2 17 := by
  obtain ⟨s, P, Q, t, h1, h2, h3, h4⟩ := e_M_interpolate hV hm hM
  have e := ip_is hV hm h4
  have hb := ipp_bd hV hm h4
  rw [← e]
  exact ⟨s, t, h1, h2, h3, hb.1, hb.2⟩
/-! missed points -/
def evF {p : Nat} [NeZero p] (a : PS (Fin p)) (x : Fin p) : Fin p := pHs a x 18 18
def msG {p : Nat} [NeZero p] (xs ys : Nat → Fin p) (W : PS (Fin p) × PS (Fin p)) (i : Nat) : Int := if evF W.2 (xs i) = 0 ∨ evF W.1 (xs i) ≠ evF W.2 (xs i) * ys i then 1 else 0
def msC {p : Nat} [NeZero p] (xs ys : Nat → Fin p) (N : Nat) (W : PS (Fin p) × PS (Fin p)) : Int := sm (msG xs ys W) N
theorem e_W_missed {A : ASt} [NeZero A.1] (hV : VA A) {σ : pw_Sto} {T : Nat → Int} {len : Nat} {E : Nat → Int} {Hs : List ASt} (hC : CR σ A T len E Hs) {P Q : PS (Fin A.1)} (hP : Pc σ 59 P) (hQ : Pc σ 61 Q) : mf_W_missedPoints 0 σ = some (msC (ptX A) (ptY A) A.2.2.1 (P, Q), σ) := by
  have hp := hV.1
  have hp2 := isPb_le hp
  have h10 := hV.2.2.1
  have hL := hC.1
  have hN := hL.1
  have hS := hC.2.2.1
  have s0 := sh_0
  have s1 := sh_1
  have s7 := sh_7
  have s8 := sh_8
  have s58 := sh_58
  obtain ⟨q, c, e1, hc⟩ := lp_ex (S := Int) (O := Int × pw_Sto) (fun q k z => ml_W_missedPoints_4 q 0 z k σ) (fun i => (i : Int)) A.2.2.1 (fun i z => z = sm (msG (ptX A) (ptY A) (P, Q)) i)
    (by
      intro q i z hi hI
      have a2 : σ.2.1 7 i = vv (ptX A i) := by rw [ptX_vv hV hi]; exact (hS.2.2.2 i hi).1
      have a3 : σ.2.1 8 i = vv (ptY A i) := by rw [ptY_vv hV hi]; exact (hS.2.2.2 i hi).2
      obtain ⟨d, td, ed⟩ := e_P_valueAt (p := A.1) (by omega) (PO.of hL (o := 61) (by omega)) hQ (ptX A i)
      obtain ⟨c, tc, ec⟩ := e_P_valueAt (p := A.1) (by omega) (PO.of hL (o := 59) (by omega)) hP (ptX A i)
      have hd : d = evF Q (ptX A i) := ev_uniq hp ed (ev_hs _ (hQ.1.2.mono (by omega)))
      have hc : c = evF P (ptX A i) := ev_uniq hp ec (ev_hs _ (hP.1.2.mono (by omega)))
      have rd := vv_rng d
      have rc := vv_rng c
      have rm := vv_mm (p := A.1) (by omega) d (ptY A i)
      have rdy := vv_rng (d * ptY A i)
      have esm : sm (msG (ptX A) (ptY A) (P, Q)) (i + 1) = sm (msG (ptX A) (ptY A) (P, Q)) i + msG (ptX A) (ptY A) (P, Q) i := rfl
      have eg : msG (ptX A) (ptY A) (P, Q) i = if d = 0 ∨ c ≠ d * ptY A i then 1 else 0 := by
        unfold msG
        rw [hd, hc]
      have pas : mf_R_passes 58 (vv (ptX A i)) (vv (ptY A i)) A.1 σ = some (if d = 0 ∨ c ≠ d * ptY A i then 0 else 1, σ) := by
        unfold mf_R_passes
        rw [ex_gd (by omega) (by omega), ex_gr (by omega) (by omega), lr_58_1 hL, Option.bind_some, td, ex_bd, pw_ck_ok (by omega) (by omega)]
        by_cases d0 : d = 0
        · rw [if_pos (vv_z.mpr d0), if_pos (Or.inl d0)]
        · rw [if_neg (fun q => d0 (vv_z.mp q)), e_K_times (by omega) (by omega) (by omega) (by omega), ex_bd, ← vv_mul, ex_gr (by omega) (by omega), lr_58_0 hL, Option.bind_some, tc, ex_bd, pw_ck_ok (by omega) (by omega)]
          by_cases c0 : c = d * ptY A i
          · rw [if_pos (by rw [c0]), if_neg (by rintro (q | q); exact d0 q; exact q c0)]
          · rw [if_neg (fun q => c0 (vv_inj q).symm), if_pos (Or.inr c0)]
      refine ⟨z + msG (ptX A) (ptY A) (P, Q) i, ?_, by rw [hI, esm]⟩
      try dsimp only
      rw [us_W_missedPoints_4]
      unfold mb_W_missedPoints_4
      simp (disch := omega) only [ex_gr, ex_gi, lr_0_0 hL, Option.bind_some, hS.2.2.1]
      rw [pw_ck_ok (by omega) (by omega), if_neg (by omega), pw_ck_ok (by omega) (by omega), if_neg (by omega)]
      simp (disch := omega) only [ex_gr, ex_gi, lr_0_0 hL, lr_0_4 hL, lr_1_3 hL, lr_1_4 hL, Option.bind_some, hS.1]
      rw [ex_ai (by omega) (by omega) (by omega) (by omega), Option.bind_some, Int.toNat_natCast, a2, ex_ai (by omega) (by omega) (by omega) (by omega), Option.bind_some, Int.toNat_natCast, a3, pas, ex_bd, eg]
      by_cases cc1 : d = 0 ∨ c ≠ d * ptY A i
      · rw [if_pos cc1, if_pos cc1, pw_ck_ok (by omega) (by omega), if_pos rfl]
        rfl
      · rw [if_neg cc1, if_neg cc1, pw_ck_ok (by omega) (by omega), if_neg (by omega), Int.add_zero]
        rfl) A.2.2.1 0 1000 0 (by omega) (by omega) rfl
  unfold mf_W_missedPoints msC
  rw [ex_gd (by omega) (by omega)]
  refine Eq.trans e1 ?_
  try dsimp only
  rw [us_W_missedPoints_4]
  unfold mb_W_missedPoints_4
  simp (disch := omega) only [ex_gr, ex_gi, lr_0_0 hL, Option.bind_some, hS.2.2.1]
  rw [pw_ck_ok (by omega) (by omega), if_pos (by omega), hc]
theorem e_M_missed {A : ASt} [NeZero A.1] (hV : VA A) {m : Nat} (hm : m < A.2.2.1) {σ : pw_Sto} {T : Nat → Int} {len : Nat} {E : Nat → Int} {Hs : List ASt} (hM : MR σ A T len E Hs) : ∃ s, mf_M_missed 91 m σ = some (msC (ptX A) (ptY A) A.2.2.1 (ipW (ptX A) (ptY A) A.2.2.1 m), s) ∧ Ms σ s := by
  have hp := hV.1
  have hp2 := isPb_le hp
  have h10 := hV.2.2.1
  have hN := hM.1.1
  have s91 := sh_91
  have s92 := sh_92
  obtain ⟨s, t, X, hP, hQ, bP, bQ⟩ := e_M_ip hV hm hM
  have M1 := hM.ms X
  have n1 := M1.1.1
  have hNp : s.2.1 92 65 = A.2.2.1 := by
    have := M1.2.1.2.2.1
    rw [show 0 + 65 = 65 by omega] at this
    exact this
  generalize ipW (ptX A) (ptY A) A.2.2.1 m = W at *
  obtain ⟨q, c, e1, hc⟩ := lp_ex (S := Int) (O := Int × pw_Sto) (fun q k z => ml_M_missed_9 q 91 z k s) (fun i => (i : Int)) A.2.2.1 (fun i z => z = sm (msG (ptX A) (ptY A) W) i)
    (by
      intro q i z hi hI
      have a2 : s.2.1 92 (66 + i) = vv (ptX A i) := by
        rw [ptX_vv hV hi]
        have := (M1.2.1.2.2.2 i hi).1
        rw [show 0 + 66 + i = 66 + i by omega] at this
        exact this
      have a3 : s.2.1 92 (76 + i) = vv (ptY A i) := by
        rw [ptY_vv hV hi]
        have := (M1.2.1.2.2.2 i hi).2
        rw [show 0 + 76 + i = 76 + i by omega] at this
        exact this
      obtain ⟨d, td, ed⟩ := e_M_valueAt hp (q := 103) (by omega) M1.1 M1.2.1.1 hQ (ptX A i)
      obtain ⟨c, tc, ec⟩ := e_M_valueAt hp (q := 102) (by omega) M1.1 M1.2.1.1 hP (ptX A i)
      have hd : d = evF W.2 (ptX A i) := ev_uniq hp ed (ev_hs _ hQ.2)
      have hc : c = evF W.1 (ptX A i) := ev_uniq hp ec (ev_hs _ hP.2)
      have rd := vv_rng d
      have rc := vv_rng c
      have rm := vv_mm (p := A.1) (by omega) d (ptY A i)
      have rdy := vv_rng (d * ptY A i)
      have esm : sm (msG (ptX A) (ptY A) W) (i + 1) = sm (msG (ptX A) (ptY A) W) i + msG (ptX A) (ptY A) W i := rfl
      have eg : msG (ptX A) (ptY A) W i = if d = 0 ∨ c ≠ d * ptY A i then 1 else 0 := by
        unfold msG
        rw [hd, hc]
      refine ⟨z + msG (ptX A) (ptY A) W i, ?_, by rw [hI, esm]⟩
      try dsimp only
      rw [us_M_missed_9]
      unfold mb_M_missed_9 mj_M_missed_78 mj_M_missed_83
      rw [e_M_points M1.1, ex_bd, hNp, pw_ck_ok (by omega) (by omega), if_neg (by omega), ex_gr (by omega) (by omega), lr_91_14 M1.1, Option.bind_some, ex_gr (by omega) (by omega), lr_91_0 M1.1]
      simp only [Option.bind_some]
      rw [ex_ai (by omega) (by omega) (by omega) (by omega), Option.bind_some, show ((66 : Int) + (i : Int)).toNat = 66 + i by omega, a2, td, ex_bd, pw_ck_ok (by omega) (by omega), eg]
      by_cases d0 : d = 0
      · rw [if_pos (vv_z.mpr d0), if_pos (Or.inl d0)]
        rfl
      · rw [if_neg (fun q => d0 (vv_z.mp q)), ex_gr (by omega) (by omega), lr_91_13 M1.1, Option.bind_some, ex_gr (by omega) (by omega), lr_91_0 M1.1]
        simp only [Option.bind_some]
        rw [ex_ai (by omega) (by omega) (by omega) (by omega), Option.bind_some, show ((66 : Int) + (i : Int)).toNat = 66 + i by omega, a2, tc, ex_bd, ex_gr (by omega) (by omega), lr_91_0 M1.1, Option.bind_some, ex_ai (by omega) (by omega) (by omega) (by omega), Option.bind_some, show ((76 : Int) + (i : Int)).toNat = 76 + i by omega, a3, e_M_mod M1.1 M1.2.1.1 (by omega) (by omega) (by omega), ex_bd, ← vv_mul, pw_ck_ok (by omega) (by omega)]
        by_cases c0 : c = d * ptY A i
        · rw [if_pos (by rw [c0]), if_neg (by rintro (q | q); exact d0 q; exact q c0)]
          rfl
        · rw [if_neg (fun q => c0 (vv_inj q)), if_pos (Or.inr c0)]
          rfl) A.2.2.1 0 1000 0 (by omega) (by omega) rfl
  refine ⟨s, ?_, X⟩
  unfold mf_M_missed msC
  rw [ex_gd (by omega) (by omega), t, ex_bd]
  refine Eq.trans e1 ?_
  try dsimp only
  rw [us_M_missed_9]
  unfold mb_M_missed_9
  rw [e_M_points M1.1, ex_bd, hNp, pw_ck_ok (by omega) (by omega), if_pos (by omega), hc]
end
