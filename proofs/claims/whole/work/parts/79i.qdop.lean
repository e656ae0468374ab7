section
theorem e_M_findScheme {A : ASt} (hV : VA A) {x : Int} (hx : 0 ≤ x ∧ x < 4) {σ : pw_Sto} {T : Nat → Int} {len : Nat} {E : Nat → Int} {Hs : List ASt} (hM : MR σ A T len E Hs) : ∃ t, mf_M_findScheme 91 x σ = some ((), t) ∧ Fm2 σ t ∧ QT t A.1 (A.2.1 x.toNat) 9 ∧ ET t A.1 (A.2.1 x.toNat) 9 := by
  have hp := hV.1
  have hp2 := isPb_le hp
  have s91 := sh_91
  have s107 := sh_107
  have s108 := sh_108
  have hN := hM.1.1
  have ra : ∀ k, k < 16 → 0 ≤ A.2.1 x.toNat k ∧ A.2.1 x.toNat k < A.1 := fun k hk => hV.2.1 x.toNat k (by omega) hk
  have tm : ∀ (t : pw_Sto) (k : Nat), MR t A T len E Hs → k < 16 → mf_M_term 91 x (k : Nat) t = some (A.2.1 x.toNat k, t) := fun t k hMt hk => by
    rw [e_M_term hMt.1 hMt.2.1 hx.1 hx.2 (by omega) (by omega), Int.toNat_natCast]
  generalize A.2.1 x.toNat = a at *
  obtain ⟨q, s1, e1, f1, g1, g2⟩ := lp_ex (S := pw_Sto) (O := Unit × pw_Sto) (fun q k t => ml_M_findScheme_2 q 91 x k t) (fun i => (i : Int)) 16 (fun i t => Fm2 σ t ∧ (∀ c, c < i → t.2.1 108 c = 0) ∧ ∀ c, c < i → t.2.1 107 (17 + c) = qc1 A.1 a c)
    (by
      intro q k t hk hI
      obtain ⟨f1, g1, g2⟩ := hI
      have M1 := hM.ms (Ms.fm2 f1)
      have n1 := M1.1.1
      have t2 : pw_si 108 ((17 : Int) * 0 + (k : Int)) (0 : Int) t = some (pw_st t 108 (fun c => if c = k then 0 else t.2.1 108 c)) := by
        have := xs_si (a := 108) (i := (17 : Int) * 0 + (k : Int)) (v := 0) (σ := t) (by omega) (by omega) (by omega) (by omega)
        rw [show ((17 : Int) * 0 + (k : Int)).toNat = k by omega] at this
        exact this
      have X2 : Fm2 t (pw_st t 108 (fun c => if c = k then 0 else t.2.1 108 c)) := ⟨rfl, rfl, fun i i1 i2 => st_ne i2⟩
      have u1 : ∀ c, (pw_st t 108 (fun c => if c = k then 0 else t.2.1 108 c)).2.1 108 c = if c = k then 0 else t.2.1 108 c := fun c => by rw [st_eq]
      have u2 : (pw_st t 108 (fun c => if c = k then 0 else t.2.1 108 c)).2.1 107 = t.2.1 107 := st_ne (by omega)
      generalize pw_st t 108 (fun c => if c = k then 0 else t.2.1 108 c) = u at *
      have Mu := M1.ms (Ms.fm2 X2)
      have nu := Mu.1.1
      refine ⟨pw_st u 107 (fun c => if c = 17 + k then qc1 A.1 a k else u.2.1 107 c), ?_, (f1.trans X2).trans ⟨rfl, rfl, fun i i1 i2 => st_ne i1⟩, fun c hc => ?_, fun c hc => ?_⟩
      · have nt : ((17 : Int) * 1 + (k : Int)).toNat = 17 + k := by omega
        have no : mj_M_findScheme_39 (ml_M_findScheme_2 q) 91 x (k : Int) 0 u = ml_M_findScheme_2 q 91 x ((k + 1 : Nat) : Int) (pw_st u 107 (fun c => if c = 17 + k then -1 else u.2.1 107 c)) := by
          unfold mj_M_findScheme_39 mf_M_cell
          rw [ex_gr (by omega) (by omega), lr_91_18 Mu.1, Option.bind_some, ex_bd, pw_ck_ok (by omega) (by omega), if_pos rfl, xs_si (by omega) (by omega) (by omega) (by omega), Option.bind_some, nt]
          rfl
        try dsimp only
        rw [us_M_findScheme_2]
        unfold mb_M_findScheme_2 mj_M_findScheme_38
        rw [pw_ck_ok (by omega) (by omega), if_neg (by omega), ex_gr (by omega) (by omega), lr_91_19 M1.1, Option.bind_some]
        unfold mf_M_cell
        rw [ex_bd, t2, Option.bind_some, pw_ck_ok (by omega) (by omega)]
        unfold qc1
        by_cases c1 : k < 15
        · have q2 := ra k (by omega)
          have q1 := ra (k + 1) (by omega)
          rw [if_neg (by omega), if_pos c1, tm u k Mu (by omega), ex_bd, pw_ck_ok (by omega) (by omega)]
          by_cases c2 : a k = 0
          · rw [if_pos c2, if_pos c2, no]
          · have m3 := iv_lt (a := (a k).toNat) hp
            have m4 := imul250 (a := a (k + 1)) (b := ((iv A.1 (a k).toNat : Nat) : Int)) (by omega) (by omega) (by omega) (by omega)
            have tk1 := tm u (k + 1) Mu (by omega)
            rw [if_neg c2, if_neg c2]
            unfold mj_M_findScheme_39 mf_M_cell
            rw [ex_gr (by omega) (by omega), lr_91_18 Mu.1, Option.bind_some, ex_bd, pw_ck_ok (by omega) (by omega), if_neg (by omega), show (k : Int) + 1 = ((k + 1 : Nat) : Int) by omega, tk1, ex_bd, tm u k Mu (by omega), ex_bd, e_M_invI hp Mu.1 Mu.2.1.1 (by omega) q2.2, ex_bd, e_M_mod Mu.1 Mu.2.1.1 (by omega) (by omega) (by omega), ex_bd, xs_si (by omega) (by omega) (by omega) (by omega), Option.bind_some, nt]
        · rw [if_pos (by omega), if_neg c1, no]
      · rw [st_ne (by omega), u1]
        by_cases c1 : c = k
        · rw [if_pos c1]
        · rw [if_neg c1]; exact g1 c (by omega)
      · rw [st_eq]
        by_cases c1 : c = k
        · rw [if_pos (by omega), c1]
        · rw [if_neg (by omega), u2]; exact g2 c (by omega)) 16 0 1000 σ (by omega) (by omega) ⟨⟨rfl, rfl, fun _ _ _ => rfl⟩, fun c hc => by omega, fun c hc => by omega⟩
  have M1 := hM.ms (Ms.fm2 f1)
  have hQ1 : QT s1 A.1 a 1 := fun j' k h1 h2 h3 => by
    have : j' = 1 := by omega
    subst this
    exact g2 k (by omega)
  have hE1 : ET s1 A.1 a 1 := fun j' k h1 h2 => by
    have : j' = 0 := by omega
    subst this
    rw [show 17 * 0 + k = k by omega]
    exact g1 k (by omega)
  obtain ⟨q', s2, e2, f2, hQ2, hE2⟩ := lp_ex (S := pw_Sto) (O := Unit × pw_Sto) (fun q k t => ml_M_findScheme_89 q 91 k t) (fun i => (i : Int) + 1) 8 (fun i t => Fm2 s1 t ∧ QT t A.1 a (i + 1) ∧ ET t A.1 a (i + 1))
    (by
      intro q i t hi hI
      obtain ⟨f2, hQ, hE⟩ := hI
      have Mt' := M1.ms (Ms.fm2 f2)
      obtain ⟨u, e3, f3, hQ3, hE3⟩ := e_M_schE hV (j := i + 1) (by omega) (by omega) Mt' hQ hE (ml_M_findScheme_89 q)
      obtain ⟨w, e4, f4, hQ4, hE4⟩ := e_M_schQ hV (j := i + 1) (by omega) (by omega) (Mt'.ms (Ms.fm2 f3)) hQ3 hE3 (ml_M_findScheme_89 q)
      refine ⟨w, ?_, (f2.trans f3).trans f4, hQ4, hE4⟩
      try dsimp only
      rw [us_M_findScheme_89]
      unfold mb_M_findScheme_89
      rw [pw_ck_ok (by omega) (by omega), if_neg (by omega), show (i : Int) + 1 = ((i + 1 : Nat) : Int) by omega, e3, e4]) 8 0 1000 s1 (by omega) (by omega) ⟨⟨rfl, rfl, fun _ _ _ => rfl⟩, hQ1, hE1⟩
  refine ⟨s2, ?_, f1.trans f2, hQ2, hE2⟩
  unfold mf_M_findScheme
  rw [ex_gd (by omega) (by omega)]
  refine Eq.trans e1 ?_
  try dsimp only
  rw [us_M_findScheme_2]
  unfold mb_M_findScheme_2
  rw [pw_ck_ok (by omega) (by omega), if_pos (by omega), show (1 : Int) = ((0 : Nat) : Int) + 1 by omega]
  refine Eq.trans e2 ?_
  try dsimp only
  rw [us_M_findScheme_89]
  unfold mb_M_findScheme_89
  rw [pw_ck_ok (by omega) (by omega), if_pos (by omega)]
def qpC (c j k : Int) : Prop := (0 ≤ c ∧ c ≤ 1) ∧ (1 ≤ j ∧ j ≤ 8) ∧ 0 ≤ k ∧ k ≤ 16 - 2 * j - c
theorem e_W_isScheme {c j k : Int} {σ : pw_Sto} (hc : pw_R c) (hj : pw_R j) (hk : pw_R k) : (qpC c j k → mf_W_isSchemePlace c j k σ = some (1, σ)) ∧ (¬ qpC c j k → mf_W_isSchemePlace c j k σ = some (0, σ)) := by
  unfold qpC
  constructor
  · intro h
    unfold mf_W_isSchemePlace
    rw [pw_ck_ok hc (by omega), if_neg (by omega), pw_ck_ok hc (by omega), if_neg (by omega), pw_ck_ok hj (by omega), if_neg (by omega), pw_ck_ok hj (by omega), if_neg (by omega), pw_ck_ok hk (by omega), if_pos (by omega), pw_ck_ok hk (by omega), if_neg (by omega)]
  · intro h
    unfold mf_W_isSchemePlace
    rw [pw_ck_ok hc (by omega)]
    by_cases c1 : c < 0
    · rw [if_pos c1]
    · rw [if_neg c1, pw_ck_ok hc (by omega)]
      by_cases c2 : 1 < c
      · rw [if_pos c2]
      · rw [if_neg c2, pw_ck_ok hj (by omega)]
        by_cases c3 : j < 1
        · rw [if_pos c3]
        · rw [if_neg c3, pw_ck_ok hj (by omega)]
          by_cases c4 : 8 < j
          · rw [if_pos c4]
          · rw [if_neg c4, pw_ck_ok hk (by omega)]
            by_cases c5 : 0 ≤ k
            · rw [if_pos c5, pw_ck_ok hk (by omega), if_pos (by omega)]
            · rw [if_neg c5]
theorem op_quotientDifference {x c j k : Int} (hx : pw_R x) (hc : pw_R c) (hj : pw_R j) (hk : pw_R k) : OpOk (mf_W_quotientDifference 0 x c j k) (mf_M_quotientDifference 91 x c j k) := by
  apply op_ro
  intro A T len E Hs hV
  have hp := hV.1.1
  have hp2 := isPb_le hp
  have s0 := sh_0
  have s1' := sh_1
  have s81 := sh_81
  have s91 := sh_91
  have s107 := sh_107
  have s108 := sh_108
  by_cases hx4 : 0 ≤ x ∧ x < 4
  · by_cases h : qpC c j k
    · right
      obtain ⟨h1, h2, h3⟩ := id h
      obtain ⟨j, rfl⟩ : ∃ i : Nat, j = (i : Int) + 1 := ⟨(j - 1).toNat, by omega⟩
      obtain ⟨k, rfl⟩ : ∃ i : Nat, k = i := ⟨k.toNat, by omega⟩
      refine ⟨if c = 0 then (qdC A.1 (A.2.1 x.toNat) j).1 k else (qdC A.1 (A.2.1 x.toNat) (j + 1)).2 k, fun σ hC => ?_, fun σ hM => ?_⟩
      · have hN := hC.1.1
        have p0 : σ.2.1 1 0 = A.1 := hC.2.2.1.1
        obtain ⟨s, t, F⟩ := e_Q_number hp hC.1 (c := 3 + x.toNat) (by omega) (sh_rowp (by omega)) (a := A.2.1 x.toNat) (fun k hk => hC.2.2.1.2.1 x.toNat k (by omega) hk) (fun k hk => hV.1.2.1 x.toNat k (by omega) hk) (kd := c) (by omega) (j := j) (k := k) (by omega) (by omega)
        refine ⟨s, ?_, hC.scr F.1 F.2.1 (fun i hi => F.2.2 i (by omega) (by omega)), F.1, fun i hi => F.2.2 i (by omega) (by omega)⟩
        unfold mf_W_quotientDifference
        rw [ex_gd (by omega) (by omega), e_W_isSlot hx, ex_bd, if_pos hx4, pw_ck_ok (by omega) (by omega), if_neg (by omega), (e_W_isScheme hc hj hk).1 h, ex_bd, pw_ck_ok (by omega) (by omega), if_neg (by omega)]
        simp (disch := omega) only [ex_gr, ex_gi, lr_0_6 hC.1, lr_0_0 hC.1, lr_1_1 hC.1, e_ser hC.1, Option.bind_some, p0, t, ex_bd]
      · have hN := hM.1.1
        obtain ⟨s, t, F, hQ, hE⟩ := e_M_findScheme hV.1 hx4 hM
        have M1 := hM.ms (Ms.fm2 F)
        have n1 := M1.1.1
        have r1 := (qd_rng (p := A.1) (by omega) (A.2.1 x.toNat) j k).1
        have r2 := (qd_rng (p := A.1) (by omega) (A.2.1 x.toNat) (j + 1) k).2
        refine ⟨s, ?_, Ms.fm2 F⟩
        unfold mf_M_quotientDifference
        rw [ex_gd (by omega) (by omega), e_M_isSlot hx, ex_bd, if_pos hx4, pw_ck_ok (by omega) (by omega), if_neg (by omega), e_M_in hc (by omega) (by omega), ex_bd, if_pos (by omega), pw_ck_ok (by omega) (by omega), if_neg (by omega), e_M_in hj (by omega) (by omega), ex_bd, if_pos (by omega), pw_ck_ok (by omega) (by omega), if_neg (by omega), e_M_in hk (by omega) (by omega), ex_bd, if_pos (by omega), pw_ck_ok (by omega) (by omega), if_neg (by omega)]
        unfold mj_M_quotientDifference_42
        rw [pw_ck_ok (by omega) (by omega), if_neg (by omega), pw_ck_ok hc (by omega)]
        have nt : ((17 : Int) * ((j : Int) + 1) + (k : Int)).toNat = 17 * (j + 1) + k := by omega
        by_cases c0 : c = 0
        · have e1 := hQ (j + 1) k (by omega) (by omega) (by omega)
          rw [show j + 1 - 1 = j by omega] at e1
          rw [if_pos c0, if_pos c0]
          unfold mj_M_quotientDifference_64
          rw [pw_ck_ok (by omega) (by omega), if_pos (by omega), t, ex_bd, pw_ck_ok hc (by omega), if_pos c0, ex_gr (by omega) (by omega), lr_91_18 M1.1, Option.bind_some]
          unfold mf_M_cell
          rw [ex_bd, ex_ai (by omega) (by omega) (by omega) (by omega), Option.bind_some, nt, e1]
          unfold mj_M_quotientDifference_111
          rw [pw_ck_ok (by omega) (by omega)]
          by_cases cz : 0 ≤ (qdC A.1 (A.2.1 x.toNat) j).1 k
          · rw [if_pos cz]
          · rw [if_neg cz, show (qdC A.1 (A.2.1 x.toNat) j).1 k = -1 by omega]
        · have e1 := hE (j + 1) k (by omega) (by omega)
          rw [if_neg c0, if_neg c0]
          unfold mj_M_quotientDifference_64
          rw [pw_ck_ok (by omega) (by omega), if_pos (by omega), t, ex_bd, pw_ck_ok hc (by omega), if_neg c0, ex_gr (by omega) (by omega), lr_91_19 M1.1, Option.bind_some]
          unfold mf_M_cell
          rw [ex_bd, ex_ai (by omega) (by omega) (by omega) (by omega), Option.bind_some, nt, e1]
          unfold mj_M_quotientDifference_111
          rw [pw_ck_ok (by omega) (by omega)]
          by_cases cz : 0 ≤ (qdC A.1 (A.2.1 x.toNat) (j + 1)).2 k
          · rw [if_pos cz]
          · rw [if_neg cz, show (qdC A.1 (A.2.1 x.toNat) (j + 1)).2 k = -1 by omega]
    · left
      refine ⟨fun σ hC => ?_, fun σ hM => ?_⟩
      · have hN := hC.1.1
        unfold mf_W_quotientDifference mj_W_quotientDifference_17
        rw [ex_gd (by omega) (by omega), e_W_isSlot hx, ex_bd, if_pos hx4, pw_ck_ok (by omega) (by omega), if_neg (by omega), (e_W_isScheme hc hj hk).2 h, ex_bd, pw_ck_ok (by omega) (by omega), if_pos rfl]
      · have hN := hM.1.1
        have no : ∀ y, y = (0 : Int) → mj_M_quotientDifference_42 91 x c j k y σ = pw_bd (mf_M_fail 91 (-2 : Int) σ) (fun v s => some (v, s)) := by
          intro y hy
          unfold mj_M_quotientDifference_42 mj_M_quotientDifference_70
          rw [hy, pw_ck_ok (by omega) (by omega), if_pos rfl]
        unfold mf_M_quotientDifference mj_M_quotientDifference_41
        rw [ex_gd (by omega) (by omega), e_M_isSlot hx, ex_bd, if_pos hx4, pw_ck_ok (by omega) (by omega), if_neg (by omega), e_M_in hc (by omega) (by omega), ex_bd]
        by_cases c1 : 0 ≤ c ∧ c ≤ 1
        · rw [if_pos c1, pw_ck_ok (by omega) (by omega), if_neg (by omega), e_M_in hj (by omega) (by omega), ex_bd]
          by_cases c2 : 1 ≤ j ∧ j ≤ 8
          · rw [if_pos c2, pw_ck_ok (by omega) (by omega), if_neg (by omega), e_M_in hk (by omega) (by omega), ex_bd]
            by_cases c3 : 0 ≤ k ∧ k ≤ 15
            · rw [if_pos c3, pw_ck_ok (by omega) (by omega), if_neg (by omega)]
              unfold mj_M_quotientDifference_42
              rw [pw_ck_ok (by omega) (by omega), if_neg (by omega), pw_ck_ok hc (by omega)]
              unfold qpC at h
              by_cases c0 : c = 0
              · rw [if_pos c0]
                unfold mj_M_quotientDifference_64 mj_M_quotientDifference_70
                rw [pw_ck_ok (by omega) (by omega), if_neg (by omega)]
              · rw [if_neg c0]
                unfold mj_M_quotientDifference_64 mj_M_quotientDifference_70
                rw [pw_ck_ok (by omega) (by omega), if_neg (by omega)]
            · rw [if_neg c3, pw_ck_ok (by omega) (by omega), if_pos rfl, no 0 rfl]
          · rw [if_neg c2, pw_ck_ok (by omega) (by omega), if_pos rfl, no 0 rfl]
        · rw [if_neg c1, pw_ck_ok (by omega) (by omega), if_pos rfl, no 0 rfl]
  · left
    refine ⟨fun σ hC => ?_, fun σ hM => ?_⟩
    · have hN := hC.1.1
      unfold mf_W_quotientDifference mj_W_quotientDifference_17
      rw [ex_gd (by omega) (by omega), e_W_isSlot hx, ex_bd, if_neg hx4, pw_ck_ok (by omega) (by omega), if_pos rfl]
    · have hN := hM.1.1
      unfold mf_M_quotientDifference mj_M_quotientDifference_41 mj_M_quotientDifference_42 mj_M_quotientDifference_70
      rw [ex_gd (by omega) (by omega), e_M_isSlot hx, ex_bd, if_neg hx4, pw_ck_ok (by omega) (by omega), if_pos rfl, pw_ck_ok (by omega) (by omega), if_pos rfl]
end
