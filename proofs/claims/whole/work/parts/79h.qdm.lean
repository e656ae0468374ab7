section
/-! ### the scheme of the model -/
def QT (t : pw_Sto) (p : Nat) (a : Nat → Int) (j : Nat) : Prop := ∀ j' k, 1 ≤ j' → j' ≤ j → k + 2 * j' ≤ 16 → t.2.1 107 (17 * j' + k) = (qdC p a (j' - 1)).1 k
def ET (t : pw_Sto) (p : Nat) (a : Nat → Int) (j : Nat) : Prop := ∀ j' k, j' < j → k + 2 * j' ≤ 15 → t.2.1 108 (17 * j' + k) = (qdC p a j').2 k
def Fm2 (σ s : pw_Sto) : Prop := s.1 = σ.1 ∧ s.2.2 = σ.2.2 ∧ ∀ i, i ≠ 107 → i ≠ 108 → s.2.1 i = σ.2.1 i
theorem Fm2.trans {a b c : pw_Sto} (h : Fm2 a b) (k : Fm2 b c) : Fm2 a c := ⟨k.1.trans h.1, k.2.1.trans h.2.1, fun i h1 h2 => (k.2.2 i h1 h2).trans (h.2.2 i h1 h2)⟩
theorem Ms.fm2 {σ s : pw_Sto} (h : Fm2 σ s) : Ms σ s := ⟨h.1, h.2.1, fun i hi => h.2.2 i (by omega) (by omega)⟩
theorem e_M_invI {p : Nat} (hp : isPb p = true) {σ : pw_Sto} (hL : Lay σ) (hp0 : σ.2.1 92 0 = p) {v : Int} (h1 : 0 < v) (h2 : v < p) : mf_M_inverse 91 v σ = some (((iv p v.toNat : Nat) : Int), σ) := by
  have h := e_M_inverse hL hp0 hp (a := v.toNat) (by omega) (by omega)
  rw [show ((v.toNat : Nat) : Int) = v by omega] at h
  exact h
theorem e_M_schE {A : ASt} (hV : VA A) {a : Nat → Int} {j : Nat} (hj1 : 1 ≤ j) (hj8 : j ≤ 8) {σ : pw_Sto} {T : Nat → Int} {len : Nat} {E : Nat → Int} {Hs : List ASt} (hM : MR σ A T len E Hs) (hQ : QT σ A.1 a j) (hE : ET σ A.1 a j) (r89 : Nat → Int → pw_Sto → Option (Unit × pw_Sto)) : ∃ t, ml_M_findScheme_97 r89 1000 91 j 0 σ = ml_M_findScheme_198 r89 1000 91 j 0 t ∧ Fm2 σ t ∧ QT t A.1 a j ∧ ET t A.1 a (j + 1) := by
  have hp := hV.1
  have hp2 := isPb_le hp
  have s91 := sh_91
  have s107 := sh_107
  have s108 := sh_108
  obtain ⟨q, t, e1, f1, g⟩ := lp_ex (S := pw_Sto) (O := Unit × pw_Sto) (fun q k t => ml_M_findScheme_97 r89 q 91 j k t) (fun i => (i : Int)) (16 - 2 * j) (fun i t => Fq σ t 108 ∧ ∀ c, t.2.1 108 c = if 17 * j ≤ c ∧ c < 17 * j + i then (qdC A.1 a j).2 (c - 17 * j) else σ.2.1 108 c)
    (by
      intro q k t hk hI
      obtain ⟨f1, g⟩ := hI
      have M1 := hM.ms (Ms.fq f1 (by omega))
      have L1 := M1.1
      have n1 := L1.1
      obtain ⟨j0, rfl⟩ : ∃ i, j = i + 1 := ⟨j - 1, by omega⟩
      have e1 : t.2.1 107 (17 * (j0 + 1) + (k + 1)) = (qdC A.1 a j0).1 (k + 1) := by rw [f1.2.2 107 (by omega)]; exact hQ (j0 + 1) (k + 1) (by omega) (by omega) (by omega)
      have e2 : t.2.1 107 (17 * (j0 + 1) + k) = (qdC A.1 a j0).1 k := by rw [f1.2.2 107 (by omega)]; exact hQ (j0 + 1) k (by omega) (by omega) (by omega)
      have e3 : t.2.1 108 (17 * j0 + (k + 1)) = (qdC A.1 a j0).2 (k + 1) := by rw [g, if_neg (by omega)]; exact hE j0 (k + 1) (by omega) (by omega)
      have q1 := (qd_rng (p := A.1) (by omega) a j0 (k + 1)).1
      have q2 := (qd_rng (p := A.1) (by omega) a j0 k).1
      have q3 := (qd_rng (p := A.1) (by omega) a j0 (k + 1)).2
      have ev : (qdC A.1 a (j0 + 1)).2 k = qcE A.1 (qdC A.1 a j0).1 (qdC A.1 a j0).2 k := rfl
      refine ⟨pw_st t 108 (fun c => if c = 17 * (j0 + 1) + k then (qdC A.1 a (j0 + 1)).2 k else t.2.1 108 c), ?_, ⟨f1.1, f1.2.1, fun i hi => by rw [st_ne hi]; exact f1.2.2 i hi⟩, fun c => ?_⟩
      · have nt1 : ((17 : Int) * ((j0 + 1 : Nat) : Int) + ((k : Int) + 1)).toNat = 17 * (j0 + 1) + (k + 1) := by omega
        have nt2 : ((17 : Int) * ((j0 + 1 : Nat) : Int) + (k : Int)).toNat = 17 * (j0 + 1) + k := by omega
        have nt3 : ((17 : Int) * (((j0 + 1 : Nat) : Int) - 1) + ((k : Int) + 1)).toNat = 17 * j0 + (k + 1) := by omega
        have no : mj_M_findScheme_173 r89 (ml_M_findScheme_97 r89 q) 91 ((j0 + 1 : Nat) : Int) (k : Int) ((17 : Int) * ((j0 + 1 : Nat) : Int) + (k : Int)) 108 t = ml_M_findScheme_97 r89 q 91 ((j0 + 1 : Nat) : Int) ((k + 1 : Nat) : Int) (pw_st t 108 (fun c => if c = 17 * (j0 + 1) + k then -1 else t.2.1 108 c)) := by
          unfold mj_M_findScheme_173
          rw [xs_si (by omega) (by omega) (by omega) (by omega), Option.bind_some, nt2]
          rfl
        try dsimp only
        rw [us_M_findScheme_97]
        unfold mb_M_findScheme_97 mf_M_cell
        rw [pw_ck_ok (by omega) (by omega), if_neg (by omega)]
        simp (disch := omega) only [ex_gr, lr_91_18 L1, lr_91_19 L1, Option.bind_some, ex_bd]
        rw [ex_ai (by omega) (by omega) (by omega) (by omega), Option.bind_some, nt1, e1, ex_ai (by omega) (by omega) (by omega) (by omega), Option.bind_some, nt2, e2, ex_ai (by omega) (by omega) (by omega) (by omega), Option.bind_some, nt3, e3, pw_ck_ok (by omega) (by omega), ev]
        unfold qcE
        rw [if_pos (show k < 15 by omega)]
        by_cases c1 : (qdC A.1 a j0).1 (k + 1) < 0
        · rw [if_pos c1, if_neg (by omega), no]
        · rw [if_neg c1, pw_ck_ok (by omega) (by omega)]
          by_cases c2 : (qdC A.1 a j0).1 k < 0
          · rw [if_pos c2, if_neg (by omega), no]
          · rw [if_neg c2, pw_ck_ok (by omega) (by omega)]
            by_cases c3 : 0 ≤ (qdC A.1 a j0).2 (k + 1)
            · rw [if_pos c3, if_pos (by omega), e_M_mod L1 M1.2.1.1 (by omega) (by omega) (by omega), ex_bd, xs_si (by omega) (by omega) (by omega) (by omega), Option.bind_some, nt2]
              rfl
            · rw [if_neg c3, if_neg (by omega), no]
      · rw [st_eq]
        by_cases c1 : c = 17 * (j0 + 1) + k
        · rw [if_pos c1, if_pos (by omega), c1, show 17 * (j0 + 1) + k - 17 * (j0 + 1) = k by omega]
        · rw [if_neg c1, g c]
          by_cases c2 : 17 * (j0 + 1) ≤ c ∧ c < 17 * (j0 + 1) + k
          · rw [if_pos c2, if_pos (by omega)]
          · rw [if_neg c2, if_neg (by omega)]) (16 - 2 * j) 0 1000 σ (by omega) (by omega) ⟨⟨rfl, rfl, fun _ _ => rfl⟩, fun c => by rw [if_neg (by omega)]⟩
  refine ⟨t, Eq.trans e1 ?_, ⟨f1.1, f1.2.1, fun i i1 i2 => f1.2.2 i i2⟩, fun j' k h1 h2 h3 => by rw [f1.2.2 107 (by omega)]; exact hQ j' k h1 h2 h3, fun j' k h1 h2 => ?_⟩
  · try dsimp only
    rw [us_M_findScheme_97]
    unfold mb_M_findScheme_97
    rw [pw_ck_ok (by omega) (by omega), if_pos (by omega)]
  · rw [g]
    by_cases c : j' = j
    · rw [c, if_pos (by omega), show 17 * j + k - 17 * j = k by omega]
    · rw [if_neg (by omega)]; exact hE j' k (by omega) h2
theorem e_M_schQ {A : ASt} (hV : VA A) {a : Nat → Int} {j : Nat} (hj1 : 1 ≤ j) (hj8 : j ≤ 8) {σ : pw_Sto} {T : Nat → Int} {len : Nat} {E : Nat → Int} {Hs : List ASt} (hM : MR σ A T len E Hs) (hQ : QT σ A.1 a j) (hE : ET σ A.1 a (j + 1)) (r89 : Nat → Int → pw_Sto → Option (Unit × pw_Sto)) : ∃ t, ml_M_findScheme_198 r89 1000 91 j 0 σ = r89 91 ((j : Int) + 1) t ∧ Fm2 σ t ∧ QT t A.1 a (j + 1) ∧ ET t A.1 a (j + 1) := by
  have hp := hV.1
  have hp2 := isPb_le hp
  have s91 := sh_91
  have s107 := sh_107
  have s108 := sh_108
  obtain ⟨q, t, e1, f1, g⟩ := lp_ex (S := pw_Sto) (O := Unit × pw_Sto) (fun q k t => ml_M_findScheme_198 r89 q 91 j k t) (fun i => (i : Int)) (15 - 2 * j) (fun i t => Fq σ t 107 ∧ ∀ c, t.2.1 107 c = if 17 * (j + 1) ≤ c ∧ c < 17 * (j + 1) + i then (qdC A.1 a j).1 (c - 17 * (j + 1)) else σ.2.1 107 c)
    (by
      intro q k t hk hI
      obtain ⟨f1, g⟩ := hI
      have M1 := hM.ms (Ms.fq f1 (by omega))
      have L1 := M1.1
      have n1 := L1.1
      obtain ⟨j0, rfl⟩ : ∃ i, j = i + 1 := ⟨j - 1, by omega⟩
      have e1 : t.2.1 107 (17 * (j0 + 1) + (k + 1)) = (qdC A.1 a j0).1 (k + 1) := by rw [g, if_neg (by omega)]; exact hQ (j0 + 1) (k + 1) (by omega) (by omega) (by omega)
      have e2 : t.2.1 108 (17 * (j0 + 1) + (k + 1)) = (qdC A.1 a (j0 + 1)).2 (k + 1) := by rw [f1.2.2 108 (by omega)]; exact hE (j0 + 1) (k + 1) (by omega) (by omega)
      have e3 : t.2.1 108 (17 * (j0 + 1) + k) = (qdC A.1 a (j0 + 1)).2 k := by rw [f1.2.2 108 (by omega)]; exact hE (j0 + 1) k (by omega) (by omega)
      have q1 := (qd_rng (p := A.1) (by omega) a j0 (k + 1)).1
      have q2 := (qd_rng (p := A.1) (by omega) a (j0 + 1) (k + 1)).2
      have q3 := (qd_rng (p := A.1) (by omega) a (j0 + 1) k).2
      have ev : (qdC A.1 a (j0 + 1)).1 k = qcQ A.1 (qdC A.1 a j0).1 (qdC A.1 a (j0 + 1)).2 k := rfl
      refine ⟨pw_st t 107 (fun c => if c = 17 * (j0 + 1 + 1) + k then (qdC A.1 a (j0 + 1)).1 k else t.2.1 107 c), ?_, ⟨f1.1, f1.2.1, fun i hi => by rw [st_ne hi]; exact f1.2.2 i hi⟩, fun c => ?_⟩
      · have nt1 : ((17 : Int) * ((j0 + 1 : Nat) : Int) + ((k : Int) + 1)).toNat = 17 * (j0 + 1) + (k + 1) := by omega
        have nt2 : ((17 : Int) * ((j0 + 1 : Nat) : Int) + (k : Int)).toNat = 17 * (j0 + 1) + k := by omega
        have nt3 : ((17 : Int) * (((j0 + 1 : Nat) : Int) + 1) + (k : Int)).toNat = 17 * (j0 + 1 + 1) + k := by omega
        have no : mj_M_findScheme_276 r89 (ml_M_findScheme_198 r89 q) 91 ((j0 + 1 : Nat) : Int) (k : Int) ((17 : Int) * (((j0 + 1 : Nat) : Int) + 1) + (k : Int)) 107 t = ml_M_findScheme_198 r89 q 91 ((j0 + 1 : Nat) : Int) ((k + 1 : Nat) : Int) (pw_st t 107 (fun c => if c = 17 * (j0 + 1 + 1) + k then -1 else t.2.1 107 c)) := by
          unfold mj_M_findScheme_276
          rw [xs_si (by omega) (by omega) (by omega) (by omega), Option.bind_some, nt3]
          rfl
        try dsimp only
        rw [us_M_findScheme_198]
        unfold mb_M_findScheme_198 mf_M_cell
        rw [pw_ck_ok (by omega) (by omega), if_neg (by omega)]
        simp (disch := omega) only [ex_gr, lr_91_18 L1, lr_91_19 L1, Option.bind_some, ex_bd]
        rw [ex_ai (by omega) (by omega) (by omega) (by omega), Option.bind_some, nt1, e1, ex_ai (by omega) (by omega) (by omega) (by omega), Option.bind_some, nt1, e2, ex_ai (by omega) (by omega) (by omega) (by omega), Option.bind_some, nt2, e3, pw_ck_ok (by omega) (by omega), ev]
        unfold qcQ
        rw [if_pos (show k < 15 by omega)]
        by_cases c1 : (qdC A.1 a j0).1 (k + 1) < 0
        · rw [if_pos c1, if_neg (by omega), no]
        · rw [if_neg c1, pw_ck_ok (by omega) (by omega)]
          by_cases c2 : (qdC A.1 a (j0 + 1)).2 (k + 1) < 0
          · rw [if_pos c2, if_neg (by omega), no]
          · rw [if_neg c2, pw_ck_ok (by omega) (by omega)]
            by_cases c3 : 0 < (qdC A.1 a (j0 + 1)).2 k
            · have m1 := imul250 (a := (qdC A.1 a j0).1 (k + 1)) (b := (qdC A.1 a (j0 + 1)).2 (k + 1)) (by omega) (by omega) (by omega) (by omega)
              have m2 := mod_rng (p := A.1) (by omega) ((qdC A.1 a j0).1 (k + 1) * (qdC A.1 a (j0 + 1)).2 (k + 1))
              have m3 := iv_lt (a := ((qdC A.1 a (j0 + 1)).2 k).toNat) hp
              have m4 := imul250 (a := ((qdC A.1 a j0).1 (k + 1) * (qdC A.1 a (j0 + 1)).2 (k + 1)) % A.1) (b := ((iv A.1 ((qdC A.1 a (j0 + 1)).2 k).toNat : Nat) : Int)) (by omega) (by omega) (by omega) (by omega)
              rw [if_pos c3, if_pos (by omega), e_M_mod L1 M1.2.1.1 (by omega) (by omega) (by omega), ex_bd, e_M_invI hp L1 M1.2.1.1 c3 q3.2, ex_bd, e_M_mod L1 M1.2.1.1 (by omega) (by omega) (by omega), ex_bd, xs_si (by omega) (by omega) (by omega) (by omega), Option.bind_some, nt3]
              rfl
            · rw [if_neg c3, if_neg (by omega), no]
      · rw [st_eq]
        by_cases c1 : c = 17 * (j0 + 1 + 1) + k
        · rw [if_pos c1, if_pos (by omega), c1, show 17 * (j0 + 1 + 1) + k - 17 * (j0 + 1 + 1) = k by omega]
        · rw [if_neg c1, g c]
          by_cases c2 : 17 * (j0 + 1 + 1) ≤ c ∧ c < 17 * (j0 + 1 + 1) + k
          · rw [if_pos c2, if_pos (by omega)]
          · rw [if_neg c2, if_neg (by omega)]) (15 - 2 * j) 0 1000 σ (by omega) (by omega) ⟨⟨rfl, rfl, fun _ _ => rfl⟩, fun c => by rw [if_neg (by omega)]⟩
  refine ⟨t, Eq.trans e1 ?_, ⟨f1.1, f1.2.1, fun i i1 i2 => f1.2.2 i i1⟩, fun j' k h1 h2 h3 => ?_, fun j' k h1 h2 => by rw [f1.2.2 108 (by omega)]; exact hE j' k h1 h2⟩
  · try dsimp only
    rw [us_M_findScheme_198]
    unfold mb_M_findScheme_198
    rw [pw_ck_ok (by omega) (by omega), if_pos (by omega)]
  · rw [g]
    by_cases c : j' = j + 1
    · by_cases c2 : k < 15 - 2 * j
      · rw [c, if_pos (by omega), show 17 * (j + 1) + k - 17 * (j + 1) = k by omega]
        rfl
      · omega
    · rw [if_neg (by omega)]; exact hQ j' k h1 (by omega) h3
end
