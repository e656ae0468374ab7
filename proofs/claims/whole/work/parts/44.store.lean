def cnt (f : Nat → Int) : Int := sm (fun k => if f k = 0 then 0 else 1) 16
theorem cnt_congr {f g : Nat → Int} (h : ∀ k, k < 16 → f k = g k) : cnt f = cnt g := sm_congr (fun i hi => by rw [h i hi])
theorem e_S_count {σ : pw_Sto} {a : Nat} (ha : a < σ.1) (sa : pw_sh a = (11, 16)) (va : ∀ k, k < 16 → pw_R (σ.2.1 a k)) : mf_S_countOfNonZero a σ = some (cnt (σ.2.1 a), σ) := by
  have ea : (pw_sh a).1 = 11 ∧ (pw_sh a).2 = 16 := by rw [sa]; exact ⟨rfl, rfl⟩
  have h := lp_sum0 (O := Int × pw_Sto) (fun n k z => ml_S_countOfNonZero_4 n a z k σ) 16 (fun k => if σ.2.1 a k = 0 then 0 else 1) (fun z => some (z, σ))
    (by
      intro n k z hk
      try dsimp only
      rw [us_S_countOfNonZero_4]
      unfold mb_S_countOfNonZero_4
      rw [pw_ck_ok (by omega) (by omega), if_neg (by omega), ex_ai (by omega) (by omega) (by omega) (by omega), Option.bind_some, Int.toNat_natCast, pw_ck_ok (va k hk) (by omega)]
      by_cases q : σ.2.1 a k = 0
      · rw [if_pos q, if_pos q, Int.add_zero]; rfl
      · rw [if_neg q, if_neg q]; rfl)
    (by
      intro n z
      try dsimp only
      rw [us_S_countOfNonZero_4]
      unfold mb_S_countOfNonZero_4
      rw [pw_ck_ok (by omega) (by omega), if_pos (by omega)]) 1000 0 (by omega)
  unfold mf_S_countOfNonZero
  have h' : ml_S_countOfNonZero_4 1000 a 0 0 σ = _ := h
  rw [h', Int.zero_add]
  rfl
def setRow (c : Nat → Nat → Int) (s : Nat) (f : Nat → Int) : Nat → Nat → Int := fun a b => if a = s then f b else c a b
theorem VA.row {A : ASt} (hV : VA A) {s : Nat} {f : Nat → Int} (hf : ∀ k, k < 16 → 0 ≤ f k ∧ f k < A.1) : VA (A.1, setRow A.2.1 s f, A.2.2) := by
  refine ⟨hV.1, fun a k ha hk => ?_, hV.2.2⟩
  show 0 ≤ setRow A.2.1 s f a k ∧ setRow A.2.1 s f a k < A.1
  unfold setRow
  by_cases q : a = s
  · rw [if_pos q]; exact hf k hk
  · rw [if_neg q]; exact hV.2.1 a k ha hk
theorem CR.scr {σ σ' : pw_Sto} {A : ASt} {T : Nat → Int} {len : Nat} {E : Nat → Int} {Hs : List ASt} (h : CR σ A T len E Hs) (h1 : σ'.1 = σ.1) (h2 : σ'.2.2 = σ.2.2) (h3 : ∀ i, ¬ (45 ≤ i ∧ i < 90 ∧ i ≠ 47 - 1 - 46) → σ'.2.1 i = σ.2.1 i) : CR σ' A T len E Hs := by
  obtain ⟨g1, g2, g3, g4, g5, nx, g6, g7, g8, g9⟩ := h
  refine ⟨⟨h1.trans g1.1, fun q hq => by rw [h2]; exact g1.2 q hq⟩, by unfold Dyn; rw [h2]; exact g2, g3.kept (fun i _ hi => h3 i (by omega)), ⟨by rw [h3 43 (by omega)]; exact g4.1, fun i hi => by rw [h3 44 (by omega)]; exact g4.2 i hi⟩, fun q hq => by rw [h3 90 (by omega)]; exact g5 q hq, nx, g6, by rw [h3 9 (by omega)]; exact g7, by rw [h3 9 (by omega)]; exact g8, fun j B hj => (g9 j B hj).kept (fun i a b => h3 i (by omega))⟩
theorem e_W_store {σ : pw_Sto} {A : ASt} {T : Nat → Int} {len : Nat} {E : Nat → Int} {Hs : List ASt} (hC : CR σ A T len E Hs) (hV : VR A T len Hs) {to : Int} (h1 : 0 ≤ to) (h2 : to < 4) {f : Nat → Int} (hf : ∀ k, k < 16 → σ.2.1 88 k = f k) (hf2 : ∀ k, k < 16 → 0 ≤ f k ∧ f k < A.1) : ∃ σ', mf_W_store 0 to σ = some (cnt f, σ') ∧ CR σ' (A.1, setRow A.2.1 to.toNat f, A.2.2) T len E ((A :: Hs).take 4) ∧ Hi σ σ' := by
  obtain ⟨hL, _, h3, h4, h5, h6⟩ := id hC
  obtain ⟨s1, e1, c1, d1, d2, d3⟩ := e_H_keep hC hV
  have hp := isPb_le hV.1.1
  have hL1 := c1.1
  have hN := hL.1
  have hN1 := hL1.1
  have := sh_0
  have := sh_1
  have := sh_88
  have := sh_row (s := to.toNat) (by omega)
  obtain ⟨b1, b2, b3, b4⟩ := c1.2.2.1
  have h88 : ∀ k, k < 16 → s1.2.1 88 k = f k := fun k hk => by rw [d3 88 (by omega)]; exact hf k hk
  have hcnt : mf_S_countOfNonZero 88 (pw_st s1 (3 + to.toNat) (va_cpy (s1.2.1 88) (s1.2.1 (3 + to.toNat)) (0 : Int).toNat (0 : Int).toNat (16 : Int).toNat)) = some (cnt f, pw_st s1 (3 + to.toNat) (va_cpy (s1.2.1 88) (s1.2.1 (3 + to.toNat)) (0 : Int).toNat (0 : Int).toNat (16 : Int).toNat)) := by
    rw [e_S_count (by rw [st_1]; omega) rfl (fun k hk => by
      rw [st_ne (by omega), h88 k hk]
      have := hf2 k hk
      omega)]
    refine congrArg (fun z => some (z, _)) (cnt_congr fun k hk => ?_)
    rw [st_ne (by omega), h88 k hk]
  refine ⟨pw_st s1 (3 + to.toNat) (va_cpy (s1.2.1 88) (s1.2.1 (3 + to.toNat)) (0 : Int).toNat (0 : Int).toNat (16 : Int).toNat), ?_, ?_, ⟨d1, fun i hi => by rw [st_ne (by omega), d3 i (by omega)]⟩⟩
  · unfold mf_W_store
    simp (disch := first | omega | (simp only [st_1]; omega)) only [ex_gd, ex_gr, lr_0_0 hL, lr_0_1 hL, Option.bind_some, e1, ex_bd, lr_0_8 hL1, lr_0_0 hL1, lr_1_1 hL1, e_row hL1, xs_cp, st_2, hcnt]
  · refine c1.now (σ := s1) rfl rfl (fun i a b => Or.inl (st_ne (by omega))) ⟨by rw [st_ne (by omega)]; exact b1, fun s k hs hk => ?_, by rw [st_ne (by omega)]; exact b3, fun i hi => by rw [st_ne (by omega), st_ne (by omega)]; exact b4 i hi⟩
    show _ = setRow A.2.1 to.toNat f s k
    unfold setRow
    by_cases q : s = to.toNat
    · subst q
      rw [if_pos rfl, st_eq]
      unfold va_cpy
      rw [if_pos ⟨Nat.zero_le _, by show k < 0 + 16; omega⟩, show (0 : Int).toNat + (k - (0 : Int).toNat) = k by simp, h88 k hk]
    · rw [if_neg q, st_ne (by omega)]
      exact b2 s k hs hk
/-! the model's -/
theorem e_M_clear {σ : pw_Sto} {a : Nat} (ha : a < σ.1) (sa : (pw_sh a).1 = 11) : mf_M_clear a σ = some ((), pw_st σ a (fun j => if j < (pw_sh a).2 then 0 else σ.2.1 a j)) := by
  have hle := pw_sh_le a
  have h := lp_fill (O := Unit × pw_Sto) (fun n k s => ml_M_clear_2 n a k s) σ a 0 (pw_sh a).2 (fun _ => 0) (fun s => some ((), s))
    (by
      intro n k hh hk0 hk g1 g2
      try dsimp only
      rw [us_M_clear_2]
      unfold mb_M_clear_2
      rw [ex_al (by rw [st_1]; omega) (by omega), Option.bind_some, pw_ck_ok (by omega) (by omega), if_neg (by omega), xs_si (by rw [st_1]; omega) (by omega) (by omega) (by omega), Option.bind_some, st_st, st_eq, Int.toNat_natCast]
      rfl)
    (by
      intro n hh
      try dsimp only
      rw [us_M_clear_2]
      unfold mb_M_clear_2
      rw [ex_al (by rw [st_1]; omega) (by omega), Option.bind_some, pw_ck_ok (by omega) (by omega), if_pos (by omega)]) 1000 (by omega) (by omega)
  unfold mf_M_clear
  have h' : ml_M_clear_2 1000 a 0 σ = _ := h
  rw [h']
  exact congrArg (fun z => some ((), z)) (st_congr fun j => by simp)
theorem e_M_take {σ : pw_Sto} {A : ASt} (hL : Lay σ) (hS : StM σ 92 0 A) {t : Nat} (ht : t < 109) (st : pw_sh t = (11, 16)) (ht92 : t ≠ 92) {s : Int} (h1 : 0 ≤ s) (h2 : s < 4) : mf_M_take 91 s t σ = some ((), pw_st σ t (fun j => if j < 16 then A.2.1 s.toNat j else σ.2.1 t j)) := by
  have hN := hL.1
  have := sh_91
  have et : (pw_sh t).1 = 11 ∧ (pw_sh t).2 = 16 := by rw [st]; exact ⟨rfl, rfl⟩
  have h := lp_fill (O := Unit × pw_Sto) (fun n k s' => ml_M_take_2 n 91 s t k s') σ t 0 16 (fun k => A.2.1 s.toNat k) (fun s => some ((), s))
    (by
      intro n k hh hk0 hk g1 g2
      try dsimp only
      rw [us_M_take_2]
      unfold mb_M_take_2
      have hS' : StM (pw_st σ t hh) 92 0 A := hS.kept (st_ne (Ne.symm ht92))
      rw [pw_ck_ok (by omega) (by omega), if_neg (by omega), e_M_term (Lay.st hL) hS' h1 h2 (by omega) (by omega), ex_bd, Int.toNat_natCast, xs_si (by rw [st_1]; omega) (by omega) (by omega) (by omega), Option.bind_some, st_st, st_eq, Int.toNat_natCast]
      rfl)
    (by
      intro n hh
      try dsimp only
      rw [us_M_take_2]
      unfold mb_M_take_2
      rw [pw_ck_ok (by omega) (by omega), if_pos (by omega)]) 1000 (by omega) (by omega)
  unfold mf_M_take
  have h' : ml_M_take_2 1000 91 s t 0 σ = _ := h
  rw [ex_gd (by omega) (by omega), h']
  exact congrArg (fun z => some ((), z)) (st_congr fun j => by simp)
/-- a loop that adds, taking the rest each time -/
theorem lp_smod {O : Type} (f : Nat → Int → Int → Option O) (p e : Nat) (z0 : Int) (t : Nat → Int) (out : Int → Option O) (hs : ∀ n (k : Nat), k < e → f (n + 1) (k : Nat) ((z0 + sm t k) % p) = f n ((k + 1 : Nat) : Int) (((z0 + sm t k) % p + t k) % p)) (hx : ∀ n z, f (n + 1) (e : Nat) z = out z) (n : Nat) (hn : e < n) : f n 0 (z0 % p) = out ((z0 + sm t e) % p) := by
  obtain ⟨s', h1, h2⟩ := lp_up f e (fun k _ => (z0 + sm t (k + 1)) % p) out (fun k s => s = (z0 + sm t k) % p) (fun n k s hk hI => by
    subst hI
    refine ⟨?_, rfl⟩
    rw [hs n k hk]
    congr 1
    show ((z0 + sm t k) % p + t k) % p = (z0 + (sm t k + t k)) % p
    rw [Int.emod_add_emod, Int.add_assoc]) (fun n s _ => hx n s) n 0 (z0 % p) (Nat.zero_le _) (by omega) (by show z0 % p = (z0 + 0) % p; rw [Int.add_zero])
  rw [h2] at h1
  exact h1
theorem e_M_makeProduct {σ : pw_Sto} (hL : Lay σ) {p : Nat} (hp0 : σ.2.1 92 0 = p) (hp : 2 ≤ p) (hp2 : p ≤ 251) (va : ∀ k, k < 16 → 0 ≤ σ.2.1 97 k ∧ σ.2.1 97 k ≤ 250) (vb : ∀ k, k < 16 → 0 ≤ σ.2.1 98 k ∧ σ.2.1 98 k ≤ 250) : mf_M_makeProduct 91 σ = some ((), pw_st σ 96 (fun j => if j < 16 then cvI p (σ.2.1 97) (σ.2.1 98) j else σ.2.1 96 j)) := by
  have hN := hL.1
  have := sh_91
  have := sh_96
  have := sh_97
  have := sh_98
  have h := lp_fill (O := Unit × pw_Sto) (fun n k s => ml_M_makeProduct_2 n 91 k s) σ 96 0 16 (fun k => cvI p (σ.2.1 97) (σ.2.1 98) k) (fun s => some ((), s))
    (by
      intro n k hh hk0 hk g1 g2
      have hL' : Lay (pw_st σ 96 hh) := hL
      have hp0' : (pw_st σ 96 hh).2.1 92 0 = p := by rw [st_ne (by omega)]; exact hp0
      try dsimp only
      rw [us_M_makeProduct_2]
      unfold mb_M_makeProduct_2
      rw [pw_ck_ok (by omega) (by omega), if_neg (by omega)]
      have hl := lp_smod (O := Unit × pw_Sto) (fun m i z => ml_M_makeProduct_12 (ml_M_makeProduct_2 n) m 91 k z i (pw_st σ 96 hh)) p (k + 1) 0 (fun i => σ.2.1 97 i * σ.2.1 98 (k - i)) (fun z => (pw_gr 10 91 6 (pw_st σ 96 hh)).bind (fun v1 => (pw_si v1 k z (pw_st σ 96 hh)).bind (fun s2 => ml_M_makeProduct_2 n 91 ((k : Int) + 1) s2)))
        (by
          intro m i hi
          have m1 := mod_rng hp (0 + sm (fun i => σ.2.1 97 i * σ.2.1 98 (k - i)) i)
          have w1 := va i (by omega)
          have w2 := vb (k - i) (by omega)
          have w3 := imul250 w1.1 (by omega) w2.1 (by omega)
          try dsimp only
          rw [us_M_makeProduct_12]
          unfold mb_M_makeProduct_12
          rw [pw_ck_ok (by omega) (by omega), if_neg (by omega), ex_gr (by rw [st_1]; omega) (by omega), lr_91_7 hL', Option.bind_some, ex_ai (by rw [st_1]; omega) (by omega) (by omega) (by omega), Option.bind_some, ex_gr (by rw [st_1]; omega) (by omega), lr_91_8 hL', Option.bind_some, ex_ai (by rw [st_1]; omega) (by omega) (by omega) (by omega), Option.bind_some, st_ne (by omega), st_ne (by omega), Int.toNat_natCast, show ((k : Int) - i).toNat = k - i by omega, e_M_mod hL' hp0' hp hp2 (by omega), ex_bd]
          rfl)
        (by
          intro m z
          try dsimp only
          rw [us_M_makeProduct_12]
          unfold mb_M_makeProduct_12
          rw [pw_ck_ok (by omega) (by omega), if_pos (by omega)]) 1000 (by omega)
      have hl' : ml_M_makeProduct_12 (ml_M_makeProduct_2 n) 1000 91 k (0 % (p : Int)) 0 (pw_st σ 96 hh) = _ := hl
      rw [Int.zero_emod] at hl'
      rw [hl', ex_gr (by rw [st_1]; omega) (by omega), lr_91_6 hL', Option.bind_some, xs_si (by rw [st_1]; omega) (by omega) (by omega) (by omega), Option.bind_some, st_st, st_eq, Int.toNat_natCast, Int.zero_add]
      rfl)
    (by
      intro n hh
      try dsimp only
      rw [us_M_makeProduct_2]
      unfold mb_M_makeProduct_2
      rw [pw_ck_ok (by omega) (by omega), if_pos (by omega)]) 1000 (by omega) (by omega)
  unfold mf_M_makeProduct
  have h' : ml_M_makeProduct_2 1000 91 0 σ = _ := h
  rw [ex_gd (by omega) (by omega), h']
  exact congrArg (fun z => some ((), z)) (st_congr fun j => by simp)
theorem e_M_inverse {σ : pw_Sto} (hL : Lay σ) {p : Nat} (hp0 : σ.2.1 92 0 = p) (hp : isPb p = true) {a : Nat} (ha : a < p) (ha0 : a ≠ 0) : mf_M_inverse 91 a σ = some (((iv p a : Nat) : Int), σ) := by
  have hp2 := isPb_le hp
  have hN := hL.1
  have := sh_91
  have hiv := iv_ok hp ha ha0
  have hil := iv_lt (a := a) hp
  have hi0 : 1 ≤ iv p a := by
    rcases Nat.eq_zero_or_pos (iv p a) with q | q
    · rw [q, Nat.mul_zero, Nat.zero_mod] at hiv; omega
    · exact q
  have key : ∀ (n k : Nat), 1 ≤ k → k ≤ p → p < n + k → ml_M_inverse_4 n 91 a (if iv p a < k then ((iv p a : Nat) : Int) else 1) k σ = some (((iv p a : Nat) : Int), σ) := by
    intro n
    induction n with
    | zero => intro k h1 h2 h3; omega
    | succ n ih =>
      intro k h1 h2 h3
      rw [us_M_inverse_4]
      unfold mb_M_inverse_4
      rw [e_M_prime hL, ex_bd, hp0, pw_ck_ok (by omega) (by omega)]
      by_cases hk : k < p
      · have m1 := mul250 (a := a) (b := k) (by omega) (by omega)
        rw [if_neg (show ¬ (p : Int) ≤ k by omega), e_M_prime hL, ex_bd, hp0, ← Int.natCast_mul, ex_rem (by omega) (by omega) (by omega) (by omega), Option.bind_some, ← Int.natCast_emod]
        have hlt : (a * k) % p < p := Nat.mod_lt _ (by omega)
        rw [pw_ck_ok (by omega) (by omega)]
        have hih := ih (k + 1) (by omega) (by omega) (by omega)
        by_cases q : (a * k) % p = 1
        · have hk9 := iv_uniq hp ha ha0 hk q
          rw [if_pos (show (((a * k) % p : Nat) : Int) = 1 by omega)]
          rw [if_pos (by omega), ← hk9] at hih
          rw [← hk9]
          exact hih
        · rw [if_neg (show ¬ (((a * k) % p : Nat) : Int) = 1 by omega)]
          have hne : iv p a ≠ k := fun w => q (by rw [← w]; exact hiv)
          by_cases w : iv p a < k
          · rw [if_pos w]
            rw [if_pos (by omega)] at hih
            exact hih
          · rw [if_neg w]
            rw [if_neg (by omega)] at hih
            exact hih
      · rw [if_pos (show (p : Int) ≤ k by omega), if_pos (by omega)]
  unfold mf_M_inverse
  have h := key 1000 1 (by omega) (by omega) (by omega)
  rw [if_neg (by omega)] at h
  rw [ex_gd (by omega) (by omega)]
  exact h
