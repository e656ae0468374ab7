section
/-! ## approximants of the model -/
def Ms (σ s : pw_Sto) : Prop := s.1 = σ.1 ∧ s.2.2 = σ.2.2 ∧ ∀ i, ¬ (96 ≤ i) → s.2.1 i = σ.2.1 i
theorem Ms.refl (σ : pw_Sto) : Ms σ σ := ⟨rfl, rfl, fun _ _ => rfl⟩
theorem Ms.trans {a b c : pw_Sto} (h : Ms a b) (k : Ms b c) : Ms a c := ⟨k.1.trans h.1, k.2.1.trans h.2.1, fun i hi => (k.2.2 i hi).trans (h.2.2 i hi)⟩
theorem Ms.st {σ : pw_Sto} {a : Nat} {f : Nat → Int} (h : 96 ≤ a) : Ms σ (pw_st σ a f) := ⟨rfl, rfl, fun i hi => st_ne (by omega)⟩
theorem Ms.fq {σ s : pw_Sto} {q : Nat} (h : Fq σ s q) (hq : 96 ≤ q) : Ms σ s := ⟨h.1, h.2.1, fun i hi => h.2.2 i (by omega)⟩
theorem Ms.fx {σ s : pw_Sto} (h : Fx σ s) : Ms σ s := ⟨h.1, h.2.1, fun i hi => h.2.2 i (by omega)⟩
theorem Ms.fz {σ s : pw_Sto} (h : Fz σ s) : Ms σ s := ⟨h.1, h.2.1, fun i hi => h.2.2 i (by omega) (by omega)⟩
theorem Lay.ms {σ s : pw_Sto} (h : Lay σ) (k : Ms σ s) : Lay s := ⟨k.1.trans h.1, fun q hq => by rw [k.2.1]; exact h.2 q hq⟩
theorem MR.ms {σ s : pw_Sto} {A : ASt} {T : Nat → Int} {len : Nat} {E : Nat → Int} {Hs : List ASt} (h : MR σ A T len E Hs) (k : Ms σ s) : MR s A T len E Hs := h.scr k.1 k.2.1 (fun i h1 _ => k.2.2 i h1) (fun q _ => by rw [k.2.2 91 (by omega)])
theorem Lo.ms {σ s : pw_Sto} (k : Ms σ s) : Lo σ s := ⟨k.1, k.2.1, fun i hi => k.2.2 i (by omega)⟩
theorem e_M_termF {A : ASt} [NeZero A.1] {t : pw_Sto} (hL : Lay t) (hS : StM t 92 0 A) (hV : VA A) {x : Int} (hx : 0 ≤ x ∧ x < 4) {k : Nat} (hk : k < 16) : mf_M_term 91 x (k : Nat) t = some (vv (srs A.1 (A.2.1 x.toNat) k), t) := by
  rw [e_M_term hL hS hx.1 hx.2 (by omega) (by omega), Int.toNat_natCast, srs_vv hk (hV.2.1 _ k (by omega) hk)]
theorem sm_pad {R : Type} [Lean.Grind.CommRing R] {f : Nat → R} {n : Nat} : ∀ {m : Nat}, n ≤ m → (∀ i, n ≤ i → i < m → f i = 0) → sm f m = sm f n := by
  intro m
  induction m with
  | zero => intro h _; rw [show n = 0 by omega]
  | succ m ih =>
    intro h1 h2
    by_cases c : n = m + 1
    · rw [c]
    · show sm f m + f m = sm f n
      rw [ih (by omega) (fun i a b => h2 i a (by omega)), h2 m (by omega) (by omega)]
      grind
def apX {p : Nat} [NeZero p] (f : PS (Fin p)) (m n : Nat) : Nat → Nat → Fin p := fun r c => if c ≤ n then (if m + 1 + r < c then 0 else f (m + 1 + r - c)) else 0
def pUp {p : Nat} [NeZero p] (v : Nat → Fin p) (n : Nat) : PS (Fin p) := fun k => if k ≤ n then v k else 0
theorem ap_row {p : Nat} [NeZero p] (f : PS (Fin p)) (v : Nat → Fin p) (m n r : Nat) : cv (pUp v n) f (m + 1 + r) = rS (apX f m n) v (n + 1) r := by
  have e1 : cv (pUp v n) f (m + 1 + r) = sm (fun i => if i ≤ n ∧ i ≤ m + 1 + r then v i * f (m + 1 + r - i) else 0) (m + 1 + r + 1 + (n + 1)) := by
    rw [sm_pad (n := m + 1 + r + 1) (by omega) (fun i h1 h2 => if_neg (by omega))]
    refine sm_congr (fun i hi => ?_)
    show (if i ≤ n then v i else 0) * f (m + 1 + r - i) = _
    by_cases c : i ≤ n
    · rw [if_pos c, if_pos (by omega)]
    · rw [if_neg c, if_neg (by omega)]; grind
  rw [e1, sm_pad (n := n + 1) (by omega) (fun i h1 h2 => if_neg (by omega))]
  refine sm_congr (fun i hi => ?_)
  show _ = (if i ≤ n then (if m + 1 + r < i then 0 else f (m + 1 + r - i)) else 0) * v i
  rw [if_pos (show i ≤ n by omega)]
  by_cases c : m + 1 + r < i
  · rw [if_neg (by omega), if_pos c]; grind
  · rw [if_pos (by omega), if_neg c]; grind
theorem e_M_apRow {A : ASt} [NeZero A.1] (hV : VA A) {x : Int} (hx : 0 ≤ x ∧ x < 4) {m n r : Nat} (hmn : m + n ≤ 15) (hr : r < n) {σ : pw_Sto} {T : Nat → Int} {len : Nat} {E : Nat → Int} {Hs : List ASt} (hM : MR σ A T len E Hs) (hX : Mt σ (fun r' c => if r' < r then apX (srs A.1 (A.2.1 x.toNat)) m n r' c else 0)) (r10 : Nat → Int → Int → Int → Int → pw_Sto → Option (Unit × pw_Sto)) : ∃ t, ml_M_approximate_19 r10 1000 91 x m n r 0 σ = r10 91 x m n ((r : Int) + 1) t ∧ Fq σ t 99 ∧ Mt t (fun r' c => if r' < r + 1 then apX (srs A.1 (A.2.1 x.toNat)) m n r' c else 0) := by
  have hp2 := isPb_le hV.1
  have s91 := sh_91
  have s99 := sh_99
  generalize hf : srs A.1 (A.2.1 x.toNat) = f at *
  obtain ⟨q, t, e1, f1, g⟩ := lp_ex (S := pw_Sto) (O := Unit × pw_Sto) (fun q k t => ml_M_approximate_19 r10 q 91 x m n r k t) (fun j => (j : Int)) (n + 1) (fun k t => Fq σ t 99 ∧ Mt t (fun r' c => if r' < r ∨ (r' = r ∧ c < k) then apX f m n r' c else 0))
    (by
      intro q k t hk hI
      obtain ⟨f1, g⟩ := hI
      have M1 := hM.ms (Ms.fq f1 (by omega))
      have L1 := M1.1
      have n1 := L1.1
      refine ⟨pw_st t 99 (fun j => if j = 18 * r + k then vv (apX f m n r k) else t.2.1 99 j), ?_, ⟨f1.1, f1.2.1, fun i hi => by rw [st_ne hi]; exact f1.2.2 i hi⟩, fun r' c h1 h2 => ?_⟩
      · try dsimp only
        rw [us_M_approximate_19]
        unfold mb_M_approximate_19 apX
        rw [pw_ck_ok (by omega) (by omega), if_neg (by omega), ex_gr (by omega) (by omega), lr_91_10 L1, Option.bind_some, pw_ck_ok (by omega) (by omega), if_pos (show k ≤ n by omega)]
        by_cases c : m + 1 + r < k
        · rw [if_neg (by omega), if_pos c, xs_si (by omega) (by omega) (by omega) (by omega), Option.bind_some, show ((18 : Int) * (r : Int) + (k : Int)).toNat = 18 * r + k by omega, vv_0]
          rfl
        · have tt := e_M_termF L1 M1.2.1 hV hx (k := m + 1 + r - k) (by omega)
          rw [hf] at tt
          rw [if_pos (by omega), if_neg c, show (m : Int) + 1 + (r : Int) - (k : Int) = ((m + 1 + r - k : Nat) : Int) by omega, tt, ex_bd, xs_si (by omega) (by omega) (by omega) (by omega), Option.bind_some, show ((18 : Int) * (r : Int) + (k : Int)).toNat = 18 * r + k by omega]
          rfl
      · rw [st_eq]
        try dsimp only
        by_cases e : r' = r ∧ c = k
        · rw [if_pos (by omega), if_pos (by omega), e.1, e.2]
        · rw [if_neg (by omega), g r' c h1 h2]
          try dsimp only
          by_cases e2 : r' < r ∨ (r' = r ∧ c < k)
          · rw [if_pos e2, if_pos (by omega)]
          · rw [if_neg e2, if_neg (by omega)]) (n + 1) 0 1000 σ (by omega) (by omega) ⟨⟨rfl, rfl, fun _ _ => rfl⟩, fun r' c h1 h2 => by
            rw [hX r' c h1 h2]
            try dsimp only
            by_cases e : r' < r
            · rw [if_pos e, if_pos (by omega)]
            · rw [if_neg e, if_neg (by omega)]⟩
  refine ⟨t, Eq.trans e1 ?_, f1, fun r' c h1 h2 => ?_⟩
  · try dsimp only
    rw [us_M_approximate_19]
    unfold mb_M_approximate_19
    rw [pw_ck_ok (by omega) (by omega), if_pos (by omega)]
  · rw [g r' c h1 h2]
    try dsimp only
    by_cases e : r' < r + 1
    · by_cases e2 : r' < r ∨ (r' = r ∧ c < n + 1)
      · rw [if_pos e, if_pos e2]
      · rw [if_neg e2, if_pos e]
        unfold apX
        rw [if_neg (by omega)]
    · rw [if_neg e, if_neg (by omega)]
/-- the numerator's coefficient -/
theorem e_M_apUp {A : ASt} [NeZero A.1] (hV : VA A) {x : Int} (hx : 0 ≤ x ∧ x < 4) {m k : Nat} (hk : k < 16) {σ : pw_Sto} {T : Nat → Int} {len : Nat} {E : Nat → Int} {Hs : List ASt} (hM : MR σ A T len E Hs) {Q : PS (Fin A.1)} (hQ : Pm σ 103 Q) (h0 : σ.2.1 102 k = 0) (r131 : Nat → Int → Int → Int → pw_Sto → Option (Unit × pw_Sto)) : ∃ t, ml_M_approximate_140 r131 1000 91 x m k 0 σ = r131 91 x m ((k : Int) + 1) t ∧ Fq σ t 102 ∧ ∀ j, t.2.1 102 j = if j = k then vv (cv Q (srs A.1 (A.2.1 x.toNat)) k) else σ.2.1 102 j := by
  have hp2 := isPb_le hV.1
  have s91 := sh_91
  have s102 := sh_102
  have s103 := sh_103
  generalize hf : srs A.1 (A.2.1 x.toNat) = f at *
  obtain ⟨q, t, e1, f1, g⟩ := lp_ex (S := pw_Sto) (O := Unit × pw_Sto) (fun q j t => ml_M_approximate_140 r131 q 91 x m k j t) (fun j => (j : Int)) (k + 1) (fun i t => Fq σ t 102 ∧ ∀ j, t.2.1 102 j = if j = k then vv (sm (fun i => Q i * f (k - i)) i) else σ.2.1 102 j)
    (by
      intro q i t hi hI
      obtain ⟨f1, g⟩ := hI
      have M1 := hM.ms (Ms.fq f1 (by omega))
      have L1 := M1.1
      have n1 := L1.1
      have p1 : t.2.1 92 0 = A.1 := M1.2.1.1
      have tt := e_M_termF L1 M1.2.1 hV hx (k := k - i) (by omega)
      rw [hf] at tt
      have e2 := g k
      rw [if_pos rfl] at e2
      have e3 : t.2.1 103 i = vv (Q i) := by rw [f1.2.2 103 (by omega)]; exact hQ.1 i (by omega)
      have r1 := vv_rng (sm (fun i => Q i * f (k - i)) i)
      have r2 := vv_mm (p := A.1) (by omega) (Q i) (f (k - i))
      refine ⟨pw_st t 102 (fun j => if j = k then vv (sm (fun i => Q i * f (k - i)) (i + 1)) else t.2.1 102 j), ?_, ⟨f1.1, f1.2.1, fun a ha => by rw [st_ne ha]; exact f1.2.2 a ha⟩, fun j => ?_⟩
      · try dsimp only
        rw [us_M_approximate_140]
        unfold mb_M_approximate_140
        rw [pw_ck_ok (by omega) (by omega), if_neg (by omega), ex_gr (by omega) (by omega), lr_91_13 L1]
        simp only [Option.bind_some]
        rw [ex_ai (by omega) (by omega) (by omega) (by omega), Option.bind_some, Int.toNat_natCast, e2, ex_gr (by omega) (by omega), lr_91_14 L1, Option.bind_some, ex_ai (by omega) (by omega) (by omega) (by omega), Option.bind_some, Int.toNat_natCast, e3, show (k : Int) - (i : Int) = ((k - i : Nat) : Int) by omega, tt, ex_bd, e_M_mod L1 p1 (by omega) (by omega) (by omega), ex_bd, ← vv_am, xs_si (by omega) (by omega) (by omega) (by omega), Option.bind_some, Int.toNat_natCast]
        rfl
      · rw [st_eq]
        by_cases c : j = k
        · rw [if_pos c, if_pos c]
        · rw [if_neg c, if_neg c, g j, if_neg c]) (k + 1) 0 1000 σ (by omega) (by omega) ⟨⟨rfl, rfl, fun _ _ => rfl⟩, fun j => by
            by_cases c : j = k
            · rw [if_pos c, c, h0]; exact vv_0.symm
            · rw [if_neg c]⟩
  refine ⟨t, Eq.trans e1 ?_, f1, g⟩
  try dsimp only
  rw [us_M_approximate_140]
  unfold mb_M_approximate_140
  rw [pw_ck_ok (by omega) (by omega), if_pos (by omega)]
theorem e_M_clearMt {p : Nat} [NeZero p] {σ : pw_Sto} (hL : Lay σ) : ∃ s, mf_M_clear 99 σ = some ((), s) ∧ Fq σ s 99 ∧ Mt s (fun _ _ => (0 : Fin p)) := by
  have hN := hL.1
  have s99 := sh_99
  refine ⟨_, e_M_clear (by omega) s99.1, ⟨rfl, rfl, fun i hi => st_ne hi⟩, fun r c hr hc => ?_⟩
  rw [st_eq, if_pos (by omega), vv_0]
theorem e_M_approximate {A : ASt} [NeZero A.1] (hV : VA A) {x : Int} (hx : 0 ≤ x ∧ x < 4) {m n : Nat} (hmn : m + n ≤ 15) {σ : pw_Sto} {T : Nat → Int} {len : Nat} {E : Nat → Int} {Hs : List ASt} (hM : MR σ A T len E Hs) : ∃ s P Q, mf_M_approximate 91 x m n σ = some ((), s) ∧ Ms σ s ∧ Pm s 102 P ∧ Pm s 103 Q ∧ pApp (srs A.1 (A.2.1 x.toNat)) m n (P, Q) := by
  have hp := hV.1
  have hp2 := isPb_le hp
  have s91 := sh_91
  have s101 := sh_101
  have s102 := sh_102
  have s103 := sh_103
  have hL := hM.1
  have hN := hL.1
  obtain ⟨s1, t1, F1, Z1⟩ := e_M_clearMt (p := A.1) hL
  have M1 := hM.ms (Ms.fq F1 (by omega))
  generalize hf : srs A.1 (A.2.1 x.toNat) = f
  obtain ⟨q2, s2, e2, F2, Z2⟩ := lp_ex (S := pw_Sto) (O := Unit × pw_Sto) (fun q k t => ml_M_approximate_10 q 91 x m n k t) (fun j => (j : Int)) n (fun k t => Fq s1 t 99 ∧ Mt t (fun r' c => if r' < k then apX f m n r' c else 0))
    (by
      intro q k t hk hI
      obtain ⟨f1, g⟩ := hI
      rw [← hf] at g
      obtain ⟨t', e, f2, g2⟩ := e_M_apRow hV hx hmn hk (M1.ms (Ms.fq f1 (by omega))) g (ml_M_approximate_10 q)
      rw [hf] at g2
      refine ⟨t', ?_, ⟨f2.1.trans f1.1, f2.2.1.trans f1.2.1, fun i hi => (f2.2.2 i hi).trans (f1.2.2 i hi)⟩, g2⟩
      try dsimp only
      rw [us_M_approximate_10]
      unfold mb_M_approximate_10
      rw [pw_ck_ok (by omega) (by omega), if_neg (by omega), e]
      rfl) n 0 1000 s1 (by omega) (by omega) ⟨⟨rfl, rfl, fun _ _ => rfl⟩, fun r' c h1 h2 => by
        try dsimp only
        rw [if_neg (by omega)]
        exact Z1 r' c h1 h2⟩
  have M2 := M1.ms (Ms.fq F2 (by omega))
  obtain ⟨s3, v, t3, F3, v3, nz, ker⟩ := e_M_findVector hp M2.1 M2.2.1.1 Z2 (rows := n) (cols := n + 1) (by omega) (by omega)
  have X3 : Ms s2 s3 := ⟨F3.1, F3.2.1, fun i hi => F3.2.2 i (by omega) (by omega) (by omega)⟩
  have M3 := M2.ms X3
  have n3 := M3.1.1
  obtain ⟨s4, t4, F4, c4⟩ := e_M_clearP (p := A.1) M3.1 (q := 102) (by omega) (by omega)
  have M4 := M3.ms (Ms.fq F4 (by omega))
  have n4 := M4.1.1
  obtain ⟨s5, t5, F5, c5⟩ := e_M_clearP (p := A.1) M4.1 (q := 103) (by omega) (by omega)
  have M5 := M4.ms (Ms.fq F5 (by omega))
  have n5 := M5.1.1
  have v5 : ∀ c, c < n + 1 → s5.2.1 101 c = vv (v c) := fun c hc => by rw [F5.2.2 101 (by omega), F4.2.2 101 (by omega)]; exact v3 c hc
  have h102 := lp_fill (O := Unit × pw_Sto) (fun q k t => ml_M_approximate_102 q 91 x m n k t) s5 103 0 (n + 1) (fun k => vv (v k)) (fun t => ml_M_approximate_131 1000 91 x m 0 t)
    (by
      intro q k h _ hk w1 w2
      have e1 : (pw_st s5 103 h).1 = 109 := n5
      have L2 : Lay (pw_st s5 103 h) := M5.1
      try dsimp only
      rw [us_M_approximate_102]
      unfold mb_M_approximate_102
      rw [pw_ck_ok (by omega) (by omega), if_neg (by omega), ex_gr (by omega) (by omega), lr_91_14 L2, Option.bind_some, ex_gr (by omega) (by omega), lr_91_12 L2, Option.bind_some, ex_ai (by omega) (by omega) (by omega) (by omega), Option.bind_some, Int.toNat_natCast, st_ne (by omega), v5 k hk, xs_si (by omega) (by omega) (by omega) (by omega), Option.bind_some, st_st, st_eq, Int.toNat_natCast]
      rfl)
    (by
      intro q h
      try dsimp only
      rw [us_M_approximate_102]
      unfold mb_M_approximate_102
      rw [pw_ck_ok (by omega) (by omega), if_pos (by omega)]) 1000 (by omega) (by omega)
  have X6 : Fq s5 (pw_st s5 103 (fun j => if 0 ≤ j ∧ j < n + 1 then vv (v j) else s5.2.1 103 j)) 103 := ⟨rfl, rfl, fun i hi => st_ne hi⟩
  have Q6 : Pm (pw_st s5 103 (fun j => if 0 ≤ j ∧ j < n + 1 then vv (v j) else s5.2.1 103 j)) 103 (pUp v n) := by
    refine ⟨fun k hk => ?_, fun k hk => if_neg (by omega)⟩
    rw [st_eq]
    show _ = vv (if k ≤ n then v k else 0)
    by_cases c : k ≤ n
    · rw [if_pos (by omega), if_pos c]
    · rw [if_neg (by omega), if_neg c, c5.1 k hk, cc_0]
  generalize pw_st s5 103 (fun j => if 0 ≤ j ∧ j < n + 1 then vv (v j) else s5.2.1 103 j) = s6 at *
  have M6 := M5.ms (Ms.fq X6 (by omega))
  have z6 : ∀ k, k < 18 → s6.2.1 102 k = 0 := fun k hk => by
    rw [X6.2.2 102 (by omega), F5.2.2 102 (by omega), c4.1 k hk, cc_0, vv_0]
  obtain ⟨q7, s7, e7, F7, U7⟩ := lp_ex (S := pw_Sto) (O := Unit × pw_Sto) (fun q k t => ml_M_approximate_131 q 91 x m k t) (fun j => (j : Int)) (m + 1) (fun k t => Fq s6 t 102 ∧ ∀ j, j < 18 → t.2.1 102 j = vv (if j < k then cv (pUp v n) f j else 0))
    (by
      intro q k t hk hI
      obtain ⟨f1, g⟩ := hI
      have e0 := g k (by omega)
      rw [if_neg (by omega), vv_0] at e0
      obtain ⟨t', e, f2, g2⟩ := e_M_apUp hV hx (m := m) (k := k) (by omega) (M6.ms (Ms.fq f1 (by omega))) (Q6.fq f1 (by omega)) e0 (ml_M_approximate_131 q)
      rw [hf] at g2
      refine ⟨t', ?_, ⟨f2.1.trans f1.1, f2.2.1.trans f1.2.1, fun i hi => (f2.2.2 i hi).trans (f1.2.2 i hi)⟩, fun j hj => ?_⟩
      · try dsimp only
        rw [us_M_approximate_131]
        unfold mb_M_approximate_131
        rw [pw_ck_ok (by omega) (by omega), if_neg (by omega), e]
        rfl
      · rw [g2 j]
        by_cases c : j = k
        · rw [if_pos c, if_pos (by omega), c]
        · rw [if_neg c, g j hj]
          by_cases c2 : j < k
          · rw [if_pos c2, if_pos (by omega)]
          · rw [if_neg c2, if_neg (by omega)]) (m + 1) 0 1000 s6 (by omega) (by omega) ⟨⟨rfl, rfl, fun _ _ => rfl⟩, fun j hj => by rw [if_neg (by omega), vv_0]; exact z6 j hj⟩
  have M7 := M6.ms (Ms.fq F7 (by omega))
  have P7 : Pm s7 102 (fun k => if k ≤ m then cv (pUp v n) f k else 0) := by
    refine ⟨fun k hk => ?_, fun k hk => if_neg (by omega)⟩
    rw [U7 k hk]
    try dsimp only
    by_cases c : k ≤ m
    · rw [if_pos c, if_pos (by omega)]
    · rw [if_neg c, if_neg (by omega)]
  have zQ : pNz (pUp v n) := by
    obtain ⟨c, hc, hv⟩ := nz
    exact ⟨c, by show (if c ≤ n then v c else 0) ≠ 0; rw [if_pos (by omega)]; exact hv⟩
  obtain ⟨s8, P, Q, t8, F8, a102, a103, LT⟩ := e_M_toLowest hp M7.1 M7.2.1.1 P7 (Q6.fq F7 (by omega)) zQ
  refine ⟨s8, P, Q, ?_, (((((((Ms.fq F1 (by omega)).trans (Ms.fq F2 (by omega))).trans X3).trans (Ms.fq F4 (by omega))).trans (Ms.fq F5 (by omega))).trans (Ms.fq X6 (by omega))).trans (Ms.fq F7 (by omega))).trans (Ms.fx F8), a102, a103, _, _, ⟨fun k hk => if_neg (by omega), fun k hk => if_neg (by omega), zQ, fun k hk => ?_⟩, LT⟩
  · have n2 := M2.1.1
    unfold mf_M_approximate
    rw [ex_gd (by omega) (by omega), ex_gr (by omega) (by omega), lr_91_10 hL, Option.bind_some, t1, ex_bd]
    refine Eq.trans e2 ?_
    try dsimp only
    rw [us_M_approximate_10]
    unfold mb_M_approximate_10
    rw [pw_ck_ok (by omega) (by omega), if_pos (by omega), show (n : Int) + 1 = ((n + 1 : Nat) : Int) by omega, t3, ex_bd, ex_gr (by omega) (by omega), lr_91_13 M3.1, Option.bind_some, t4, ex_bd, ex_gr (by omega) (by omega), lr_91_14 M4.1, Option.bind_some, t5, ex_bd]
    refine (Eq.trans h102 e7).trans ?_
    try dsimp only
    rw [us_M_approximate_131]
    unfold mb_M_approximate_131
    rw [pw_ck_ok (by omega) (by omega), if_pos (by omega), t8, ex_bd]
  · by_cases c : k ≤ m
    · exact (if_pos c).symm
    · have e := ker (k - m - 1) (by omega)
      have e3 : rS (fun r' c => if r' < n then apX f m n r' c else 0) v (n + 1) (k - m - 1) = rS (apX f m n) v (n + 1) (k - m - 1) := by
        unfold rS
        refine sm_congr (fun i _ => ?_)
        try dsimp only
        rw [if_pos (by omega)]
      rw [e3, ← ap_row, show m + 1 + (k - m - 1) = k by omega] at e
      exact e.trans (if_neg c).symm
end
