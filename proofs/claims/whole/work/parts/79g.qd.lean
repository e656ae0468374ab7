section
/-! ## the quotient-difference scheme -/
def qcE (p : Nat) (q e : Nat → Int) : Nat → Int := fun k => if k < 15 then (if 0 ≤ q (k + 1) ∧ 0 ≤ q k ∧ 0 ≤ e (k + 1) then (q (k + 1) - q k + e (k + 1)) % p else -1) else -1
def qcQ (p : Nat) (q e : Nat → Int) : Nat → Int := fun k => if k < 15 then (if 0 ≤ q (k + 1) ∧ 0 ≤ e (k + 1) ∧ 0 < e k then ((q (k + 1) * e (k + 1)) % p * ((iv p (e k).toNat : Nat) : Int)) % p else -1) else -1
def qc1 (p : Nat) (a : Nat → Int) : Nat → Int := fun k => if k < 15 then (if a k = 0 then -1 else (a (k + 1) * ((iv p (a k).toNat : Nat) : Int)) % p) else -1
def qdC (p : Nat) (a : Nat → Int) : Nat → (Nat → Int) × (Nat → Int)
  | 0 => (qc1 p a, fun _ => 0)
  | j + 1 => (qcQ p (qdC p a j).1 (qcE p (qdC p a j).1 (qdC p a j).2), qcE p (qdC p a j).1 (qdC p a j).2)
theorem qcE_rng {p : Nat} (hp : 2 ≤ p) (q e : Nat → Int) (k : Nat) : -1 ≤ qcE p q e k ∧ qcE p q e k < p := by
  unfold qcE
  by_cases c : k < 15
  · rw [if_pos c]
    by_cases c2 : 0 ≤ q (k + 1) ∧ 0 ≤ q k ∧ 0 ≤ e (k + 1)
    · rw [if_pos c2]; have := mod_rng hp (q (k + 1) - q k + e (k + 1)); omega
    · rw [if_neg c2]; omega
  · rw [if_neg c]; omega
theorem qcQ_rng {p : Nat} (hp : 2 ≤ p) (q e : Nat → Int) (k : Nat) : -1 ≤ qcQ p q e k ∧ qcQ p q e k < p := by
  unfold qcQ
  by_cases c : k < 15
  · rw [if_pos c]
    by_cases c2 : 0 ≤ q (k + 1) ∧ 0 ≤ e (k + 1) ∧ 0 < e k
    · rw [if_pos c2]; have := mod_rng hp ((q (k + 1) * e (k + 1)) % p * ((iv p (e k).toNat : Nat) : Int)); omega
    · rw [if_neg c2]; omega
  · rw [if_neg c]; omega
theorem qc1_rng {p : Nat} (hp : 2 ≤ p) (a : Nat → Int) (k : Nat) : -1 ≤ qc1 p a k ∧ qc1 p a k < p := by
  unfold qc1
  by_cases c : k < 15
  · rw [if_pos c]
    by_cases c2 : a k = 0
    · rw [if_pos c2]; omega
    · rw [if_neg c2]; have := mod_rng hp (a (k + 1) * ((iv p (a k).toNat : Nat) : Int)); omega
  · rw [if_neg c]; omega
theorem qd_rng {p : Nat} (hp : 2 ≤ p) (a : Nat → Int) (j k : Nat) : (-1 ≤ (qdC p a j).1 k ∧ (qdC p a j).1 k < p) ∧ (-1 ≤ (qdC p a j).2 k ∧ (qdC p a j).2 k < p) := by
  cases j with
  | zero => exact ⟨qc1_rng hp a k, by show -1 ≤ (0 : Int) ∧ (0 : Int) < p; omega⟩
  | succ j => exact ⟨qcQ_rng hp _ _ k, qcE_rng hp _ _ k⟩
theorem e_Q_ratio {p : Nat} (hp : isPb p = true) {σ : pw_Sto} {a b : Int} (ha : 0 ≤ a ∧ a < p) (hb : -1 ≤ b ∧ b < p) : mf_Q_ratio a b p σ = some (if b ≤ 0 then -1 else (a * ((iv p b.toNat : Nat) : Int)) % p, σ) := by
  have hp2 := isPb_le hp
  unfold mf_Q_ratio
  rw [pw_ck_ok (by omega) (by omega)]
  by_cases c : b ≤ 0
  · rw [if_pos c, if_pos c]
  · rw [if_neg c, if_neg c]
    have h := e_K_over (p := p) (a := a.toNat) (b := b.toNat) (σ := σ) hp (by omega) (by omega)
    rw [show ((a.toNat : Nat) : Int) = a by omega, show ((b.toNat : Nat) : Int) = b by omega] at h
    rw [h, ex_bd, Int.natCast_emod, Int.natCast_mul, show ((a.toNat : Nat) : Int) = a by omega]
def Fq2 (σ s : pw_Sto) : Prop := s.1 = σ.1 ∧ s.2.2 = σ.2.2 ∧ ∀ i, i ≠ 82 → i ≠ 83 → s.2.1 i = σ.2.1 i
theorem Fq2.trans {a b c : pw_Sto} (h : Fq2 a b) (k : Fq2 b c) : Fq2 a c := ⟨k.1.trans h.1, k.2.1.trans h.2.1, fun i h1 h2 => (k.2.2 i h1 h2).trans (h.2.2 i h1 h2)⟩
theorem Fq2.st {σ : pw_Sto} {a : Nat} {f : Nat → Int} (h : a = 82 ∨ a = 83) : Fq2 σ (pw_st σ a f) := ⟨rfl, rfl, fun i h1 h2 => st_ne (by omega)⟩
theorem Lay.fq2 {σ s : pw_Sto} (h : Lay σ) (k : Fq2 σ s) : Lay s := ⟨k.1.trans h.1, fun q hq => by rw [k.2.1]; exact h.2 q hq⟩
def Qs (σ : pw_Sto) (q e : Nat → Int) : Prop := ∀ k, k < 16 → σ.2.1 82 k = q k ∧ σ.2.1 83 k = e k
theorem e_Q_nextE {p : Nat} (hp : isPb p = true) {σ : pw_Sto} (hL : Lay σ) {q e : Nat → Int} (hQ : Qs σ q e) (rq : ∀ k, -1 ≤ q k ∧ q k < p) (re : ∀ k, -1 ≤ e k ∧ e k < p) : ∃ s, mf_Q_nextE 81 p σ = some ((), s) ∧ Fq2 σ s ∧ Qs s q (qcE p q e) := by
  have hp2 := isPb_le hp
  have hN := hL.1
  have s81 := sh_81
  have s82 := sh_82
  have s83 := sh_83
  have hl := lp_fill (O := Unit × pw_Sto) (fun n k t => ml_Q_nextE_2 n 81 p k t) σ 83 0 15 (fun k => qcE p q e k) (fun t => (pw_si 83 (15 : Int) (-1 : Int) t).bind (fun s2 => some ((), s2)))
    (by
      intro n k h _ hk w1 w2
      have L1 : Lay (pw_st σ 83 h) := hL
      have n1 := L1.1
      have e1 : (pw_st σ 83 h).2.1 82 (k + 1) = q (k + 1) := by rw [st_ne (by omega)]; exact (hQ (k + 1) (by omega)).1
      have e2 : (pw_st σ 83 h).2.1 82 k = q k := by rw [st_ne (by omega)]; exact (hQ k (by omega)).1
      have e3 : (pw_st σ 83 h).2.1 83 (k + 1) = e (k + 1) := by rw [st_eq, w1 (k + 1) (Or.inl (by omega))]; exact (hQ (k + 1) (by omega)).2
      have q1 := rq (k + 1)
      have q2 := rq k
      have q3 := re (k + 1)
      have nt : ((k : Int) + 1).toNat = k + 1 := by omega
      have no : mj_Q_nextE_46 (ml_Q_nextE_2 n) 81 p (k : Int) 0 (pw_st σ 83 h) = ml_Q_nextE_2 n 81 p ((k + 1 : Nat) : Int) (pw_st σ 83 (fun j => if j = k then -1 else h j)) := by
        unfold mj_Q_nextE_46
        rw [ex_gr (by omega) (by omega), lr_81_1 L1, Option.bind_some, pw_ck_ok (by omega) (by omega), if_pos rfl, xs_si (by omega) (by omega) (by omega) (by omega), Option.bind_some, st_st, st_eq, Int.toNat_natCast]
        rfl
      try dsimp only
      rw [us_Q_nextE_2]
      unfold mb_Q_nextE_2 mj_Q_nextE_45 qcE
      rw [if_pos hk, pw_ck_ok (by omega) (by omega), if_neg (by omega), ex_gr (by omega) (by omega), lr_81_0 L1]
      simp only [Option.bind_some]
      rw [ex_ai (by omega) (by omega) (by omega) (by omega), Option.bind_some, nt, e1, pw_ck_ok (by omega) (by omega)]
      by_cases c1 : q (k + 1) < 0
      · rw [if_pos c1, if_neg (by omega), no]
      · rw [if_neg c1, ex_ai (by omega) (by omega) (by omega) (by omega), Option.bind_some, Int.toNat_natCast, e2, pw_ck_ok (by omega) (by omega)]
        by_cases c2 : q k < 0
        · rw [if_pos c2, if_neg (by omega), no]
        · rw [if_neg c2, ex_gr (by omega) (by omega), lr_81_1 L1]
          simp only [Option.bind_some]
          rw [ex_ai (by omega) (by omega) (by omega) (by omega), Option.bind_some, nt, e3, pw_ck_ok (by omega) (by omega)]
          by_cases c3 : e (k + 1) < 0
          · rw [if_pos c3, if_neg (by omega), no]
          · have em : (q (k + 1) + (p : Int) - q k + e (k + 1)) % p = (q (k + 1) - q k + e (k + 1)) % p := by
              rw [show q (k + 1) + (p : Int) - q k + e (k + 1) = (q (k + 1) - q k + e (k + 1)) + p by omega, Int.add_emod_right]
            rw [if_neg c3, if_pos (by omega)]
            unfold mj_Q_nextE_46
            rw [ex_gr (by omega) (by omega), lr_81_1 L1, Option.bind_some, pw_ck_ok (by omega) (by omega), if_neg (by omega), ex_gr (by omega) (by omega), lr_81_0 L1]
            simp only [Option.bind_some]
            rw [ex_ai (by omega) (by omega) (by omega) (by omega), Option.bind_some, nt, e1, ex_ai (by omega) (by omega) (by omega) (by omega), Option.bind_some, Int.toNat_natCast, e2, ex_ai (by omega) (by omega) (by omega) (by omega), Option.bind_some, nt, e3, e_K_reduce (by omega) (by omega) (by omega) (by omega), ex_bd, em, xs_si (by omega) (by omega) (by omega) (by omega), Option.bind_some, st_st, st_eq, Int.toNat_natCast]
            rfl)
    (by
      intro n h
      have L1 : Lay (pw_st σ 83 h) := hL
      have n1 := L1.1
      try dsimp only
      rw [us_Q_nextE_2]
      unfold mb_Q_nextE_2
      rw [pw_ck_ok (by omega) (by omega), if_pos (by omega), ex_gr (by omega) (by omega), lr_81_1 L1, Option.bind_some]) 1000 (by omega) (by omega)
  refine ⟨pw_st σ 83 (fun j => if j = 15 then -1 else if 0 ≤ j ∧ j < 15 then qcE p q e j else σ.2.1 83 j), ?_, Fq2.st (Or.inr rfl), fun k hk => ⟨by rw [st_ne (by omega)]; exact (hQ k hk).1, ?_⟩⟩
  · unfold mf_Q_nextE
    rw [ex_gd (by omega) (by omega)]
    refine Eq.trans hl ?_
    have n1 : (pw_st σ 83 (fun j => if 0 ≤ j ∧ j < 15 then qcE p q e j else σ.2.1 83 j)).1 = 109 := hN
    rw [xs_si (by omega) (by omega) (by omega) (by omega), Option.bind_some, st_st, st_eq]
    rfl
  · rw [st_eq]
    by_cases c : k = 15
    · rw [if_pos c]
      unfold qcE
      rw [if_neg (by omega)]
    · rw [if_neg c, if_pos (by omega)]
theorem e_Q_nextQ {p : Nat} (hp : isPb p = true) {σ : pw_Sto} (hL : Lay σ) {q e : Nat → Int} (hQ : Qs σ q e) (rq : ∀ k, -1 ≤ q k ∧ q k < p) (re : ∀ k, -1 ≤ e k ∧ e k < p) : ∃ s, mf_Q_nextQ 81 p σ = some ((), s) ∧ Fq2 σ s ∧ Qs s (qcQ p q e) e := by
  have hp2 := isPb_le hp
  have hN := hL.1
  have s81 := sh_81
  have s82 := sh_82
  have s83 := sh_83
  have hl := lp_fill (O := Unit × pw_Sto) (fun n k t => ml_Q_nextQ_2 n 81 p k t) σ 82 0 15 (fun k => qcQ p q e k) (fun t => (pw_si 82 (15 : Int) (-1 : Int) t).bind (fun s2 => some ((), s2)))
    (by
      intro n k h _ hk w1 w2
      have L1 : Lay (pw_st σ 82 h) := hL
      have n1 := L1.1
      have e1 : (pw_st σ 82 h).2.1 82 (k + 1) = q (k + 1) := by rw [st_eq, w1 (k + 1) (Or.inl (by omega))]; exact (hQ (k + 1) (by omega)).1
      have e2 : (pw_st σ 82 h).2.1 83 k = e k := by rw [st_ne (by omega)]; exact (hQ k (by omega)).2
      have e3 : (pw_st σ 82 h).2.1 83 (k + 1) = e (k + 1) := by rw [st_ne (by omega)]; exact (hQ (k + 1) (by omega)).2
      have q1 := rq (k + 1)
      have q2 := re k
      have q3 := re (k + 1)
      have nt : ((k : Int) + 1).toNat = k + 1 := by omega
      have no : mj_Q_nextQ_37 (ml_Q_nextQ_2 n) 81 p (k : Int) 0 (pw_st σ 82 h) = ml_Q_nextQ_2 n 81 p ((k + 1 : Nat) : Int) (pw_st σ 82 (fun j => if j = k then -1 else h j)) := by
        unfold mj_Q_nextQ_37
        rw [ex_gr (by omega) (by omega), lr_81_0 L1, Option.bind_some, pw_ck_ok (by omega) (by omega), if_pos rfl, xs_si (by omega) (by omega) (by omega) (by omega), Option.bind_some, st_st, st_eq, Int.toNat_natCast]
        rfl
      try dsimp only
      rw [us_Q_nextQ_2]
      unfold mb_Q_nextQ_2 mj_Q_nextQ_36 qcQ
      rw [if_pos hk, pw_ck_ok (by omega) (by omega), if_neg (by omega), ex_gr (by omega) (by omega), lr_81_0 L1]
      simp only [Option.bind_some]
      rw [ex_ai (by omega) (by omega) (by omega) (by omega), Option.bind_some, nt, e1, pw_ck_ok (by omega) (by omega)]
      by_cases c1 : q (k + 1) < 0
      · rw [if_pos c1, if_neg (by omega), no]
      · rw [if_neg c1, ex_gr (by omega) (by omega), lr_81_1 L1]
        simp only [Option.bind_some]
        rw [ex_ai (by omega) (by omega) (by omega) (by omega), Option.bind_some, nt, e3, pw_ck_ok (by omega) (by omega)]
        by_cases c2 : e (k + 1) < 0
        · rw [if_pos c2, if_neg (by omega), no]
        · have m1 := imul250 (a := q (k + 1)) (b := e (k + 1)) (by omega) (by omega) (by omega) (by omega)
          have m2 := mod_rng (p := p) (by omega) (q (k + 1) * e (k + 1))
          rw [if_neg c2]
          unfold mj_Q_nextQ_37
          rw [ex_gr (by omega) (by omega), lr_81_0 L1, Option.bind_some, pw_ck_ok (by omega) (by omega), if_neg (by omega)]
          simp only [Option.bind_some]
          rw [ex_ai (by omega) (by omega) (by omega) (by omega), Option.bind_some, nt, e1, ex_gr (by omega) (by omega), lr_81_1 L1]
          simp only [Option.bind_some]
          rw [ex_ai (by omega) (by omega) (by omega) (by omega), Option.bind_some, nt, e3, e_K_times m1.1 (by omega) (by omega) (by omega), ex_bd, ex_gr (by omega) (by omega), lr_81_1 L1]
          simp only [Option.bind_some]
          rw [ex_ai (by omega) (by omega) (by omega) (by omega), Option.bind_some, Int.toNat_natCast, e2, e_Q_ratio hp m2 q2, ex_bd, xs_si (by omega) (by omega) (by omega) (by omega), Option.bind_some, st_st, st_eq, Int.toNat_natCast]
          by_cases c3 : e k ≤ 0
          · rw [if_pos c3, if_neg (by omega)]
            rfl
          · rw [if_neg c3, if_pos (by omega)]
            rfl)
    (by
      intro n h
      have L1 : Lay (pw_st σ 82 h) := hL
      have n1 := L1.1
      try dsimp only
      rw [us_Q_nextQ_2]
      unfold mb_Q_nextQ_2
      rw [pw_ck_ok (by omega) (by omega), if_pos (by omega), ex_gr (by omega) (by omega), lr_81_0 L1, Option.bind_some]) 1000 (by omega) (by omega)
  refine ⟨pw_st σ 82 (fun j => if j = 15 then -1 else if 0 ≤ j ∧ j < 15 then qcQ p q e j else σ.2.1 82 j), ?_, Fq2.st (Or.inl rfl), fun k hk => ⟨?_, by rw [st_ne (by omega)]; exact (hQ k hk).2⟩⟩
  · unfold mf_Q_nextQ
    rw [ex_gd (by omega) (by omega)]
    refine Eq.trans hl ?_
    have n1 : (pw_st σ 82 (fun j => if 0 ≤ j ∧ j < 15 then qcQ p q e j else σ.2.1 82 j)).1 = 109 := hN
    rw [xs_si (by omega) (by omega) (by omega) (by omega), Option.bind_some, st_st, st_eq]
    rfl
  · rw [st_eq]
    by_cases c : k = 15
    · rw [if_pos c]
      unfold qcQ
      rw [if_neg (by omega)]
    · rw [if_neg c, if_pos (by omega)]
theorem e_Q_first {p : Nat} (hp : isPb p = true) {σ : pw_Sto} (hL : Lay σ) {c : Nat} (hc : c < 47) (sc : pw_sh c = (11, 16)) {a : Nat → Int} (ha : ∀ k, k < 16 → σ.2.1 c k = a k) (ra : ∀ k, k < 16 → 0 ≤ a k ∧ a k < p) : ∃ s, mf_Q_firstColumns 81 c p σ = some ((), s) ∧ Fq2 σ s ∧ Qs s (qdC p a 0).1 (qdC p a 0).2 := by
  have hp2 := isPb_le hp
  have hN := hL.1
  have s81 := sh_81
  have s82 := sh_82
  have s83 := sh_83
  have sc1 : (pw_sh c).1 = 11 := by rw [sc]
  have sc2 : (pw_sh c).2 = 16 := by rw [sc]
  have t0 := e_A_fill (a := 83) (v := 0) (σ := σ) (by omega) s83.1
  have F0 : Fq2 σ (pw_st σ 83 (fun j => if j < (pw_sh 83).2 then 0 else σ.2.1 83 j)) := Fq2.st (Or.inr rfl)
  have z0 : ∀ k, k < 16 → (pw_st σ 83 (fun j => if j < (pw_sh 83).2 then 0 else σ.2.1 83 j)).2.1 83 k = 0 := fun k hk => by rw [st_eq, if_pos (by omega)]
  generalize pw_st σ 83 (fun j => if j < (pw_sh 83).2 then 0 else σ.2.1 83 j) = s1 at *
  have L1 := hL.fq2 F0
  have n1 := L1.1
  have hl := lp_fill (O := Unit × pw_Sto) (fun n k t => ml_Q_firstColumns_10 n 81 c p k t) s1 82 0 15 (fun k => qc1 p a k) (fun t => (pw_si 82 (15 : Int) (-1 : Int) t).bind (fun s2 => some ((), s2)))
    (by
      intro n k h _ hk w1 w2
      have L2 : Lay (pw_st s1 82 h) := L1
      have n2 := L2.1
      have e1 : (pw_st s1 82 h).2.1 c (k + 1) = a (k + 1) := by rw [st_ne (by omega), F0.2.2 c (by omega) (by omega)]; exact ha (k + 1) (by omega)
      have e2 : (pw_st s1 82 h).2.1 c k = a k := by rw [st_ne (by omega), F0.2.2 c (by omega) (by omega)]; exact ha k (by omega)
      have q1 := ra (k + 1) (by omega)
      have q2 := ra k (by omega)
      try dsimp only
      rw [us_Q_firstColumns_10]
      unfold mb_Q_firstColumns_10 qc1
      rw [if_pos hk, pw_ck_ok (by omega) (by omega), if_neg (by omega), ex_gr (by omega) (by omega), lr_81_0 L2, Option.bind_some, ex_ai (by omega) (by omega) (by omega) (by omega), Option.bind_some, show ((k : Int) + 1).toNat = k + 1 by omega, e1, ex_ai (by omega) (by omega) (by omega) (by omega), Option.bind_some, Int.toNat_natCast, e2, e_Q_ratio hp q1 (by omega), ex_bd, xs_si (by omega) (by omega) (by omega) (by omega), Option.bind_some, st_st, st_eq, Int.toNat_natCast]
      by_cases c3 : a k = 0
      · rw [if_pos (by omega), if_pos c3]
        rfl
      · rw [if_neg (by omega), if_neg c3]
        rfl)
    (by
      intro n h
      have L2 : Lay (pw_st s1 82 h) := L1
      have n2 := L2.1
      try dsimp only
      rw [us_Q_firstColumns_10]
      unfold mb_Q_firstColumns_10
      rw [pw_ck_ok (by omega) (by omega), if_pos (by omega), ex_gr (by omega) (by omega), lr_81_0 L2, Option.bind_some]) 1000 (by omega) (by omega)
  refine ⟨pw_st s1 82 (fun j => if j = 15 then -1 else if 0 ≤ j ∧ j < 15 then qc1 p a j else s1.2.1 82 j), ?_, F0.trans (Fq2.st (Or.inl rfl)), fun k hk => ⟨?_, by rw [st_ne (by omega)]; exact z0 k hk⟩⟩
  · unfold mf_Q_firstColumns
    rw [ex_gd (by omega) (by omega), ex_gr (by omega) (by omega), lr_81_1 hL, Option.bind_some, t0, ex_bd]
    refine Eq.trans hl ?_
    have n2 : (pw_st s1 82 (fun j => if 0 ≤ j ∧ j < 15 then qc1 p a j else s1.2.1 82 j)).1 = 109 := n1
    rw [xs_si (by omega) (by omega) (by omega) (by omega), Option.bind_some, st_st, st_eq]
    rfl
  · rw [st_eq]
    show _ = qc1 p a k
    by_cases c4 : k = 15
    · rw [if_pos c4]
      unfold qc1
      rw [if_neg (by omega)]
    · rw [if_neg c4, if_pos (by omega)]
theorem e_Q_number {p : Nat} (hp : isPb p = true) {σ : pw_Sto} (hL : Lay σ) {c : Nat} (hc : c < 47) (sc : pw_sh c = (11, 16)) {a : Nat → Int} (ha : ∀ k, k < 16 → σ.2.1 c k = a k) (ra : ∀ k, k < 16 → 0 ≤ a k ∧ a k < p) {kd : Int} (hkd : kd = 0 ∨ kd = 1) {j k : Nat} (hj : j < 8) (hk : k < 16) : ∃ s, mf_Q_number 81 c kd ((j : Int) + 1) k p σ = some (if kd = 0 then (qdC p a j).1 k else (qdC p a (j + 1)).2 k, s) ∧ Fq2 σ s := by
  have hp2 := isPb_le hp
  have hN := hL.1
  have s81 := sh_81
  have s82 := sh_82
  have s83 := sh_83
  obtain ⟨s1, t1, F1, Q1⟩ := e_Q_first hp hL hc sc ha ra
  have L1 := hL.fq2 F1
  obtain ⟨n, s2, e2, F2, Q2⟩ := lp_ex (S := pw_Sto) (O := Int × pw_Sto) (fun n i t => ml_Q_number_10 n 81 kd ((j : Int) + 1) k p i t) (fun i => (i : Int) + 1) j (fun i t => Fq2 s1 t ∧ Qs t (qdC p a i).1 (qdC p a i).2)
    (by
      intro n i t hi hI
      obtain ⟨f1, q1⟩ := hI
      have Lt := L1.fq2 f1
      obtain ⟨u, e1, f2, q2⟩ := e_Q_nextE hp Lt q1 (fun k => (qd_rng (by omega) a i k).1) (fun k => (qd_rng (by omega) a i k).2)
      obtain ⟨w, e2, f3, q3⟩ := e_Q_nextQ hp (Lt.fq2 f2) q2 (fun k => (qd_rng (by omega) a i k).1) (fun k => qcE_rng (by omega) _ _ k)
      refine ⟨w, ?_, (f1.trans f2).trans f3, q3⟩
      try dsimp only
      rw [us_Q_number_10]
      unfold mb_Q_number_10
      rw [pw_ck_ok (by omega) (by omega), if_neg (by omega), pw_ck_ok (by omega) (by omega), if_neg (by omega), e1, ex_bd, e2, ex_bd, show (i : Int) + 1 + 1 = ((i + 1 : Nat) : Int) + 1 by omega]) j 0 1000 s1 (by omega) (by omega) ⟨⟨rfl, rfl, fun _ _ _ => rfl⟩, Q1⟩
  have L2 := L1.fq2 F2
  have n2 := L2.1
  have e0 : mf_Q_number 81 c kd ((j : Int) + 1) k p σ = mj_Q_number_41 81 kd k p s2 := by
    unfold mf_Q_number
    rw [ex_gd (by omega) (by omega), t1, ex_bd]
    refine Eq.trans e2 ?_
    try dsimp only
    rw [us_Q_number_10]
    unfold mb_Q_number_10
    rw [pw_ck_ok (by omega) (by omega), if_pos (by omega)]
  rw [e0]
  unfold mj_Q_number_41
  rcases hkd with h | h
  · subst h
    refine ⟨s2, ?_, F1.trans F2⟩
    rw [pw_ck_ok (by omega) (by omega), if_pos rfl, if_pos rfl, ex_gr (by omega) (by omega), lr_81_0 L2, Option.bind_some, ex_ai (by omega) (by omega) (by omega) (by omega), Option.bind_some, Int.toNat_natCast, (Q2 k hk).1]
  · subst h
    obtain ⟨u, e1, f2, q2⟩ := e_Q_nextE hp L2 Q2 (fun k => (qd_rng (by omega) a j k).1) (fun k => (qd_rng (by omega) a j k).2)
    have Lu := L2.fq2 f2
    have nu := Lu.1
    refine ⟨u, ?_, (F1.trans F2).trans f2⟩
    rw [pw_ck_ok (by omega) (by omega), if_neg (by omega), if_neg (by omega), e1, ex_bd, ex_gr (by omega) (by omega), lr_81_1 Lu, Option.bind_some, ex_ai (by omega) (by omega) (by omega) (by omega), Option.bind_some, Int.toNat_natCast, (q2 k hk).2]
    rfl
end
