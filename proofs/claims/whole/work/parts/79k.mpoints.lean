section
/-! ## interpolants of the model -/
def fpw {p : Nat} [NeZero p] (x : Fin p) : Nat → Fin p
  | 0 => 1
  | k + 1 => fpw x k * x
theorem ev_xp {p : Nat} [NeZero p] (x : Fin p) : ∀ k, pEv (pXp k) x (fpw x k) := by
  intro k
  induction k with
  | zero => exact ev_cc x 1
  | succ k ih =>
    have e : (pXp (k + 1) : PS (Fin p)) = cv (pXp k) (pXr 0) := by
      rw [xp_pr, xp_pr, List.replicate_succ, cv_comm]
      rfl
    rw [e]
    have h := ev_mul ih (ev_xr x 0)
    have h2 : fpw x k * (x - 0) = fpw x (k + 1) := by
      show fpw x k * (x - 0) = fpw x k * x
      grind
    rw [h2] at h
    exact h
theorem ev_cut {p : Nat} [NeZero p] (a : PS (Fin p)) (x : Fin p) : ∀ n, pEv (pCut a n) x (sm (fun k => a k * fpw x k) n) := by
  intro n
  induction n with
  | zero => rw [cut_0]; exact ev_cc x 0
  | succ n ih =>
    rw [cut_s]
    exact ev_add ih (ev_mul (ev_cc x (a n)) (ev_xp x n))
theorem sm_split {R : Type} [Lean.Grind.CommRing R] (f : Nat → R) (a : Nat) : ∀ b, sm f (a + b) = sm f a + sm (fun i => f (a + i)) b := by
  intro b
  induction b with
  | zero => show sm f a = sm f a + 0; grind
  | succ b ih =>
    show sm f (a + b) + f (a + b) = sm f a + (sm (fun i => f (a + i)) b + f (a + b))
    rw [ih]; grind
def ipX {p : Nat} [NeZero p] (xs ys : Nat → Fin p) (m N : Nat) : Nat → Nat → Fin p := fun r c => if c ≤ m then fpw (xs r) c else if c ≤ N then -(fpw (xs r) (c - m - 1) * ys r) else 0
def ipP {p : Nat} [NeZero p] (v : Nat → Fin p) (m : Nat) : PS (Fin p) := fun k => if k ≤ m then v k else 0
def ipQ {p : Nat} [NeZero p] (v : Nat → Fin p) (m N : Nat) : PS (Fin p) := fun k => if k + m + 1 ≤ N then v (m + 1 + k) else 0
theorem ip_row {p : Nat} [NeZero p] {xs ys : Nat → Fin p} {m N : Nat} (hm : m < N) {v : Nat → Fin p} {r : Nat} (h : rS (ipX xs ys m N) v (N + 1) r = 0) : ∃ d, pEv (ipQ v m N) (xs r) d ∧ pEv (ipP v m) (xs r) (ys r * d) := by
  have e1 := ev_cut (ipQ v m N) (xs r) (N - m)
  have b1 : pBd (ipQ v m N) (N - m) := fun k hk => if_neg (by omega)
  rw [cut_all b1] at e1
  have e2 := ev_cut (ipP v m) (xs r) (m + 1)
  have b2 : pBd (ipP v m) (m + 1) := fun k hk => if_neg (by omega)
  rw [cut_all b2] at e2
  refine ⟨_, e1, ?_⟩
  unfold rS at h
  rw [show N + 1 = (m + 1) + (N - m) by omega, sm_split] at h
  have a1 : sm (fun c => ipX xs ys m N r c * v c) (m + 1) = sm (fun k => ipP v m k * fpw (xs r) k) (m + 1) := sm_congr (fun i hi => by
    unfold ipX ipP
    rw [if_pos (show i ≤ m by omega), if_pos (show i ≤ m by omega)]
    grind)
  have a2 : sm (fun i => ipX xs ys m N r (m + 1 + i) * v (m + 1 + i)) (N - m) = (- ys r) * sm (fun k => ipQ v m N k * fpw (xs r) k) (N - m) := by
    rw [← sm_mul]
    refine sm_congr (fun i hi => ?_)
    unfold ipX ipQ
    rw [if_neg (show ¬ m + 1 + i ≤ m by omega), if_pos (show m + 1 + i ≤ N by omega), if_pos (show i + m + 1 ≤ N by omega), show m + 1 + i - m - 1 = i by omega]
    grind
  rw [a1, a2] at h
  have e3 : sm (fun k => ipP v m k * fpw (xs r) k) (m + 1) = ys r * sm (fun k => ipQ v m N k * fpw (xs r) k) (N - m) := by grind
  rw [e3] at e2
  exact e2
theorem e_M_ipRow {A : ASt} [NeZero A.1] (hV : VA A) {m r : Nat} (hm : m < A.2.2.1) (hr : r < A.2.2.1) {σ : pw_Sto} {T : Nat → Int} {len : Nat} {E : Nat → Int} {Hs : List ASt} (hM : MR σ A T len E Hs) (hX : Mt σ (fun r' c => if r' < r then ipX (ptX A) (ptY A) m A.2.2.1 r' c else 0)) (r14 : Nat → Int → Int → Int → pw_Sto → Option (Unit × pw_Sto)) : ∃ t, ml_M_interpolate_25 r14 1000 91 m A.2.2.1 r 1 0 σ = r14 91 m A.2.2.1 ((r : Int) + 1) t ∧ Fq σ t 99 ∧ Mt t (fun r' c => if r' < r + 1 then ipX (ptX A) (ptY A) m A.2.2.1 r' c else 0) := by
  have hp2 := isPb_le hV.1
  have h10 := hV.2.2.1
  have s91 := sh_91
  have s92 := sh_92
  have s99 := sh_99
  have vx := ptX_vv hV hr
  have vy := ptY_vv hV hr
  generalize ptX A = xs at *
  generalize ptY A = ys at *
  obtain ⟨q, ⟨w, t⟩, e1, hw, f1, g⟩ := lp_ex (S := Int × pw_Sto) (O := Unit × pw_Sto) (fun q k z => ml_M_interpolate_25 r14 q 91 m A.2.2.1 r z.1 k z.2) (fun j => (j : Int)) A.2.2.1 (fun k z => z.1 = vv (fpw (xs r) k) ∧ Fq σ z.2 99 ∧ Mt z.2 (fun r' c => if r' < r ∨ (r' = r ∧ ((c ≤ m ∧ c < k) ∨ (m < c ∧ c < m + 1 + k ∧ c ≤ A.2.2.1))) then ipX xs ys m A.2.2.1 r' c else 0))
    (by
      intro q k z hk hI
      obtain ⟨w, t⟩ := z
      obtain ⟨hw, f1, g⟩ := hI
      dsimp only at hw f1 g
      subst hw
      have M1 := hM.ms (Ms.fq f1 (by omega))
      have L1 := M1.1
      have n1 := L1.1
      have rw' := vv_rng (fpw (xs r) k)
      have mx := vv_mm (p := A.1) (by omega) (fpw (xs r) k) (xs r)
      have my := vv_mm (p := A.1) (by omega) (fpw (xs r) k) (ys r)
      have hnx : ∀ u : pw_Sto, Fq t u 99 → (Lay u ∧ u.2.1 92 0 = A.1 ∧ u.2.1 92 (66 + r) = vv (xs r) ∧ u.2.1 92 (76 + r) = vv (ys r)) := fun u fu => by
        have Mu := M1.ms (Ms.fq fu (by omega))
        refine ⟨Mu.1, Mu.2.1.1, ?_, ?_⟩
        · rw [vx]
          have := (Mu.2.1.2.2.2 r hr).1
          rw [show 0 + 66 + r = 66 + r by omega] at this
          exact this
        · rw [vy]
          have := (Mu.2.1.2.2.2 r hr).2
          rw [show 0 + 76 + r = 76 + r by omega] at this
          exact this
      have e94 : ∀ u : pw_Sto, Fq t u 99 → mj_M_interpolate_94 r14 (ml_M_interpolate_25 r14 q) 91 m A.2.2.1 r (vv (fpw (xs r) k)) k u = ml_M_interpolate_25 r14 q 91 m A.2.2.1 r (vv (fpw (xs r) (k + 1))) ((k + 1 : Nat) : Int) u := fun u fu => by
        obtain ⟨Lu, pu, xu, yu⟩ := hnx u fu
        have nu := Lu.1
        unfold mj_M_interpolate_94
        rw [ex_gr (by omega) (by omega), lr_91_0 Lu, Option.bind_some, ex_ai (by omega) (by omega) (by omega) (by omega), Option.bind_some, show ((66 : Int) + (r : Int)).toNat = 66 + r by omega, xu, e_M_mod Lu pu (by omega) (by omega) (by omega), ex_bd, ← vv_mul]
        rfl
      have em : (-vv (fpw (xs r) k) * vv (ys r)) % A.1 = vv (-(fpw (xs r) k * ys r)) := by
        rw [← vv_fz, fz_mul, fz_neg, fz_vv, fz_vv]
        congr 1
        grind
      have em2 : -vv (fpw (xs r) k) * vv (ys r) = -(vv (fpw (xs r) k) * vv (ys r)) := Int.neg_mul _ _
      have e51 : ∀ u : pw_Sto, Fq t u 99 → mj_M_interpolate_51 r14 (ml_M_interpolate_25 r14 q) 91 m A.2.2.1 r (vv (fpw (xs r) k)) k u = ml_M_interpolate_25 r14 q 91 m A.2.2.1 r (vv (fpw (xs r) (k + 1))) ((k + 1 : Nat) : Int) (if m + 1 + k ≤ A.2.2.1 then pw_st u 99 (fun j => if j = 18 * r + (m + 1 + k) then vv (-(fpw (xs r) k * ys r)) else u.2.1 99 j) else u) := fun u fu => by
        obtain ⟨Lu, pu, xu, yu⟩ := hnx u fu
        have nu := Lu.1
        unfold mj_M_interpolate_51
        rw [pw_ck_ok (by omega) (by omega)]
        by_cases c : m + 1 + k ≤ A.2.2.1
        · rw [if_neg (by omega), if_pos c, ex_gr (by omega) (by omega), lr_91_10 Lu, Option.bind_some, ex_gr (by omega) (by omega), lr_91_0 Lu, Option.bind_some, ex_ai (by omega) (by omega) (by omega) (by omega), Option.bind_some, show ((76 : Int) + (r : Int)).toNat = 76 + r by omega, yu, e_M_mod Lu pu (by omega) (by omega) (by rw [em2]; exact ⟨by omega, by omega⟩), ex_bd, em, xs_si (by omega) (by omega) (by omega) (by omega), Option.bind_some, show ((18 : Int) * (r : Int) + (m : Int) + 1 + (k : Int)).toNat = 18 * r + (m + 1 + k) by omega]
          exact e94 _ ⟨fu.1, fu.2.1, fun i hi => by rw [st_ne hi]; exact fu.2.2 i hi⟩
        · rw [if_pos (by omega), if_neg c]
          exact e94 u fu
      have eX1 : ipX xs ys m A.2.2.1 r k = if k ≤ m then fpw (xs r) k else if k ≤ A.2.2.1 then -(fpw (xs r) (k - m - 1) * ys r) else 0 := rfl
      have eX2 : m + 1 + k ≤ A.2.2.1 → ipX xs ys m A.2.2.1 r (m + 1 + k) = -(fpw (xs r) k * ys r) := fun hc => by
        unfold ipX
        rw [if_neg (by omega), if_pos hc, show m + 1 + k - m - 1 = k by omega]
      obtain ⟨u, hu1, fu, gu⟩ : ∃ u, ml_M_interpolate_25 r14 (q + 1) 91 m A.2.2.1 r (vv (fpw (xs r) k)) (k : Nat) t = mj_M_interpolate_51 r14 (ml_M_interpolate_25 r14 q) 91 m A.2.2.1 r (vv (fpw (xs r) k)) k u ∧ Fq t u 99 ∧ Mt u (fun r' c => if r' < r ∨ (r' = r ∧ ((c ≤ m ∧ c < k + 1) ∨ (m < c ∧ c < m + 1 + k ∧ c ≤ A.2.2.1))) then ipX xs ys m A.2.2.1 r' c else 0) := by
        rw [us_M_interpolate_25]
        unfold mb_M_interpolate_25
        rw [pw_ck_ok (by omega) (by omega), if_neg (by omega), pw_ck_ok (by omega) (by omega)]
        by_cases c : m < k
        · refine ⟨t, ?_, ⟨rfl, rfl, fun _ _ => rfl⟩, fun r' c' h1 h2 => ?_⟩
          · rw [if_pos (by omega)]
          · rw [g r' c' h1 h2]
            try dsimp only
            by_cases e : r' < r ∨ (r' = r ∧ ((c' ≤ m ∧ c' < k) ∨ (m < c' ∧ c' < m + 1 + k ∧ c' ≤ A.2.2.1)))
            · rw [if_pos e, if_pos (by omega)]
            · rw [if_neg e, if_neg (by omega)]
        · refine ⟨pw_st t 99 (fun j => if j = 18 * r + k then vv (fpw (xs r) k) else t.2.1 99 j), ?_, ⟨rfl, rfl, fun i hi => st_ne hi⟩, fun r' c' h1 h2 => ?_⟩
          · rw [if_neg (by omega), ex_gr (by omega) (by omega), lr_91_10 L1, Option.bind_some, xs_si (by omega) (by omega) (by omega) (by omega), Option.bind_some, show ((18 : Int) * (r : Int) + (k : Int)).toNat = 18 * r + k by omega]
          · rw [st_eq]
            try dsimp only
            by_cases e : r' = r ∧ c' = k
            · rw [if_pos (by omega), if_pos (by omega), e.1, e.2, eX1, if_pos (by omega)]
            · rw [if_neg (by omega), g r' c' h1 h2]
              try dsimp only
              by_cases e2 : r' < r ∨ (r' = r ∧ ((c' ≤ m ∧ c' < k) ∨ (m < c' ∧ c' < m + 1 + k ∧ c' ≤ A.2.2.1)))
              · rw [if_pos e2, if_pos (by omega)]
              · rw [if_neg e2, if_neg (by omega)]
      refine ⟨(vv (fpw (xs r) (k + 1)), if m + 1 + k ≤ A.2.2.1 then pw_st u 99 (fun j => if j = 18 * r + (m + 1 + k) then vv (-(fpw (xs r) k * ys r)) else u.2.1 99 j) else u), ?_, rfl, ?_, ?_⟩
      · try dsimp only
        rw [hu1, e51 u fu]
      · try dsimp only
        by_cases c : m + 1 + k ≤ A.2.2.1
        · rw [if_pos c]
          exact ⟨fu.1.trans f1.1, fu.2.1.trans f1.2.1, fun i hi => by rw [st_ne hi, fu.2.2 i hi]; exact f1.2.2 i hi⟩
        · rw [if_neg c]
          exact ⟨fu.1.trans f1.1, fu.2.1.trans f1.2.1, fun i hi => by rw [fu.2.2 i hi]; exact f1.2.2 i hi⟩
      · try dsimp only
        by_cases c : m + 1 + k ≤ A.2.2.1
        · rw [if_pos c]
          intro r' c' h1 h2
          rw [st_eq]
          try dsimp only
          by_cases e : r' = r ∧ c' = m + 1 + k
          · rw [if_pos (by omega), if_pos (by omega), e.1, e.2, eX2 c]
          · rw [if_neg (by omega), gu r' c' h1 h2]
            try dsimp only
            by_cases e2 : r' < r ∨ (r' = r ∧ ((c' ≤ m ∧ c' < k + 1) ∨ (m < c' ∧ c' < m + 1 + k ∧ c' ≤ A.2.2.1)))
            · rw [if_pos e2, if_pos (by omega)]
            · rw [if_neg e2, if_neg (by omega)]
        · rw [if_neg c]
          intro r' c' h1 h2
          rw [gu r' c' h1 h2]
          try dsimp only
          by_cases e2 : r' < r ∨ (r' = r ∧ ((c' ≤ m ∧ c' < k + 1) ∨ (m < c' ∧ c' < m + 1 + k ∧ c' ≤ A.2.2.1)))
          · rw [if_pos e2, if_pos (by omega)]
          · rw [if_neg e2, if_neg (by omega)]) A.2.2.1 0 1000 (1, σ) (by omega) (by omega) ⟨(vv_1 (by omega)).symm, ⟨rfl, rfl, fun _ _ => rfl⟩, fun r' c h1 h2 => by
            rw [hX r' c h1 h2]
            try dsimp only
            by_cases e : r' < r
            · rw [if_pos e, if_pos (by omega)]
            · rw [if_neg e, if_neg (by omega)]⟩
  dsimp only at e1 hw f1 g
  refine ⟨t, Eq.trans e1 ?_, f1, fun r' c h1 h2 => ?_⟩
  · rw [us_M_interpolate_25]
    unfold mb_M_interpolate_25
    rw [pw_ck_ok (by omega) (by omega), if_pos (by omega)]
  · rw [g r' c h1 h2]
    try dsimp only
    by_cases e : r' < r + 1
    · rw [if_pos e]
      by_cases e2 : r' < r ∨ (r' = r ∧ ((c ≤ m ∧ c < A.2.2.1) ∨ (m < c ∧ c < m + 1 + A.2.2.1 ∧ c ≤ A.2.2.1)))
      · rw [if_pos e2]
      · rw [if_neg e2]
        unfold ipX
        rw [if_neg (by omega), if_neg (by omega)]
    · rw [if_neg e, if_neg (by omega)]
end
