section
/-! ## polynomials of the class in the store -/
theorem vv_add {p : Nat} [NeZero p] (x y : Fin p) : vv (x + y) = (vv x + vv y) % p := by
  rw [← vv_fz, fz_add, fz_vv, fz_vv]
theorem vv_mul {p : Nat} [NeZero p] (x y : Fin p) : vv (x * y) = (vv x * vv y) % p := by
  rw [← vv_fz, fz_mul, fz_vv, fz_vv]
theorem vv_am {p : Nat} [NeZero p] (x y z : Fin p) : vv (x + y * z) = (vv x + vv y * vv z) % p := by
  rw [← vv_fz, fz_add, fz_mul, fz_vv, fz_vv, fz_vv]
theorem vv_ma {p : Nat} [NeZero p] (x y z : Fin p) : vv (x * y + z) = (vv x * vv y + vv z) % p := by
  rw [← vv_fz, fz_add, fz_mul, fz_vv, fz_vv, fz_vv]
theorem vv_sm {p : Nat} [NeZero p] (x y z : Fin p) : vv (x - y * z) = (vv x - vv y * vv z) % p := by
  rw [← vv_fz, fz_sub, fz_mul, fz_vv, fz_vv, fz_vv]
theorem fz_p {p : Nat} [NeZero p] : fz p (p : Int) = 0 := by
  rw [← fz_zero, fz_iff, Int.emod_self, Int.zero_emod]
theorem vv_neg {p : Nat} [NeZero p] (x : Fin p) : vv (-x) = ((p : Int) - vv x) % p := by
  rw [← vv_fz, fz_sub, fz_vv, fz_p]
  congr 1
theorem vv_mm {p : Nat} [NeZero p] (hp : p ≤ 251) (x y : Fin p) : 0 ≤ vv x * vv y ∧ vv x * vv y ≤ 63001 := by
  have h1 := vv_rng x
  have h2 := vv_rng y
  exact imul250 h1.1 (by omega) h2.1 (by omega)
def pLn {p : Nat} [NeZero p] (a : PS (Fin p)) : Nat → Nat
  | 0 => 0
  | n + 1 => if a n = 0 then pLn a n else n + 1
theorem ln_le {p : Nat} [NeZero p] (a : PS (Fin p)) : ∀ n, pLn a n ≤ n := by
  intro n
  induction n with
  | zero => exact Nat.le_refl _
  | succ n ih =>
    show (if a n = 0 then pLn a n else n + 1) ≤ n + 1
    by_cases c : a n = 0
    · rw [if_pos c]; omega
    · rw [if_neg c]; omega
theorem ln_z {p : Nat} [NeZero p] {a : PS (Fin p)} : ∀ {n k : Nat}, pLn a n ≤ k → k < n → a k = 0 := by
  intro n
  induction n with
  | zero => intro k h1 h2; omega
  | succ n ih =>
    intro k
    show (if a n = 0 then pLn a n else n + 1) ≤ k → k < n + 1 → a k = 0
    by_cases c : a n = 0
    · rw [if_pos c]
      intro h1 h2
      by_cases e : k = n
      · rw [e]; exact c
      · exact ih h1 (by omega)
    · rw [if_neg c]; intro h1 h2; omega
theorem ln_nz {p : Nat} [NeZero p] {a : PS (Fin p)} : ∀ {n : Nat}, 0 < pLn a n → a (pLn a n - 1) ≠ 0 := by
  intro n
  induction n with
  | zero => intro h; exact absurd h (Nat.lt_irrefl _)
  | succ n ih =>
    show 0 < (if a n = 0 then pLn a n else n + 1) → a ((if a n = 0 then pLn a n else n + 1) - 1) ≠ 0
    by_cases c : a n = 0
    · rw [if_pos c]; exact ih
    · rw [if_neg c]; intro _; exact c
theorem ln_bd {p : Nat} [NeZero p] {a : PS (Fin p)} {n : Nat} (h : pBd a n) : pBd a (pLn a n) := fun k hk => by
  by_cases c : k < n
  · exact ln_z hk c
  · exact h k (by omega)
theorem ln_eq {p : Nat} [NeZero p] {a : PS (Fin p)} {n L : Nat} (hn : L ≤ n) (h1 : ∀ k, L ≤ k → k < n → a k = 0) (h2 : 0 < L → a (L - 1) ≠ 0) : pLn a n = L := by
  have g1 := ln_le a n
  by_cases c : pLn a n < L
  · exact absurd (ln_z (n := n) (k := L - 1) (by omega) (by omega)) (h2 (by omega))
  · by_cases c2 : L < pLn a n
    · exact absurd (h1 (pLn a n - 1) (by omega) (by omega)) (ln_nz (by omega))
    · omega
theorem ln_bd_le {p : Nat} [NeZero p] {a : PS (Fin p)} {n L : Nat} (h : pBd a L) : pLn a n ≤ L := by
  by_cases c : pLn a n ≤ L
  · exact c
  · exact absurd (h (pLn a n - 1) (by omega)) (ln_nz (by omega))
theorem ln_0 {p : Nat} [NeZero p] {a : PS (Fin p)} {n : Nat} (hb : pBd a n) : pLn a n = 0 ↔ a = cc 0 := by
  constructor
  · intro h
    refine p_zero (fun k => ?_)
    have := ln_bd hb
    rw [h] at this
    exact this k (by omega)
  · intro h
    have := ln_bd_le (n := n) (L := 0) (a := a) (fun k _ => by rw [h, cc_0])
    omega
/-- object o with row o + 1 -/
def PO (σ : pw_Sto) (o : Nat) : Prop := σ.1 = 109 ∧ o < 107 ∧ (pw_sh o).1 = 4 ∧ σ.2.2 o 0 = some (o + 1) ∧ (pw_sh (o + 1)).1 = 11 ∧ (pw_sh (o + 1)).2 = 17
theorem PO.of {σ : pw_Sto} (hL : Lay σ) {o : Nat} (h : o = 48 ∨ o = 50 ∨ o = 52 ∨ o = 54 ∨ o = 56 ∨ o = 59 ∨ o = 61) : PO σ o := by
  rcases h with h | h | h | h | h | h | h <;> subst h
  · exact ⟨hL.1, by omega, rfl, lr_48_0 hL, rfl, rfl⟩
  · exact ⟨hL.1, by omega, rfl, lr_50_0 hL, rfl, rfl⟩
  · exact ⟨hL.1, by omega, rfl, lr_52_0 hL, rfl, rfl⟩
  · exact ⟨hL.1, by omega, rfl, lr_54_0 hL, rfl, rfl⟩
  · exact ⟨hL.1, by omega, rfl, lr_56_0 hL, rfl, rfl⟩
  · exact ⟨hL.1, by omega, rfl, lr_59_0 hL, rfl, rfl⟩
  · exact ⟨hL.1, by omega, rfl, lr_61_0 hL, rfl, rfl⟩
def Pr {p : Nat} [NeZero p] (σ : pw_Sto) (o : Nat) (a : PS (Fin p)) : Prop := (∀ k, k < 17 → σ.2.1 (o + 1) k = vv (a k)) ∧ pBd a 17
def Pc {p : Nat} [NeZero p] (σ : pw_Sto) (o : Nat) (a : PS (Fin p)) : Prop := Pr σ o a ∧ σ.2.1 o 1 = (pLn a 17 : Int) - 1
/-- only the cells of object o have changed -/
def Fr (σ s : pw_Sto) (o : Nat) : Prop := s.1 = σ.1 ∧ s.2.2 = σ.2.2 ∧ ∀ i, i ≠ o → i ≠ o + 1 → s.2.1 i = σ.2.1 i
theorem Fr.refl (σ : pw_Sto) (o : Nat) : Fr σ σ o := ⟨rfl, rfl, fun _ _ _ => rfl⟩
theorem Fr.trans {a b c : pw_Sto} {o : Nat} (h : Fr a b o) (k : Fr b c o) : Fr a c o := ⟨k.1.trans h.1, k.2.1.trans h.2.1, fun i h1 h2 => (k.2.2 i h1 h2).trans (h.2.2 i h1 h2)⟩
theorem Fr.st {σ : pw_Sto} {o a : Nat} {f : Nat → Int} (h : a = o ∨ a = o + 1) : Fr σ (pw_st σ a f) o := ⟨rfl, rfl, fun i h1 h2 => st_ne (by omega)⟩
theorem PO.fr {σ s : pw_Sto} {o o' : Nat} (h : PO σ o) (k : Fr σ s o') : PO s o := by
  unfold PO
  rw [k.1, k.2.1]
  exact h
theorem Lay.fr {σ s : pw_Sto} {o' : Nat} (h : Lay σ) (k : Fr σ s o') : Lay s := ⟨k.1.trans h.1, fun q hq => by rw [k.2.1]; exact h.2 q hq⟩
theorem Pr.fr {p : Nat} [NeZero p] {σ s : pw_Sto} {o o' : Nat} {a : PS (Fin p)} (h : Pr σ o a) (k : Fr σ s o') (h1 : o + 1 ≠ o') (h2 : o ≠ o') : Pr s o a := ⟨fun i hi => by rw [k.2.2 (o + 1) h1 (by omega)]; exact h.1 i hi, h.2⟩
theorem Pc.fr {p : Nat} [NeZero p] {σ s : pw_Sto} {o o' : Nat} {a : PS (Fin p)} (h : Pc σ o a) (k : Fr σ s o') (h1 : o + 1 ≠ o') (h2 : o ≠ o') (h3 : o ≠ o' + 1) : Pc s o a := ⟨h.1.fr k h1 h2, by rw [k.2.2 o h2 h3]; exact h.2⟩
def mes (σ : pw_Sto) (o : Nat) (v : Int) : pw_Sto := pw_st σ o (fun j => if j = 1 then v else σ.2.1 o j)
theorem mes_mes (σ : pw_Sto) (o : Nat) (v w : Int) : mes (mes σ o v) o w = mes σ o w := by
  unfold mes
  rw [st_st]
  refine st_congr fun j => ?_
  by_cases h : j = 1
  · rw [if_pos h, if_pos h]
  · rw [if_neg h, if_neg h, st_eq, if_neg h]
theorem pi_mes {σ : pw_Sto} {o : Nat} {v : Int} (h1 : o < σ.1) (h2 : (pw_sh o).1 = 4) : pw_pi 4 o 1 v σ = some (mes σ o v) := xs_pi h1 h2
theorem e_P_measure {p : Nat} [NeZero p] (hp : p ≤ 251) {σ : pw_Sto} {o : Nat} (hO : PO σ o) {a : PS (Fin p)} (hR : Pr σ o a) : mf_P_measure o σ = some ((), mes σ o ((pLn a 17 : Int) - 1)) := by
  obtain ⟨o1, o2, o3, o4, o5, o6⟩ := id hO
  have key : ∀ (d n : Nat), d ≤ 17 → d < n → ml_P_measure_6 n o (mes σ o ((d : Int) - 1)) = some ((), mes σ o ((pLn a d : Int) - 1)) := by
    intro d
    induction d with
    | zero =>
      intro n h1 h2
      obtain ⟨n, rfl⟩ : ∃ k, n = k + 1 := ⟨n - 1, by omega⟩
      have hO1 : PO (mes σ o (((0 : Nat) : Int) - 1)) o := hO
      have e1 : (mes σ o (((0 : Nat) : Int) - 1)).1 = 109 := o1
      have e2 : (mes σ o (((0 : Nat) : Int) - 1)).2.1 o 1 = ((0 : Nat) : Int) - 1 := by unfold mes; rw [st_eq]; rfl
      rw [us_P_measure_6]
      unfold mb_P_measure_6
      rw [ex_gi (by omega) (by omega), Option.bind_some, e2, pw_ck_ok (by omega) (by omega), if_pos (by omega)]
      rfl
    | succ d ih =>
      intro n h1 h2
      obtain ⟨n, rfl⟩ : ∃ k, n = k + 1 := ⟨n - 1, by omega⟩
      have e1 : (mes σ o (((d + 1 : Nat) : Int) - 1)).1 = 109 := o1
      have e2 : (mes σ o (((d + 1 : Nat) : Int) - 1)).2.1 o 1 = ((d + 1 : Nat) : Int) - 1 := by unfold mes; rw [st_eq]; rfl
      have e3 : (mes σ o (((d + 1 : Nat) : Int) - 1)).2.2 o 0 = some (o + 1) := o4
      have e4 : (mes σ o (((d + 1 : Nat) : Int) - 1)).2.1 (o + 1) d = vv (a d) := by unfold mes; rw [st_ne (by omega)]; exact hR.1 d (by omega)
      have r1 := vv_rng (a d)
      rw [us_P_measure_6]
      unfold mb_P_measure_6
      rw [ex_gi (by omega) (by omega), Option.bind_some, e2, pw_ck_ok (by omega) (by omega), if_neg (by omega), ex_gr (by omega) (by omega), e3, Option.bind_some, Option.bind_some, ex_ai (by omega) (by omega) (by omega) (by omega), Option.bind_some, show (((d + 1 : Nat) : Int) - 1).toNat = d by omega, e4, pw_ck_ok (by omega) (by omega)]
      have en : pLn a (d + 1) = if a d = 0 then pLn a d else d + 1 := rfl
      by_cases c : a d = 0
      · rw [if_pos (vv_z.mpr c), Option.bind_some, pi_mes (by omega) (by omega), Option.bind_some, mes_mes, en, if_pos c, show ((d + 1 : Nat) : Int) - 1 - 1 = (d : Int) - 1 by omega]
        exact ih n (by omega) (by omega)
      · rw [if_neg (fun q => c (vv_z.mp q)), en, if_neg c]
  unfold mf_P_measure
  rw [ex_gd (by omega) (by omega), pi_mes (by omega) (by omega), Option.bind_some]
  exact key 17 1000 (by omega) (by omega)
theorem mes_Pc {p : Nat} [NeZero p] {σ : pw_Sto} {o : Nat} {a : PS (Fin p)} (hR : Pr σ o a) : Pc (mes σ o ((pLn a 17 : Int) - 1)) o a ∧ Fr σ (mes σ o ((pLn a 17 : Int) - 1)) o := by
  refine ⟨⟨⟨fun k hk => ?_, hR.2⟩, ?_⟩, Fr.st (Or.inl rfl)⟩
  · unfold mes; rw [st_ne (by omega)]; exact hR.1 k hk
  · unfold mes; rw [st_eq]; rfl
theorem e_P_becomeZero {p : Nat} [NeZero p] {σ : pw_Sto} {o : Nat} (hO : PO σ o) : ∃ s, mf_P_becomeZero o σ = some ((), s) ∧ Fr σ s o ∧ Pc s o (cc 0 : PS (Fin p)) := by
  obtain ⟨o1, o2, o3, o4, o5, o6⟩ := id hO
  refine ⟨mes (pw_st σ (o + 1) (fun j => if j < (pw_sh (o + 1)).2 then 0 else σ.2.1 (o + 1) j)) o (-1), ?_, (Fr.st (Or.inr rfl)).trans (Fr.st (Or.inl rfl)), ⟨⟨fun k hk => ?_, fun k _ => cc_0 k⟩, ?_⟩⟩
  · unfold mf_P_becomeZero
    rw [ex_gd (by omega) (by omega), ex_gr (by omega) (by omega), o4, Option.bind_some, e_A_fill (by omega) o5, ex_bd, pi_mes (by show o < σ.1; omega) o3, Option.bind_some]
  · unfold mes
    rw [st_ne (by omega), st_eq, if_pos (by omega), cc_0, vv_0]
  · unfold mes
    rw [st_eq, if_pos rfl, (ln_0 (a := cc 0) (n := 17) (fun k _ => cc_0 k)).mpr rfl]
    rfl
def pXp {p : Nat} [NeZero p] (e : Nat) : PS (Fin p) := fun k => if k = e then 1 else 0
theorem xp_ln {p : Nat} [NeZero p] (hp : 2 ≤ p) {e n : Nat} (h : e < n) : pLn (pXp e : PS (Fin p)) n = e + 1 := ln_eq (by omega) (fun k h1 h2 => if_neg (by omega)) (fun _ => by
  show (if e + 1 - 1 = e then (1 : Fin p) else 0) ≠ 0
  rw [if_pos (by omega)]
  exact fp_one hp)
theorem xp_0 {p : Nat} [NeZero p] : (pXp 0 : PS (Fin p)) = cc 1 := rfl
theorem e_P_becomePower {p : Nat} [NeZero p] (hp : 2 ≤ p) {σ : pw_Sto} {o : Nat} (hO : PO σ o) {e : Nat} (he : e < 17) : ∃ s, mf_P_becomePower o e σ = some ((), s) ∧ Fr σ s o ∧ Pc s o (pXp e : PS (Fin p)) := by
  obtain ⟨o1, o2, o3, o4, o5, o6⟩ := id hO
  obtain ⟨s1, t1, f1, c1⟩ := e_P_becomeZero (p := p) hO
  obtain ⟨p1, p2, p3, p4, p5, p6⟩ := hO.fr f1
  refine ⟨mes (pw_st s1 (o + 1) (fun j => if j = (e : Int).toNat then 1 else s1.2.1 (o + 1) j)) o e, ?_, f1.trans ((Fr.st (Or.inr rfl)).trans (Fr.st (Or.inl rfl))), ⟨⟨fun k hk => ?_, fun k hk => if_neg (by omega)⟩, ?_⟩⟩
  · unfold mf_P_becomePower
    rw [ex_gd (by omega) (by omega), t1, ex_bd, pw_ck_ok (by omega) (by omega), if_neg (by omega), pw_ck_ok (by omega) (by omega), if_neg (by omega), ex_gr (by omega) (by omega), p4, Option.bind_some, xs_si (by omega) (by omega) (by omega) (by omega), Option.bind_some, pi_mes (by show o < s1.1; omega) o3, Option.bind_some]
  · unfold mes
    rw [st_ne (by omega), st_eq, Int.toNat_natCast]
    show (if k = e then 1 else s1.2.1 (o + 1) k) = vv (if k = e then (1 : Fin p) else 0)
    by_cases c : k = e
    · rw [if_pos c, if_pos c, vv_1 hp]
    · rw [if_neg c, if_neg c, c1.1.1 k hk, cc_0]
  · unfold mes
    rw [st_eq, if_pos rfl, xp_ln hp he]
    omega
/-- a series cut off behind x^s -/
def pTr {p : Nat} [NeZero p] (f : PS (Fin p)) (s : Nat) : PS (Fin p) := fun k => if k ≤ s then f k else 0
theorem e_P_becomeStart {p : Nat} [NeZero p] (hp : p ≤ 251) {σ : pw_Sto} {o : Nat} (hO : PO σ o) {c s : Nat} (hc : c < 109) (sc : pw_sh c = (11, 16)) (hco : c ≠ o ∧ c ≠ o + 1) (hs : s < 16) {f : PS (Fin p)} (hf : ∀ k, k < 16 → σ.2.1 c k = vv (f k)) : ∃ s', mf_P_becomeStart o c s σ = some ((), s') ∧ Fr σ s' o ∧ Pc s' o (pTr f s) := by
  obtain ⟨o1, o2, o3, o4, o5, o6⟩ := id hO
  obtain ⟨s1, t1, f1, c1⟩ := e_P_becomeZero (p := p) hO
  obtain ⟨p1, p2, p3, p4, p5, p6⟩ := id (hO.fr f1)
  have sc1 : (pw_sh c).1 = 11 := by rw [sc]
  have sc2 : (pw_sh c).2 = 16 := by rw [sc]
  have hl := lp_fill (O := Unit × pw_Sto) (fun n k t => ml_P_becomeStart_6 n o c s k t) s1 (o + 1) 0 (s + 1) (fun k => vv (f k)) (fun t => mj_P_becomeStart_32 o t)
    (by
      intro n k h _ hk w1 w2
      have e3 : (pw_st s1 (o + 1) h).2.2 o 0 = some (o + 1) := p4
      have e1 : (pw_st s1 (o + 1) h).1 = 109 := p1
      try dsimp only
      rw [us_P_becomeStart_6]
      unfold mb_P_becomeStart_6
      rw [pw_ck_ok (by omega) (by omega), if_neg (by omega), pw_ck_ok (by omega) (by omega), if_neg (by omega), ex_gr (by omega) (by omega), e3, Option.bind_some, ex_ai (by omega) (by omega) (by omega) (by omega), Option.bind_some, Int.toNat_natCast, st_ne hco.2, f1.2.2 c hco.1 hco.2, hf k (by omega), xs_si (by omega) (by omega) (by omega) (by omega), Option.bind_some, st_st, st_eq, Int.toNat_natCast]
      rfl)
    (by
      intro n h
      try dsimp only
      rw [us_P_becomeStart_6]
      unfold mb_P_becomeStart_6
      rw [pw_ck_ok (by omega) (by omega), if_pos (by omega)]) 1000 (by omega) (by omega)
  generalize hs2 : pw_st s1 (o + 1) (fun j => if 0 ≤ j ∧ j < s + 1 then vv (f j) else s1.2.1 (o + 1) j) = s2 at hl
  have f2 : Fr s1 s2 o := by rw [← hs2]; exact Fr.st (Or.inr rfl)
  have hR : Pr s2 o (pTr f s) := by
    refine ⟨fun k hk => ?_, fun k hk => if_neg (by omega)⟩
    rw [← hs2, st_eq]
    show _ = vv (if k ≤ s then f k else 0)
    by_cases c : k ≤ s
    · rw [if_pos c, if_pos (by omega)]
    · rw [if_neg c, if_neg (by omega), c1.1.1 k hk, cc_0]
  have t3 := e_P_measure hp ((hO.fr f1).fr f2) hR
  refine ⟨_, ?_, (f1.trans f2).trans (mes_Pc hR).2, (mes_Pc hR).1⟩
  unfold mf_P_becomeStart
  rw [ex_gd (by omega) (by omega), t1, ex_bd]
  refine Eq.trans hl ?_
  unfold mj_P_becomeStart_32
  rw [t3, ex_bd]
theorem e_P_copyFrom {p : Nat} [NeZero p] {σ : pw_Sto} {o o2 : Nat} (hO : PO σ o) (hO2 : PO σ o2) (hne : o ≠ o2) (hne2 : o + 1 ≠ o2) {a : PS (Fin p)} (hP : Pc σ o2 a) : ∃ s', mf_P_copyFrom o o2 σ = some ((), s') ∧ Fr σ s' o ∧ Pc s' o a := by
  obtain ⟨o1, o2', o3, o4, o5, o6⟩ := id hO
  obtain ⟨q1, q2, q3, q4, q5, q6⟩ := id hO2
  have t2 : pw_cp (o2 + 1) (0 : Int) (o + 1) (0 : Int) (17 : Int) σ = some (pw_st σ (o + 1) (va_cpy (σ.2.1 (o2 + 1)) (σ.2.1 (o + 1)) 0 0 17)) := xs_cp (by omega) (by omega) (by omega) (by omega) (by omega) (by omega) (by omega) (by omega) (by omega)
  refine ⟨mes (pw_st σ (o + 1) (va_cpy (σ.2.1 (o2 + 1)) (σ.2.1 (o + 1)) 0 0 17)) o ((pLn a 17 : Int) - 1), ?_, (Fr.st (Or.inr rfl)).trans (Fr.st (Or.inl rfl)), ⟨⟨fun k hk => ?_, hP.1.2⟩, ?_⟩⟩
  · unfold mf_P_copyFrom
    rw [ex_gd (by omega) (by omega), ex_gr (by omega) (by omega), q4, Option.bind_some, ex_gr (by omega) (by omega), o4, Option.bind_some, t2, Option.bind_some, ex_gi (by show o2 < σ.1; omega) (by omega), Option.bind_some, st_ne (by omega), hP.2, pi_mes (by show o < σ.1; omega) o3, Option.bind_some]
  · unfold mes
    rw [st_ne (by omega), st_eq]
    unfold va_cpy
    rw [if_pos (by omega), show 0 + (k - 0) = k by omega, hP.1.1 k hk]
  · unfold mes
    rw [st_eq, if_pos rfl]
theorem e_P_valueAt {p : Nat} [NeZero p] (hp : p ≤ 251) {σ : pw_Sto} {o : Nat} (hO : PO σ o) {a : PS (Fin p)} (hP : Pc σ o a) (x : Fin p) : ∃ c, mf_P_valueAt o (vv x) p σ = some (vv c, σ) ∧ pEv a x c := by
  obtain ⟨o1, o2, o3, o4, o5, o6⟩ := id hO
  have hpp : 0 < p := Nat.pos_of_ne_zero (NeZero.ne p)
  have hl := ln_le a 17
  refine ⟨pHs a x (pLn a 17) (pLn a 17), ?_, ev_hs x (ln_bd hP.1.2)⟩
  have key : ∀ (d i n : Nat), i + d = pLn a 17 → d < n → ml_P_valueAt_8 n o (vv x) p (vv (pHs a x (pLn a 17) i)) ((d : Int) - 1) σ = some (vv (pHs a x (pLn a 17) (pLn a 17)), σ) := by
    intro d
    induction d with
    | zero =>
      intro i n h1 h2
      obtain ⟨n, rfl⟩ : ∃ k, n = k + 1 := ⟨n - 1, by omega⟩
      rw [us_P_valueAt_8]
      unfold mb_P_valueAt_8
      rw [pw_ck_ok (by omega) (by omega), if_pos (by omega), show i = pLn a 17 by omega]
    | succ d ih =>
      intro i n h1 h2
      obtain ⟨n, rfl⟩ : ∃ k, n = k + 1 := ⟨n - 1, by omega⟩
      have r1 := vv_mm hp (pHs a x (pLn a 17) i) x
      have r2 := vv_rng (a d)
      rw [us_P_valueAt_8]
      unfold mb_P_valueAt_8
      rw [pw_ck_ok (by omega) (by omega), if_neg (by omega), ex_gr (by omega) (by omega), o4, Option.bind_some, ex_ai (by omega) (by omega) (by omega) (by omega), Option.bind_some, show (((d + 1 : Nat) : Int) - 1).toNat = d by omega, hP.1.1 d (by omega), e_K_reduce (by omega) (by omega) (by omega) (by omega), ex_bd, ← vv_ma, show ((d + 1 : Nat) : Int) - 1 + -1 = (d : Int) - 1 by omega]
      have e : pHs a x (pLn a 17) i * x + a d = pHs a x (pLn a 17) (i + 1) := by
        rw [hs_s, show pLn a 17 - 1 - i = d by omega]
      rw [e]
      exact ih (i + 1) n (by omega) (by omega)
  unfold mf_P_valueAt
  rw [ex_gd (by omega) (by omega), ex_gi (by omega) (by omega), Option.bind_some, hP.2]
  have h := key (pLn a 17) 0 1000 (by omega) (by omega)
  rw [hs_0, vv_0] at h
  exact h
/-- x^s times b -/
def pSh {p : Nat} [NeZero p] (s : Nat) (b : PS (Fin p)) : PS (Fin p) := fun k => if k < s then 0 else b (k - s)
theorem sh_cv {p : Nat} [NeZero p] (s : Nat) (b : PS (Fin p)) : pSh s b = cv (pXp s) b := by
  funext k
  show (if k < s then 0 else b (k - s)) = sm (fun i => pXp s i * b (k - i)) (k + 1)
  by_cases c : k < s
  · rw [if_pos c]
    refine (sm_zero (fun i hi => ?_)).symm
    show (if i = s then (1 : Fin p) else 0) * b (k - i) = 0
    rw [if_neg (by omega)]; grind
  · rw [if_neg c]
    refine ((sm_one (i := s) (by omega) (fun i h1 h2 => ?_)).trans ?_).symm
    · show (if i = s then (1 : Fin p) else 0) * b (k - i) = 0
      rw [if_neg h2]; grind
    · show (if s = s then (1 : Fin p) else 0) * b (k - s) = b (k - s)
      rw [if_pos rfl]; grind
theorem e_P_gather {p : Nat} [NeZero p] (hp : p ≤ 251) {σ : pw_Sto} {o o2 : Nat} (hO : PO σ o) (hO2 : PO σ o2) (hne : o ≠ o2) (hne2 : o + 1 ≠ o2) (hne3 : o2 + 1 ≠ o) {a b : PS (Fin p)} (hR : Pr σ o a) (hP : Pc σ o2 b) (φ : Fin p) {s : Nat} (hs : pLn b 17 + s ≤ 17) : ∃ s', mf_P_gather o o2 (vv φ) s p σ = some ((), s') ∧ (Fr σ s' o ∧ s'.2.1 o = σ.2.1 o) ∧ Pr s' o (pAd a (cv (cc φ) (pSh s b))) := by
  obtain ⟨o1, o2', o3, o4, o5, o6⟩ := id hO
  obtain ⟨q1, q2, q3, q4, q5, q6⟩ := id hO2
  have hpp : 0 < p := Nat.pos_of_ne_zero (NeZero.ne p)
  have rφ := vv_rng φ
  have bb : pBd (pAd a (cv (cc φ) (pSh s b))) 17 := fun k hk => by
    show a k + cv (cc φ) (pSh s b) k = 0
    rw [hR.2 k hk, cv_cc]
    show 0 + φ * (if k < s then 0 else b (k - s)) = 0
    by_cases c : k < s
    · rw [if_pos c]; grind
    · rw [if_neg c, ln_bd hP.1.2 (k - s) (by omega)]; grind
  by_cases h0 : vv φ = 0
  · refine ⟨σ, ?_, ⟨Fr.refl σ o, rfl⟩, ⟨fun k hk => ?_, bb⟩⟩
    · unfold mf_P_gather
      rw [ex_gd (by omega) (by omega), pw_ck_ok (by omega) (by omega), if_pos h0]
    · rw [hR.1 k hk]
      show vv (a k) = vv (a k + cv (cc φ) (pSh s b) k)
      rw [cv_cc, vv_z.mp h0]
      congr 1
      show a k = a k + 0 * pSh s b k
      grind
  · obtain ⟨n, s', e1, hP'⟩ := lp_ex (S := pw_Sto) (O := Unit × pw_Sto) (fun n k t => ml_P_gather_8 n o o2 (vv φ) s p k t) (fun j => (j : Int)) (pLn b 17) (fun k t => (Fr σ t o ∧ t.2.1 o = σ.2.1 o) ∧ ∀ j, j < 17 → t.2.1 (o + 1) j = vv (if s ≤ j ∧ j < s + k then a j + φ * b (j - s) else a j))
      (by
        intro n k t hk hI
        obtain ⟨⟨f1, f2⟩, g⟩ := hI
        obtain ⟨p1, p2, p3, p4, p5, p6⟩ := hO.fr f1
        obtain ⟨m1, m2, m3, m4, m5, m6⟩ := hO2.fr f1
        have e2 : t.2.1 o2 1 = (pLn b 17 : Int) - 1 := by rw [f1.2.2 o2 (by omega) (by omega)]; exact hP.2
        have e3 : t.2.1 (o2 + 1) k = vv (b k) := by
          rw [f1.2.2 (o2 + 1) (by omega) (by omega)]; exact hP.1.1 k (by omega)
        have e4 := g (k + s) (by omega)
        rw [if_neg (by omega)] at e4
        have r1 := vv_mm hp φ (b k)
        have r2 := vv_rng (a (k + s))
        refine ⟨pw_st t (o + 1) (fun j => if j = k + s then vv (a (k + s) + φ * b k) else t.2.1 (o + 1) j), ?_, ⟨f1.trans (Fr.st (Or.inr rfl)), by rw [st_ne (by omega)]; exact f2⟩, fun j hj => ?_⟩
        · try dsimp only
          rw [us_P_gather_8]
          unfold mb_P_gather_8
          rw [ex_gi (by omega) (by omega), Option.bind_some, e2, pw_ck_ok (by omega) (by omega), if_neg (by omega), pw_ck_ok (by omega) (by omega), if_neg (by omega), ex_gr (by omega) (by omega), p4]
          simp only [Option.bind_some]
          rw [ex_ai (by omega) (by omega) (by omega) (by omega), Option.bind_some, ex_gr (by omega) (by omega), m4, Option.bind_some, ex_ai (by omega) (by omega) (by omega) (by omega), Option.bind_some, Int.toNat_natCast, show ((k : Int) + (s : Int)).toNat = k + s by omega, e3, e4, e_K_reduce (by omega) (by omega) (by omega) (by omega), ex_bd, ← vv_am, xs_si (by omega) (by omega) (by omega) (by omega), Option.bind_some, show ((k : Int) + (s : Int)).toNat = k + s by omega]
          rfl
        · rw [st_eq]
          by_cases c : j = k + s
          · rw [if_pos c, if_pos (by omega), c, show k + s - s = k by omega]
          · rw [if_neg c, g j hj]
            by_cases c2 : s ≤ j ∧ j < s + k
            · rw [if_pos c2, if_pos (by omega)]
            · rw [if_neg c2, if_neg (by omega)]) (pLn b 17) 0 1000 σ (by omega) (by omega) ⟨⟨Fr.refl σ o, rfl⟩, fun j hj => by rw [if_neg (by omega)]; exact hR.1 j hj⟩
    obtain ⟨⟨f1, f2⟩, g⟩ := hP'
    refine ⟨s', ?_, ⟨f1, f2⟩, ⟨fun k hk => ?_, bb⟩⟩
    · obtain ⟨m1, m2, m3, m4, m5, m6⟩ := hO2.fr f1
      have e2 : s'.2.1 o2 1 = (pLn b 17 : Int) - 1 := by rw [f1.2.2 o2 (by omega) (by omega)]; exact hP.2
      unfold mf_P_gather
      rw [ex_gd (by omega) (by omega), pw_ck_ok (by omega) (by omega), if_neg h0]
      refine Eq.trans e1 ?_
      try dsimp only
      rw [us_P_gather_8]
      unfold mb_P_gather_8
      rw [ex_gi (by omega) (by omega), Option.bind_some, e2, pw_ck_ok (by omega) (by omega), if_pos (by omega)]
    · rw [g k hk]
      congr 1
      show _ = a k + cv (cc φ) (pSh s b) k
      rw [cv_cc]
      show _ = a k + φ * (if k < s then 0 else b (k - s))
      by_cases c : s ≤ k ∧ k < s + pLn b 17
      · rw [if_pos c, if_neg (by omega)]
      · rw [if_neg c]
        by_cases c2 : k < s
        · rw [if_pos c2]; grind
        · rw [if_neg c2, ln_bd hP.1.2 (k - s) (by omega)]; grind
end
