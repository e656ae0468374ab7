section
/-! ## how far a fraction agrees with a series -/
def fd {p : Nat} (a b : Nat → Fin p) : Nat → Nat → Nat
  | 0, r => r
  | d + 1, r => if a r = b r then fd a b d (r + 1) else r
theorem fd_sp {p : Nat} {a b : Nat → Fin p} : ∀ {d r : Nat}, (r ≤ fd a b d r ∧ fd a b d r ≤ r + d) ∧ (∀ j, r ≤ j → j < fd a b d r → a j = b j) ∧ (fd a b d r < r + d → a (fd a b d r) ≠ b (fd a b d r)) := by
  intro d
  induction d with
  | zero => intro r; exact ⟨⟨Nat.le_refl _, Nat.le_refl _⟩, fun j h1 h2 => absurd (show j < r from h2) (by omega), fun h => absurd (show r < r + 0 from h) (by omega)⟩
  | succ d ih =>
    intro r
    have e : fd a b (d + 1) r = if a r = b r then fd a b d (r + 1) else r := rfl
    by_cases c : a r = b r
    · rw [if_pos c] at e
      obtain ⟨⟨i1, i2⟩, i3, i4⟩ := ih (r := r + 1)
      rw [e]
      refine ⟨⟨by omega, by omega⟩, fun j h1 h2 => ?_, fun h => i4 (by omega)⟩
      by_cases q : j = r
      · rw [q]; exact c
      · exact i3 j (by omega) h2
    · rw [if_neg c] at e
      rw [e]
      exact ⟨⟨by omega, by omega⟩, fun j h1 h2 => by omega, fun _ => c⟩
theorem fd_eq {p : Nat} {a b a' b' : Nat → Fin p} {d : Nat} (h : ∀ n, n ≤ d → ((∀ j, j < n → a j = b j) ↔ (∀ j, j < n → a' j = b' j))) : fd a b d 0 = fd a' b' d 0 := by
  obtain ⟨⟨_, i2⟩, i3, i4⟩ := fd_sp (a := a) (b := b) (d := d) (r := 0)
  obtain ⟨⟨_, j2⟩, j3, j4⟩ := fd_sp (a := a') (b := b') (d := d) (r := 0)
  by_cases c : fd a b d 0 < fd a' b' d 0
  · exact absurd ((h (fd a b d 0 + 1) (by omega)).mpr (fun j hj => j3 j (by omega) (by omega)) (fd a b d 0) (by omega)) (i4 (by omega))
  · by_cases c2 : fd a' b' d 0 < fd a b d 0
    · exact absurd ((h (fd a' b' d 0 + 1) (by omega)).mp (fun j hj => i3 j (by omega) (by omega)) (fd a' b' d 0) (by omega)) (j4 (by omega))
    · omega
theorem e_R_agreement {p : Nat} [NeZero p] (hp : isPb p = true) {σ : pw_Sto} (hL : Lay σ) {P Q f : PS (Fin p)} (hP : Pc σ 59 P) (hQ : Pc σ 61 Q) {a : Nat} (ha : a < 109) (sa : pw_sh a = (11, 16)) (hf : ∀ k, k < 16 → σ.2.1 a k = vv (f k)) : mf_R_agreement 58 a p σ = some (((fd (cv Q f) P 16 0 : Nat) : Int), σ) := by
  have hp2 := isPb_le hp
  have hN := hL.1
  have s58 := sh_58
  have s59 := sh_59
  have s60 := sh_60
  have s61 := sh_61
  have s62 := sh_62
  have sa1 : (pw_sh a).1 = 11 := by rw [sa]
  have sa2 : (pw_sh a).2 = 16 := by rw [sa]
  have lQ := ln_le Q 17
  have inner : ∀ (k : Nat) (r2 : Nat → Nat → Int → Int → pw_Sto → Option (Int × pw_Sto)), k < 16 → ml_R_agreement_14 r2 1000 58 a p k 0 0 σ = if cv Q f k = P k then r2 58 a p ((k : Int) + 1) σ else some ((k : Int), σ) := by
    intro k r2 hk
    obtain ⟨e, he⟩ : ∃ e, (e = k + 1 ∧ k + 1 ≤ pLn Q 17) ∨ (e = pLn Q 17 ∧ pLn Q 17 ≤ k + 1) := by
      by_cases c : k + 1 ≤ pLn Q 17
      · exact ⟨k + 1, Or.inl ⟨rfl, c⟩⟩
      · exact ⟨pLn Q 17, Or.inr ⟨rfl, by omega⟩⟩
    have h := lp_sum0 (O := Int × pw_Sto) (fun n i z => ml_R_agreement_14 r2 n 58 a p k z i σ) e (fun i => vv (Q i) * vv (f (k - i))) (fun z => mj_R_agreement_60 r2 58 a p k z σ)
      (by
        intro n i z hi
        try dsimp only
        rw [us_R_agreement_14]
        unfold mb_R_agreement_14
        rw [pw_ck_ok (by omega) (by omega), if_neg (by omega), ex_gr (by omega) (by omega), lr_58_1 hL]
        simp only [Option.bind_some]
        rw [ex_gi (by omega) (by omega), Option.bind_some, hQ.2, pw_ck_ok (by omega) (by omega), if_neg (by omega), ex_gr (by omega) (by omega), lr_61_0 hL, Option.bind_some, ex_ai (by omega) (by omega) (by omega) (by omega), Option.bind_some, ex_ai (by omega) (by omega) (by omega) (by omega), Option.bind_some, Int.toNat_natCast, show ((k : Int) - (i : Int)).toNat = k - i by omega, hf (k - i) (by omega), hQ.1.1 i (by omega)]
        rfl)
      (by
        intro n z
        try dsimp only
        rw [us_R_agreement_14]
        unfold mb_R_agreement_14
        rw [pw_ck_ok (by omega) (by omega)]
        by_cases c : (k : Int) < (e : Int)
        · rw [if_pos c]
        · rw [if_neg c, ex_gr (by omega) (by omega), lr_58_1 hL]
          simp only [Option.bind_some]
          rw [ex_gi (by omega) (by omega), Option.bind_some, hQ.2, pw_ck_ok (by omega) (by omega), if_pos (by omega)]) 1000 0 (by omega)
    rw [Int.zero_add] at h
    have hb := sm_bd (f := fun i => vv (Q i) * vv (f (k - i))) (C := 63001) (n := e) (fun i _ => vv_mm (by omega) (Q i) (f (k - i)))
    have hv : (sm (fun i => vv (Q i) * vv (f (k - i))) e) % p = vv (cv Q f k) := by
      rw [← vv_fz, sm_fz]
      congr 1
      have e1 : sm (fun i => fz p (vv (Q i) * vv (f (k - i)))) e = sm (fun i => Q i * f (k - i)) e := sm_congr (fun i _ => by rw [fz_mul, fz_vv, fz_vv])
      rw [e1]
      refine (sm_pad (n := e) (m := k + 1) (by omega) (fun i h1 h2 => ?_)).symm
      rw [ln_bd hQ.1.2 i (by omega)]; grind
    refine Eq.trans h ?_
    have r1 := vv_rng (cv Q f k)
    have r2' := vv_rng (P k)
    unfold mj_R_agreement_60
    rw [e_K_reduce hb.1 (by omega) (by omega) (by omega), ex_bd, hv, ex_gr (by omega) (by omega), lr_58_0 hL, Option.bind_some, ex_gr (by omega) (by omega), lr_59_0 hL, Option.bind_some, ex_ai (by omega) (by omega) (by omega) (by omega), Option.bind_some, Int.toNat_natCast, hP.1.1 k (by omega), pw_ck_ok (by omega) (by omega)]
    by_cases c : cv Q f k = P k
    · rw [if_pos c, if_pos (by rw [c])]
    · rw [if_neg c, if_neg (fun q => c (vv_inj q))]
  have key : ∀ (d n k : Nat), k + d = 16 → d < n → ml_R_agreement_2 n 58 a p (k : Nat) σ = some (((fd (cv Q f) P d k : Nat) : Int), σ) := by
    intro d
    induction d with
    | zero =>
      intro n k h1 h2
      obtain ⟨n, rfl⟩ : ∃ k, n = k + 1 := ⟨n - 1, by omega⟩
      rw [us_R_agreement_2]
      unfold mb_R_agreement_2
      rw [pw_ck_ok (by omega) (by omega), if_pos (by omega), show k = 16 by omega]
      rfl
    | succ d ih =>
      intro n k h1 h2
      obtain ⟨n, rfl⟩ : ∃ k, n = k + 1 := ⟨n - 1, by omega⟩
      rw [us_R_agreement_2]
      unfold mb_R_agreement_2
      rw [pw_ck_ok (by omega) (by omega), if_neg (by omega), inner k _ (by omega)]
      have e : fd (cv Q f) P (d + 1) k = if cv Q f k = P k then fd (cv Q f) P d (k + 1) else k := rfl
      by_cases c : cv Q f k = P k
      · rw [if_pos c] at e ⊢
        rw [e]
        exact ih n (k + 1) (by omega) (by omega)
      · rw [if_neg c] at e ⊢
        rw [e]
  unfold mf_R_agreement
  rw [ex_gd (by omega) (by omega)]
  exact key 16 1000 0 (by omega) (by omega)
/-- the size of the block, as the class and the model say it -/
def bkV {p : Nat} [NeZero p] (f P Q : PS (Fin p)) : Int := if pLn P 17 = 0 then -1 else ((fd (cv Q f) P 16 0 : Nat) : Int) - ((pLn P 17 : Int) - 1) - ((pLn Q 17 : Int) - 1) - 1
theorem e_R_block {p : Nat} [NeZero p] {σ : pw_Sto} (hL : Lay σ) {P Q f : PS (Fin p)} (hP : Pc σ 59 P) (hQ : Pc σ 61 Q) : mf_R_block 58 ((fd (cv Q f) P 16 0 : Nat) : Int) σ = some (bkV f P Q, σ) := by
  have hN := hL.1
  have s58 := sh_58
  have s59 := sh_59
  have s61 := sh_61
  have lP := ln_le P 17
  unfold mf_R_block bkV
  rw [ex_gd (by omega) (by omega)]
  simp (disch := omega) only [ex_gr, ex_gi, lr_58_0 hL, lr_58_1 hL, Option.bind_some, hP.2, hQ.2]
  rw [pw_ck_ok (by omega) (by omega)]
  by_cases c : pLn P 17 = 0
  · rw [if_neg (by omega), if_pos c]
  · rw [if_pos (by omega), if_neg c]
theorem ln_18 {p : Nat} [NeZero p] {a : PS (Fin p)} (h : pBd a 17) : pLn a 18 = pLn a 17 := by
  show (if a 17 = 0 then pLn a 17 else 17 + 1) = pLn a 17
  rw [if_pos (h 17 (by omega))]
/-! the model's order -/
theorem e_M_orderOf {A : ASt} [NeZero A.1] (hV : VA A) {x : Int} (hx : 0 ≤ x ∧ x < 4) {σ : pw_Sto} {T : Nat → Int} {len : Nat} {E : Nat → Int} {Hs : List ASt} (hM : MR σ A T len E Hs) {P Q : PS (Fin A.1)} (hP : Pm σ 102 P) (hQ : Pm σ 103 Q) (h0 : Q 0 ≠ 0) : ∃ s, mf_M_orderOf 91 x σ = some (((fd (cv Q (srs A.1 (A.2.1 x.toNat))) P 16 0 : Nat) : Int), s) ∧ Ms σ s ∧ ∀ i, 99 ≤ i → s.2.1 i = σ.2.1 i := by
  have hp := hV.1
  have hp2 := isPb_le hp
  have s91 := sh_91
  have s96 := sh_96
  have s97 := sh_97
  have s98 := sh_98
  have s102 := sh_102
  have s103 := sh_103
  have hL := hM.1
  have hN := hL.1
  generalize hf : srs A.1 (A.2.1 x.toNat) = f
  obtain ⟨n, s1, e1, X1, g1, g2⟩ := lp_ex (S := pw_Sto) (O := Int × pw_Sto) (fun n j t => ml_M_orderOf_2 n 91 x j t) (fun j => (j : Int)) 16 (fun i t => (t.1 = σ.1 ∧ t.2.2 = σ.2.2 ∧ ∀ a, a ≠ 97 → a ≠ 98 → t.2.1 a = σ.2.1 a) ∧ (∀ j, j < i → t.2.1 97 j = vv (P j)) ∧ ∀ j, j < i → t.2.1 98 j = vv (Q j))
    (by
      intro n i t hi hI
      obtain ⟨X, g1, g2⟩ := hI
      have L1 : Lay t := ⟨X.1.trans hN, fun q hq => by rw [X.2.1]; exact hL.2 q hq⟩
      have n1 := L1.1
      have e1 : t.2.1 102 i = vv (P i) := by rw [X.2.2 102 (by omega) (by omega)]; exact hP.1 i (by omega)
      have e2 : t.2.1 103 i = vv (Q i) := by rw [X.2.2 103 (by omega) (by omega)]; exact hQ.1 i (by omega)
      have L2 : Lay (pw_st t 97 (fun j => if j = i then vv (P i) else t.2.1 97 j)) := L1
      have n2 := L2.1
      refine ⟨pw_st (pw_st t 97 (fun j => if j = i then vv (P i) else t.2.1 97 j)) 98 (fun j => if j = i then vv (Q i) else t.2.1 98 j), ?_, ⟨X.1, X.2.1, fun a a1 a2 => by rw [st_ne a2, st_ne a1]; exact X.2.2 a a1 a2⟩, fun j hj => ?_, fun j hj => ?_⟩
      · try dsimp only
        rw [us_M_orderOf_2]
        unfold mb_M_orderOf_2
        rw [pw_ck_ok (by omega) (by omega), if_neg (by omega), ex_gr (by omega) (by omega), lr_91_7 L1, Option.bind_some, ex_gr (by omega) (by omega), lr_91_13 L1, Option.bind_some, ex_ai (by omega) (by omega) (by omega) (by omega), Option.bind_some, Int.toNat_natCast, e1, xs_si (by omega) (by omega) (by omega) (by omega), Option.bind_some, Int.toNat_natCast, ex_gr (by omega) (by omega), lr_91_8 L2, Option.bind_some, ex_gr (by omega) (by omega), lr_91_14 L2, Option.bind_some, ex_ai (by omega) (by omega) (by omega) (by omega), Option.bind_some, Int.toNat_natCast, st_ne (by omega), e2, xs_si (by omega) (by omega) (by omega) (by omega), Option.bind_some, Int.toNat_natCast, st_ne (σ := t) (a := 97) (q := 98) (by omega)]
        rfl
      · rw [st_ne (by omega), st_eq]
        by_cases c : j = i
        · rw [if_pos c, c]
        · rw [if_neg c]; exact g1 j (by omega)
      · rw [st_eq]
        by_cases c : j = i
        · rw [if_pos c, c]
        · rw [if_neg c]; exact g2 j (by omega)) 16 0 1000 σ (by omega) (by omega) ⟨⟨rfl, rfl, fun _ _ _ => rfl⟩, fun j hj => by omega, fun j hj => by omega⟩
  have Y1 : Ms σ s1 := ⟨X1.1, X1.2.1, fun i hi => X1.2.2 i (by omega) (by omega)⟩
  have M1 := hM.ms Y1
  have n1 := M1.1.1
  have b0 : s1.2.1 98 0 ≠ 0 := by rw [g2 0 (by omega)]; exact fun q => h0 (vv_z.mp q)
  have t2 := e_M_makeQuotient M1.1 M1.2.1.1 hp (fun k hk => by rw [g1 k hk]; exact vv_rng _) (fun k hk => by rw [g2 k hk]; exact vv_rng _) b0
  have qe := fun k => qt_eq (p := A.1) hp (a := s1.2.1 97) (b := s1.2.1 98) (by rw [g2 0 (by omega)]; exact vv_rng _) b0 k
  have qr := fun k => qt_rng (p := A.1) (by omega) ((iv A.1 (s1.2.1 98 0).toNat : Nat) : Int) (s1.2.1 97) (s1.2.1 98) k
  generalize cov (qtV A.1 ((iv A.1 (s1.2.1 98 0).toNat : Nat) : Int) (s1.2.1 97) (s1.2.1 98)) = G at *
  have hG : ∀ k, k < 16 → cv (fun i => fz A.1 (G i)) Q k = P k := fun k hk => by
    have h1 := qe k
    rw [g1 k hk, fz_vv] at h1
    rw [← h1]
    exact cv_congr (fun i _ => rfl) (fun i hi => by rw [g2 i (by omega), fz_vv])
  have F2 : Fq s1 (pw_st s1 96 (fun j => if j < 16 then G j else s1.2.1 96 j)) 96 := ⟨rfl, rfl, fun i hi => st_ne hi⟩
  have v2 : ∀ k, k < 16 → (pw_st s1 96 (fun j => if j < 16 then G j else s1.2.1 96 j)).2.1 96 k = vv (fz A.1 (G k)) := fun k hk => by
    rw [st_eq, if_pos hk, vv_fz, Int.emod_eq_of_lt (qr k).1 (qr k).2]
  generalize pw_st s1 96 (fun j => if j < 16 then G j else s1.2.1 96 j) = s2 at *
  have M2 := M1.ms (Ms.fq F2 (by omega))
  have n2 := M2.1.1
  have hfd : fd (fun i => fz A.1 (G i)) f 16 0 = fd (cv Q f) P 16 0 := fd_eq (fun n hn => by
    constructor
    · intro h j hj
      rw [← hG j (by omega), cv_comm]
      exact (cv_congr (fun i hi => h i (by omega)) (fun i hi => rfl)).symm
    · intro h
      refine cv_uniq (fi_ok hp h0) (fun j hj => ?_)
      rw [hG j (by omega), ← h j hj, cv_comm])
  have key : ∀ (d n k : Nat), k + d = 16 → d < n → ml_M_orderOf_44 n 91 x (k : Nat) s2 = some (((fd (fun i => fz A.1 (G i)) f d k : Nat) : Int), s2) := by
    intro d
    induction d with
    | zero =>
      intro n k h1 h2
      obtain ⟨n, rfl⟩ : ∃ k, n = k + 1 := ⟨n - 1, by omega⟩
      rw [us_M_orderOf_44]
      unfold mb_M_orderOf_44
      rw [pw_ck_ok (by omega) (by omega), if_pos (by omega)]
      rfl
    | succ d ih =>
      intro n k h1 h2
      obtain ⟨n, rfl⟩ : ∃ k, n = k + 1 := ⟨n - 1, by omega⟩
      have tt := e_M_termF M2.1 M2.2.1 hV hx (k := k) (by omega)
      rw [hf] at tt
      have r1 := vv_rng (fz A.1 (G k))
      have r2 := vv_rng (f k)
      rw [us_M_orderOf_44]
      unfold mb_M_orderOf_44
      rw [pw_ck_ok (by omega) (by omega), if_neg (by omega), ex_gr (by omega) (by omega), lr_91_6 M2.1, Option.bind_some, ex_ai (by omega) (by omega) (by omega) (by omega), Option.bind_some, Int.toNat_natCast, v2 k (by omega), tt, ex_bd, pw_ck_ok (by omega) (by omega)]
      have e : fd (fun i => fz A.1 (G i)) f (d + 1) k = if fz A.1 (G k) = f k then fd (fun i => fz A.1 (G i)) f d (k + 1) else k := rfl
      by_cases c : fz A.1 (G k) = f k
      · rw [if_pos c] at e
        rw [if_pos (by rw [c]), e]
        exact ih n (k + 1) (by omega) (by omega)
      · rw [if_neg c] at e
        rw [if_neg (fun q => c (vv_inj q)), e]
  refine ⟨s2, ?_, Y1.trans (Ms.fq F2 (by omega)), fun i hi => by rw [F2.2.2 i (by omega), X1.2.2 i (by omega) (by omega)]⟩
  unfold mf_M_orderOf
  rw [ex_gd (by omega) (by omega)]
  refine Eq.trans e1 ?_
  try dsimp only
  rw [us_M_orderOf_2]
  unfold mb_M_orderOf_2
  rw [pw_ck_ok (by omega) (by omega), if_pos (by omega), t2, ex_bd, ← hfd]
  exact key 16 1000 0 (by omega) (by omega)
theorem e_M_sizeOf {A : ASt} [NeZero A.1] (hV : VA A) {x : Int} (hx : 0 ≤ x ∧ x < 4) {σ : pw_Sto} {T : Nat → Int} {len : Nat} {E : Nat → Int} {Hs : List ASt} (hM : MR σ A T len E Hs) {P Q : PS (Fin A.1)} (hP : Pm σ 102 P) (hQ : Pm σ 103 Q) (h0 : Q 0 ≠ 0) (bP : pBd P 17) (bQ : pBd Q 17) (hz : pLn P 17 ≠ 0) : ∃ s, mf_M_sizeOf 91 x σ = some (bkV (srs A.1 (A.2.1 x.toNat)) P Q, s) ∧ Ms σ s ∧ ∀ i, 99 ≤ i → s.2.1 i = σ.2.1 i := by
  have hp2 := isPb_le hV.1
  have s91 := sh_91
  have hN := hM.1.1
  obtain ⟨s, t, X, g⟩ := e_M_orderOf hV hx hM hP hQ h0
  have M1 := hM.ms X
  have n1 := M1.1.1
  refine ⟨s, ?_, X, g⟩
  unfold mf_M_sizeOf bkV
  rw [ex_gd (by omega) (by omega), t, ex_bd, ex_gr (by omega) (by omega), lr_91_13 M1.1, Option.bind_some, e_M_degree (p := A.1) (by omega) M1.1 (by omega) (by omega) (hP.kept (g 102 (by omega))), ex_bd, ex_gr (by omega) (by omega), lr_91_14 M1.1, Option.bind_some, e_M_degree (p := A.1) (by omega) M1.1 (by omega) (by omega) (hQ.kept (g 103 (by omega))), ex_bd, ln_18 bP, ln_18 bQ, if_neg hz]
/-! ## the approximant as a function -/
noncomputable def apW {p : Nat} [NeZero p] (f : PS (Fin p)) (m n : Nat) : PS (Fin p) × PS (Fin p) := @Classical.epsilon _ ⟨(cc 0, cc 0)⟩ (fun W => pApp f m n W)
theorem ap_is {p : Nat} [NeZero p] (hp : isPb p = true) {f : PS (Fin p)} {m n : Nat} {W : PS (Fin p) × PS (Fin p)} (h : pApp f m n W) : W = apW f m n := app_uniq hp h (Classical.epsilon_spec (p := fun W => pApp f m n W) ⟨W, h⟩)
theorem e_W_ap {A : ASt} [NeZero A.1] {σ : pw_Sto} {T : Nat → Int} {len : Nat} {E : Nat → Int} {Hs : List ASt} (hC : CR σ A T len E Hs) (hV : VA A) {x : Int} (hx : 0 ≤ x ∧ x < 4) {m n : Nat} (hmn : m + n ≤ 15) : ∃ s, mf_W_approximate 0 x m n σ = some ((), s) ∧ CR s A T len E Hs ∧ Hi σ s ∧ Pc s 59 (apW (srs A.1 (A.2.1 x.toNat)) m n).1 ∧ Pc s 61 (apW (srs A.1 (A.2.1 x.toNat)) m n).2 := by
  obtain ⟨s, P, Q, t, h1, h2, h3, h4, h5⟩ := e_W_approximate hC hV hx hmn
  have e := ap_is hV.1 h5
  rw [← e]
  exact ⟨s, t, h1, h2, h3, h4⟩
theorem e_M_ap {A : ASt} [NeZero A.1] (hV : VA A) {x : Int} (hx : 0 ≤ x ∧ x < 4) {m n : Nat} (hmn : m + n ≤ 15) {σ : pw_Sto} {T : Nat → Int} {len : Nat} {E : Nat → Int} {Hs : List ASt} (hM : MR σ A T len E Hs) : ∃ s, mf_M_approximate 91 x m n σ = some ((), s) ∧ Ms σ s ∧ Pm s 102 (apW (srs A.1 (A.2.1 x.toNat)) m n).1 ∧ Pm s 103 (apW (srs A.1 (A.2.1 x.toNat)) m n).2 ∧ (apW (srs A.1 (A.2.1 x.toNat)) m n).2 0 ≠ 0 := by
  obtain ⟨s, P, Q, t, h1, h2, h3, h4⟩ := e_M_approximate hV hx hmn hM
  have e := ap_is hV.1 h4
  rw [← e]
  exact ⟨s, t, h1, h2, h3, app_q0 hV.1 h4⟩
end
