theorem zr_rng {p : Nat} (hp : 2 ≤ p) : ∀ j, j < 16 → 0 ≤ zr j ∧ zr j < p := fun j _ => by show 0 ≤ (0 : Int) ∧ (0 : Int) < p; omega
theorem fr_rng {T : Nat → Int} {len p : Nat} (hp : 2 ≤ p) : (fr T len p).2.1 ≤ len ∧ ∀ j, j < 16 → (0 ≤ (fr T len p).2.2.1 j ∧ (fr T len p).2.2.1 j < p) ∧ (0 ≤ (fr T len p).2.2.2 j ∧ (fr T len p).2.2.2 j < p) := by
  have h1 := pl_rng (T := T) (len := len) hp (pos := 0) (by omega) (zr_rng hp)
  have hk := sk_rng (T := T) h1.1.2
  unfold fr
  by_cases c1 : (pl T len p 0 zr).1 = true
  · simp only [if_pos c1]
    by_cases c2 : hr T len (sk T len (pl T len p 0 zr).2.1) = 47
    · have hl := hr_lt (T := T) (len := len) (pos := sk T len (pl T len p 0 zr).2.1) (by omega)
      have h2 := pl_rng (T := T) (len := len) hp (pos := sk T len (pl T len p 0 zr).2.1 + 1) (by omega) (zr_rng hp)
      have hk2 := sk_rng (T := T) h2.1.2
      simp only [if_pos c2]
      by_cases c3 : (pl T len p (sk T len (pl T len p 0 zr).2.1 + 1) zr).1 = true
      · simp only [if_pos c3]
        exact ⟨hk2.2, fun j hj => ⟨h1.2 j hj, h2.2 j hj⟩⟩
      · simp only [if_neg c3]
        exact ⟨h2.1.2, fun j hj => ⟨h1.2 j hj, zr_rng hp j hj⟩⟩
    · simp only [if_neg c2]
      refine ⟨hk.2, fun j hj => ⟨h1.2 j hj, ?_⟩⟩
      unfold onr
      by_cases q : j = 0
      · rw [if_pos q]; omega
      · rw [if_neg q]; omega
  · simp only [if_neg c1]
    exact ⟨h1.1.2, fun j hj => ⟨zr_rng hp j hj, zr_rng hp j hj⟩⟩
theorem MR.mq {σ : pw_Sto} {A : ASt} {T : Nat → Int} {len : Nat} {E : Nat → Int} {Hs : List ASt} (h : MR σ A T len E Hs) (q : Nat) : MR (mq σ q) A T len E Hs := h.scr rfl rfl (fun i _ hi => st_ne hi) (fun k hk => by show (pw_st σ 91 _).2.1 91 k = _; rw [st_eq, if_neg hk])
theorem Lo.mq {σ : pw_Sto} {q : Nat} : Lo σ (mq σ q) := Lo.st (by omega)
theorem e_M_end {σ : pw_Sto} {T : Nat → Int} {len p pos : Nat} (h : TM σ T len p pos) : mj_M_readFraction_64 91 σ = some (if decide (hr T len pos = -1) = true then 1 else 0, σ) := by
  obtain ⟨l1, b, c, d', e', f, g⟩ := id h
  have := l1.1
  have := sh_91
  have := f.1
  unfold mj_M_readFraction_64
  rw [ex_gi (by omega) (by omega), Option.bind_some, ex_gi (by omega) (by omega), Option.bind_some, b, c, pw_ck_ok (by omega) (by omega)]
  by_cases q : len ≤ pos
  · rw [if_pos (by omega), if_pos (by rw [decide_eq_true_eq]; unfold hr; rw [if_pos q])]
  · have hx := f.2 pos (by omega)
    rw [if_neg (by omega), if_neg (by rw [decide_eq_true_eq]; unfold hr; rw [if_neg q]; omega)]
theorem e_M_readFraction {σ : pw_Sto} {A : ASt} {T : Nat → Int} {len : Nat} {E : Nat → Int} {Hs : List ASt} (hM : MR σ A T len E Hs) (hV : VR A T len Hs) : ∃ s, mf_M_readFraction 91 σ = some (if (fr T len A.1).1 = true then 1 else 0, s) ∧ MR s A T len E Hs ∧ Lo σ s ∧ s.2.1 91 9 = (fr T len A.1).2.1 ∧ ((fr T len A.1).1 = true → ∀ j, j < 16 → s.2.1 97 j = (fr T len A.1).2.2.1 j ∧ s.2.1 98 j = (fr T len A.1).2.2.2 j) := by
  have hp := isPb_le hV.1.1
  have hN := hM.1.1
  have := sh_91
  have s97 : (pw_sh 97).1 = 11 ∧ (pw_sh 97).2 = 16 := sh_97
  have s98 : (pw_sh 98).1 = 11 ∧ (pw_sh 98).2 = 16 := sh_98
  have t1 : pw_pi 10 91 9 (0 : Int) σ = some (mq σ 0) := pi_mq (by omega) (by omega)
  have hM1 := hM.mq 0
  have n1 := hM1.1.1
  have t2 := e_M_clear (σ := mq σ 0) (a := 98) (by omega) (by omega)
  generalize hs2 : pw_st (mq σ 0) 98 (fun j => if j < (pw_sh 98).2 then 0 else (mq σ 0).2.1 98 j) = s2 at t2
  have hM2 : MR s2 A T len E Hs := by rw [← hs2]; exact hM1.st96 (by omega) _
  have n2 := hM2.1.1
  have t3 : pw_si 98 (0 : Int) (1 : Int) s2 = some (pw_st s2 98 _) := xs_si (by omega) (by omega) (by omega) (by omega)
  generalize hs3 : pw_st s2 98 (fun j => if j = (0 : Int).toNat then 1 else s2.2.1 98 j) = s3 at t3
  have hM3 : MR s3 A T len E Hs := by rw [← hs3]; exact hM2.st96 (by omega) _
  have n3 := hM3.1.1
  have v98 : ∀ j, j < 16 → s3.2.1 98 j = onr j := fun j hj => by
    rw [← hs3, st_eq]
    show (if j = 0 then 1 else s2.2.1 98 j) = if j = 0 then 1 else 0
    rw [← hs2, st_eq, if_pos (show j < (pw_sh 98).2 by omega)]
  have e919 : s3.2.1 91 9 = ((0 : Nat) : Int) := by rw [← hs3, st_ne (by omega), ← hs2, st_ne (by omega)]; unfold mq; rw [st_eq]; rfl
  have hH3 : Lo σ s3 := by rw [← hs3, ← hs2]; exact (Lo.mq.trans (Lo.st (by omega))).trans (Lo.st (by omega))
  have hT3 : TM s3 T len A.1 0 := ⟨hM3.1, hM3.2.2.1.1, e919, hM3.2.1.1, by omega, ⟨hV.2.1, hV.2.2.1⟩, hM3.2.2.1.2⟩
  obtain ⟨row, t4, hrow⟩ := e_M_readPolynomial hT3 (by omega) (by omega) (a := 97) (by omega) (by omega)
  have hrg := pl_rng (T := T) (len := len) (p := A.1) (by omega) (pos := 0) (by omega) (zr_rng (by omega))
  have hsk := pl_sk (T := T) (len := len) (p := A.1) (pos := 0) (row := zr)
  unfold mf_M_readFraction fr
  rw [ex_gd (by omega) (by omega), t1, Option.bind_some, ex_gr (by omega) (by omega), lr_91_8 hM1.1, Option.bind_some, t2, ex_bd, ex_gr (by omega) (by omega), lr_91_8 hM2.1, Option.bind_some, t3, Option.bind_some, ex_gr (by omega) (by omega), lr_91_7 hM3.1, Option.bind_some, t4, ex_bd, pw_ck_ok (b01 _) (by omega), if01]
  generalize pl T len A.1 0 zr = a at hrow hrg hsk ⊢
  generalize hs5 : pw_st (mq s3 a.2.1) 97 row = s5
  have hT5 : TM s5 T len A.1 a.2.1 := by rw [← hs5]; exact (hT3.mv hrg.1.2).st (by omega)
  have hM5 : MR s5 A T len E Hs := by rw [← hs5]; exact (hM3.mq _).st96 (by omega) _
  have hH5 : Lo σ s5 := by rw [← hs5]; exact (hH3.trans Lo.mq).trans (Lo.st (by omega))
  have w97 : ∀ j, j < 16 → s5.2.1 97 j = a.2.2 j := fun j hj => by rw [← hs5, st_eq]; exact hrow j hj
  have w98 : s5.2.1 98 = s3.2.1 98 := by rw [← hs5, st_ne (by omega), mq_a (by omega)]
  have n5 := hM5.1.1
  have c5 := hT5.2.2.1
  have r1 := hr_rng hT5.2.2.2.2.2.1 a.2.1
  by_cases c1 : a.1 = true
  · simp only [if_pos c1]
    rw [hsk c1, e_M_here hT5, ex_bd, pw_ck_ok (by omega) (by omega)]
    by_cases c2 : hr T len a.2.1 = 47
    · have hl := hr_lt (T := T) (len := len) (pos := a.2.1) (by omega)
      have hT6 := hT5.mv (q := a.2.1 + 1) (by omega)
      have n6 := hT6.1.1
      obtain ⟨row2, t7, hrow2⟩ := e_M_readPolynomial hT6 (by omega) (by omega) (a := 98) (by omega) (by omega)
      have hrg2 := pl_rng (T := T) (len := len) (p := A.1) (by omega) (pos := a.2.1 + 1) (by omega) (zr_rng (by omega))
      have hsk2 := pl_sk (T := T) (len := len) (p := A.1) (pos := a.2.1 + 1) (row := zr)
      simp only [if_pos c2]
      rw [ex_gi (by omega) (by omega), Option.bind_some, c5, pi_mq (q := a.2.1 + 1) (by omega) (by omega), Option.bind_some, ex_gr (by omega) (by omega), lr_91_8 hT6.1, Option.bind_some, t7, ex_bd, pw_ck_ok (b01 _) (by omega), if01, mq_mq]
      generalize pl T len A.1 (a.2.1 + 1) zr = b at hrow2 hrg2 hsk2 ⊢
      generalize hs7 : pw_st (mq s5 b.2.1) 98 row2 = s7
      have hT7 : TM s7 T len A.1 b.2.1 := by rw [← hs7]; exact (hT5.mv hrg2.1.2).st (by omega)
      have hM7 : MR s7 A T len E Hs := by rw [← hs7]; exact (hM5.mq _).st96 (by omega) _
      have hH7 : Lo σ s7 := by rw [← hs7]; exact (hH5.trans Lo.mq).trans (Lo.st (by omega))
      by_cases c3 : b.1 = true
      · simp only [if_pos c3]
        rw [hsk2 c3]
        refine ⟨s7, e_M_end hT7, hM7, hH7, hT7.2.2.1, fun _ j hj => ⟨?_, ?_⟩⟩
        · rw [← hs7, st_ne (by omega), mq_a (by omega)]; exact w97 j hj
        · rw [← hs7, st_eq]; exact hrow2 j hj
      · simp only [if_neg c3]
        exact ⟨s7, rfl, hM7, hH7, hT7.2.2.1, fun e => nomatch e⟩
    · simp only [if_neg c2]
      exact ⟨s5, e_M_end hT5, hM5, hH5, hT5.2.2.1, fun _ j hj => ⟨w97 j hj, by rw [w98]; exact v98 j hj⟩⟩
  · simp only [if_neg c1]
    exact ⟨s5, rfl, hM5, hH5, hT5.2.2.1, fun e => nomatch e⟩
