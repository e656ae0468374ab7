/-! ### a fraction -/
theorem upt_cg {p : Nat} {neg : Bool} {r r' : Nat → Int} {v : Int} {e : Nat} (he : e < 16) (h : ∀ j, j < 16 → r j = r' j) : ∀ j, j < 16 → upt p neg r v e j = upt p neg r' v e j := by
  intro j hj
  unfold upt
  by_cases c : j = e
  · rw [if_pos c, if_pos c, h e he]
  · rw [if_neg c, if_neg c, h j hj]
theorem plF_cg {T : Nat → Int} {len p : Nat} : ∀ {n : Nat} {neg : Bool} {pos : Nat} {r r' : Nat → Int}, pos ≤ len → (∀ j, j < 16 → r j = r' j) → (plF T len p n neg pos r).1 = (plF T len p n neg pos r').1 ∧ (plF T len p n neg pos r).2.1 = (plF T len p n neg pos r').2.1 ∧ ∀ j, j < 16 → (plF T len p n neg pos r).2.2 j = (plF T len p n neg pos r').2.2 j := by
  intro n
  induction n with
  | zero => intro neg pos r r' _ h; exact ⟨rfl, rfl, h⟩
  | succ n ih =>
    intro neg pos r r' h0 h
    have ht := tm_rng (T := T) h0
    unfold plF
    generalize tmx T len pos = w at ht
    obtain ⟨o, q⟩ := w
    cases o with
    | none => exact ⟨rfl, rfl, h⟩
    | some w =>
      have hk := sk_rng (T := T) ht.1.2
      have hu := upt_cg (p := p) (neg := neg) (v := w.1) (ht.2 w rfl).2.1 h
      dsimp only at ht hk ⊢
      by_cases c1 : hr T len (sk T len q) = 43
      · have hl := hr_lt (T := T) (len := len) (pos := sk T len q) (by omega)
        simp only [if_pos c1]
        exact ih (by omega) hu
      · simp only [if_neg c1]
        by_cases c2 : hr T len (sk T len q) = 45
        · have hl := hr_lt (T := T) (len := len) (pos := sk T len q) (by omega)
          simp only [if_pos c2]
          exact ih (by omega) hu
        · simp only [if_neg c2]
          exact ⟨trivial, trivial, hu⟩
theorem pl_cg {T : Nat → Int} {len p pos : Nat} {r r' : Nat → Int} (h0 : pos ≤ len) (h : ∀ j, j < 16 → r j = r' j) : (pl T len p pos r).1 = (pl T len p pos r').1 ∧ (pl T len p pos r).2.1 = (pl T len p pos r').2.1 ∧ ∀ j, j < 16 → (pl T len p pos r).2.2 j = (pl T len p pos r').2.2 j := by
  have hk := sk_rng (T := T) h0
  unfold pl
  by_cases c : hr T len (sk T len pos) = 45
  · have hl := hr_lt (T := T) (len := len) (pos := sk T len pos) (by omega)
    simp only [if_pos c]
    exact plF_cg (by omega) h
  · simp only [if_neg c]
    exact plF_cg (by omega) h
def zr : Nat → Int := fun _ => 0
def onr : Nat → Int := fun j => if j = 0 then 1 else 0
def fr (T : Nat → Int) (len p : Nat) : Bool × Nat × (Nat → Int) × (Nat → Int) :=
  if (pl T len p 0 zr).1 = true then
    (if hr T len (sk T len (pl T len p 0 zr).2.1) = 47 then
      (if (pl T len p (sk T len (pl T len p 0 zr).2.1 + 1) zr).1 = true then (decide (hr T len (sk T len (pl T len p (sk T len (pl T len p 0 zr).2.1 + 1) zr).2.1) = -1), sk T len (pl T len p (sk T len (pl T len p 0 zr).2.1 + 1) zr).2.1, (pl T len p 0 zr).2.2, (pl T len p (sk T len (pl T len p 0 zr).2.1 + 1) zr).2.2)
      else (false, (pl T len p (sk T len (pl T len p 0 zr).2.1 + 1) zr).2.1, (pl T len p 0 zr).2.2, zr))
    else (decide (hr T len (sk T len (pl T len p 0 zr).2.1) = -1), sk T len (pl T len p 0 zr).2.1, (pl T len p 0 zr).2.2, onr))
  else (false, (pl T len p 0 zr).2.1, zr, zr)
theorem CR.st43 {σ : pw_Sto} {A : ASt} {T : Nat → Int} {len : Nat} {E : Nat → Int} {Hs : List ASt} (h : CR σ A T len E Hs) {f : Nat → Int} (hf : f 1 = len) : CR (pw_st σ 43 f) A T len E Hs := by
  have := h.text (T' := T) (len' := len) (f := f) (g := σ.2.1 44) hf h.2.2.2.1.2
  rw [st_self] at this
  exact this
theorem CR.sp {σ : pw_Sto} {A : ASt} {T : Nat → Int} {len : Nat} {E : Nat → Int} {Hs : List ASt} (h : CR σ A T len E Hs) (q : Nat) : CR (sp σ q) A T len E Hs := h.st43 (show (if (1 : Nat) = 2 then (q : Int) else σ.2.1 43 1) = len from h.2.2.2.1.1)
theorem Hi.sp {σ : pw_Sto} {q : Nat} : Hi σ (sp σ q) := Hi.st (by omega)
theorem e_T_end {σ : pw_Sto} {T : Nat → Int} {len p pos : Nat} (h : TC σ T len p pos) : mj_T_readFraction_71 43 σ = some (if decide (hr T len (sk T len pos) = -1) = true then 1 else 0, sp σ (sk T len pos)) := by
  have hr1 := hr_rng h.2.2.2.2.2.1 (sk T len pos)
  unfold mj_T_readFraction_71
  rw [e_T_peek h, ex_bd, pw_ck_ok (by omega) (by omega)]
  by_cases c : hr T len (sk T len pos) = -1
  · rw [if_pos c, if_pos (by rw [decide_eq_true_eq]; exact c)]
  · rw [if_neg c, if_neg (by rw [decide_eq_true_eq]; exact c)]
theorem e_T_readFraction {σ : pw_Sto} {A : ASt} {T : Nat → Int} {len : Nat} {E : Nat → Int} {Hs : List ASt} (hC : CR σ A T len E Hs) (hV : VR A T len Hs) : ∃ s, mf_T_readFraction 43 A.1 σ = some (if (fr T len A.1).1 = true then 1 else 0, s) ∧ CR s A T len E Hs ∧ Hi σ s ∧ s.2.1 43 2 = (fr T len A.1).2.1 ∧ ((fr T len A.1).1 = true → ∀ j, j < 16 → s.2.1 45 j = (fr T len A.1).2.2.1 j ∧ s.2.1 46 j = (fr T len A.1).2.2.2 j) := by
  have hp := isPb_le hV.1.1
  obtain ⟨hL, _, g3, g4, g5, g6⟩ := id hC
  have hN := hL.1
  have := sh_43
  have s45 : (pw_sh 45).1 = 11 ∧ (pw_sh 45).2 = 16 := sh_45
  have s46 : (pw_sh 46).1 = 11 ∧ (pw_sh 46).2 = 16 := sh_46
  -- the start: p and position set, both rows cleared
  generalize hs1 : pw_st σ 43 (fun j => if j = 3 then (A.1 : Int) else σ.2.1 43 j) = s1
  have hC1 : CR s1 A T len E Hs := by rw [← hs1]; exact hC.st43 g4.1
  have t1 : pw_pi 2 43 3 (A.1 : Int) σ = some s1 := by rw [← hs1]; exact xs_pi (by omega) (by omega)
  have n1 := hC1.1.1
  have t2 : pw_pi 2 43 2 (0 : Int) s1 = some (sp s1 0) := pi_sp (by omega) (by omega)
  have hC2 := hC1.sp 0
  have t3 := e_A_fill (a := 45) (v := 0) (σ := sp s1 0) (by have := hC2.1.1; omega) (by omega)
  generalize hs3 : pw_st (sp s1 0) 45 (fun j => if j < (pw_sh 45).2 then 0 else (sp s1 0).2.1 45 j) = s3 at t3
  have hC3 : CR s3 A T len E Hs := by rw [← hs3]; exact hC2.st88 (by omega) (by omega) _
  have t4 := e_A_fill (a := 46) (v := 0) (σ := s3) (by have := hC3.1.1; omega) (by omega)
  generalize hs4 : pw_st s3 46 (fun j => if j < (pw_sh 46).2 then 0 else s3.2.1 46 j) = s4 at t4
  have hC4 : CR s4 A T len E Hs := by rw [← hs4]; exact hC3.st88 (by omega) (by omega) _
  have n2 := hC2.1.1
  have n3 := hC3.1.1
  have n4 := hC4.1.1
  have hH4 : Hi σ s4 := by
    rw [← hs4, ← hs3, ← hs1]
    exact (((Hi.st (by omega)).trans Hi.sp).trans (Hi.st (by omega))).trans (Hi.st (by omega))
  have v45 : ∀ j, j < 16 → s4.2.1 45 j = zr j := fun j hj => by rw [← hs4, st_ne (by omega), ← hs3, st_eq, if_pos (by omega)]; rfl
  have v46 : ∀ j, j < 16 → s4.2.1 46 j = zr j := fun j hj => by rw [← hs4, st_eq, if_pos (by omega)]; rfl
  have e432 : s4.2.1 43 2 = ((0 : Nat) : Int) := by rw [← hs4, st_ne (by omega), ← hs3, st_ne (by omega)]; unfold sp; rw [st_eq]; rfl
  have e433 : s4.2.1 43 3 = (A.1 : Int) := by rw [← hs4, st_ne (by omega), ← hs3, st_ne (by omega)]; unfold sp; rw [st_eq, ← hs1, st_eq]; rfl
  have hT4 : TC s4 T len A.1 0 := ⟨hC4.1, hC4.2.2.2.1.1, e432, e433, by omega, ⟨hV.2.1, hV.2.2.1⟩, hC4.2.2.2.1.2⟩
  have z45 : ∀ j, j < 16 → 0 ≤ s4.2.1 45 j ∧ s4.2.1 45 j < A.1 := fun j hj => by rw [v45 j hj]; show 0 ≤ (0 : Int) ∧ (0 : Int) < A.1; omega
  have z46 : ∀ j, j < 16 → 0 ≤ s4.2.1 46 j ∧ s4.2.1 46 j < A.1 := fun j hj => by rw [v46 j hj]; show 0 ≤ (0 : Int) ∧ (0 : Int) < A.1; omega
  have t5 := e_T_readPolynomial hT4 (by omega) (by omega) (a := 45) (by omega) (by omega) z45
  have cg := pl_cg (T := T) (len := len) (p := A.1) (pos := 0) (by omega) v45
  have hrg := pl_rng (T := T) (len := len) (p := A.1) (by omega) (pos := 0) (row := zr) (by omega) (fun j _ => by show 0 ≤ (0 : Int) ∧ (0 : Int) < A.1; omega)
  rw [cg.1, cg.2.1] at t5
  unfold mf_T_readFraction fr
  rw [ex_gd (by omega) (by omega), t1, Option.bind_some, t2, Option.bind_some, ex_gr (by omega) (by omega), lr_43_4 hC2.1, Option.bind_some, t3, ex_bd, ex_gr (by omega) (by omega), lr_43_5 hC3.1, Option.bind_some, t4, ex_bd, ex_gr (by omega) (by omega), lr_43_4 hC4.1, Option.bind_some, t5, ex_bd, pw_ck_ok (b01 _) (by omega), if01]
  generalize ha : pl T len A.1 0 zr = a at cg hrg t5 ⊢
  generalize hrow : (pl T len A.1 0 (s4.2.1 45)).2.2 = row at cg t5 ⊢
  generalize hs5 : pw_st (sp s4 a.2.1) 45 row = s5 at t5 ⊢
  have hT5 : TC s5 T len A.1 a.2.1 := by rw [← hs5]; exact (hT4.mv hrg.1.2).st (by omega)
  have hC5 : CR s5 A T len E Hs := by rw [← hs5]; exact (hC4.sp _).st88 (by omega) (by omega) _
  have hH5 : Hi σ s5 := by rw [← hs5]; exact (hH4.trans Hi.sp).trans (Hi.st (by omega))
  have w45 : ∀ j, j < 16 → s5.2.1 45 j = a.2.2 j := fun j hj => by rw [← hs5, st_eq]; exact cg.2.2 j hj
  have w46 : s5.2.1 46 = s4.2.1 46 := by rw [← hs5, st_ne (by omega), sp_a (by omega)]
  by_cases c1 : a.1 = true
  · simp only [if_pos c1]
    have hk := sk_rng (T := T) hrg.1.2
    rw [e_T_took hT5 (by omega) (by omega)]
    by_cases c2 : hr T len (sk T len a.2.1) = 47
    · have hl := hr_lt (T := T) (len := len) (pos := sk T len a.2.1) (by omega)
      have hT6 := hT5.mv (q := sk T len a.2.1 + 1) (by omega)
      have n6 := hT6.1.1
      have cg2 := pl_cg (T := T) (len := len) (p := A.1) (pos := sk T len a.2.1 + 1) (r := (sp s5 (sk T len a.2.1 + 1)).2.1 46) (r' := zr) (by omega) (fun j hj => by rw [sp_a (by omega), w46]; exact v46 j hj)
      have hrg2 := pl_rng (T := T) (len := len) (p := A.1) (by omega) (pos := sk T len a.2.1 + 1) (row := zr) (by omega) (fun j _ => by show 0 ≤ (0 : Int) ∧ (0 : Int) < A.1; omega)
      have t7 := e_T_readPolynomial hT6 (by omega) (by omega) (a := 46) (by omega) (by omega) (fun j hj => by rw [sp_a (by omega), w46]; exact z46 j hj)
      rw [cg2.1, cg2.2.1, sp_sp] at t7
      simp only [if_pos c2]
      rw [ex_bd, pw_ck_ok (by omega) (by omega), if_neg (show ¬ (1 : Int) = 0 by omega), ex_gr (by omega) (by omega), lr_43_5 hT6.1, Option.bind_some, t7, ex_bd, pw_ck_ok (b01 _) (by omega), if01]
      generalize pl T len A.1 (sk T len a.2.1 + 1) zr = b at cg2 hrg2 ⊢
      generalize (pl T len A.1 (sk T len a.2.1 + 1) ((sp s5 (sk T len a.2.1 + 1)).2.1 46)).2.2 = row2 at cg2 ⊢
      generalize hs7 : pw_st (sp s5 b.2.1) 46 row2 = s7
      have hT7 : TC s7 T len A.1 b.2.1 := by rw [← hs7]; exact (hT5.mv hrg2.1.2).st (by omega)
      have hC7 : CR s7 A T len E Hs := by rw [← hs7]; exact (hC5.sp _).st88 (by omega) (by omega) _
      have hH7 : Hi σ s7 := by rw [← hs7]; exact (hH5.trans Hi.sp).trans (Hi.st (by omega))
      by_cases c3 : b.1 = true
      · simp only [if_pos c3]
        refine ⟨_, e_T_end hT7, hC7.sp _, hH7.trans Hi.sp, ?_, fun _ j hj => ⟨?_, ?_⟩⟩
        · unfold sp; rw [st_eq]; rfl
        · rw [sp_a (by omega), ← hs7, st_ne (by omega), sp_a (by omega)]; exact w45 j hj
        · rw [sp_a (by omega), ← hs7, st_eq]; exact cg2.2.2 j hj
      · simp only [if_neg c3]
        refine ⟨s7, rfl, hC7, hH7, hT7.2.2.1, fun e => nomatch e⟩
    · have hT6 := hT5.mv (q := sk T len a.2.1) (by omega)
      have n6 := hT6.1.1
      simp only [if_neg c2]
      rw [ex_bd, pw_ck_ok (by omega) (by omega), if_pos rfl, ex_gr (by omega) (by omega), lr_43_5 hT6.1, Option.bind_some, xs_si (by omega) (by omega) (by omega) (by omega), Option.bind_some]
      generalize hs7 : pw_st (sp s5 (sk T len a.2.1)) 46 (fun j => if j = (0 : Int).toNat then 1 else (sp s5 (sk T len a.2.1)).2.1 46 j) = s7
      have hT7 : TC s7 T len A.1 (sk T len a.2.1) := by rw [← hs7]; exact hT6.st (by omega)
      have hC7 : CR s7 A T len E Hs := by rw [← hs7]; exact (hC5.sp _).st88 (by omega) (by omega) _
      have hH7 : Hi σ s7 := by rw [← hs7]; exact (hH5.trans Hi.sp).trans (Hi.st (by omega))
      have te := e_T_end hT7
      rw [sk_sk] at te
      refine ⟨_, te, hC7.sp _, hH7.trans Hi.sp, ?_, fun _ j hj => ⟨?_, ?_⟩⟩
      · unfold sp; rw [st_eq]; rfl
      · rw [sp_a (by omega), ← hs7, st_ne (by omega), sp_a (by omega)]; exact w45 j hj
      · rw [sp_a (by omega), ← hs7, st_eq, sp_a (by omega), w46]
        show (if j = 0 then 1 else s4.2.1 46 j) = if j = 0 then 1 else 0
        rw [v46 j hj]
        rfl
  · simp only [if_neg c1]
    exact ⟨s5, rfl, hC5, hH5, hT5.2.2.1, fun e => nomatch e⟩
