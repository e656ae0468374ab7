section
theorem qs_z {p : Nat} [NeZero p] {σ t : pw_Sto} {a b : PS (Fin p)} {i : Nat} (h : QS σ t a b i) : pLn (pEs a b i).2 17 = 0 ↔ (pEs a b i).2 = cc 0 := by
  obtain ⟨F, ⟨bo, lo, co, do', hE, hB, hL⟩, _⟩ := h
  exact ln_0 hL.1.2
theorem first_eq {P : Nat → Prop} {N M : Nat} (h1 : P N) (h2 : ∀ j, j < N → ¬ P j) (h3 : P M) (h4 : ∀ j, j < M → ¬ P j) : N = M := by
  by_cases c : N < M
  · exact absurd h1 (h4 N c)
  · by_cases c2 : M < N
    · exact absurd h3 (h2 M c2)
    · omega
def cutC (x s : Int) : Prop := (0 ≤ x ∧ x < 4) ∧ 0 ≤ s ∧ s < 16
theorem e_M_isCut {x m : Int} {σ : pw_Sto} (hL : Lay σ) (hx : pw_R x) (hm : pw_R m) : (cutC x m → mf_M_isCut 91 x m σ = some (1, σ)) ∧ (¬ cutC x m → mf_M_isCut 91 x m σ = some (0, σ)) := by
  have hN := hL.1
  have s91 := sh_91
  unfold cutC
  constructor
  · intro h
    unfold mf_M_isCut
    rw [ex_gd (by omega) (by omega), e_M_isSlot hx, ex_bd, if_pos h.1, pw_ck_ok (by omega) (by omega), if_neg (by omega), e_M_in hm (by omega) (by omega), ex_bd, if_pos (by omega), pw_ck_ok (by omega) (by omega), if_neg (by omega)]
  · intro h
    unfold mf_M_isCut
    rw [ex_gd (by omega) (by omega), e_M_isSlot hx, ex_bd]
    by_cases c1 : 0 ≤ x ∧ x < 4
    · rw [if_pos c1, pw_ck_ok (by omega) (by omega), if_neg (by omega), e_M_in hm (by omega) (by omega), ex_bd, if_neg (by omega), pw_ck_ok (by omega) (by omega), if_pos rfl]
    · rw [if_neg c1, pw_ck_ok (by omega) (by omega), if_pos rfl]
theorem op_quotientCount {x s : Int} (hx : pw_R x) (hs : pw_R s) : OpOk (mf_W_quotientCount 0 x s) (mf_M_quotientCount 91 x s) := by
  apply op_bt
  intro A T len E Hs hV
  haveI := nz_of hV.1.1
  have hp := hV.1.1
  have hp2 := isPb_le hp
  have s0 := sh_0
  have s1' := sh_1
  have s47 := sh_47
  have s91 := sh_91
  by_cases h : cutC x s
  · right
    intro σ σ' hC hM
    obtain ⟨hx4, h2⟩ := id h
    obtain ⟨s, rfl⟩ : ∃ k : Nat, s = k := ⟨s.toNat, by omega⟩
    have hN := hC.1.1
    have hN' := hM.1.1
    obtain ⟨t, t1, S0⟩ := qs_start hV.1 hx4 (s := s) (by omega) hC
    obtain ⟨t', N', e', X', _, z', y', _⟩ := e_M_findQ hV.1 hx4 (s := s) (by omega) (w := -1) (by omega) hM
    generalize (pXp (s + 1) : PS (Fin A.1)) = a at *
    generalize pTr (srs A.1 (A.2.1 x.toNat)) s = b at *
    have key : ∀ (v n i : Nat) (t : pw_Sto), pLn (pEs a b i).2 17 = v → v < n → QS σ t a b i → ∃ u N, ml_W_quotientCount_47 n 0 (i : Nat) t = some (((N : Nat) : Int), u) ∧ QS σ u a b N ∧ (pEs a b N).2 = cc 0 := by
      intro v
      induction v using Nat.strongRecOn with
      | ind v ih =>
        intro n i t hv hn hQ
        obtain ⟨n, rfl⟩ : ∃ k, n = k + 1 := ⟨n - 1, by omega⟩
        obtain ⟨lo, r1, ⟨l1, l2⟩, l3, Lt⟩ := qs_deg hQ
        have nt := Lt.1
        have hi := hQ.2.2.2.2.1
        rw [us_W_quotientCount_47]
        unfold mb_W_quotientCount_47
        rw [pw_ck_ok (by omega) (by omega), if_neg (by omega)]
        simp (disch := omega) only [ex_gr, ex_gi, lr_0_3 Lt, r1, Option.bind_some, l3]
        rw [pw_ck_ok (by omega) (by omega)]
        by_cases c : v = 0
        · rw [if_pos (by omega)]
          exact ⟨t, i, rfl, hQ, (qs_z hQ).mp (hv.trans c)⟩
        · rw [if_neg (by omega)]
          obtain ⟨u, e, hQ'⟩ := qs_step hp hQ (by omega)
          rw [e, ex_bd]
          have h6 : pLn (pEs a b (i + 1)).2 17 < pLn (pEs a b i).2 17 := hQ'.2.2.2.1
          exact ih (pLn (pEs a b (i + 1)).2 17) (by omega) n (i + 1) u rfl (by omega) hQ'
    have h16 := S0.2.2.2.2.1
    obtain ⟨u, N, e, hQ, z⟩ := key (pLn (pEs a b 0).2 17) 1000 0 t rfl (by omega) S0
    have eN : N = N' := first_eq (P := fun j => (pEs a b j).2 = cc 0) z (fun j hj => hQ.2.2.2.2.2.1 j hj) z' y'
    obtain ⟨C1, H1⟩ := qs_cr hQ hC
    refine ⟨((N : Nat) : Int), u, t', ?_, C1, H1, ?_, X'⟩
    · have p0 : σ.2.1 1 0 = A.1 := hC.2.2.1.1
      unfold mf_W_quotientCount
      rw [ex_gd (by omega) (by omega), e_W_isSlot hx, ex_bd, if_pos hx4, pw_ck_ok (by omega) (by omega), if_neg (by omega), e_W_isTerm hs, ex_bd, if_pos h2, pw_ck_ok (by omega) (by omega), if_neg (by omega)]
      simp (disch := omega) only [ex_gr, ex_gi, lr_0_3 hC.1, lr_0_0 hC.1, lr_1_1 hC.1, e_ser hC.1, Option.bind_some, p0, t1, ex_bd]
      exact e
    · unfold mf_M_quotientCount
      rw [ex_gd (by omega) (by omega), (e_M_isCut hM.1 hx hs).1 h, ex_bd, pw_ck_ok (by omega) (by omega), if_neg (by omega), e', ex_bd, eN]
  · left
    refine ⟨fun σ hC => ?_, fun σ hM => ?_⟩
    · have hN := hC.1.1
      unfold mf_W_quotientCount mj_W_quotientCount_14
      rw [ex_gd (by omega) (by omega), e_W_isSlot hx, ex_bd]
      by_cases c1 : 0 ≤ x ∧ x < 4
      · rw [if_pos c1, pw_ck_ok (by omega) (by omega), if_neg (by omega), e_W_isTerm hs, ex_bd, if_neg (by unfold cutC at h; omega), pw_ck_ok (by omega) (by omega), if_pos rfl]
      · rw [if_neg c1, pw_ck_ok (by omega) (by omega), if_pos rfl]
    · have hN := hM.1.1
      unfold mf_M_quotientCount
      rw [ex_gd (by omega) (by omega), (e_M_isCut hM.1 hx hs).2 h, ex_bd, pw_ck_ok (by omega) (by omega), if_pos rfl]
theorem op_quotient {x s i k : Int} (hx : pw_R x) (hs : pw_R s) (hi : pw_R i) (hk : pw_R k) : OpOk (mf_W_quotient 0 x s i k) (mf_M_quotient 91 x s i k) := by
  apply op_bt
  intro A T len E Hs hV
  haveI := nz_of hV.1.1
  have hp := hV.1.1
  have hp2 := isPb_le hp
  have s0 := sh_0
  have s1' := sh_1
  have s47 := sh_47
  have s56 := sh_56
  have s57 := sh_57
  have s91 := sh_91
  have s103 := sh_103
  by_cases h : cutC x s
  · by_cases h3 : 0 ≤ i ∧ 0 ≤ k ∧ k < 17
    · right
      intro σ σ' hC hM
      obtain ⟨hx4, h2⟩ := id h
      obtain ⟨s, rfl⟩ : ∃ k : Nat, s = k := ⟨s.toNat, by omega⟩
      have hN := hC.1.1
      have hN' := hM.1.1
      obtain ⟨t', N', e', X', n16, z', y', w'⟩ := e_M_findQ hV.1 hx4 (s := s) (by omega) (w := i) hi hM
      have M' := hM.ms X'
      have nm' := M'.1.1
      have eM : mf_M_quotient 91 x s i k σ' = pw_ck i ((N' : Nat) : Int) (if ((N' : Nat) : Int) ≤ i then some ((-1 : Int), t') else (pw_gr 10 91 14 t').bind (fun v9 => (pw_ai v9 k t').bind (fun v10 => some (v10, t')))) := by
        unfold mf_M_quotient
        rw [ex_gd (by omega) (by omega), (e_M_isCut hM.1 hx hs).1 h, ex_bd, pw_ck_ok (by omega) (by omega), if_neg (by omega), pw_ck_ok hi (by omega), if_neg (by omega), e_M_in hk (by omega) (by omega), ex_bd, if_pos (by omega), pw_ck_ok (by omega) (by omega), if_neg (by omega), e', ex_bd]
      have eW0 : mf_W_quotient 0 x s i k σ = pw_ck i 17 (if i < 17 then pw_bd (mf_E_startWithSeries 47 (3 + x.toNat) s A.1 σ) (fun _ s13 => ml_W_quotient_72 1000 0 i k (0 : Int) s13) else some ((-1 : Int), σ)) := by
        have p0 : σ.2.1 1 0 = A.1 := hC.2.2.1.1
        unfold mf_W_quotient
        rw [ex_gd (by omega) (by omega), e_W_isSlot hx, ex_bd, if_pos hx4, pw_ck_ok (by omega) (by omega), if_neg (by omega), e_W_isTerm hs, ex_bd, if_pos h2, pw_ck_ok (by omega) (by omega), if_neg (by omega), pw_ck_ok hi (by omega), if_neg (by omega), pw_ck_ok hk (by omega), if_neg (by omega), pw_ck_ok hk (by omega), if_pos (by omega)]
        simp (disch := omega) only [ex_gr, ex_gi, lr_0_3 hC.1, lr_0_0 hC.1, lr_1_1 hC.1, e_ser hC.1, Option.bind_some, p0]
      rw [eW0, eM, pw_ck_ok hi (by omega), pw_ck_ok hi (by omega)]
      by_cases ci : i < 17
      · obtain ⟨i, rfl⟩ : ∃ k : Nat, i = k := ⟨i.toNat, by omega⟩
        obtain ⟨t, t1, S0⟩ := qs_start hV.1 hx4 (s := s) (by omega) hC
        rw [if_pos ci, t1, ex_bd]
        generalize (pXp (s + 1) : PS (Fin A.1)) = a at *
        generalize pTr (srs A.1 (A.2.1 x.toNat)) s = b at *
        have key : ∀ (d n st : Nat) (t : pw_Sto), st + d = i + 1 → d < n → QS σ t a b st → ∃ u r m, ml_W_quotient_72 n 0 (i : Nat) k (st : Nat) t = some (r, u) ∧ QS σ u a b m ∧ (((∃ N, N ≤ i ∧ (pEs a b N).2 = cc 0 ∧ ∀ j, j < N → (pEs a b j).2 ≠ cc 0) ∧ r = -1) ∨ ((∀ j, j ≤ i → (pEs a b j).2 ≠ cc 0) ∧ r = vv ((pDv (pEs a b i).1 (pEs a b i).2).1 k.toNat))) := by
          intro d
          induction d with
          | zero =>
            intro n st t h4 h5 hQ
            obtain ⟨n, rfl⟩ : ∃ k, n = k + 1 := ⟨n - 1, by omega⟩
            obtain ⟨lo, r1, ⟨l1, l2⟩, l3, Lt⟩ := qs_deg hQ
            have nt := Lt.1
            have hq := hQ.2.2.2.2.2.2 i (by omega)
            refine ⟨t, vv ((pDv (pEs a b i).1 (pEs a b i).2).1 k.toNat), st, ?_, hQ, Or.inr ⟨fun j hj => hQ.2.2.2.2.2.1 j (by omega), rfl⟩⟩
            rw [us_W_quotient_72]
            unfold mb_W_quotient_72
            rw [pw_ck_ok (by omega) (by omega), if_pos (by omega)]
            simp (disch := omega) only [ex_gr, lr_0_3 Lt, lr_47_4 Lt, lr_56_0 Lt, Option.bind_some]
            rw [ex_ai (by omega) (by omega) (by omega) (by omega), Option.bind_some, hq.1.1 k.toNat (by omega)]
          | succ d ih =>
            intro n st t h4 h5 hQ
            obtain ⟨n, rfl⟩ : ∃ k, n = k + 1 := ⟨n - 1, by omega⟩
            obtain ⟨lo, r1, ⟨l1, l2⟩, l3, Lt⟩ := qs_deg hQ
            have nt := Lt.1
            have hst := hQ.2.2.2.2.1
            rw [us_W_quotient_72]
            unfold mb_W_quotient_72
            rw [pw_ck_ok (by omega) (by omega), if_neg (by omega)]
            simp (disch := omega) only [ex_gr, ex_gi, lr_0_3 Lt, r1, Option.bind_some, l3]
            rw [pw_ck_ok (by omega) (by omega)]
            by_cases c : pLn (pEs a b st).2 17 = 0
            · rw [if_neg (by omega)]
              exact ⟨t, -1, st, rfl, hQ, Or.inl ⟨⟨st, by omega, (qs_z hQ).mp c, hQ.2.2.2.2.2.1⟩, rfl⟩⟩
            · rw [if_pos (by omega)]
              obtain ⟨u, e, hQ'⟩ := qs_step hp hQ c
              rw [e, ex_bd]
              exact ih n (st + 1) u (by omega) (by omega) hQ'
        obtain ⟨u, r, m, e, hQ, hr⟩ := key (i + 1) 1000 0 t (by omega) (by omega) S0
        obtain ⟨C1, H1⟩ := qs_cr hQ hC
        rcases hr with ⟨⟨N, n1, n2, n3⟩, hr⟩ | ⟨hj, hr⟩
        · have eN : N = N' := first_eq (P := fun j => (pEs a b j).2 = cc 0) n2 n3 z' y'
          refine ⟨r, u, t', e, C1, H1, ?_, X'⟩
          rw [if_pos (by omega), hr]
        · have lt : i < N' := Classical.byContradiction (fun q => hj N' (by omega) z')
          have Pq := w' i lt rfl
          refine ⟨r, u, t', e, C1, H1, ?_, X'⟩
          rw [if_neg (by omega), ex_gr (by omega) (by omega), lr_91_14 M'.1, Option.bind_some, ex_ai (by omega) (by omega) (by omega) (by omega), Option.bind_some, Pq.1 k.toNat (by omega), hr]
      · rw [if_neg ci, if_pos (by omega)]
        exact ⟨-1, σ, t', rfl, hC, Hi.refl σ, rfl, X'⟩
    · left
      have hx4 := h.1
      have h2 := h.2
      refine ⟨fun σ hC => ?_, fun σ hM => ?_⟩
      · have hN := hC.1.1
        unfold mf_W_quotient mj_W_quotient_30
        rw [ex_gd (by omega) (by omega), e_W_isSlot hx, ex_bd, if_pos hx4, pw_ck_ok (by omega) (by omega), if_neg (by omega), e_W_isTerm hs, ex_bd, if_pos h2, pw_ck_ok (by omega) (by omega), if_neg (by omega), pw_ck_ok hi (by omega)]
        by_cases c1 : i < 0
        · rw [if_pos c1]
        · rw [if_neg c1, pw_ck_ok hk (by omega)]
          by_cases c2 : k < 0
          · rw [if_pos c2]
          · rw [if_neg c2, pw_ck_ok hk (by omega), if_neg (by omega)]
      · have hN := hM.1.1
        unfold mf_M_quotient mj_M_quotient_24
        rw [ex_gd (by omega) (by omega), (e_M_isCut hM.1 hx hs).1 h, ex_bd, pw_ck_ok (by omega) (by omega), if_neg (by omega), pw_ck_ok hi (by omega)]
        by_cases c1 : i < 0
        · rw [if_pos c1]
        · rw [if_neg c1, e_M_in hk (by omega) (by omega), ex_bd, if_neg (by omega), pw_ck_ok (by omega) (by omega), if_pos rfl]
  · left
    refine ⟨fun σ hC => ?_, fun σ hM => ?_⟩
    · have hN := hC.1.1
      unfold mf_W_quotient mj_W_quotient_30
      rw [ex_gd (by omega) (by omega), e_W_isSlot hx, ex_bd]
      by_cases c1 : 0 ≤ x ∧ x < 4
      · rw [if_pos c1, pw_ck_ok (by omega) (by omega), if_neg (by omega), e_W_isTerm hs, ex_bd, if_neg (by unfold cutC at h; omega), pw_ck_ok (by omega) (by omega), if_pos rfl]
      · rw [if_neg c1, pw_ck_ok (by omega) (by omega), if_pos rfl]
    · have hN := hM.1.1
      unfold mf_M_quotient mj_M_quotient_24
      rw [ex_gd (by omega) (by omega), (e_M_isCut hM.1 hx hs).2 h, ex_bd, pw_ck_ok (by omega) (by omega), if_pos rfl]
end
