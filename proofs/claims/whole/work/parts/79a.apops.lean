section
/-! ## the calls that ask for an approximant -/
theorem rg_qw {R : Type} [Lean.Grind.CommRing R] {P Q P0 Q0 U V : R} (h : U * P + V * Q = 1) (h2 : P * Q0 = P0 * Q) : Q0 = Q * (U * P0 + V * Q0) ∧ P0 = P * (U * P0 + V * Q0) := by
  constructor
  · grind
  · grind
theorem dv_bd {p : Nat} [NeZero p] (hp : isPb p = true) {Q0 Q W : PS (Fin p)} (e : Q0 = cv Q W) (fQ : pFn Q) (fW : pFn W) (hW : W ≠ cc 0) {b : Nat} (hb : pBd Q0 b) : pBd Q b := by
  by_cases c : Q = cc 0
  · rw [c]; exact fun k _ => cc_0 k
  · obtain ⟨n, hn⟩ := fQ
    obtain ⟨n', hn'⟩ := fW
    obtain ⟨s, s1, s2, _⟩ := p_top hn (p_nz c)
    obtain ⟨t, t1, t2, _⟩ := p_top hn' (p_nz hW)
    have h1 := cv_top s2 t2
    rw [← e] at h1
    have h2 : s + t < b := Classical.byContradiction (fun q => by
      rw [hb (s + t) (by omega)] at h1
      rcases fp_dom hp h1.symm with z | z
      · exact s1 z
      · exact t1 z)
    exact s2.mono (by omega)
theorem lt_bd {p : Nat} [NeZero p] (hp : isPb p = true) {P0 Q0 P Q : PS (Fin p)} (h : pLT P0 Q0 P Q) {a b : Nat} (ha : pBd P0 a) (hb : pBd Q0 b) (hz : pNz Q0) : pBd P a ∧ pBd Q b := by
  obtain ⟨fP, fQ, ⟨U, V, fU, fV, eB⟩, _, e⟩ := h
  have w := @rg_qw (PS (Fin p)) (psRing (Fin p)) P Q P0 Q0 U V eB e
  have w1 : Q0 = cv Q (pAd (cv U P0) (cv V Q0)) := w.1
  have w2 : P0 = cv P (pAd (cv U P0) (cv V Q0)) := w.2
  have fW : pFn (pAd (cv U P0) (cv V Q0)) := fn_ad (fn_cv fU ⟨a, ha⟩) (fn_cv fV ⟨b, hb⟩)
  have hW : pAd (cv U P0) (cv V Q0) ≠ cc 0 := fun q => nz_p hz (by
    rw [w1, q]
    exact @rg_x0' (PS (Fin p)) (psRing (Fin p)) Q)
  exact ⟨dv_bd hp w2 fP fW hW ha, dv_bd hp w1 fQ fW hW hb⟩
theorem app_bd {p : Nat} [NeZero p] (hp : isPb p = true) {f : PS (Fin p)} {m n : Nat} {W : PS (Fin p) × PS (Fin p)} (h : pApp f m n W) : pBd W.1 (m + 1) ∧ pBd W.2 (n + 1) := by
  obtain ⟨P0, Q0, a, b⟩ := h
  exact lt_bd hp b a.1 a.2.1 a.2.2.1
theorem e_M_ap2 {A : ASt} [NeZero A.1] (hV : VA A) {x : Int} (hx : 0 ≤ x ∧ x < 4) {m n : Nat} (hmn : m + n ≤ 15) {σ : pw_Sto} {T : Nat → Int} {len : Nat} {E : Nat → Int} {Hs : List ASt} (hM : MR σ A T len E Hs) : ∃ s, mf_M_approximate 91 x m n σ = some ((), s) ∧ Ms σ s ∧ (Pm s 102 (apW (srs A.1 (A.2.1 x.toNat)) m n).1 ∧ Pm s 103 (apW (srs A.1 (A.2.1 x.toNat)) m n).2) ∧ (apW (srs A.1 (A.2.1 x.toNat)) m n).2 0 ≠ 0 ∧ pBd (apW (srs A.1 (A.2.1 x.toNat)) m n).1 17 ∧ pBd (apW (srs A.1 (A.2.1 x.toNat)) m n).2 17 := by
  obtain ⟨s, P, Q, t, h1, h2, h3, h4⟩ := e_M_approximate hV hx hmn hM
  have e := ap_is hV.1 h4
  have hb := app_bd hV.1 h4
  rw [← e]
  exact ⟨s, t, h1, ⟨h2, h3⟩, app_q0 hV.1 h4, hb.1.mono (by omega), hb.2.mono (by omega)⟩
theorem op_ro {fW fM : pw_Sto → Option (Int × pw_Sto)} (h : ∀ A T len E Hs, VR A T len Hs → ((∀ σ, CR σ A T len E Hs → fW σ = pw_bd (mf_W_fail 0 (-2 : Int) σ) (fun v s => some (v, s))) ∧ (∀ σ, MR σ A T len E Hs → fM σ = pw_bd (mf_M_fail 91 (-2 : Int) σ) (fun v s => some (v, s)))) ∨ ∃ r, (∀ σ, CR σ A T len E Hs → ∃ s, fW σ = some (r, s) ∧ CR s A T len E Hs ∧ Hi σ s) ∧ (∀ σ, MR σ A T len E Hs → ∃ s, fM σ = some (r, s) ∧ Ms σ s)) : OpOk fW fM := by
  apply op_of
  intro A T len E Hs hV
  rcases h A T len E Hs hV with ⟨h1, h2⟩ | ⟨r, h1, h2⟩
  · exact ⟨-2 - ((0 : Nat) : Int), A, T, len, bump E 0, Hs, w_cong (w_fail A T len E Hs 0 (by omega)) h1, m_cong (m_fail A T len E Hs 0 (by omega)) h2, hV⟩
  · refine ⟨r, A, T, len, E, Hs, h1, fun σ hM => ?_, hV⟩
    obtain ⟨s, e, k⟩ := h2 σ hM
    exact ⟨s, e, hM.ms k, Lo.ms k⟩
def apC (x m n : Int) : Prop := (0 ≤ x ∧ x < 4) ∧ (0 ≤ m ∧ m < 16) ∧ 0 ≤ n ∧ n < 16 - m
theorem e_W_isApp {x m n : Int} {σ : pw_Sto} (hx : pw_R x) (hm : pw_R m) (hn : pw_R n) : (apC x m n → mf_W_isApproximant x m n σ = some (1, σ)) ∧ (¬ apC x m n → mf_W_isApproximant x m n σ = some (0, σ)) := by
  unfold apC
  constructor
  · intro h
    unfold mf_W_isApproximant
    rw [e_W_isSlot hx, ex_bd, if_pos h.1, pw_ck_ok (by omega) (by omega), if_neg (by omega), e_W_isTerm hm, ex_bd, if_pos h.2.1, pw_ck_ok (by omega) (by omega), if_neg (by omega), pw_ck_ok hn (by omega), if_neg (by omega), pw_ck_ok hn (by omega), if_neg (by omega)]
  · intro h
    unfold mf_W_isApproximant
    rw [e_W_isSlot hx, ex_bd]
    by_cases c1 : 0 ≤ x ∧ x < 4
    · rw [if_pos c1, pw_ck_ok (by omega) (by omega), if_neg (by omega), e_W_isTerm hm, ex_bd]
      by_cases c2 : 0 ≤ m ∧ m < 16
      · rw [if_pos c2, pw_ck_ok (by omega) (by omega), if_neg (by omega), pw_ck_ok hn (by omega)]
        by_cases c3 : n < 0
        · rw [if_pos c3]
        · rw [if_neg c3, pw_ck_ok hn (by omega), if_pos (by omega)]
      · rw [if_neg c2, pw_ck_ok (by omega) (by omega), if_pos rfl]
    · rw [if_neg c1, pw_ck_ok (by omega) (by omega), if_pos rfl]
theorem e_M_isPair {x m n : Int} {σ : pw_Sto} (hL : Lay σ) (hx : pw_R x) (hm : pw_R m) (hn : pw_R n) : (apC x m n → mf_M_isPair 91 x m n σ = some (1, σ)) ∧ (¬ apC x m n → mf_M_isPair 91 x m n σ = some (0, σ)) := by
  have hN := hL.1
  have s91 := sh_91
  unfold apC
  constructor
  · intro h
    unfold mf_M_isPair
    rw [ex_gd (by omega) (by omega), e_M_isSlot hx, ex_bd, if_pos h.1, pw_ck_ok (by omega) (by omega), if_neg (by omega), e_M_in hm (by omega) (by omega), ex_bd, if_pos (by omega), pw_ck_ok (by omega) (by omega), if_neg (by omega), e_M_in hn (by omega) (by omega), ex_bd, if_pos (by omega), pw_ck_ok (by omega) (by omega), if_neg (by omega)]
  · intro h
    unfold mf_M_isPair
    rw [ex_gd (by omega) (by omega), e_M_isSlot hx, ex_bd]
    by_cases c1 : 0 ≤ x ∧ x < 4
    · rw [if_pos c1, pw_ck_ok (by omega) (by omega), if_neg (by omega), e_M_in hm (by omega) (by omega), ex_bd]
      by_cases c2 : 0 ≤ m ∧ m < 16
      · rw [if_pos (by omega), pw_ck_ok (by omega) (by omega), if_neg (by omega), e_M_in hn (by omega) (by omega), ex_bd, if_neg (by omega), pw_ck_ok (by omega) (by omega), if_pos rfl]
      · rw [if_neg (by omega), pw_ck_ok (by omega) (by omega), if_pos rfl]
    · rw [if_neg c1, pw_ck_ok (by omega) (by omega), if_pos rfl]
theorem nz_of {p : Nat} (h : isPb p = true) : NeZero p := ⟨by have := isPb_le h; omega⟩
theorem op_numeratorDegree {x m n : Int} (hx : pw_R x) (hm : pw_R m) (hn : pw_R n) : OpOk (mf_W_numeratorDegree 0 x m n) (mf_M_numeratorDegree 91 x m n) := by
  apply op_ro
  intro A T len E Hs hV
  haveI := nz_of hV.1.1
  have hp2 := isPb_le hV.1.1
  have s0 := sh_0
  have s91 := sh_91
  have s58 := sh_58
  have s59 := sh_59
  by_cases h : apC x m n
  · right
    obtain ⟨m, rfl⟩ : ∃ k : Nat, m = k := ⟨m.toNat, by unfold apC at h; omega⟩
    obtain ⟨n, rfl⟩ : ∃ k : Nat, n = k := ⟨n.toNat, by unfold apC at h; omega⟩
    have hmn : m + n ≤ 15 := by unfold apC at h; omega
    refine ⟨(pLn (apW (srs A.1 (A.2.1 x.toNat)) m n).1 17 : Int) - 1, fun σ hC => ?_, fun σ hM => ?_⟩
    · obtain ⟨s, t, C1, H1, P1, Q1⟩ := e_W_ap hC hV.1 h.1 hmn
      have hN := hC.1.1
      have n1 := C1.1.1
      refine ⟨s, ?_, C1, H1⟩
      unfold mf_W_numeratorDegree
      rw [ex_gd (by omega) (by omega), (e_W_isApp hx hm hn).1 h, ex_bd, pw_ck_ok (by omega) (by omega), if_neg (by omega), t, ex_bd]
      simp (disch := omega) only [ex_gr, ex_gi, lr_0_4 C1.1, lr_58_0 C1.1, Option.bind_some, P1.2]
    · obtain ⟨s, t, X1, ⟨P1, Q1⟩, q0, bP, bQ⟩ := e_M_ap2 hV.1 h.1 hmn hM
      have hN := hM.1.1
      have L1 := hM.1.ms X1
      have n1 := L1.1
      refine ⟨s, ?_, X1⟩
      unfold mf_M_numeratorDegree mf_M_degreeOrNone
      rw [ex_gd (by omega) (by omega), (e_M_isPair hM.1 hx hm hn).1 h, ex_bd, pw_ck_ok (by omega) (by omega), if_neg (by omega), t, ex_bd, ex_gr (by omega) (by omega), lr_91_13 L1, Option.bind_some, ex_gd (by omega) (by omega), e_M_degree (p := A.1) (by omega) L1 (by omega) (by omega) P1, ex_bd, ln_18 bP]
      have l17 := ln_le (apW (srs A.1 (A.2.1 x.toNat)) m n).1 17
      generalize pLn (apW (srs A.1 (A.2.1 x.toNat)) m n).1 17 = w at *
      rw [pw_ck_ok (by omega) (by omega)]
      by_cases c : w = 0
      · rw [if_neg (by omega), ex_bd, c]
        rfl
      · rw [if_pos (by omega), ex_bd]
  · left
    refine ⟨fun σ hC => ?_, fun σ hM => ?_⟩
    · have hN := hC.1.1
      unfold mf_W_numeratorDegree
      rw [ex_gd (by omega) (by omega), (e_W_isApp hx hm hn).2 h, ex_bd, pw_ck_ok (by omega) (by omega), if_pos rfl]
    · have hN := hM.1.1
      unfold mf_M_numeratorDegree
      rw [ex_gd (by omega) (by omega), (e_M_isPair hM.1 hx hm hn).2 h, ex_bd, pw_ck_ok (by omega) (by omega), if_pos rfl]
theorem op_denominatorDegree {x m n : Int} (hx : pw_R x) (hm : pw_R m) (hn : pw_R n) : OpOk (mf_W_denominatorDegree 0 x m n) (mf_M_denominatorDegree 91 x m n) := by
  apply op_ro
  intro A T len E Hs hV
  haveI := nz_of hV.1.1
  have hp2 := isPb_le hV.1.1
  have s0 := sh_0
  have s91 := sh_91
  have s58 := sh_58
  have s61 := sh_61
  by_cases h : apC x m n
  · right
    obtain ⟨m, rfl⟩ : ∃ k : Nat, m = k := ⟨m.toNat, by unfold apC at h; omega⟩
    obtain ⟨n, rfl⟩ : ∃ k : Nat, n = k := ⟨n.toNat, by unfold apC at h; omega⟩
    have hmn : m + n ≤ 15 := by unfold apC at h; omega
    refine ⟨(pLn (apW (srs A.1 (A.2.1 x.toNat)) m n).2 17 : Int) - 1, fun σ hC => ?_, fun σ hM => ?_⟩
    · obtain ⟨s, t, C1, H1, P1, Q1⟩ := e_W_ap hC hV.1 h.1 hmn
      have hN := hC.1.1
      have n1 := C1.1.1
      refine ⟨s, ?_, C1, H1⟩
      unfold mf_W_denominatorDegree
      rw [ex_gd (by omega) (by omega), (e_W_isApp hx hm hn).1 h, ex_bd, pw_ck_ok (by omega) (by omega), if_neg (by omega), t, ex_bd]
      simp (disch := omega) only [ex_gr, ex_gi, lr_0_4 C1.1, lr_58_1 C1.1, Option.bind_some, Q1.2]
    · obtain ⟨s, t, X1, ⟨P1, Q1⟩, q0, bP, bQ⟩ := e_M_ap2 hV.1 h.1 hmn hM
      have hN := hM.1.1
      have L1 := hM.1.ms X1
      have n1 := L1.1
      refine ⟨s, ?_, X1⟩
      unfold mf_M_denominatorDegree
      rw [ex_gd (by omega) (by omega), (e_M_isPair hM.1 hx hm hn).1 h, ex_bd, pw_ck_ok (by omega) (by omega), if_neg (by omega), t, ex_bd, ex_gr (by omega) (by omega), lr_91_14 L1, Option.bind_some, e_M_degree (p := A.1) (by omega) L1 (by omega) (by omega) Q1, ex_bd, ln_18 bQ]
  · left
    refine ⟨fun σ hC => ?_, fun σ hM => ?_⟩
    · have hN := hC.1.1
      unfold mf_W_denominatorDegree
      rw [ex_gd (by omega) (by omega), (e_W_isApp hx hm hn).2 h, ex_bd, pw_ck_ok (by omega) (by omega), if_pos rfl]
    · have hN := hM.1.1
      unfold mf_M_denominatorDegree
      rw [ex_gd (by omega) (by omega), (e_M_isPair hM.1 hx hm hn).2 h, ex_bd, pw_ck_ok (by omega) (by omega), if_pos rfl]
theorem op_numerator {x m n i : Int} (hx : pw_R x) (hm : pw_R m) (hn : pw_R n) (hi : pw_R i) : OpOk (mf_W_numerator 0 x m n i) (mf_M_numerator 91 x m n i) := by
  apply op_ro
  intro A T len E Hs hV
  haveI := nz_of hV.1.1
  have hp2 := isPb_le hV.1.1
  have s0 := sh_0
  have s91 := sh_91
  have s58 := sh_58
  have s59 := sh_59
  have s60 := sh_60
  have s102 := sh_102
  by_cases h : apC x m n
  · by_cases h2 : 0 ≤ i ∧ i < 16
    · right
      obtain ⟨m, rfl⟩ : ∃ k : Nat, m = k := ⟨m.toNat, by unfold apC at h; omega⟩
      obtain ⟨n, rfl⟩ : ∃ k : Nat, n = k := ⟨n.toNat, by unfold apC at h; omega⟩
      have hmn : m + n ≤ 15 := by unfold apC at h; omega
      refine ⟨vv ((apW (srs A.1 (A.2.1 x.toNat)) m n).1 i.toNat), fun σ hC => ?_, fun σ hM => ?_⟩
      · obtain ⟨s, t, C1, H1, P1, Q1⟩ := e_W_ap hC hV.1 h.1 hmn
        have hN := hC.1.1
        have n1 := C1.1.1
        refine ⟨s, ?_, C1, H1⟩
        unfold mf_W_numerator
        rw [ex_gd (by omega) (by omega), (e_W_isApp hx hm hn).1 h, ex_bd, pw_ck_ok (by omega) (by omega), if_neg (by omega), e_W_isTerm hi, ex_bd, if_pos h2, pw_ck_ok (by omega) (by omega), if_neg (by omega), t, ex_bd]
        simp (disch := omega) only [ex_gr, ex_ai, lr_0_4 C1.1, lr_58_0 C1.1, lr_59_0 C1.1, Option.bind_some]
        rw [P1.1.1 i.toNat (by omega)]
      · obtain ⟨s, t, X1, ⟨P1, Q1⟩, q0, bP, bQ⟩ := e_M_ap2 hV.1 h.1 hmn hM
        have hN := hM.1.1
        have L1 := hM.1.ms X1
        have n1 := L1.1
        refine ⟨s, ?_, X1⟩
        unfold mf_M_numerator
        rw [ex_gd (by omega) (by omega), (e_M_isPair hM.1 hx hm hn).1 h, ex_bd, pw_ck_ok (by omega) (by omega), if_neg (by omega), e_M_in hi (by omega) (by omega), ex_bd, if_pos (by omega), pw_ck_ok (by omega) (by omega), if_neg (by omega), t, ex_bd, ex_gr (by omega) (by omega), lr_91_13 L1, Option.bind_some, ex_ai (by omega) (by omega) (by omega) (by omega), Option.bind_some, P1.1 i.toNat (by omega)]
    · left
      refine ⟨fun σ hC => ?_, fun σ hM => ?_⟩
      · have hN := hC.1.1
        unfold mf_W_numerator mj_W_numerator_17
        rw [ex_gd (by omega) (by omega), (e_W_isApp hx hm hn).1 h, ex_bd, pw_ck_ok (by omega) (by omega), if_neg (by omega), e_W_isTerm hi, ex_bd, if_neg h2, pw_ck_ok (by omega) (by omega), if_pos rfl]
      · have hN := hM.1.1
        unfold mf_M_numerator mj_M_numerator_21
        rw [ex_gd (by omega) (by omega), (e_M_isPair hM.1 hx hm hn).1 h, ex_bd, pw_ck_ok (by omega) (by omega), if_neg (by omega), e_M_in hi (by omega) (by omega), ex_bd, if_neg (by omega), pw_ck_ok (by omega) (by omega), if_pos rfl]
  · left
    refine ⟨fun σ hC => ?_, fun σ hM => ?_⟩
    · have hN := hC.1.1
      unfold mf_W_numerator mj_W_numerator_17
      rw [ex_gd (by omega) (by omega), (e_W_isApp hx hm hn).2 h, ex_bd, pw_ck_ok (by omega) (by omega), if_pos rfl]
    · have hN := hM.1.1
      unfold mf_M_numerator mj_M_numerator_21
      rw [ex_gd (by omega) (by omega), (e_M_isPair hM.1 hx hm hn).2 h, ex_bd, pw_ck_ok (by omega) (by omega), if_pos rfl]
theorem op_denominator {x m n i : Int} (hx : pw_R x) (hm : pw_R m) (hn : pw_R n) (hi : pw_R i) : OpOk (mf_W_denominator 0 x m n i) (mf_M_denominator 91 x m n i) := by
  apply op_ro
  intro A T len E Hs hV
  haveI := nz_of hV.1.1
  have hp2 := isPb_le hV.1.1
  have s0 := sh_0
  have s91 := sh_91
  have s58 := sh_58
  have s59 := sh_61
  have s60 := sh_62
  have s102 := sh_103
  by_cases h : apC x m n
  · by_cases h2 : 0 ≤ i ∧ i < 16
    · right
      obtain ⟨m, rfl⟩ : ∃ k : Nat, m = k := ⟨m.toNat, by unfold apC at h; omega⟩
      obtain ⟨n, rfl⟩ : ∃ k : Nat, n = k := ⟨n.toNat, by unfold apC at h; omega⟩
      have hmn : m + n ≤ 15 := by unfold apC at h; omega
      refine ⟨vv ((apW (srs A.1 (A.2.1 x.toNat)) m n).2 i.toNat), fun σ hC => ?_, fun σ hM => ?_⟩
      · obtain ⟨s, t, C1, H1, P1, Q1⟩ := e_W_ap hC hV.1 h.1 hmn
        have hN := hC.1.1
        have n1 := C1.1.1
        refine ⟨s, ?_, C1, H1⟩
        unfold mf_W_denominator
        rw [ex_gd (by omega) (by omega), (e_W_isApp hx hm hn).1 h, ex_bd, pw_ck_ok (by omega) (by omega), if_neg (by omega), e_W_isTerm hi, ex_bd, if_pos h2, pw_ck_ok (by omega) (by omega), if_neg (by omega), t, ex_bd]
        simp (disch := omega) only [ex_gr, ex_ai, lr_0_4 C1.1, lr_58_1 C1.1, lr_61_0 C1.1, Option.bind_some]
        rw [Q1.1.1 i.toNat (by omega)]
      · obtain ⟨s, t, X1, ⟨P1, Q1⟩, q0, bP, bQ⟩ := e_M_ap2 hV.1 h.1 hmn hM
        have hN := hM.1.1
        have L1 := hM.1.ms X1
        have n1 := L1.1
        refine ⟨s, ?_, X1⟩
        unfold mf_M_denominator
        rw [ex_gd (by omega) (by omega), (e_M_isPair hM.1 hx hm hn).1 h, ex_bd, pw_ck_ok (by omega) (by omega), if_neg (by omega), e_M_in hi (by omega) (by omega), ex_bd, if_pos (by omega), pw_ck_ok (by omega) (by omega), if_neg (by omega), t, ex_bd, ex_gr (by omega) (by omega), lr_91_14 L1, Option.bind_some, ex_ai (by omega) (by omega) (by omega) (by omega), Option.bind_some, Q1.1 i.toNat (by omega)]
    · left
      refine ⟨fun σ hC => ?_, fun σ hM => ?_⟩
      · have hN := hC.1.1
        unfold mf_W_denominator mj_W_denominator_17
        rw [ex_gd (by omega) (by omega), (e_W_isApp hx hm hn).1 h, ex_bd, pw_ck_ok (by omega) (by omega), if_neg (by omega), e_W_isTerm hi, ex_bd, if_neg h2, pw_ck_ok (by omega) (by omega), if_pos rfl]
      · have hN := hM.1.1
        unfold mf_M_denominator mj_M_denominator_21
        rw [ex_gd (by omega) (by omega), (e_M_isPair hM.1 hx hm hn).1 h, ex_bd, pw_ck_ok (by omega) (by omega), if_neg (by omega), e_M_in hi (by omega) (by omega), ex_bd, if_neg (by omega), pw_ck_ok (by omega) (by omega), if_pos rfl]
  · left
    refine ⟨fun σ hC => ?_, fun σ hM => ?_⟩
    · have hN := hC.1.1
      unfold mf_W_denominator mj_W_denominator_17
      rw [ex_gd (by omega) (by omega), (e_W_isApp hx hm hn).2 h, ex_bd, pw_ck_ok (by omega) (by omega), if_pos rfl]
    · have hN := hM.1.1
      unfold mf_M_denominator mj_M_denominator_21
      rw [ex_gd (by omega) (by omega), (e_M_isPair hM.1 hx hm hn).2 h, ex_bd, pw_ck_ok (by omega) (by omega), if_pos rfl]
end
