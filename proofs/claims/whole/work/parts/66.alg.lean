section
/-! ## the field's elements as ints -/
def vv {p : Nat} (x : Fin p) : Int := (x.val : Int)
theorem vv_rng {p : Nat} (x : Fin p) : 0 ≤ vv x ∧ vv x < p := by
  have := x.isLt
  unfold vv
  omega
theorem fz_vv {p : Nat} [NeZero p] (x : Fin p) : fz p (vv x) = x := fz_val x
theorem vv_fz {p : Nat} [NeZero p] (z : Int) : vv (fz p z) = z % p := by
  have h := vv_rng (fz p z)
  have h2 := fz_iff.mp (fz_vv (fz p z))
  rw [Int.emod_eq_of_lt h.1 h.2] at h2
  exact h2
theorem vv_inj {p : Nat} {x y : Fin p} (h : vv x = vv y) : x = y := Fin.ext (by unfold vv at h; omega)
theorem vv_0 {p : Nat} [NeZero p] : vv (0 : Fin p) = 0 := by
  have h := vv_fz (p := p) 0
  rw [fz_zero] at h
  rw [h, Int.zero_emod]
theorem vv_1 {p : Nat} [NeZero p] (hp : 2 ≤ p) : vv (1 : Fin p) = 1 := by
  have h := vv_fz (p := p) 1
  rw [fz_one] at h
  rw [h, Int.emod_eq_of_lt (by omega) (by omega)]
theorem vv_z {p : Nat} [NeZero p] {x : Fin p} : vv x = 0 ↔ x = 0 := ⟨fun h => vv_inj (h.trans vv_0.symm), fun h => by rw [h, vv_0]⟩
theorem fp_one {p : Nat} [NeZero p] (hp : 2 ≤ p) : (1 : Fin p) ≠ 0 := fun h => by
  have h1 := vv_1 (p := p) hp
  rw [h, vv_0] at h1
  omega
theorem fp_dom {p : Nat} [NeZero p] (hp : isPb p = true) {a b : Fin p} (h : a * b = 0) : a = 0 ∨ b = 0 := by
  by_cases h0 : a = 0
  · exact Or.inl h0
  · obtain ⟨c, hc⟩ := fp_inv hp a h0
    right
    have h3 : b = c * (a * b) := by grind
    rw [h3, h]
    grind
def fi {p : Nat} [NeZero p] (x : Fin p) : Fin p := fz p ((iv p x.val : Nat) : Int)
theorem fi_ok {p : Nat} [NeZero p] (hp : isPb p = true) {x : Fin p} (h : x ≠ 0) : x * fi x = 1 := by
  have h1 : x.val ≠ 0 := fun q => h (Fin.ext q)
  have h2 := fz_iv hp x.isLt h1
  rw [fz_val] at h2
  exact h2
theorem vv_fi {p : Nat} [NeZero p] (hp : isPb p = true) (x : Fin p) : vv (fi x) = ((iv p (vv x).toNat : Nat) : Int) := by
  have h := iv_lt (a := x.val) hp
  unfold fi
  rw [vv_fz, Int.emod_eq_of_lt (by omega) (by omega)]
  rfl
/-! ## sums and products of series -/
theorem sm_one {R : Type} [Lean.Grind.CommRing R] {f : Nat → R} {i : Nat} : ∀ {n : Nat}, i < n → (∀ t, t < n → t ≠ i → f t = 0) → sm f n = f i := by
  intro n
  induction n with
  | zero => intro h; omega
  | succ n ih =>
    intro h1 h2
    show sm f n + f n = f i
    by_cases c : i = n
    · subst c
      rw [sm_zero (fun t ht => h2 t (by omega) (by omega))]
      grind
    · rw [ih (by omega) (fun t ht hn => h2 t (by omega) hn), h2 n (by omega) (by omega)]
      grind
theorem cv_low {R : Type} [Lean.Grind.CommRing R] {a b : Nat → R} {i j : Nat} (ha : ∀ t, t < i → a t = 0) (hb : ∀ t, t < j → b t = 0) : cv a b (i + j) = a i * b j := by
  show sm (fun t => a t * b (i + j - t)) (i + j + 1) = a i * b j
  refine (sm_one (i := i) (by omega) (fun t h1 h2 => ?_)).trans ?_
  · show a t * b (i + j - t) = 0
    by_cases c : t < i
    · rw [ha t c]; grind
    · rw [hb (i + j - t) (by omega)]; grind
  · show a i * b (i + j - i) = a i * b j
    rw [show i + j - i = j by omega]
theorem cv_top {R : Type} [Lean.Grind.CommRing R] {a b : Nat → R} {i j : Nat} (ha : ∀ t, i + 1 ≤ t → a t = 0) (hb : ∀ t, j + 1 ≤ t → b t = 0) : cv a b (i + j) = a i * b j := by
  show sm (fun t => a t * b (i + j - t)) (i + j + 1) = a i * b j
  refine (sm_one (i := i) (by omega) (fun t h1 h2 => ?_)).trans ?_
  · show a t * b (i + j - t) = 0
    by_cases c : t < i
    · rw [hb (i + j - t) (by omega)]; grind
    · rw [ha t (by omega)]; grind
  · show a i * b (i + j - i) = a i * b j
    rw [show i + j - i = j by omega]
theorem cc_0 {R : Type} [Lean.Grind.CommRing R] (k : Nat) : (cc (0 : R)) k = 0 := by
  show (if k = 0 then (0 : R) else 0) = 0
  by_cases h : k = 0
  · rw [if_pos h]
  · rw [if_neg h]
theorem cc_s {R : Type} [Lean.Grind.CommRing R] (c : R) (k : Nat) : (cc c) (k + 1) = 0 := if_neg (by omega)
theorem cc_z {R : Type} [Lean.Grind.CommRing R] (c : R) : (cc c) 0 = c := if_pos rfl
def pAd {p : Nat} (a b : PS (Fin p)) : PS (Fin p) := fun k => a k + b k
def pSb {p : Nat} (a b : PS (Fin p)) : PS (Fin p) := fun k => a k - b k
def pBd {p : Nat} [NeZero p] (a : PS (Fin p)) (n : Nat) : Prop := ∀ k, n ≤ k → a k = 0
def pFn {p : Nat} [NeZero p] (a : PS (Fin p)) : Prop := ∃ n, pBd a n
def pNz {p : Nat} [NeZero p] (a : PS (Fin p)) : Prop := ∃ k, a k ≠ 0
theorem p_zero {p : Nat} [NeZero p] {a : PS (Fin p)} (h : ∀ k, a k = 0) : a = cc 0 := funext (fun k => (h k).trans (cc_0 k).symm)
theorem p_nz {p : Nat} [NeZero p] {a : PS (Fin p)} (h : a ≠ cc 0) : pNz a := Classical.byContradiction (fun q => h (p_zero (fun k => Classical.byContradiction (fun r => q ⟨k, r⟩))))
theorem nz_p {p : Nat} [NeZero p] {a : PS (Fin p)} (h : pNz a) : a ≠ cc 0 := by
  intro e
  obtain ⟨k, hk⟩ := h
  rw [e, cc_0] at hk
  exact hk rfl
theorem pBd.mono {p : Nat} [NeZero p] {a : PS (Fin p)} {n m : Nat} (h : pBd a n) (k : n ≤ m) : pBd a m := fun i hi => h i (by omega)
theorem bd_ad {p : Nat} [NeZero p] {a b : PS (Fin p)} {n : Nat} (h1 : pBd a n) (h2 : pBd b n) : pBd (pAd a b) n := fun k hk => by
  show a k + b k = 0
  rw [h1 k hk, h2 k hk]; grind
theorem bd_sb {p : Nat} [NeZero p] {a b : PS (Fin p)} {n : Nat} (h1 : pBd a n) (h2 : pBd b n) : pBd (pSb a b) n := fun k hk => by
  show a k - b k = 0
  rw [h1 k hk, h2 k hk]; grind
theorem bd_cv {p : Nat} [NeZero p] {a b : PS (Fin p)} {n m : Nat} (h1 : pBd a n) (h2 : pBd b m) : pBd (cv a b) (n + m - 1) := fun k hk => by
  show sm (fun t => a t * b (k - t)) (k + 1) = 0
  refine sm_zero (fun t ht => ?_)
  by_cases c : t < n
  · rw [h2 (k - t) (by omega)]; grind
  · rw [h1 t (by omega)]; grind
theorem bd_cc {p : Nat} [NeZero p] (c : Fin p) : pBd (cc c) 1 := fun k hk => if_neg (by omega)
theorem fn_ad {p : Nat} [NeZero p] {a b : PS (Fin p)} (h1 : pFn a) (h2 : pFn b) : pFn (pAd a b) := by
  obtain ⟨n, h1⟩ := h1
  obtain ⟨m, h2⟩ := h2
  exact ⟨n + m, bd_ad (h1.mono (by omega)) (h2.mono (by omega))⟩
theorem fn_sb {p : Nat} [NeZero p] {a b : PS (Fin p)} (h1 : pFn a) (h2 : pFn b) : pFn (pSb a b) := by
  obtain ⟨n, h1⟩ := h1
  obtain ⟨m, h2⟩ := h2
  exact ⟨n + m, bd_sb (h1.mono (by omega)) (h2.mono (by omega))⟩
theorem fn_cv {p : Nat} [NeZero p] {a b : PS (Fin p)} (h1 : pFn a) (h2 : pFn b) : pFn (cv a b) := by
  obtain ⟨n, h1⟩ := h1
  obtain ⟨m, h2⟩ := h2
  exact ⟨_, bd_cv h1 h2⟩
theorem fn_cc {p : Nat} [NeZero p] (c : Fin p) : pFn (cc c) := ⟨1, bd_cc c⟩
theorem p_low {p : Nat} [NeZero p] {a : PS (Fin p)} : ∀ (k : Nat), a k ≠ 0 → ∃ i, a i ≠ 0 ∧ ∀ j, j < i → a j = 0 := by
  intro k
  induction k using Nat.strongRecOn with
  | ind k ih =>
    intro h
    by_cases c : ∃ j, j < k ∧ a j ≠ 0
    · obtain ⟨j, h1, h2⟩ := c
      exact ih j h1 h2
    · exact ⟨k, h, fun j hj => Classical.byContradiction (fun q => c ⟨j, hj, q⟩)⟩
theorem p_top {p : Nat} [NeZero p] {a : PS (Fin p)} : ∀ {n : Nat}, pBd a n → pNz a → ∃ i, a i ≠ 0 ∧ pBd a (i + 1) ∧ i < n := by
  intro n
  induction n with
  | zero =>
    intro h h0
    obtain ⟨k, hk⟩ := h0
    exact absurd (h k (by omega)) hk
  | succ n ih =>
    intro h h0
    by_cases c : a n = 0
    · obtain ⟨i, h1, h2, h3⟩ := ih (fun k hk => by
        by_cases e : k = n
        · rw [e]; exact c
        · exact h k (by omega)) h0
      exact ⟨i, h1, h2, by omega⟩
    · exact ⟨n, c, h, by omega⟩
theorem p_dom {p : Nat} [NeZero p] (hp : isPb p = true) {a b : PS (Fin p)} (h : cv a b = cc 0) : a = cc 0 ∨ b = cc 0 := by
  by_cases ha : a = cc 0
  · exact Or.inl ha
  · by_cases hb : b = cc 0
    · exact Or.inr hb
    · obtain ⟨k, hk⟩ := p_nz ha
      obtain ⟨l, hl⟩ := p_nz hb
      obtain ⟨i, hi, hi2⟩ := p_low k hk
      obtain ⟨j, hj, hj2⟩ := p_low l hl
      have e := cv_low hi2 hj2
      rw [h, cc_0] at e
      rcases fp_dom hp e.symm with q | q
      · exact absurd q hi
      · exact absurd q hj
theorem rg_sub {R : Type} [Lean.Grind.CommRing R] {g a b : R} (h : g * a = g * b) : g * (a - b) = 0 := by grind
theorem sb_zero {p : Nat} [NeZero p] {a b : PS (Fin p)} (h : pSb a b = cc 0) : a = b := funext (fun k => by
  have e : a k - b k = 0 := (congrFun h k).trans (cc_0 k)
  grind)
theorem p_cancel {p : Nat} [NeZero p] (hp : isPb p = true) {g a b : PS (Fin p)} (h : cv g a = cv g b) (hg : g ≠ cc 0) : a = b := by
  have e : cv g (pSb a b) = cc 0 := @rg_sub (PS (Fin p)) (psRing (Fin p)) g a b h
  rcases p_dom hp e with q | q
  · exact absurd q hg
  · exact sb_zero q
/-! ## division -/
theorem rg_div {R : Type} [Lean.Grind.CommRing R] {q q' b r r' : R} (h : q * b + r = q' * b + r') : (q - q') * b = r' - r := by grind
theorem p_div_uniq {p : Nat} [NeZero p] (hp : isPb p = true) {b q q' r r' : PS (Fin p)} {L : Nat} (hb : pBd b (L + 1)) (hb0 : b L ≠ 0) (hq : pFn q) (hq' : pFn q') (hr : pBd r L) (hr' : pBd r' L) (h : pAd (cv q b) r = pAd (cv q' b) r') : q = q' ∧ r = r' := by
  have e : cv (pSb q q') b = pSb r' r := @rg_div (PS (Fin p)) (psRing (Fin p)) q q' b r r' h
  have hD : pSb q q' = cc 0 := Classical.byContradiction (fun c => by
    obtain ⟨n, hn⟩ := fn_sb hq hq'
    obtain ⟨t, h1, h2, _⟩ := p_top hn (p_nz c)
    have e1 := cv_top h2 hb
    rw [e] at e1
    have e2 : pSb r' r (t + L) = 0 := bd_sb hr' hr (t + L) (by omega)
    rw [e2] at e1
    rcases fp_dom hp e1.symm with w | w
    · exact h1 w
    · exact hb0 w)
  have hq2 := sb_zero hD
  subst hq2
  refine ⟨rfl, funext (fun k => ?_)⟩
  have e3 : cv q b k + r k = cv q b k + r' k := congrFun h k
  grind
/-! ## x - r, values -/
def pXr {p : Nat} [NeZero p] (r : Fin p) : PS (Fin p) := fun k => if k = 0 then -r else if k = 1 then 1 else 0
theorem xr_0 {p : Nat} [NeZero p] (r : Fin p) : pXr r 0 = -r := if_pos rfl
theorem xr_1 {p : Nat} [NeZero p] (r : Fin p) : pXr r 1 = 1 := rfl
theorem xr_bd {p : Nat} [NeZero p] (r : Fin p) : pBd (pXr r) 2 := fun k hk => by
  show (if k = 0 then -r else if k = 1 then 1 else 0) = 0
  rw [if_neg (by omega), if_neg (by omega)]
theorem xr_nz {p : Nat} [NeZero p] (hp : 2 ≤ p) (r : Fin p) : pXr r ≠ cc 0 := nz_p ⟨1, by rw [xr_1]; exact fp_one hp⟩
theorem xr_c0 {p : Nat} [NeZero p] (r : Fin p) (q : PS (Fin p)) : cv (pXr r) q 0 = - r * q 0 := by
  show (0 : Fin p) + pXr r 0 * q (0 - 0) = _
  rw [xr_0]
  grind
theorem xr_cs {p : Nat} [NeZero p] (r : Fin p) (q : PS (Fin p)) (k : Nat) : cv (pXr r) q (k + 1) = q k - r * q (k + 1) := by
  show sm (fun i => pXr r i * q (k + 1 - i)) (k + 1 + 1) = _
  rw [sm_first, sm_first]
  have e : sm (fun i => pXr r (i + 1 + 1) * q (k + 1 - (i + 1 + 1))) k = 0 := sm_zero (fun i hi => by
    rw [xr_bd r (i + 1 + 1) (by omega)]
    grind)
  rw [e]
  show pXr r 0 * q (k + 1 - 0) + (pXr r (0 + 1) * q (k + 1 - (0 + 1)) + 0) = _
  rw [xr_0, show pXr r (0 + 1) = 1 from rfl, show k + 1 - 0 = k + 1 by omega, show k + 1 - (0 + 1) = k by omega]
  grind
def pEv {p : Nat} [NeZero p] (a : PS (Fin p)) (r c : Fin p) : Prop := ∃ q, pFn q ∧ a = pAd (cv (pXr r) q) (cc c)
theorem ev_fn {p : Nat} [NeZero p] {a : PS (Fin p)} {r c : Fin p} (h : pEv a r c) : pFn a := by
  obtain ⟨q, h1, h2⟩ := h
  rw [h2]
  exact fn_ad (fn_cv ⟨2, xr_bd r⟩ h1) (fn_cc c)
theorem ev_uniq {p : Nat} [NeZero p] (hp : isPb p = true) {a : PS (Fin p)} {r c c' : Fin p} (h : pEv a r c) (h' : pEv a r c') : c = c' := by
  have hp2 := isPb_le hp
  obtain ⟨q, h1, h2⟩ := h
  obtain ⟨q', h1', h2'⟩ := h'
  rw [h2, cv_comm, cv_comm _ q'] at h2'
  have e := p_div_uniq hp (xr_bd r) (by rw [xr_1]; exact fp_one (by omega)) h1 h1' (bd_cc c) (bd_cc c') h2'
  have e2 := congrFun e.2 0
  rw [cc_z, cc_z] at e2
  exact e2
theorem rg_evm {R : Type} [Lean.Grind.CommRing R] {X a b q q' c c' : R} (h1 : a = X * q + c) (h2 : b = X * q' + c') : a * b = X * (q * b + c * q') + c * c' := by grind
theorem rg_eva {R : Type} [Lean.Grind.CommRing R] {X a b q q' c c' : R} (h1 : a = X * q + c) (h2 : b = X * q' + c') : a + b = X * (q + q') + (c + c') := by grind
theorem rg_evs {R : Type} [Lean.Grind.CommRing R] {X a b q q' c c' : R} (h1 : a = X * q + c) (h2 : b = X * q' + c') : a - b = X * (q - q') + (c - c') := by grind
theorem cc_mul {p : Nat} [NeZero p] (a b : Fin p) : cv (cc a) (cc b) = cc (a * b) := by
  rw [cv_cc]
  funext k
  cases k with
  | zero => rw [cc_z, cc_z]
  | succ k => rw [cc_s, cc_s]; grind
theorem cc_add {p : Nat} [NeZero p] (a b : Fin p) : pAd (cc a) (cc b) = cc (a + b) := by
  funext k
  cases k with
  | zero => show cc a 0 + cc b 0 = _; rw [cc_z, cc_z, cc_z]
  | succ k => show cc a (k + 1) + cc b (k + 1) = _; rw [cc_s, cc_s, cc_s]; grind
theorem cc_sub {p : Nat} [NeZero p] (a b : Fin p) : pSb (cc a) (cc b) = cc (a - b) := by
  funext k
  cases k with
  | zero => show cc a 0 - cc b 0 = _; rw [cc_z, cc_z, cc_z]
  | succ k => show cc a (k + 1) - cc b (k + 1) = _; rw [cc_s, cc_s, cc_s]; grind
theorem ev_mul {p : Nat} [NeZero p] {a b : PS (Fin p)} {r c d : Fin p} (h1 : pEv a r c) (h2 : pEv b r d) : pEv (cv a b) r (c * d) := by
  have fb := ev_fn h2
  obtain ⟨q, f1, e1⟩ := h1
  obtain ⟨q', f2, e2⟩ := h2
  refine ⟨pAd (cv q b) (cv (cc c) q'), fn_ad (fn_cv f1 fb) (fn_cv (fn_cc c) f2), ?_⟩
  rw [← cc_mul]
  exact @rg_evm (PS (Fin p)) (psRing (Fin p)) (pXr r) a b q q' (cc c) (cc d) e1 e2
theorem ev_add {p : Nat} [NeZero p] {a b : PS (Fin p)} {r c d : Fin p} (h1 : pEv a r c) (h2 : pEv b r d) : pEv (pAd a b) r (c + d) := by
  obtain ⟨q, f1, e1⟩ := h1
  obtain ⟨q', f2, e2⟩ := h2
  refine ⟨pAd q q', fn_ad f1 f2, ?_⟩
  rw [← cc_add]
  exact @rg_eva (PS (Fin p)) (psRing (Fin p)) (pXr r) a b q q' (cc c) (cc d) e1 e2
theorem ev_sub {p : Nat} [NeZero p] {a b : PS (Fin p)} {r c d : Fin p} (h1 : pEv a r c) (h2 : pEv b r d) : pEv (pSb a b) r (c - d) := by
  obtain ⟨q, f1, e1⟩ := h1
  obtain ⟨q', f2, e2⟩ := h2
  refine ⟨pSb q q', fn_sb f1 f2, ?_⟩
  rw [← cc_sub]
  exact @rg_evs (PS (Fin p)) (psRing (Fin p)) (pXr r) a b q q' (cc c) (cc d) e1 e2
theorem rg_cc {R : Type} [Lean.Grind.CommRing R] {X c : R} : c = X * 0 + c := by grind
theorem ev_cc {p : Nat} [NeZero p] (r c : Fin p) : pEv (cc c) r c := ⟨cc 0, fn_cc 0, @rg_cc (PS (Fin p)) (psRing (Fin p)) (pXr r) (cc c)⟩
theorem rg_x0' {R : Type} [Lean.Grind.CommRing R] {X : R} : X * 0 = 0 := by grind
theorem rg_x0 {R : Type} [Lean.Grind.CommRing R] {X q : R} : X * q = X * q + 0 := by grind
theorem ev_x0 {p : Nat} [NeZero p] {r : Fin p} {q : PS (Fin p)} (h : pFn q) : pEv (cv (pXr r) q) r 0 := ⟨q, h, @rg_x0 (PS (Fin p)) (psRing (Fin p)) (pXr r) q⟩
theorem ev_xr {p : Nat} [NeZero p] (r s : Fin p) : pEv (pXr s) r (r - s) := by
  refine ⟨cc 1, fn_cc 1, ?_⟩
  funext k
  show pXr s k = cv (pXr r) (cc 1) k + cc (r - s) k
  cases k with
  | zero => rw [xr_c0, xr_0, cc_z, cc_z]; grind
  | succ k =>
    rw [xr_cs, cc_s, cc_s]
    cases k with
    | zero => rw [cc_z]; show (1 : Fin p) = _; grind
    | succ k => rw [cc_s, xr_bd s (k + 1 + 1) (by omega)]; grind
/-! Horner -/
def pHs {p : Nat} (a : PS (Fin p)) (r : Fin p) (n : Nat) : Nat → Fin p
  | 0 => if h : 0 < p then ⟨0, h⟩ else r
  | i + 1 => pHs a r n i * r + a (n - 1 - i)
theorem hs_0 {p : Nat} [NeZero p] (a : PS (Fin p)) (r : Fin p) (n : Nat) : pHs a r n 0 = 0 := by
  have h : 0 < p := Nat.pos_of_ne_zero (NeZero.ne p)
  show (if h : 0 < p then (⟨0, h⟩ : Fin p) else r) = 0
  rw [dif_pos h]
  exact Fin.ext rfl
theorem hs_s {p : Nat} [NeZero p] (a : PS (Fin p)) (r : Fin p) (n i : Nat) : pHs a r n (i + 1) = pHs a r n i * r + a (n - 1 - i) := rfl
def pQd {p : Nat} [NeZero p] (a : PS (Fin p)) (r : Fin p) (n : Nat) : PS (Fin p) := fun k => if k < n then pHs a r n (n - 1 - k) else 0
theorem qd_bd {p : Nat} [NeZero p] (a : PS (Fin p)) (r : Fin p) (n : Nat) : pBd (pQd a r n) (n - 1) := fun k hk => by
  show (if k < n then pHs a r n (n - 1 - k) else 0) = 0
  by_cases c : k < n
  · rw [if_pos c, show n - 1 - k = 0 by omega, hs_0]
  · rw [if_neg c]
theorem qd_eq {p : Nat} [NeZero p] {a : PS (Fin p)} (r : Fin p) {n : Nat} (h : pBd a n) : a = pAd (cv (pXr r) (pQd a r n)) (cc (pHs a r n n)) := by
  funext k
  show a k = cv (pXr r) (pQd a r n) k + cc (pHs a r n n) k
  cases k with
  | zero =>
    rw [xr_c0, cc_z]
    show a 0 = -r * (if 0 < n then pHs a r n (n - 1 - 0) else 0) + pHs a r n n
    cases n with
    | zero => rw [hs_0, h 0 (by omega), if_neg (by omega)]; grind
    | succ n =>
      rw [hs_s, if_pos (by omega), show n + 1 - 1 - n = 0 by omega, show n + 1 - 1 - 0 = n by omega]
      grind
  | succ k =>
    rw [xr_cs, cc_s]
    show a (k + 1) = (if k < n then pHs a r n (n - 1 - k) else 0) - r * (if k + 1 < n then pHs a r n (n - 1 - (k + 1)) else 0) + 0
    by_cases c : k + 1 < n
    · rw [if_pos (by omega), if_pos c, show n - 1 - k = (n - 1 - (k + 1)) + 1 by omega, hs_s, show n - 1 - (n - 1 - (k + 1)) = k + 1 by omega]
      grind
    · rw [if_neg c, h (k + 1) (by omega)]
      by_cases c2 : k < n
      · rw [if_pos c2, show n - 1 - k = 0 by omega, hs_0]; grind
      · rw [if_neg c2]; grind
theorem ev_hs {p : Nat} [NeZero p] {a : PS (Fin p)} (r : Fin p) {n : Nat} (h : pBd a n) : pEv a r (pHs a r n n) := ⟨pQd a r n, ⟨_, qd_bd a r n⟩, qd_eq r h⟩
theorem ev_ex {p : Nat} [NeZero p] {a : PS (Fin p)} (r : Fin p) (h : pFn a) : ∃ c, pEv a r c := by
  obtain ⟨n, hn⟩ := h
  exact ⟨_, ev_hs r hn⟩
theorem ev_root {p : Nat} [NeZero p] {a : PS (Fin p)} {r : Fin p} (h : pEv a r 0) : ∃ q, pFn q ∧ a = cv (pXr r) q := by
  obtain ⟨q, h1, h2⟩ := h
  refine ⟨q, h1, ?_⟩
  rw [h2]
  funext k
  show cv (pXr r) q k + cc 0 k = _
  rw [cc_0]
  grind
theorem xr_len {p : Nat} [NeZero p] {r : Fin p} {q : PS (Fin p)} (hq : pFn q) {n : Nat} (h : pBd (cv (pXr r) q) (n + 1)) : pBd q n := by
  obtain ⟨m, hm⟩ := hq
  have key : ∀ d, pBd q (n + d) → pBd q n := by
    intro d
    induction d with
    | zero => intro h; exact h
    | succ d ih =>
      intro h1
      refine ih (fun k hk => ?_)
      by_cases c : k = n + d
      · have e := xr_cs r q k
        rw [h (k + 1) (by omega), h1 (k + 1) (by omega)] at e
        grind
      · exact h1 k (by omega)
  exact key m (hm.mono (by omega))
/-- as many roots as coefficients -/
theorem roots_zero {p : Nat} [NeZero p] (hp : isPb p = true) {xs : Nat → Fin p} : ∀ {N : Nat} {a : PS (Fin p)}, (∀ i j, i < N → j < N → xs i = xs j → i = j) → (∀ i, i < N → pEv a (xs i) 0) → pBd a N → a = cc 0 := by
  intro N
  induction N with
  | zero => intro a _ _ h; exact p_zero (fun k => h k (by omega))
  | succ N ih =>
    intro a hx he hb
    obtain ⟨q, fq, eq⟩ := ev_root (he N (by omega))
    have bq : pBd q N := xr_len fq (by rw [← eq]; exact hb)
    have hq : q = cc 0 := ih (fun i j hi hj h => hx i j (by omega) (by omega) h) (fun i hi => by
      obtain ⟨c, hc⟩ := ev_ex (xs i) fq
      have e1 := ev_mul (ev_xr (xs i) (xs N)) hc
      rw [← eq] at e1
      have e2 := ev_uniq hp e1 (he i (by omega))
      rcases fp_dom hp e2 with w | w
      · exfalso
        have : i = N := hx i N (by omega) (by omega) (by grind)
        omega
      · rw [w] at hc; exact hc) bq
    rw [eq, hq]
    exact (@rg_x0' (PS (Fin p)) (psRing (Fin p)) (pXr (xs N)))
end
