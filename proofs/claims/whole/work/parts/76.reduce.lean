section
/-! ## reduced form: purely -/
theorem vv_ng {p : Nat} [NeZero p] (x : Fin p) : vv (-x) = (- vv x) % p := by
  rw [← vv_fz, fz_neg, fz_vv]
def rS {p : Nat} [NeZero p] (X : Nat → Nat → Fin p) (v : Nat → Fin p) (n r : Nat) : Fin p := sm (fun c => X r c * v c) n
def pKq {p : Nat} [NeZero p] (X Y : Nat → Nat → Fin p) (rows : Nat) : Prop := ∀ (v : Nat → Fin p) (n : Nat), (∀ r, r < rows → rS X v n r = 0) ↔ (∀ r, r < rows → rS Y v n r = 0)
theorem pKq.refl {p : Nat} [NeZero p] (X : Nat → Nat → Fin p) (rows : Nat) : pKq X X rows := fun _ _ => Iff.rfl
theorem pKq.trans {p : Nat} [NeZero p] {X Y Z : Nat → Nat → Fin p} {rows : Nat} (h : pKq X Y rows) (k : pKq Y Z rows) : pKq X Z rows := fun v n => (h v n).trans (k v n)
def exM {p : Nat} (X : Nat → Nat → Fin p) (a b : Nat) : Nat → Nat → Fin p := fun r c => if r = a then X b c else if r = b then X a c else X r c
def scM {p : Nat} (X : Nat → Nat → Fin p) (a : Nat) (f : Fin p) : Nat → Nat → Fin p := fun r c => if r = a then X r c * f else X r c
def elA {p : Nat} (X : Nat → Nat → Fin p) (a col k : Nat) : Nat → Nat → Fin p := fun r c => if r < k ∧ r ≠ a then X r c - X r col * X a c else X r c
theorem kq_ex {p : Nat} [NeZero p] (X : Nat → Nat → Fin p) {a b rows : Nat} (ha : a < rows) (hb : b < rows) : pKq X (exM X a b) rows := by
  intro v n
  have e : ∀ r, rS (exM X a b) v n r = if r = a then rS X v n b else if r = b then rS X v n a else rS X v n r := fun r => by
    unfold rS exM
    by_cases c1 : r = a
    · simp only [if_pos c1]
    · by_cases c2 : r = b
      · simp only [if_neg c1, if_pos c2]
      · simp only [if_neg c1, if_neg c2]
  constructor
  · intro h r hr
    rw [e]
    by_cases c1 : r = a
    · rw [if_pos c1]; exact h b hb
    · by_cases c2 : r = b
      · rw [if_neg c1, if_pos c2]; exact h a ha
      · rw [if_neg c1, if_neg c2]; exact h r hr
  · intro h r hr
    by_cases c1 : r = a
    · have h1 := h b hb
      rw [e] at h1
      by_cases c2 : b = a
      · rw [if_pos c2] at h1; rw [c1, ← c2]; exact h1
      · rw [if_neg c2, if_pos rfl] at h1; rw [c1]; exact h1
    · by_cases c2 : r = b
      · have h1 := h a ha
        rw [e, if_pos rfl] at h1
        rw [c2]; exact h1
      · have h1 := h r hr
        rw [e, if_neg c1, if_neg c2] at h1
        exact h1
theorem kq_sc {p : Nat} [NeZero p] (hp : isPb p = true) (X : Nat → Nat → Fin p) {a rows : Nat} {f : Fin p} (hf : f ≠ 0) : pKq X (scM X a f) rows := by
  intro v n
  have e : ∀ r, rS (scM X a f) v n r = if r = a then f * rS X v n r else rS X v n r := fun r => by
    unfold rS scM
    by_cases c1 : r = a
    · simp only [if_pos c1]
      rw [← sm_mul]
      exact sm_congr (fun i _ => by grind)
    · simp only [if_neg c1]
  constructor
  · intro h r hr
    rw [e, h r hr]
    by_cases c1 : r = a
    · rw [if_pos c1]; grind
    · rw [if_neg c1]
  · intro h r hr
    have h1 := h r hr
    rw [e] at h1
    by_cases c1 : r = a
    · rw [if_pos c1] at h1
      rcases fp_dom hp h1 with z | z
      · exact absurd z hf
      · exact z
    · rw [if_neg c1] at h1; exact h1
theorem kq_el {p : Nat} [NeZero p] (X : Nat → Nat → Fin p) {a col k rows : Nat} (ha : a < rows) : pKq X (elA X a col k) rows := by
  intro v n
  have e : ∀ r, rS (elA X a col k) v n r = if r < k ∧ r ≠ a then rS X v n r + (- X r col) * rS X v n a else rS X v n r := fun r => by
    unfold rS elA
    by_cases c1 : r < k ∧ r ≠ a
    · simp only [if_pos c1]
      rw [← sm_mul, ← sm_add]
      exact sm_congr (fun i _ => by grind)
    · simp only [if_neg c1]
  have ea : rS (elA X a col k) v n a = rS X v n a := by rw [e, if_neg (by omega)]
  constructor
  · intro h r hr
    rw [e, h r hr, h a ha]
    by_cases c1 : r < k ∧ r ≠ a
    · rw [if_pos c1]; grind
    · rw [if_neg c1]
  · intro h r hr
    have h1 := h r hr
    have h2 := h a ha
    rw [ea] at h2
    rw [e, h2] at h1
    by_cases c1 : r < k ∧ r ≠ a
    · rw [if_pos c1] at h1; grind
    · rw [if_neg c1] at h1; exact h1
def pRF {p : Nat} [NeZero p] (X : Nat → Nat → Fin p) (pv : Nat → Int) (ρ rows col : Nat) : Prop :=
  ρ ≤ rows ∧ (∀ c, c < col → pv c = -1 ∨ ∃ i : Nat, i < ρ ∧ pv c = (i : Int) ∧ (∀ r, r < rows → X r c = if r = i then 1 else 0) ∧ ∀ c', c' < c → X i c' = 0) ∧ (∀ r, ρ ≤ r → r < rows → ∀ c, c < col → X r c = 0) ∧ (∀ i : Nat, i < ρ → ∃ c, c < col ∧ pv c = (i : Int)) ∧ ((∀ c, c < col → pv c ≠ -1) → ρ = col)
def pvS (pv : Nat → Int) (col : Nat) (z : Int) : Nat → Int := fun c => if c = col then z else pv c
theorem rf_no {p : Nat} [NeZero p] {X : Nat → Nat → Fin p} {pv : Nat → Int} {ρ rows col : Nat} (h : pRF X pv ρ rows col) (hz : ∀ r, ρ ≤ r → r < rows → X r col = 0) : pRF X (pvS pv col (-1)) ρ rows (col + 1) := by
  obtain ⟨h1, h2, h3, h4, h5⟩ := h
  refine ⟨h1, fun c hc => ?_, fun r r1 r2 c hc => ?_, fun i hi => ?_, fun q => ?_⟩
  · by_cases e : c = col
    · left; exact if_pos e
    · have : pvS pv col (-1) c = pv c := if_neg e
      rw [this]
      exact h2 c (by omega)
  · by_cases e : c = col
    · rw [e]; exact hz r r1 r2
    · exact h3 r r1 r2 c (by omega)
  · obtain ⟨c, c1, c2⟩ := h4 i hi
    exact ⟨c, by omega, by rw [show pvS pv col (-1) c = pv c from if_neg (by omega)]; exact c2⟩
  · exact absurd (show pvS pv col (-1) col = -1 from if_pos rfl) (q col (by omega))
theorem rf_yes {p : Nat} [NeZero p] (hp : isPb p = true) {X : Nat → Nat → Fin p} {pv : Nat → Int} {ρ rows col f : Nat} (h : pRF X pv ρ rows col) (hf1 : ρ ≤ f) (hf2 : f < rows) (hf3 : X f col ≠ 0) : pRF (elA (scM (exM X ρ f) ρ (fi (X f col))) ρ col rows) (pvS pv col ρ) (ρ + 1) rows (col + 1) ∧ pKq X (elA (scM (exM X ρ f) ρ (fi (X f col))) ρ col rows) rows := by
  have hp2 := isPb_le hp
  obtain ⟨h1, h2, h3, h4, h5⟩ := h
  have hi := fi_ok hp hf3
  have hi0 : fi (X f col) ≠ 0 := fun q => fp_one (p := p) (by omega) (by rw [q] at hi; grind)
  have w1 : ∀ c, scM (exM X ρ f) ρ (fi (X f col)) ρ c = X f c * fi (X f col) := fun c => by
    unfold scM exM
    rw [if_pos rfl, if_pos rfl]
  have w2 : ∀ r c, r ≠ ρ → scM (exM X ρ f) ρ (fi (X f col)) r c = if r = f then X ρ c else X r c := fun r c hr => by
    unfold scM exM
    rw [if_neg hr, if_neg hr]
  generalize scM (exM X ρ f) ρ (fi (X f col)) = Y at *
  have y0 : ∀ r c, r < rows → c < col → Y r c = X r c := fun r c hr hc => by
    by_cases e : r = ρ
    · rw [e, w1, h3 f hf1 hf2 c hc, h3 ρ (by omega) (by omega) c hc]; grind
    · rw [w2 r c e]
      by_cases e2 : r = f
      · rw [if_pos e2, e2, h3 f hf1 hf2 c hc, h3 ρ (by omega) (by omega) c hc]
      · rw [if_neg e2]
  have y1 : Y ρ col = 1 := by rw [w1]; exact hi
  have y2 : ∀ c, c < col → Y ρ c = 0 := fun c hc => by rw [y0 ρ c (by omega) hc]; exact h3 ρ (by omega) (by omega) c hc
  have z0 : ∀ r c, r < rows → c < col → elA Y ρ col rows r c = X r c := fun r c hr hc => by
    unfold elA
    by_cases e : r < rows ∧ r ≠ ρ
    · rw [if_pos e, y2 c hc, y0 r c hr hc]; grind
    · rw [if_neg e, y0 r c hr hc]
  have z1 : ∀ r, r < rows → elA Y ρ col rows r col = if r = ρ then 1 else 0 := fun r hr => by
    unfold elA
    by_cases e : r = ρ
    · rw [if_neg (by omega), if_pos e, e, y1]
    · rw [if_pos ⟨hr, e⟩, if_neg e, y1]; grind
  have pn : ∀ c, c < col → pvS pv col ρ c = pv c := fun c hc => if_neg (by omega)
  have pc : pvS pv col ρ col = ρ := if_pos rfl
  refine ⟨⟨by omega, fun c hc => ?_, fun r r1 r2 c hc => ?_, fun i hi => ?_, fun q => ?_⟩, ?_⟩
  · by_cases e : c = col
    · subst e
      exact Or.inr ⟨ρ, by omega, pc, z1, fun c' hc' => by rw [z0 ρ c' (by omega) hc']; exact h3 ρ (by omega) (by omega) c' hc'⟩
    · rw [pn c (by omega)]
      rcases h2 c (by omega) with z | ⟨i, i1, i2, i3, i4⟩
      · exact Or.inl z
      · exact Or.inr ⟨i, by omega, i2, fun r hr => by rw [z0 r c hr (by omega)]; exact i3 r hr, fun c' hc' => by rw [z0 i c' (by omega) (by omega)]; exact i4 c' hc'⟩
  · by_cases e : c = col
    · rw [e, z1 r r2, if_neg (by omega)]
    · rw [z0 r c r2 (by omega)]; exact h3 r (by omega) r2 c (by omega)
  · by_cases e : i = ρ
    · exact ⟨col, by omega, by rw [pc, e]⟩
    · obtain ⟨c, c1, c2⟩ := h4 i (by omega)
      exact ⟨c, by omega, by rw [pn c c1]; exact c2⟩
  · have := h5 (fun c hc => by rw [← pn c hc]; exact q c (by omega))
    omega
  · have k1 := kq_ex X (a := ρ) (b := f) (rows := rows) (by omega) hf2
    have k2 := kq_sc hp (exM X ρ f) (a := ρ) (rows := rows) hi0
    have eY : Y = scM (exM X ρ f) ρ (fi (X f col)) := by
      funext r c
      by_cases e : r = ρ
      · rw [e, w1]; unfold scM exM; rw [if_pos rfl, if_pos rfl]
      · rw [w2 r c e]; unfold scM exM; rw [if_neg e, if_neg e]
    rw [← eY] at k2
    exact (k1.trans k2).trans (kq_el Y (a := ρ) (col := col) (k := rows) (by omega))
/-- the null vector of a free column -/
def nuV {p : Nat} [NeZero p] (X : Nat → Nat → Fin p) (pv : Nat → Int) (fr : Nat) : Nat → Fin p := fun c => if 0 ≤ pv c then - X (pv c).toNat fr else if c = fr then 1 else 0
theorem nu_ker {p : Nat} [NeZero p] (hp : 2 ≤ p) {X : Nat → Nat → Fin p} {pv : Nat → Int} {ρ rows col fr : Nat} (h : pRF X pv ρ rows col) (hfr : fr < col) (hf : pv fr = -1) : ∀ r, r < rows → rS X (nuV X pv fr) col r = 0 := by
  obtain ⟨h1, h2, h3, h4, h5⟩ := h
  intro r hr
  unfold rS
  by_cases c0 : ρ ≤ r
  · refine sm_zero (fun c hc => ?_)
    rw [h3 r c0 hr c hc]; grind
  · obtain ⟨c0', k1, k2⟩ := h4 r (by omega)
    have e : sm (fun c => X r c * nuV X pv fr c) col = sm (fun c => (if c = c0' then - X r fr else 0) + (if c = fr then X r fr else 0)) col := sm_congr (fun c hc => by
      unfold nuV
      rcases h2 c hc with z | ⟨i, i1, i2, i3, i4⟩
      · rw [if_neg (by omega)]
        have : c ≠ c0' := fun q => by rw [q] at z; omega
        rw [if_neg this]
        by_cases e : c = fr
        · rw [if_pos e, if_pos e, e]; grind
        · rw [if_neg e, if_neg e]; grind
      · have hcf : c ≠ fr := fun q => by rw [q] at i2; omega
        rw [if_pos (by omega), if_neg hcf, i3 r hr, i2, Int.toNat_natCast]
        by_cases e : r = i
        · subst e
          have : c = c0' := by
            refine Classical.byContradiction (fun q => ?_)
            rcases h2 c0' k1 with z | ⟨j, j1, j2, j3, j4⟩
            · omega
            · have hj : j = r := by omega
              rw [hj] at j3 j4
              by_cases lt : c < c0'
              · have a1 := j4 c lt
                have a2 := i3 r hr
                rw [if_pos rfl, a1] at a2
                exact fp_one hp a2.symm
              · have a1 := i4 c0' (by omega)
                have a2 := j3 r hr
                rw [if_pos rfl, a1] at a2
                exact fp_one hp a2.symm
          rw [if_pos this, if_pos rfl]; grind
        · have : c ≠ c0' := fun q => e (by rw [q] at i2; omega)
          rw [if_neg this, if_neg e]; grind)
    rw [e, sm_add, sm_one (i := c0') k1 (fun t _ ht => if_neg ht), sm_one (i := fr) hfr (fun t _ ht => if_neg ht), if_pos rfl, if_pos rfl]
    grind
end
