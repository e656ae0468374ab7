/-! ## reading and writing the store -/
def pw_is (σ : pw_Sto) (o c : Nat) : Prop := o < σ.1 ∧ (pw_sh o).1 = c
theorem pw_is_dec (σ : pw_Sto) (o c : Nat) : Nonempty (Decidable (pw_is σ o c)) := ⟨inferInstanceAs (Decidable (o < σ.1 ∧ (pw_sh o).1 = c))⟩
def pw_gi (c o k : Nat) (σ : pw_Sto) : Option Int := if o < σ.1 ∧ (pw_sh o).1 = c then some (σ.2.1 o k) else none
def pw_gr (c o k : Nat) (σ : pw_Sto) : Option Nat := if o < σ.1 ∧ (pw_sh o).1 = c then σ.2.2 o k else none
def pw_pi (c o k : Nat) (v : Int) (σ : pw_Sto) : Option pw_Sto := if o < σ.1 ∧ (pw_sh o).1 = c then some (σ.1, pw_u2 σ.2.1 o k v, σ.2.2) else none
def pw_pr (c o k : Nat) (v : Nat) (σ : pw_Sto) : Option pw_Sto := if o < σ.1 ∧ (pw_sh o).1 = c then some (σ.1, σ.2.1, pw_u2 σ.2.2 o k (some v)) else none
def pw_ai (a : Nat) (i : Int) (σ : pw_Sto) : Option Int := if (a < σ.1 ∧ (pw_sh a).1 = 11) ∧ (0 ≤ i ∧ i < (pw_sh a).2) then some (σ.2.1 a i.toNat) else none
def pw_ar (c a : Nat) (i : Int) (σ : pw_Sto) : Option Nat := if (a < σ.1 ∧ (pw_sh a).1 = c) ∧ (0 ≤ i ∧ i < (pw_sh a).2) then σ.2.2 a i.toNat else none
def pw_si (a : Nat) (i v : Int) (σ : pw_Sto) : Option pw_Sto := if (a < σ.1 ∧ (pw_sh a).1 = 11) ∧ (0 ≤ i ∧ i < (pw_sh a).2) then some (σ.1, pw_u2 σ.2.1 a i.toNat v, σ.2.2) else none
def pw_sr (c a : Nat) (i : Int) (d v : Nat) (σ : pw_Sto) : Option pw_Sto := if ((a < σ.1 ∧ (pw_sh a).1 = c) ∧ (0 ≤ i ∧ i < (pw_sh a).2)) ∧ (v < σ.1 ∧ (pw_sh v).1 = d) then some (σ.1, σ.2.1, pw_u2 σ.2.2 a i.toNat (some v)) else none
def pw_al (a : Nat) (σ : pw_Sto) : Option Int := if a < σ.1 ∧ (pw_sh a).1 = 11 then some ((pw_sh a).2 : Int) else none
def pw_cp (a : Nat) (i : Int) (d : Nat) (j n : Int) (σ : pw_Sto) : Option pw_Sto :=
  if ((a < σ.1 ∧ (pw_sh a).1 = 11) ∧ (d < σ.1 ∧ (pw_sh d).1 = 11)) ∧ ((0 ≤ i ∧ 0 ≤ j ∧ 0 ≤ n) ∧ (i + n ≤ (pw_sh a).2 ∧ j + n ≤ (pw_sh d).2)) then
    some (σ.1, (fun q => if q = d then va_cpy (σ.2.1 a) (σ.2.1 d) i.toNat j.toNat n.toNat else σ.2.1 q), σ.2.2) else none
theorem pw_sh_le (i : Nat) : (pw_sh i).2 ≤ 344 := by
  have h : ∀ q ∈ pw_shT, q.2 ≤ 344 := by decide +kernel
  unfold pw_sh
  rw [List.getD_eq_getElem?_getD]
  cases hi : pw_shT[i]? with
  | none => exact Nat.zero_le _
  | some q => exact h q (List.mem_of_getElem? hi)
def pw_gd {β : Type} (c o : Nat) (σ : pw_Sto) (F : Option β) : Option β := if o < σ.1 ∧ (pw_sh o).1 = c then F else none
theorem pw_cell_o {E : pw_E} {σ : pw_Sto} {o c : Nat} (h : (pw_sh o).1 = c) (h1 : c < 11) : pw_cell E σ o = .inr (c, pw_flds E.1 σ o (pw_ft c)) := by
  unfold pw_cell
  rw [h, if_neg (by omega), if_neg (by omega), if_neg (by omega)]
theorem pw_cell_i {E : pw_E} {σ : pw_Sto} {o : Nat} (h : (pw_sh o).1 = 11) : pw_cell E σ o = .inl (E.2.2.1, (pw_sh o).2, .inl (fun k => iI (σ.2.1 o k))) := by
  unfold pw_cell
  rw [if_pos h]
theorem pw_cell_s {E : pw_E} {σ : pw_Sto} {o : Nat} (h : (pw_sh o).1 = 12) : pw_cell E σ o = .inl (E.2.2.2.1, (pw_sh o).2, .inr (.inr (.inr (.inr (fun k => (σ.2.2 o k).map (fun j => E.1 + j)))))) := by
  unfold pw_cell
  rw [if_neg (by omega), if_pos h]
theorem pw_cell_g {E : pw_E} {σ : pw_Sto} {o : Nat} (h : (pw_sh o).1 = 13) : pw_cell E σ o = .inl (E.2.2.2.2, (pw_sh o).2, .inr (.inr (.inr (.inr (fun k => (σ.2.2 o k).map (fun j => E.1 + j)))))) := by
  unfold pw_cell
  rw [if_neg (by omega), if_neg (by omega), if_pos h]
theorem pw_flds_at {b : Nat} {σ : pw_Sto} {o k : Nat} {t : List Bool} {i : Bool} (h : t[k]? = some i) : (pw_flds b σ o t)[k]? = some (pw_fld b σ o i k) := by
  unfold pw_flds
  rw [List.getElem?_mapIdx, h]
  rfl
theorem pw_cell_ne {E : pw_E} {σ σ' : pw_Sto} {j : Nat} (h1 : σ'.2.1 j = σ.2.1 j) (h2 : σ'.2.2 j = σ.2.2 j) : pw_cell E σ' j = pw_cell E σ j := by
  unfold pw_cell
  rw [h1, h2]
  have hf : pw_flds E.1 σ' j (pw_ft (pw_sh j).1) = pw_flds E.1 σ j (pw_ft (pw_sh j).1) := by
    unfold pw_flds
    congr 1
    funext k i
    unfold pw_fld
    rw [h1, h2]
  rw [hf]
theorem pw_u2_ne {β : Type} {f : Nat → Nat → β} {o k j : Nat} {v : β} (h : j ≠ o) : pw_u2 f o k v j = f j := if_neg h
theorem pw_u2_eq {β : Type} {f : Nat → Nat → β} {o k : Nat} {v : β} : pw_u2 f o k v o = (fun j => if j = k then v else f o j) := if_pos rfl
theorem pw_u2_at {β : Type} {f : Nat → Nat → β} {o k j : Nat} {v : β} : pw_u2 f o k v o j = if j = k then v else f o j := by unfold pw_u2; rw [if_pos rfl]
theorem pw_flds_set {b : Nat} {σ σ' : pw_Sto} {o k : Nat} {t : List Bool} {v : Value} (h : ∀ j i, j ≠ k → pw_fld b σ' o i j = pw_fld b σ o i j) (hk : ∀ i, t[k]? = some i → pw_fld b σ' o i k = v) : (pw_flds b σ o t).set k v = pw_flds b σ' o t := by
  apply List.ext_getElem?
  intro j
  by_cases hj : j = k
  · subst hj
    unfold pw_flds
    cases hi : t[j]? with
    | none =>
      rw [List.getElem?_mapIdx, hi, List.getElem?_eq_none]
      · rfl
      · rw [List.length_set, List.length_mapIdx]
        exact List.getElem?_eq_none_iff.mp hi
    | some i =>
      have hl : j < t.length := (List.getElem?_eq_some_iff.mp hi).1
      rw [List.getElem?_set_self (by rw [List.length_mapIdx]; exact hl), List.getElem?_mapIdx, hi]
      show some v = some (pw_fld b σ' o i j)
      rw [hk i hi]
  · rw [List.getElem?_set_ne (Ne.symm hj)]
    unfold pw_flds
    rw [List.getElem?_mapIdx, List.getElem?_mapIdx]
    cases hi : t[j]? with
    | none => rfl
    | some i =>
      show some (pw_fld b σ o i j) = some (pw_fld b σ' o i j)
      rw [h j i hj]
/-- what is known of a class: its place, its words, its fields' types -/
def pw_Cl (ci : Nat) (C : String) (T : u_T) (N : Nat) (Y : Nat → FieldType) : Prop := pw_cl[ci]? = some (C, T, N) ∧ ci < 11 ∧ (∀ w ∈ u_ws C T N, w ∈ pw_gt) ∧ (∀ k, k < N → parseFieldDescriptor (T k).2.2.1 = some (Y k)) ∧ (∀ a, a < N → ∀ b, b < N → a ≠ b → (T a).2.1 ≠ (T b).2.1) ∧ (pw_ft ci).length = N
section PWH
variable {α : Type} {X : pw_X α} {cc : ByteArray} {own : String} {rm : Room} {nL cells slots pc : Nat} {L L' : List (Nat × Value)} {st : List Value} {σ : pw_Sto} {F : Option (α × pw_Sto)}
variable {ci o k idx : Nat} {C ref host : String} {T : u_T} {N : Nat} {Y : Nat → FieldType}
theorem sp_getI (hX : pw_Ok X cc own rm nL) (hC : pw_Cl ci C T N Y) (hk : k < N) (hw : Cond.fieldLink own idx (T k).1 (T k).2.1 (T k).2.2.1 ∈ pw_gt) (hi : (pw_ft ci)[k]? = some true) (d : decode cc pc = .ok (.getfield idx, 3)) {g : Int → Option (α × pw_Sto)} (K : ∀ v, pw_Sp X cells slots (pc + 3) L (.int (iI v) :: st) σ (g v)) : pw_Sp X cells slots pc L (.ref o :: st) σ ((pw_gi ci o k σ).bind g) := by
  obtain ⟨⟨p, l, e, R, s, m, args, below, meth, c⟩, Q, ⟨b, D, c1, c2, c3⟩, out, mc, ms⟩ := X
  intro hF hN H locs ls hl hH hS
  by_cases h : o < σ.1 ∧ (pw_sh o).1 = ci
  · rw [pw_gi, if_pos h] at hF
    exact va_get (D := D) (cl := pw_cl) hX.1 hX.2.1 (Ts := pw_gt) hX.2.2.2.2.2.1 hC.2.2.1 hX.2.2.2.2.1 hX.2.2.2.2.2.2.1.1 hH o (by rw [pw_ws_at h.1, pw_cell_o h.2 hC.2.1]) hC.1 k hk (hX.2.2.2.2.2.1 _ hw) (fun _ h9 => h9) (pw_flds_at hi) d (K _ hF hN H locs ls hl hH hS)
  · rw [pw_gi, if_neg h] at hF; cases hF
theorem sp_getIN (hX : pw_Ok X cc own rm nL) (hC : pw_Cl ci C T N Y) (hk : k < N) (hw : Cond.fieldLinkNest own idx (T k).1 (T k).2.1 (T k).2.2.1 host ∈ pw_nest) (hi : (pw_ft ci)[k]? = some true) (d : decode cc pc = .ok (.getfield idx, 3)) {g : Int → Option (α × pw_Sto)} (K : ∀ v, pw_Sp X cells slots (pc + 3) L (.int (iI v) :: st) σ (g v)) : pw_Sp X cells slots pc L (.ref o :: st) σ ((pw_gi ci o k σ).bind g) := by
  obtain ⟨⟨p, l, e, R, s, m, args, below, meth, c⟩, Q, ⟨b, D, c1, c2, c3⟩, out, mc, ms⟩ := X
  intro hF hN H locs ls hl hH hS
  by_cases h : o < σ.1 ∧ (pw_sh o).1 = ci
  · rw [pw_gi, if_pos h] at hF
    exact va_getN (D := D) (cl := pw_cl) hX.1 hX.2.1 (Ts := pw_gt) hX.2.2.2.2.2.1 hC.2.2.1 hX.2.2.2.2.1 hX.2.2.2.2.2.2.1.1 hH o (by rw [pw_ws_at h.1, pw_cell_o h.2 hC.2.1]) hC.1 k hk (va_Nw.use rfl (hX.2.2.2.2.2.2.1.2 _ hw)) (fun _ h9 => h9) (pw_flds_at hi) d (K _ hF hN H locs ls hl hH hS)
  · rw [pw_gi, if_neg h] at hF; cases hF
theorem sp_getR (hX : pw_Ok X cc own rm nL) (hC : pw_Cl ci C T N Y) (hk : k < N) (hw : Cond.fieldLink own idx (T k).1 (T k).2.1 (T k).2.2.1 ∈ pw_gt) (hi : (pw_ft ci)[k]? = some false) (d : decode cc pc = .ok (.getfield idx, 3)) {g : Nat → Option (α × pw_Sto)} (K : ∀ v, pw_Sp X cells slots (pc + 3) L (.ref v :: st) σ (g v)) : pw_Sp X cells slots pc L (.ref o :: st) σ ((pw_gr ci o k σ).bind g) := by
  obtain ⟨⟨p, l, e, R, s, m, args, below, meth, c⟩, Q, ⟨b, D, c1, c2, c3⟩, out, mc, ms⟩ := X
  intro hF hN H locs ls hl hH hS
  by_cases h : o < σ.1 ∧ (pw_sh o).1 = ci
  · rw [pw_gr, if_pos h] at hF
    cases hv : σ.2.2 o k with
    | none => rw [hv] at hF; cases hF
    | some v =>
      rw [hv] at hF
      refine va_get (D := D) (cl := pw_cl) (v := .ref (b + v)) hX.1 hX.2.1 (Ts := pw_gt) hX.2.2.2.2.2.1 hC.2.2.1 hX.2.2.2.2.1 hX.2.2.2.2.2.2.1.1 hH o (by rw [pw_ws_at h.1, pw_cell_o h.2 hC.2.1]) hC.1 k hk (hX.2.2.2.2.2.1 _ hw) (fun _ h9 => h9) ?_ d (K v hF hN H locs ls hl hH hS)
      rw [pw_flds_at hi]
      unfold pw_fld
      rw [hv]
      rfl
  · rw [pw_gr, if_neg h] at hF; cases hF
theorem sp_getRN (hX : pw_Ok X cc own rm nL) (hC : pw_Cl ci C T N Y) (hk : k < N) (hw : Cond.fieldLinkNest own idx (T k).1 (T k).2.1 (T k).2.2.1 host ∈ pw_nest) (hi : (pw_ft ci)[k]? = some false) (d : decode cc pc = .ok (.getfield idx, 3)) {g : Nat → Option (α × pw_Sto)} (K : ∀ v, pw_Sp X cells slots (pc + 3) L (.ref v :: st) σ (g v)) : pw_Sp X cells slots pc L (.ref o :: st) σ ((pw_gr ci o k σ).bind g) := by
  obtain ⟨⟨p, l, e, R, s, m, args, below, meth, c⟩, Q, ⟨b, D, c1, c2, c3⟩, out, mc, ms⟩ := X
  intro hF hN H locs ls hl hH hS
  by_cases h : o < σ.1 ∧ (pw_sh o).1 = ci
  · rw [pw_gr, if_pos h] at hF
    cases hv : σ.2.2 o k with
    | none => rw [hv] at hF; cases hF
    | some v =>
      rw [hv] at hF
      refine va_getN (D := D) (cl := pw_cl) (v := .ref (b + v)) hX.1 hX.2.1 (Ts := pw_gt) hX.2.2.2.2.2.1 hC.2.2.1 hX.2.2.2.2.1 hX.2.2.2.2.2.2.1.1 hH o (by rw [pw_ws_at h.1, pw_cell_o h.2 hC.2.1]) hC.1 k hk (va_Nw.use rfl (hX.2.2.2.2.2.2.1.2 _ hw)) (fun _ h9 => h9) ?_ d (K v hF hN H locs ls hl hH hS)
      rw [pw_flds_at hi]
      unfold pw_fld
      rw [hv]
      rfl
  · rw [pw_gr, if_neg h] at hF; cases hF
theorem pw_put_i {E : pw_E} (h : o < σ.1 ∧ (pw_sh o).1 = ci) (hc : ci < 11) (hi : (pw_ft ci)[k]? = some true) (v : Int) {H : Heap} (hP : va_P E.2.1 pw_cl ((pw_ws E σ).set o (E.1 + o, .inr (ci, (pw_flds E.1 σ o (pw_ft ci)).set k (.int (iI v))))) H) : va_P E.2.1 pw_cl (pw_ws E (σ.1, pw_u2 σ.2.1 o k v, σ.2.2)) H := by
  refine pw_va_P_setK (σ := σ) (σ' := (σ.1, pw_u2 σ.2.1 o k v, σ.2.2)) rfl h.1 (fun j hj => pw_cell_ne (pw_u2_ne hj) rfl) ?_ hP
  rw [pw_cell_o h.2 hc, pw_flds_set (σ' := (σ.1, pw_u2 σ.2.1 o k v, σ.2.2))]
  · intro j i hj
    cases i
    · rfl
    · show Value.int (iI (pw_u2 σ.2.1 o k v o j)) = Value.int (iI (σ.2.1 o j))
      rw [pw_u2_at, if_neg hj]
  · intro i h9
    rw [hi] at h9
    cases h9
    show Value.int (iI (pw_u2 σ.2.1 o k v o k)) = Value.int (iI v)
    rw [pw_u2_at, if_pos rfl]
theorem pw_put_r {E : pw_E} (h : o < σ.1 ∧ (pw_sh o).1 = ci) (hc : ci < 11) (hi : (pw_ft ci)[k]? = some false) (v : Nat) {H : Heap} (hP : va_P E.2.1 pw_cl ((pw_ws E σ).set o (E.1 + o, .inr (ci, (pw_flds E.1 σ o (pw_ft ci)).set k (.ref (E.1 + v))))) H) : va_P E.2.1 pw_cl (pw_ws E (σ.1, σ.2.1, pw_u2 σ.2.2 o k (some v))) H := by
  refine pw_va_P_setK (σ := σ) (σ' := (σ.1, σ.2.1, pw_u2 σ.2.2 o k (some v))) rfl h.1 (fun j hj => pw_cell_ne rfl (pw_u2_ne hj)) ?_ hP
  rw [pw_cell_o h.2 hc, pw_flds_set (σ' := (σ.1, σ.2.1, pw_u2 σ.2.2 o k (some v)))]
  · intro j i hj
    cases i
    · show va_rf ((pw_u2 σ.2.2 o k (some v) o j).map _) = va_rf ((σ.2.2 o j).map _)
      rw [pw_u2_at, if_neg hj]
    · rfl
  · intro i h9
    rw [hi] at h9
    cases h9
    show va_rf ((pw_u2 σ.2.2 o k (some v) o k).map _) = .ref (E.1 + v)
    rw [pw_u2_at, if_pos rfl]
    rfl
theorem sp_putI (hX : pw_Ok X cc own rm nL) (hC : pw_Cl ci C T N Y) (hk : k < N) (hw : Cond.fieldLink own idx (T k).1 (T k).2.1 (T k).2.2.1 ∈ pw_gt) (hi : (pw_ft ci)[k]? = some true) (hfin : (T k).2.2.2 = false) (hy : Y k = .int) {v : Int} (d : decode cc pc = .ok (.putfield idx, 3)) {g : pw_Sto → Option (α × pw_Sto)} (K : ∀ σ', pw_Sp X cells slots (pc + 3) L st σ' (g σ')) : pw_Sp X cells slots pc L (.int (iI v) :: .ref o :: st) σ ((pw_pi ci o k v σ).bind g) := by
  obtain ⟨⟨p, l, e, R, s, m, args, below, meth, c⟩, Q, ⟨b, D, c1, c2, c3⟩, out, mc, ms⟩ := X
  intro hF hN H locs ls hl hH hS
  by_cases h : o < σ.1 ∧ (pw_sh o).1 = ci
  · rw [pw_pi, if_pos h] at hF
    refine va_put (D := D) (cl := pw_cl) (v := .int (iI v)) hX.1 hX.2.1 (Ts := pw_gt) hX.2.2.2.2.2.1 hC.2.2.1 Y hC.2.2.2.1 hC.2.2.2.2.1 hX.2.2.2.2.1 hX.2.2.2.2.2.2.1.1 hH (pw_ws_D (b, D, c1, c2, c3) σ) hS o (by rw [pw_ws_at h.1, pw_cell_o h.2 hC.2.1]) hC.1 k hk (hX.2.2.2.2.2.1 _ hw) (fun _ h9 => h9) hfin (hC.2.2.2.1 k hk) (by rw [hy]; rfl) (by rw [hy]; rfl) (by unfold pw_flds; rw [List.length_mapIdx, hC.2.2.2.2.2]; exact hk) d (fun H1 locs1 hP1 hD1 hS1 => ?_)
    exact K (σ.1, pw_u2 σ.2.1 o k v, σ.2.2) hF hN H1 locs1 ls hl (pw_put_i (E := (b, D, c1, c2, c3)) h hC.2.1 hi v hP1) hS1
  · rw [pw_pi, if_neg h] at hF; cases hF
theorem sp_putIF (hX : pw_Ok X cc own rm nL) (hC : pw_Cl ci C T N Y) (hk : k < N) (hw : Cond.fieldLink own idx (T k).1 (T k).2.1 (T k).2.2.1 ∈ pw_gt) (hi : (pw_ft ci)[k]? = some true) (hfin : (T k).2.2.2 = true) (hin2 : X.1.2.2.2.2.2.2.2.2.1.name = "<init>") (hdecl : (T k).1 = own) (hy : Y k = .int) {v : Int} (d : decode cc pc = .ok (.putfield idx, 3)) {g : pw_Sto → Option (α × pw_Sto)} (K : ∀ σ', pw_Sp X cells slots (pc + 3) L st σ' (g σ')) : pw_Sp X cells slots pc L (.int (iI v) :: .ref o :: st) σ ((pw_pi ci o k v σ).bind g) := by
  obtain ⟨⟨p, l, e, R, s, m, args, below, meth, c⟩, Q, ⟨b, D, c1, c2, c3⟩, out, mc, ms⟩ := X
  intro hF hN H locs ls hl hH hS
  by_cases h : o < σ.1 ∧ (pw_sh o).1 = ci
  · rw [pw_pi, if_pos h] at hF
    refine va_putF (D := D) (cl := pw_cl) (v := .int (iI v)) hX.1 hX.2.1 (Ts := pw_gt) hX.2.2.2.2.2.1 hC.2.2.1 Y hC.2.2.2.1 hC.2.2.2.2.1 hX.2.2.2.2.1 hX.2.2.2.2.2.2.1.1 hH (pw_ws_D (b, D, c1, c2, c3) σ) hS o (by rw [pw_ws_at h.1, pw_cell_o h.2 hC.2.1]) hC.1 k hk (hX.2.2.2.2.2.1 _ hw) (fun _ h9 => h9) hfin hin2 hdecl (hC.2.2.2.1 k hk) (by rw [hy]; rfl) (by rw [hy]; rfl) (by unfold pw_flds; rw [List.length_mapIdx, hC.2.2.2.2.2]; exact hk) d (fun H1 locs1 hP1 hD1 hS1 => ?_)
    exact K (σ.1, pw_u2 σ.2.1 o k v, σ.2.2) hF hN H1 locs1 ls hl (pw_put_i (E := (b, D, c1, c2, c3)) h hC.2.1 hi v hP1) hS1
  · rw [pw_pi, if_neg h] at hF; cases hF
theorem sp_putR (hX : pw_Ok X cc own rm nL) (hC : pw_Cl ci C T N Y) (hk : k < N) (hw : Cond.fieldLink own idx (T k).1 (T k).2.1 (T k).2.2.1 ∈ pw_gt) (hi : (pw_ft ci)[k]? = some false) (hfin : (T k).2.2.2 = false) (hy : narrow (Y k) (.ref 0) = .ref 0 ∧ ∀ a, narrow (Y k) (.ref a) = .ref a ∧ fits (Y k) (.ref a) = true) {v : Nat} (d : decode cc pc = .ok (.putfield idx, 3)) {g : pw_Sto → Option (α × pw_Sto)} (K : ∀ σ', pw_Sp X cells slots (pc + 3) L st σ' (g σ')) : pw_Sp X cells slots pc L (.ref v :: .ref o :: st) σ ((pw_pr ci o k v σ).bind g) := by
  obtain ⟨⟨p, l, e, R, s, m, args, below, meth, c⟩, Q, ⟨b, D, c1, c2, c3⟩, out, mc, ms⟩ := X
  intro hF hN H locs ls hl hH hS
  by_cases h : o < σ.1 ∧ (pw_sh o).1 = ci
  · rw [pw_pr, if_pos h] at hF
    refine va_put (D := D) (cl := pw_cl) (v := .ref (b + v)) hX.1 hX.2.1 (Ts := pw_gt) hX.2.2.2.2.2.1 hC.2.2.1 Y hC.2.2.2.1 hC.2.2.2.2.1 hX.2.2.2.2.1 hX.2.2.2.2.2.2.1.1 hH (pw_ws_D (b, D, c1, c2, c3) σ) hS o (by rw [pw_ws_at h.1, pw_cell_o h.2 hC.2.1]) hC.1 k hk (hX.2.2.2.2.2.1 _ hw) (fun _ h9 => h9) hfin (hC.2.2.2.1 k hk) (hy.2 (b + v)).1 (hy.2 (b + v)).2 (by unfold pw_flds; rw [List.length_mapIdx, hC.2.2.2.2.2]; exact hk) d (fun H1 locs1 hP1 hD1 hS1 => ?_)
    exact K (σ.1, σ.2.1, pw_u2 σ.2.2 o k (some v)) hF hN H1 locs1 ls hl (pw_put_r (E := (b, D, c1, c2, c3)) h hC.2.1 hi v hP1) hS1
  · rw [pw_pr, if_neg h] at hF; cases hF
theorem sp_putRF (hX : pw_Ok X cc own rm nL) (hC : pw_Cl ci C T N Y) (hk : k < N) (hw : Cond.fieldLink own idx (T k).1 (T k).2.1 (T k).2.2.1 ∈ pw_gt) (hi : (pw_ft ci)[k]? = some false) (hfin : (T k).2.2.2 = true) (hin2 : X.1.2.2.2.2.2.2.2.2.1.name = "<init>") (hdecl : (T k).1 = own) (hy : narrow (Y k) (.ref 0) = .ref 0 ∧ ∀ a, narrow (Y k) (.ref a) = .ref a ∧ fits (Y k) (.ref a) = true) {v : Nat} (d : decode cc pc = .ok (.putfield idx, 3)) {g : pw_Sto → Option (α × pw_Sto)} (K : ∀ σ', pw_Sp X cells slots (pc + 3) L st σ' (g σ')) : pw_Sp X cells slots pc L (.ref v :: .ref o :: st) σ ((pw_pr ci o k v σ).bind g) := by
  obtain ⟨⟨p, l, e, R, s, m, args, below, meth, c⟩, Q, ⟨b, D, c1, c2, c3⟩, out, mc, ms⟩ := X
  intro hF hN H locs ls hl hH hS
  by_cases h : o < σ.1 ∧ (pw_sh o).1 = ci
  · rw [pw_pr, if_pos h] at hF
    refine va_putF (D := D) (cl := pw_cl) (v := .ref (b + v)) hX.1 hX.2.1 (Ts := pw_gt) hX.2.2.2.2.2.1 hC.2.2.1 Y hC.2.2.2.1 hC.2.2.2.2.1 hX.2.2.2.2.1 hX.2.2.2.2.2.2.1.1 hH (pw_ws_D (b, D, c1, c2, c3) σ) hS o (by rw [pw_ws_at h.1, pw_cell_o h.2 hC.2.1]) hC.1 k hk (hX.2.2.2.2.2.1 _ hw) (fun _ h9 => h9) hfin hin2 hdecl (hC.2.2.2.1 k hk) (hy.2 (b + v)).1 (hy.2 (b + v)).2 (by unfold pw_flds; rw [List.length_mapIdx, hC.2.2.2.2.2]; exact hk) d (fun H1 locs1 hP1 hD1 hS1 => ?_)
    exact K (σ.1, σ.2.1, pw_u2 σ.2.2 o k (some v)) hF hN H1 locs1 ls hl (pw_put_r (E := (b, D, c1, c2, c3)) h hC.2.1 hi v hP1) hS1
  · rw [pw_pr, if_neg h] at hF; cases hF
theorem sp_putIN (hX : pw_Ok X cc own rm nL) (hC : pw_Cl ci C T N Y) (hk : k < N) (hw : Cond.fieldLinkNest own idx (T k).1 (T k).2.1 (T k).2.2.1 host ∈ pw_nest) (hi : (pw_ft ci)[k]? = some true) (hfin : (T k).2.2.2 = false) (hy : Y k = .int) {v : Int} (d : decode cc pc = .ok (.putfield idx, 3)) {g : pw_Sto → Option (α × pw_Sto)} (K : ∀ σ', pw_Sp X cells slots (pc + 3) L st σ' (g σ')) : pw_Sp X cells slots pc L (.int (iI v) :: .ref o :: st) σ ((pw_pi ci o k v σ).bind g) := by
  obtain ⟨⟨p, l, e, R, s, m, args, below, meth, c⟩, Q, ⟨b, D, c1, c2, c3⟩, out, mc, ms⟩ := X
  intro hF hN H locs ls hl hH hS
  by_cases h : o < σ.1 ∧ (pw_sh o).1 = ci
  · rw [pw_pi, if_pos h] at hF
    refine va_putN (D := D) (cl := pw_cl) (v := .int (iI v)) hX.1 hX.2.1 (Ts := pw_gt) hX.2.2.2.2.2.1 hC.2.2.1 Y hC.2.2.2.1 hC.2.2.2.2.1 hX.2.2.2.2.1 hX.2.2.2.2.2.2.1.1 hH (pw_ws_D (b, D, c1, c2, c3) σ) hS o (by rw [pw_ws_at h.1, pw_cell_o h.2 hC.2.1]) hC.1 k hk (va_Nw.use rfl (hX.2.2.2.2.2.2.1.2 _ hw)) (fun _ h9 => h9) hfin (hC.2.2.2.1 k hk) (by rw [hy]; rfl) (by rw [hy]; rfl) (by unfold pw_flds; rw [List.length_mapIdx, hC.2.2.2.2.2]; exact hk) d (fun H1 locs1 hP1 hD1 hS1 => ?_)
    exact K (σ.1, pw_u2 σ.2.1 o k v, σ.2.2) hF hN H1 locs1 ls hl (pw_put_i (E := (b, D, c1, c2, c3)) h hC.2.1 hi v hP1) hS1
  · rw [pw_pi, if_neg h] at hF; cases hF
theorem sp_putRN (hX : pw_Ok X cc own rm nL) (hC : pw_Cl ci C T N Y) (hk : k < N) (hw : Cond.fieldLinkNest own idx (T k).1 (T k).2.1 (T k).2.2.1 host ∈ pw_nest) (hi : (pw_ft ci)[k]? = some false) (hfin : (T k).2.2.2 = false) (hy : narrow (Y k) (.ref 0) = .ref 0 ∧ ∀ a, narrow (Y k) (.ref a) = .ref a ∧ fits (Y k) (.ref a) = true) {v : Nat} (d : decode cc pc = .ok (.putfield idx, 3)) {g : pw_Sto → Option (α × pw_Sto)} (K : ∀ σ', pw_Sp X cells slots (pc + 3) L st σ' (g σ')) : pw_Sp X cells slots pc L (.ref v :: .ref o :: st) σ ((pw_pr ci o k v σ).bind g) := by
  obtain ⟨⟨p, l, e, R, s, m, args, below, meth, c⟩, Q, ⟨b, D, c1, c2, c3⟩, out, mc, ms⟩ := X
  intro hF hN H locs ls hl hH hS
  by_cases h : o < σ.1 ∧ (pw_sh o).1 = ci
  · rw [pw_pr, if_pos h] at hF
    refine va_putN (D := D) (cl := pw_cl) (v := .ref (b + v)) hX.1 hX.2.1 (Ts := pw_gt) hX.2.2.2.2.2.1 hC.2.2.1 Y hC.2.2.2.1 hC.2.2.2.2.1 hX.2.2.2.2.1 hX.2.2.2.2.2.2.1.1 hH (pw_ws_D (b, D, c1, c2, c3) σ) hS o (by rw [pw_ws_at h.1, pw_cell_o h.2 hC.2.1]) hC.1 k hk (va_Nw.use rfl (hX.2.2.2.2.2.2.1.2 _ hw)) (fun _ h9 => h9) hfin (hC.2.2.2.1 k hk) (hy.2 (b + v)).1 (hy.2 (b + v)).2 (by unfold pw_flds; rw [List.length_mapIdx, hC.2.2.2.2.2]; exact hk) d (fun H1 locs1 hP1 hD1 hS1 => ?_)
    exact K (σ.1, σ.2.1, pw_u2 σ.2.2 o k (some v)) hF hN H1 locs1 ls hl (pw_put_r (E := (b, D, c1, c2, c3)) h hC.2.1 hi v hP1) hS1
  · rw [pw_pr, if_neg h] at hF; cases hF
theorem pw_vin {i : Int} {a : Nat} (h : 0 ≤ i ∧ i < (pw_sh a).2) : vp_in (iI i) (pw_sh a).2 := by
  have := pw_sh_le a
  have hr : pw_R i := ⟨by omega, by omega⟩
  intro q
  rcases q with q | q
  · have := (iI_lt (x := i) (y := 0) hr (by omega)).mp q
    omega
  · rw [iI_cl hr] at q
    omega
theorem pw_icl {i : Int} {a : Nat} (h : 0 ≤ i ∧ i < (pw_sh a).2) : (iI i).toNatClampNeg = i.toNat := by
  have := pw_sh_le a
  exact iI_cl ⟨by omega, by omega⟩
theorem sp_iaload (hX : pw_Ok X cc own rm nL) {a : Nat} {i : Int} (d : decode cc pc = .ok (.iaload, 1)) {g : Int → Option (α × pw_Sto)} (K : ∀ v, pw_Sp X cells slots (pc + 1) L (.int (iI v) :: st) σ (g v)) : pw_Sp X cells slots pc L (.int (iI i) :: .ref a :: st) σ ((pw_ai a i σ).bind g) := by
  obtain ⟨⟨p, l, e, R, s, m, args, below, meth, c⟩, Q, ⟨b, D, c1, c2, c3⟩, out, mc, ms⟩ := X
  intro hF hN H locs ls hl hH hS
  by_cases h : (a < σ.1 ∧ (pw_sh a).1 = 11) ∧ (0 ≤ i ∧ i < (pw_sh a).2)
  · rw [pw_ai, if_pos h] at hF
    exact va_iald (D := D) (cl := pw_cl) hX.1 hX.2.1 hX.2.2.2.2.2.2.1.1 hH a 0 (by rw [pw_ws_at h.1.1, pw_cell_i h.1.2]) rfl (pw_vin h.2) d (by rw [pw_icl h.2]; exact K _ hF hN H locs ls hl hH hS)
  · rw [pw_ai, if_neg h] at hF; cases hF
theorem sp_iastore (hX : pw_Ok X cc own rm nL) {a : Nat} {i v : Int} (d : decode cc pc = .ok (.iastore, 1)) {g : pw_Sto → Option (α × pw_Sto)} (K : ∀ σ', pw_Sp X cells slots (pc + 1) L st σ' (g σ')) : pw_Sp X cells slots pc L (.int (iI v) :: .int (iI i) :: .ref a :: st) σ ((pw_si a i v σ).bind g) := by
  obtain ⟨⟨p, l, e, R, s, m, args, below, meth, c⟩, Q, ⟨b, D, c1, c2, c3⟩, out, mc, ms⟩ := X
  intro hF hN H locs ls hl hH hS
  by_cases h : (a < σ.1 ∧ (pw_sh a).1 = 11) ∧ (0 ≤ i ∧ i < (pw_sh a).2)
  · rw [pw_si, if_pos h] at hF
    refine va_iast (D := D) (cl := pw_cl) hX.1 hX.2.1 hX.2.2.2.2.2.2.1.1 hH (pw_ws_D (b, D, c1, c2, c3) σ) hS a 0 (by rw [pw_ws_at h.1.1, pw_cell_i h.1.2]) rfl (pw_vin h.2) d (fun H1 locs1 hP1 hD1 hS1 => ?_)
    rw [pw_icl h.2] at hP1
    refine K (σ.1, pw_u2 σ.2.1 a i.toNat v, σ.2.2) hF hN H1 locs1 ls hl (pw_va_P_setK (E := (b, D, c1, c2, c3)) (σ := σ) (σ' := (σ.1, pw_u2 σ.2.1 a i.toNat v, σ.2.2)) rfl h.1.1 (fun j hj => pw_cell_ne (pw_u2_ne hj) rfl) ?_ hP1) hS1
    rw [pw_cell_i h.1.2]
    refine congrArg (fun f => Sum.inl (c1, (pw_sh a).2, Sum.inl f)) (funext fun k => ?_)
    show iI (pw_u2 σ.2.1 a i.toNat v a k) = upd (fun k => iI (σ.2.1 a k)) i.toNat (iI v) k
    rw [pw_u2_at]
    unfold upd
    by_cases hk : k = i.toNat
    · rw [if_pos hk, if_pos hk]
    · rw [if_neg hk, if_neg hk]
  · rw [pw_si, if_neg h] at hF; cases hF
theorem sp_alen (hX : pw_Ok X cc own rm nL) {a : Nat} (d : decode cc pc = .ok (.arraylength, 1)) {g : Int → Option (α × pw_Sto)} (K : ∀ v, pw_Sp X cells slots (pc + 1) L (.int (iI v) :: st) σ (g v)) : pw_Sp X cells slots pc L (.ref a :: st) σ ((pw_al a σ).bind g) := by
  obtain ⟨⟨p, l, e, R, s, m, args, below, meth, c⟩, Q, ⟨b, D, c1, c2, c3⟩, out, mc, ms⟩ := X
  intro hF hN H locs ls hl hH hS
  by_cases h : a < σ.1 ∧ (pw_sh a).1 = 11
  · rw [pw_al, if_pos h] at hF
    exact va_alen (D := D) (cl := pw_cl) (x := ((pw_sh a).2, .inl (fun k => iI (σ.2.1 a k)))) hX.1 hX.2.1 hX.2.2.2.2.2.2.1.1 hH a 0 (by rw [pw_ws_at h.1, pw_cell_i h.2]) rfl rfl d (K _ hF hN H locs ls hl hH hS)
  · rw [pw_al, if_neg h] at hF; cases hF
theorem sp_aaS (hX : pw_Ok X cc own rm nL) {a : Nat} {i : Int} (d : decode cc pc = .ok (.aaload, 1)) {g : Nat → Option (α × pw_Sto)} (K : ∀ v, pw_Sp X cells slots (pc + 1) L (.ref v :: st) σ (g v)) : pw_Sp X cells slots pc L (.int (iI i) :: .ref a :: st) σ ((pw_ar 12 a i σ).bind g) := by
  obtain ⟨⟨p, l, e, R, s, m, args, below, meth, c⟩, Q, ⟨b, D, c1, c2, c3⟩, out, mc, ms⟩ := X
  intro hF hN H locs ls hl hH hS
  by_cases h : (a < σ.1 ∧ (pw_sh a).1 = 12) ∧ (0 ≤ i ∧ i < (pw_sh a).2)
  · rw [pw_ar, if_pos h] at hF
    cases hv : σ.2.2 a i.toNat with
    | none => rw [hv] at hF; cases hF
    | some v =>
      rw [hv] at hF
      refine va_aldq (D := D) (cl := pw_cl) hX.1 hX.2.1 hX.2.2.2.2.2.2.1.1 hH a 1 (by rw [pw_ws_at h.1.1, pw_cell_s h.1.2]) rfl (pw_vin h.2) d ?_
      dsimp only
      rw [pw_icl h.2, hv]
      exact K v hF hN H locs ls hl hH hS
  · rw [pw_ar, if_neg h] at hF; cases hF
theorem sp_aaG (hX : pw_Ok X cc own rm nL) {a : Nat} {i : Int} (d : decode cc pc = .ok (.aaload, 1)) {g : Nat → Option (α × pw_Sto)} (K : ∀ v, pw_Sp X cells slots (pc + 1) L (.ref v :: st) σ (g v)) : pw_Sp X cells slots pc L (.int (iI i) :: .ref a :: st) σ ((pw_ar 13 a i σ).bind g) := by
  obtain ⟨⟨p, l, e, R, s, m, args, below, meth, c⟩, Q, ⟨b, D, c1, c2, c3⟩, out, mc, ms⟩ := X
  intro hF hN H locs ls hl hH hS
  by_cases h : (a < σ.1 ∧ (pw_sh a).1 = 13) ∧ (0 ≤ i ∧ i < (pw_sh a).2)
  · rw [pw_ar, if_pos h] at hF
    cases hv : σ.2.2 a i.toNat with
    | none => rw [hv] at hF; cases hF
    | some v =>
      rw [hv] at hF
      have ha : (pw_ws (b, D, c1, c2, c3) σ)[a]? = some (b + a, .inl (c3, (pw_sh a).2, .inr (.inr (.inr (.inr (fun k => (σ.2.2 a k).map (fun j => b + j))))))) := by rw [pw_ws_at h.1.1, pw_cell_g h.1.2]
      have hK := hX.2.2.2.2.2.2.1.1
      have ht : (pw_tys (b, D, c1, c2, c3))[2]? = some (c3, .array .int) := rfl
      refine W.aald (v := .ref (b + v)) (ty := .array .int) hX.1 hX.2.1 (hH a _ ha) ((hK.2 2 _ ht).1 (pw_sh a).2 (fun j => va_rf ((σ.2.2 a j).map (fun j => b + j)))) rfl (fun q => by cases q) (by show ¬ (iI i < 0 ∨ (arrV _ _ _).slots.size ≤ _); rw [arrV_size]; exact pw_vin h.2) (by show (arrV _ _ _).slots[_]? = _; rw [pw_icl h.2, arrV_read _ _ (show i.toNat < (pw_sh a).2 by omega)]; show some (va_rf ((σ.2.2 a i.toNat).map _)) = _; rw [hv]; rfl) rfl rfl d (K v hF hN H locs ls hl hH hS)
  · rw [pw_ar, if_neg h] at hF; cases hF
theorem sp_copy (hX : pw_Ok X cc own rm nL) {a d : Nat} {i j n : Int} (hw : Cond.methodLink own idx arraycopyName ∈ pw_gt) (h1 : Cond.native arraycopyName ∈ pw_gt) (h2 : Cond.static arraycopyName ∈ pw_gt) (h3 : Cond.initialized "java/lang/System" ∈ pw_gt) (hfr : 1 ≤ rm.frames) (hlo : (st.map fun v => v.category).sum + (nativeFrameWords "java/lang/System" "arraycopy" 5 + 11) ≤ rm.locals) (dc : decode cc pc = .ok (.invokestatic idx, 3)) {g : pw_Sto → Option (α × pw_Sto)} (K : ∀ σ', pw_Sp X cells slots (pc + 3) L st σ' (g σ')) : pw_Sp X cells slots pc L (.int (iI n) :: .int (iI j) :: .ref d :: .int (iI i) :: .ref a :: st) σ ((pw_cp a i d j n σ).bind g) := by
  obtain ⟨⟨p, l, e, R, s, m, args, below, meth, c⟩, Q, ⟨b, D, c1, c2, c3⟩, out, mc, ms⟩ := X
  intro hF hN H locs ls hl hH hS
  by_cases h : ((a < σ.1 ∧ (pw_sh a).1 = 11) ∧ (d < σ.1 ∧ (pw_sh d).1 = 11)) ∧ ((0 ≤ i ∧ 0 ≤ j ∧ 0 ≤ n) ∧ (i + n ≤ (pw_sh a).2 ∧ j + n ≤ (pw_sh d).2))
  · rw [pw_cp, if_pos h] at hF
    have hst : ((st.map (pw_tr b)).map fun v => v.category) = st.map fun v => v.category := by
      rw [List.map_map]
      congr 1
      funext v
      exact pw_tr_cat b v
    have z1 := pw_sh_le a
    have z2 := pw_sh_le d
    have ri : pw_R i := ⟨by omega, by omega⟩
    have rj : pw_R j := ⟨by omega, by omega⟩
    have rn : pw_R n := ⟨by omega, by omega⟩
    have ni : ¬ iI i < 0 := fun q => by have := (iI_lt (x := i) (y := 0) ri (by omega)).mp q; omega
    have nj : ¬ iI j < 0 := fun q => by have := (iI_lt (x := j) (y := 0) rj (by omega)).mp q; omega
    have nn : ¬ iI n < 0 := fun q => by have := (iI_lt (x := n) (y := 0) rn (by omega)).mp q; omega
    refine va_copyi (D := D) (cl := pw_cl) (ty := .int) hX.1 hX.2.1 (hl.1.symm) hX.2.2.2.2.1 (hX.2.2.2.2.2.1 _ hw) (hX.2.2.2.2.2.1 _ h1) (hX.2.2.2.2.2.1 _ h2) (hX.2.2.2.2.2.1 _ h3) hX.2.2.2.2.2.2.1.1 hH (pw_ws_D (b, D, c1, c2, c3) σ) hS a d 0 0 (by rw [pw_ws_at h.1.1.1, pw_cell_i h.1.1.2]) (by rw [pw_ws_at h.1.2.1, pw_cell_i h.1.2.2]) rfl rfl rfl ni nj nn (by rw [iI_cl ri, iI_cl rn]; omega) (by rw [iI_cl rj, iI_cl rn]; omega) (fun _ _ => rfl) (by rw [hX.2.2.2.1]; exact hfr) (by rw [hX.2.2.2.1, hst]; exact hlo) dc (fun H1 locs1 hP1 hD1 hS1 => ?_)
    rw [iI_cl ri, iI_cl rj, iI_cl rn] at hP1
    refine K _ hF hN H1 locs1 ls hl (pw_va_P_setK (E := (b, D, c1, c2, c3)) (σ := σ) (σ' := (σ.1, (fun q => if q = d then va_cpy (σ.2.1 a) (σ.2.1 d) i.toNat j.toNat n.toNat else σ.2.1 q), σ.2.2)) rfl h.1.2.1 (fun j hj => pw_cell_ne (if_neg hj) rfl) ?_ hP1) hS1
    rw [pw_cell_i h.1.2.2]
    refine congrArg (fun f => Sum.inl (c1, (pw_sh d).2, Sum.inl f)) (funext fun k => ?_)
    show iI ((if d = d then va_cpy (σ.2.1 a) (σ.2.1 d) i.toNat j.toNat n.toNat else σ.2.1 d) k) = va_cpy (fun k => iI (σ.2.1 a k)) (fun k => iI (σ.2.1 d k)) i.toNat j.toNat n.toNat k
    rw [if_pos rfl]
    unfold va_cpy
    by_cases hk : j.toNat ≤ k ∧ k < j.toNat + n.toNat
    · rw [if_pos hk, if_pos hk]
    · rw [if_neg hk, if_neg hk]
  · rw [pw_cp, if_neg h] at hF; cases hF
end PWH
