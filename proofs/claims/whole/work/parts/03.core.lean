/-! the store: how many cells there are, the ints of each cell, the references of each cell (by number) -/
abbrev pw_Sto : Type := Nat × (Nat → Nat → Int) × (Nat → Nat → Option Nat)
def iI (z : Int) : Int32 := Int32.ofInt z
abbrev pw_R (x : Int) : Prop := -2147483648 ≤ x ∧ x ≤ 2147483647
theorem iI_add (x y : Int) : iI x + iI y = iI (x + y) := (Int32.ofInt_add x y).symm
theorem iI_sub (x y : Int) : iI x - iI y = iI (x - y) := (Int32.ofInt_sub x y).symm
theorem iI_mul (x y : Int) : iI x * iI y = iI (x * y) := (Int32.ofInt_mul x y).symm
theorem iI_neg (x : Int) : -iI x = iI (-x) := (Int32.ofInt_neg x).symm
theorem iI_toInt {x : Int} (h : pw_R x) : (iI x).toInt = x := Int32.toInt_ofInt_of_le (by omega) (by omega)
theorem iI_of (v : Int32) : iI v.toInt = v := Int32.ofInt_toInt v
theorem iI_le {x y : Int} (hx : pw_R x) (hy : pw_R y) : iI x ≤ iI y ↔ x ≤ y := by rw [Int32.le_iff_toInt_le, iI_toInt hx, iI_toInt hy]
theorem iI_lt {x y : Int} (hx : pw_R x) (hy : pw_R y) : iI x < iI y ↔ x < y := by rw [Int32.lt_iff_toInt_lt, iI_toInt hx, iI_toInt hy]
theorem iI_eq {x y : Int} (hx : pw_R x) (hy : pw_R y) : iI x = iI y ↔ x = y := by rw [← Int32.toInt_inj, iI_toInt hx, iI_toInt hy]
theorem iI_cl {x : Int} (h : pw_R x) : (iI x).toNatClampNeg = x.toNat := Int32.toNatClampNeg_ofInt_of_le (by omega) (by omega)
theorem iI_rem {x y : Int} (hx : pw_R x) (hy : pw_R y) (h0 : 0 < y) : iI x - iI x / iI y * iI y = iI (x.tmod y) := by
  have h : iI x / iI y = iI (x.tdiv y) := (Int32.ofInt_tdiv (by show -2147483648 ≤ x; omega) (by show x ≤ 2147483647; omega) (by show -2147483648 ≤ y; omega) (by show y ≤ 2147483647; omega)).symm
  rw [h, iI_mul, iI_sub, Int.tmod_def, Int.mul_comm]
def pw_gt : List Cond := lw_tbl.filter goodWord
theorem pw_gt_at {w : Cond} (i : Nat) (h : lw_tbl[i]? = some w) (hg : goodWord w = true) : w ∈ pw_gt := List.mem_filter.mpr ⟨List.mem_of_getElem? h, hg⟩
theorem pw_good {c2 : Cond} (h : c2 ∈ pw_gt) : GoodIn pw_gt (c2 :: pw_gt) := by
  intro w hw
  have hm : w ∈ pw_gt := by
    rcases List.mem_cons.mp hw with e | e
    · rw [e]; exact h
    · exact e
  exact ⟨hm, good_of_word (List.mem_filter.mp hm).2⟩
def pw_tr (b : Nat) : Value → Value
  | .ref i => .ref (b + i)
  | .retAddr a => .ref a
  | v => v
theorem pw_tr_cat (b : Nat) (v : Value) : (pw_tr b v).category = v.category := by cases v <;> rfl
def pw_trq (b : Nat) (q : Nat × Value) : Nat × Value := (q.1, pw_tr b q.2)
def pw_u2 {β : Type} (f : Nat → Nat → β) (o k : Nat) (v : β) : Nat → Nat → β := fun i => if i = o then (fun j => if j = k then v else f o j) else f i
def pw_fld (b : Nat) (σ : pw_Sto) (i : Nat) (isI : Bool) (k : Nat) : Value := match isI with
  | true => .int (iI (σ.2.1 i k))
  | false => va_rf ((σ.2.2 i k).map (fun j => b + j))
def pw_flds (b : Nat) (σ : pw_Sto) (i : Nat) (t : List Bool) : List Value := t.mapIdx (fun k isI => pw_fld b σ i isI k)
abbrev pw_E : Type := Nat × va_G × ClassId × ClassId × ClassId
def pw_cell (E : pw_E) (σ : pw_Sto) (i : Nat) : va_E :=
  if (pw_sh i).1 = 11 then .inl (E.2.2.1, (pw_sh i).2, .inl (fun k => iI (σ.2.1 i k)))
  else if (pw_sh i).1 = 12 then .inl (E.2.2.2.1, (pw_sh i).2, .inr (.inr (.inr (.inr (fun k => (σ.2.2 i k).map (fun j => E.1 + j))))))
  else if (pw_sh i).1 = 13 then .inl (E.2.2.2.2, (pw_sh i).2, .inr (.inr (.inr (.inr (fun k => (σ.2.2 i k).map (fun j => E.1 + j))))))
  else .inr ((pw_sh i).1, pw_flds E.1 σ i (pw_ft (pw_sh i).1))
def pw_ws (E : pw_E) (σ : pw_Sto) : va_W := (List.range σ.1).map (fun i => (E.1 + i, pw_cell E σ i))
def pw_tys (E : pw_E) : List (ClassId × FieldType) := [(E.2.2.1, .int), (E.2.2.2.1, .object "PadeWorkbench$State"), (E.2.2.2.2, .array .int)]
def pw_H (E : pw_E) (σ : pw_Sto) (H : Heap) : Prop := va_P E.2.1 pw_cl (pw_ws E σ) H
def pw_ov (ty : FieldType) (U : State) : Prop := (Cond.arrayOver ty).before #[] U = true
def pw_T (E : pw_E) (U : State) : Prop := va_K E.2.1 pw_cl (pw_tys E) U ∧ (∀ w ∈ pw_nest, va_Nw w U)
def pw_U (E : pw_E) (σ : pw_Sto) (U : State) : Prop := pw_H E σ U.heap ∧ U.heap.size = E.1 + σ.1 ∧ pw_T E U
theorem pw_ws_at {E : pw_E} {σ : pw_Sto} {i : Nat} (h : i < σ.1) : (pw_ws E σ)[i]? = some (E.1 + i, pw_cell E σ i) := by
  unfold pw_ws
  rw [List.getElem?_map, List.getElem?_range h]
  rfl
theorem pw_ws_D (E : pw_E) (σ : pw_Sto) : va_D (fun q => E.1 ≤ q) (pw_ws E σ) := by
  have key : ∀ (k : Nat) (q : Nat × va_E), (pw_ws E σ)[k]? = some q → q.1 = E.1 + k := by
    intro k q h
    unfold pw_ws at h
    rw [List.getElem?_map] at h
    by_cases hk : k < σ.1
    · rw [List.getElem?_range hk] at h
      cases h
      rfl
    · rw [List.getElem?_eq_none (by rw [List.length_range]; omega)] at h
      cases h
  refine ⟨fun i j p q hi hj h => ?_, fun k q h => ?_⟩
  · have h1 := key i p hi
    have h2 := key j q hj
    omega
  · have h1 := key k q h
    show E.1 ≤ q.1
    omega
theorem pw_ws_set {E : pw_E} {σ σ' : pw_Sto} {o : Nat} (hN : σ'.1 = σ.1) (ho : o < σ.1) (hc : ∀ j, j ≠ o → pw_cell E σ' j = pw_cell E σ j) {e : va_E} (he : pw_cell E σ' o = e) : (pw_ws E σ).set o (E.1 + o, e) = pw_ws E σ' := by
  apply List.ext_getElem?
  intro k
  by_cases hk : k = o
  · subst hk
    rw [List.getElem?_set_self (by unfold pw_ws; simpa using ho), pw_ws_at (by rw [hN]; exact ho), he]
  · rw [List.getElem?_set_ne (Ne.symm hk)]
    unfold pw_ws
    rw [hN, List.getElem?_map, List.getElem?_map]
    by_cases h : k < σ.1
    · rw [List.getElem?_range h]
      show some (E.1 + k, pw_cell E σ k) = some (E.1 + k, pw_cell E σ' k)
      rw [hc k hk]
    · rw [List.getElem?_eq_none (by rw [List.length_range]; omega)]
      rfl
theorem pw_va_P_setK {E : pw_E} {σ σ' : pw_Sto} {H : Heap} {o : Nat} {e : va_E} (hN : σ'.1 = σ.1) (ho : o < σ.1) (hc : ∀ j, j ≠ o → pw_cell E σ' j = pw_cell E σ j) (he : pw_cell E σ' o = e) (h : va_P E.2.1 pw_cl ((pw_ws E σ).set o (E.1 + o, e)) H) : va_P E.2.1 pw_cl (pw_ws E σ') H := by
  rw [pw_ws_set hN ho hc he] at h
  exact h
theorem pw_T.moved {E : pw_E} {u U : State} (hW : u.WarmedH U.vm) (h : pw_T E u) : pw_T E U := ⟨va_K.moved hW.alike h.1, fun w hw => pw_nest_warm hW hw (h.2 w hw)⟩
/-! the machine's context of a walk, in one: program .. code; the end; base, classes; the outcome; new cells, new slots -/
abbrev pw_X (α : Type) : Type := (Program × Launch × Env × Room × State × MethodId × Array Value × List Frame × Method × Code) × (State → Prop) × pw_E × (α × pw_Sto) × Nat × Nat
def pw_W {α : Type} (X : pw_X α) (H : Heap) (locs : List Loc) (cells slots : Nat) (g : JFrame) : Prop :=
  W X.1.1 X.1.2.1 X.1.2.2.1 X.1.2.2.2.1 X.1.2.2.2.2.1 X.1.2.2.2.2.2.1 X.1.2.2.2.2.2.2.1 X.1.2.2.2.2.2.2.2.1 X.1.2.2.2.2.2.2.2.2.1 X.1.2.2.2.2.2.2.2.2.2 H locs cells slots X.2.1 g
def pw_Sp {α : Type} (X : pw_X α) (cells slots pc : Nat) (L : List (Nat × Value)) (st : List Value) (σ : pw_Sto) (F : Option (α × pw_Sto)) : Prop :=
  F = some X.2.2.2.1 → X.2.2.1.1 + σ.1 = X.1.2.2.2.2.1.heap.size + cells → ∀ (H : Heap) (locs : List Loc) (ls : Array Slot), lv_has ls X.1.2.2.2.2.2.2.2.2.2.maxLocals (L.map (pw_trq X.2.2.1.1)) → pw_H X.2.2.1 σ H → va_S (fun q => X.2.2.1.1 ≤ q) X.1.2.2.2.2.1.heap H locs → pw_W X H locs cells slots (F0 X.1.2.2.2.2.2.1 pc ls (st.map (pw_tr X.2.2.1.1)))
/-- what a walk stands on: the machine, the bytes, the words, the room -/
def pw_Ok {α : Type} (X : pw_X α) (cc : ByteArray) (own : String) (rm : Room) (nL : Nat) : Prop :=
  X.1.1.tables.exec = Jvm.exec ∧ X.1.2.2.2.2.2.2.2.2.2.code = cc ∧ X.1.2.2.2.2.2.2.2.2.2.maxLocals = nL ∧ X.1.2.2.2.1 = rm ∧ X.1.2.2.2.2.1.vm.findClass own = some X.1.2.2.2.2.2.1.cls ∧ (∀ w ∈ pw_gt, w.before X.1.2.2.2.2.2.2.1 X.1.2.2.2.2.1 = true) ∧ pw_T X.2.2.1 X.1.2.2.2.2.1 ∧ X.2.2.1.1 ≤ X.1.2.2.2.2.1.heap.size ∧ X.2.2.2.2.1 = rm.cells ∧ X.2.2.2.2.2 = rm.slots
theorem pw_none {α : Type} {X : pw_X α} {cells slots pc : Nat} {L : List (Nat × Value)} {st : List Value} {σ : pw_Sto} : pw_Sp X cells slots pc L st σ none := fun h => by cases h
theorem pw_filt {b : Nat} {L : List (Nat × Value)} (P : Nat → Nat → Bool) : (L.map (pw_trq b)).filter (fun q => P q.1 q.2.category) = (L.filter (fun q => P q.1 q.2.category)).map (pw_trq b) := by
  rw [List.filter_map]
  congr 1
  apply congrArg (fun f => List.filter f L)
  funext q
  show P q.1 (pw_tr b q.2).category = P q.1 q.2.category
  rw [pw_tr_cat]
theorem pw_hasEq {ls : Array Slot} {n : Nat} {l l' : List (Nat × Value)} (h : l = l') (k : lv_has ls n l) : lv_has ls n l' := h ▸ k
def pw_st1 (i : Nat) (v : Value) (L : List (Nat × Value)) : List (Nat × Value) := (i, v) :: L.filter (fun q => !(q.1 == i) && !(q.1 + 1 == i && q.2.category == 2))
def pw_st2 (i : Nat) (v : Value) (L : List (Nat × Value)) : List (Nat × Value) := (i, v) :: L.filter (fun q => !(q.1 == i) && (!(q.1 == i + 1) && !(q.1 + 1 == i && q.2.category == 2)))
theorem pw_st1_eq {b i : Nat} {v : Value} {L L' : List (Nat × Value)} (h : pw_st1 i v L = L') : (i, pw_tr b v) :: (L.map (pw_trq b)).filter (fun q => !(q.1 == i) && !(q.1 + 1 == i && q.2.category == 2)) = L'.map (pw_trq b) := by
  rw [← h]
  unfold pw_st1
  rw [List.map_cons]
  exact congrArg (fun l => (i, pw_tr b v) :: l) (pw_filt (fun k c => !(k == i) && !(k + 1 == i && c == 2)))
theorem pw_st2_eq {b i : Nat} {v : Value} {L L' : List (Nat × Value)} (h : pw_st2 i v L = L') : (i, pw_tr b v) :: (L.map (pw_trq b)).filter (fun q => !(q.1 == i) && (!(q.1 == i + 1) && !(q.1 + 1 == i && q.2.category == 2))) = L'.map (pw_trq b) := by
  rw [← h]
  unfold pw_st2
  rw [List.map_cons]
  exact congrArg (fun l => (i, pw_tr b v) :: l) (pw_filt (fun k c => !(k == i) && (!(k == i + 1) && !(k + 1 == i && c == 2))))
theorem pw_at {b : Nat} {L : List (Nat × Value)} {k i : Nat} {v : Value} (h : L[k]? = some (i, v)) : (L.map (pw_trq b))[k]? = some (i, pw_tr b v) := by
  rw [List.getElem?_map, h]
  rfl
theorem iI_andm (k : Nat) (hk : k < 32) (x : Int) : iI x &&& Int32.ofInt (2 ^ k - 1) = iI (x % (2 ^ k : Nat)) := by
  rw [← Int32.toBitVec_inj]
  show BitVec.ofInt 32 x &&& BitVec.ofInt 32 (2 ^ k - 1) = BitVec.ofInt 32 (x % (2 ^ k : Nat))
  apply BitVec.eq_of_toNat_eq
  have h2 : (0 : Int) < (2 ^ k : Nat) := by exact_mod_cast Nat.two_pow_pos k
  have hle : 2 ^ k ≤ 2 ^ 31 := Nat.pow_le_pow_right (by omega) (by omega)
  rw [BitVec.toNat_and, BitVec.toNat_ofInt, BitVec.toNat_ofInt, BitVec.toNat_ofInt]
  have e1 : ((2 ^ k - 1 : Int) % ((2 ^ 32 : Nat) : Int)).toNat = 2 ^ k - 1 := by
    have : (2 ^ k - 1 : Int) = ((2 ^ k - 1 : Nat) : Int) := by
      rw [Int.natCast_sub (Nat.two_pow_pos k), Int.natCast_pow]
      rfl
    rw [this, ← Int.natCast_emod, Int.toNat_natCast, Nat.mod_eq_of_lt (by omega)]
  rw [e1, Nat.and_two_pow_sub_one_eq_mod]
  have hz : 0 ≤ x % ((2 ^ 32 : Nat) : Int) := Int.emod_nonneg _ (by decide)
  have hm : 0 ≤ x % ((2 ^ k : Nat) : Int) := Int.emod_nonneg _ (by omega)
  have hm2 : x % ((2 ^ k : Nat) : Int) < ((2 ^ k : Nat) : Int) := Int.emod_lt_of_pos _ h2
  have e2 : ((x % ((2 ^ 32 : Nat) : Int)).toNat % 2 ^ k : Nat) = (x % ((2 ^ k : Nat) : Int)).toNat := by
    have h5 : (((x % ((2 ^ 32 : Nat) : Int)).toNat % 2 ^ k : Nat) : Int) = ((x % ((2 ^ k : Nat) : Int)).toNat : Int) := by
      rw [Int.natCast_emod, Int.toNat_of_nonneg hz, Int.toNat_of_nonneg hm]
      apply Int.emod_emod_of_dvd
      exact_mod_cast Nat.pow_dvd_pow 2 (by omega : k ≤ 32)
    exact_mod_cast h5
  rw [e2]
  have h6 : x % ((2 ^ k : Nat) : Int) < ((2 ^ 32 : Nat) : Int) := by omega
  rw [Int.emod_eq_of_lt hm h6]
theorem iI_and1 (x : Int) : iI x &&& iI 1 = iI (x % 2) := iI_andm 1 (by decide) x
theorem iI_and3 (x : Int) : iI x &&& iI 3 = iI (x % 4) := iI_andm 2 (by decide) x
theorem iI_and31 (x : Int) : iI x &&& iI 31 = iI (x % 32) := iI_andm 5 (by decide) x
theorem iI_shr1 {x : Int} (h : 0 ≤ x ∧ x ≤ 2147483647) : iI x >>> (iI 1 &&& 31) = iI (x / 2) := by
  rw [← Int32.toInt_inj]
  have e : (iI 1 &&& 31 : Int32) = 1 := by decide
  rw [e, iI_toInt (x := x / 2) (by omega)]
  have e2 : ((Int32.toBitVec 1).smod 32).toNat = 1 := by decide
  show ((iI x).toBitVec.sshiftRight ((Int32.toBitVec 1).smod 32).toNat).toInt = x / 2
  rw [e2]
  rw [BitVec.toInt_sshiftRight]
  have e3 : (iI x).toBitVec.toInt = x := iI_toInt (by omega)
  rw [e3, Int.shiftRight_eq_div_pow]
  rfl
def pw_ck {β : Type} (x y : Int) (F : Option β) : Option β := if pw_R x ∧ pw_R y then F else none
theorem pw_ck_ok {β : Type} {x y : Int} {F : Option β} (hx : pw_R x) (hy : pw_R y) : pw_ck x y F = F := if_pos ⟨hx, hy⟩
section PWR
variable {α : Type} {X : pw_X α} {cc : ByteArray} {own : String} {rm : Room} {nL cells slots pc : Nat} {L L' : List (Nat × Value)} {st : List Value} {σ : pw_Sto} {F : Option (α × pw_Sto)}
theorem sp_iconst (hX : pw_Ok X cc own rm nL) {n : Int} (d : decode cc pc = .ok (.iconst n, 1)) (K : pw_Sp X cells slots (pc + 1) L (.int (iI n) :: st) σ F) : pw_Sp X cells slots pc L (st) σ F := by
  obtain ⟨⟨p, l, e, R, s, m, args, below, meth, c⟩, Q, ⟨b, D, c1, c2, c3⟩, out, mc, ms⟩ := X
  intro hF hN H locs ls hl hH hS
  exact lv_iconst hX.1 hX.2.1 d rfl (K hF hN H locs ls hl hH hS)
theorem sp_bipush (hX : pw_Ok X cc own rm nL) {n : Int} (hv : (Int8.ofInt n).toInt32 = iI n) (d : decode cc pc = .ok (.bipush n, 2)) (K : pw_Sp X cells slots (pc + 2) L (.int (iI n) :: st) σ F) : pw_Sp X cells slots pc L (st) σ F := by
  obtain ⟨⟨p, l, e, R, s, m, args, below, meth, c⟩, Q, ⟨b, D, c1, c2, c3⟩, out, mc, ms⟩ := X
  intro hF hN H locs ls hl hH hS
  exact lv_bipush hX.1 hX.2.1 d hv (K hF hN H locs ls hl hH hS)
theorem sp_sipush (hX : pw_Ok X cc own rm nL) {n : Int} (hv : (Int16.ofInt n).toInt32 = iI n) (d : decode cc pc = .ok (.sipush n, 3)) (K : pw_Sp X cells slots (pc + 3) L (.int (iI n) :: st) σ F) : pw_Sp X cells slots pc L (st) σ F := by
  obtain ⟨⟨p, l, e, R, s, m, args, below, meth, c⟩, Q, ⟨b, D, c1, c2, c3⟩, out, mc, ms⟩ := X
  intro hF hN H locs ls hl hH hS
  exact lv_sipush hX.1 hX.2.1 d hv (K hF hN H locs ls hl hH hS)
theorem sp_ldc2 (hX : pw_Ok X cc own rm nL) {i : Nat} (v : Int64) (hw : Cond.constantLong own i v ∈ pw_gt) (d : decode cc pc = .ok (.ldc2_w i, 3)) (K : pw_Sp X cells slots (pc + 3) L (.long v :: st) σ F) : pw_Sp X cells slots pc L (st) σ F := by
  obtain ⟨⟨p, l, e, R, s, m, args, below, meth, c⟩, Q, ⟨b, D, c1, c2, c3⟩, out, mc, ms⟩ := X
  intro hF hN H locs ls hl hH hS
  exact lv_ldc2 hX.1 hX.2.1 hX.2.2.2.2.1 (hX.2.2.2.2.2.1 _ hw) d (K hF hN H locs ls hl hH hS)
theorem sp_iload_n (hX : pw_Ok X cc own rm nL) {k : Fin 4} {i : Nat} {x : Int32} (hi : (k : Nat) = i) (j : Nat) (hj : L[j]? = some (i, .int x)) (d : decode cc pc = .ok (.iload_n k, 1)) (K : pw_Sp X cells slots (pc + 1) L (.int x :: st) σ F) : pw_Sp X cells slots pc L (st) σ F := by
  obtain ⟨⟨p, l, e, R, s, m, args, below, meth, c⟩, Q, ⟨b, D, c1, c2, c3⟩, out, mc, ms⟩ := X
  intro hF hN H locs ls hl hH hS
  exact lv_iload_n hX.1 hX.2.1 d hi (lv_at hl j (pw_at hj)) (K hF hN H locs ls hl hH hS)
theorem sp_iload (hX : pw_Ok X cc own rm nL) {i : Nat} {x : Int32} (j : Nat) (hj : L[j]? = some (i, .int x)) (d : decode cc pc = .ok (.iload i, 2)) (K : pw_Sp X cells slots (pc + 2) L (.int x :: st) σ F) : pw_Sp X cells slots pc L (st) σ F := by
  obtain ⟨⟨p, l, e, R, s, m, args, below, meth, c⟩, Q, ⟨b, D, c1, c2, c3⟩, out, mc, ms⟩ := X
  intro hF hN H locs ls hl hH hS
  exact lv_iload hX.1 hX.2.1 d (lv_at hl j (pw_at hj)) (K hF hN H locs ls hl hH hS)
theorem sp_lload_n (hX : pw_Ok X cc own rm nL) {k : Fin 4} {i : Nat} {x : Int64} (hi : (k : Nat) = i) (j : Nat) (hj : L[j]? = some (i, .long x)) (d : decode cc pc = .ok (.lload_n k, 1)) (K : pw_Sp X cells slots (pc + 1) L (.long x :: st) σ F) : pw_Sp X cells slots pc L (st) σ F := by
  obtain ⟨⟨p, l, e, R, s, m, args, below, meth, c⟩, Q, ⟨b, D, c1, c2, c3⟩, out, mc, ms⟩ := X
  intro hF hN H locs ls hl hH hS
  exact lv_lload_n hX.1 hX.2.1 d hi (lv_at hl j (pw_at hj)) (K hF hN H locs ls hl hH hS)
theorem sp_lload (hX : pw_Ok X cc own rm nL) {i : Nat} {x : Int64} (j : Nat) (hj : L[j]? = some (i, .long x)) (d : decode cc pc = .ok (.lload i, 2)) (K : pw_Sp X cells slots (pc + 2) L (.long x :: st) σ F) : pw_Sp X cells slots pc L (st) σ F := by
  obtain ⟨⟨p, l, e, R, s, m, args, below, meth, c⟩, Q, ⟨b, D, c1, c2, c3⟩, out, mc, ms⟩ := X
  intro hF hN H locs ls hl hH hS
  exact lv_lload hX.1 hX.2.1 d (lv_at hl j (pw_at hj)) (K hF hN H locs ls hl hH hS)
theorem sp_aload_n (hX : pw_Ok X cc own rm nL) {k : Fin 4} {i : Nat} {x : Nat} (hi : (k : Nat) = i) (j : Nat) (hj : L[j]? = some (i, .ref x)) (d : decode cc pc = .ok (.aload_n k, 1)) (K : pw_Sp X cells slots (pc + 1) L (.ref x :: st) σ F) : pw_Sp X cells slots pc L (st) σ F := by
  obtain ⟨⟨p, l, e, R, s, m, args, below, meth, c⟩, Q, ⟨b, D, c1, c2, c3⟩, out, mc, ms⟩ := X
  intro hF hN H locs ls hl hH hS
  exact lv_aload_n hX.1 hX.2.1 d hi (lv_at hl j (pw_at hj)) (K hF hN H locs ls hl hH hS)
theorem sp_aload (hX : pw_Ok X cc own rm nL) {i : Nat} {x : Nat} (j : Nat) (hj : L[j]? = some (i, .ref x)) (d : decode cc pc = .ok (.aload i, 2)) (K : pw_Sp X cells slots (pc + 2) L (.ref x :: st) σ F) : pw_Sp X cells slots pc L (st) σ F := by
  obtain ⟨⟨p, l, e, R, s, m, args, below, meth, c⟩, Q, ⟨b, D, c1, c2, c3⟩, out, mc, ms⟩ := X
  intro hF hN H locs ls hl hH hS
  exact lv_aload hX.1 hX.2.1 d (lv_at hl j (pw_at hj)) (K hF hN H locs ls hl hH hS)
theorem sp_xload_n (hX : pw_Ok X cc own rm nL) {k : Fin 4} {i : Nat} {x : Nat} (hi : (k : Nat) = i) (j : Nat) (hj : L[j]? = some (i, .retAddr x)) (d : decode cc pc = .ok (.aload_n k, 1)) (K : pw_Sp X cells slots (pc + 1) L (.retAddr x :: st) σ F) : pw_Sp X cells slots pc L (st) σ F := by
  obtain ⟨⟨p, l, e, R, s, m, args, below, meth, c⟩, Q, ⟨b, D, c1, c2, c3⟩, out, mc, ms⟩ := X
  intro hF hN H locs ls hl hH hS
  exact lv_aload_n hX.1 hX.2.1 d hi (lv_at hl j (pw_at hj)) (K hF hN H locs ls hl hH hS)
theorem sp_istore_n (hX : pw_Ok X cc own rm nL) {k : Fin 4} {i : Nat} {x : Int32} (hi : (k : Nat) = i) (hn : i < nL) (hL : pw_st1 i (.int x) L = L') (d : decode cc pc = .ok (.istore_n k, 1)) (K : pw_Sp X cells slots (pc + 1) L' st σ F) : pw_Sp X cells slots pc L (.int x :: st) σ F := by
  obtain ⟨⟨p, l, e, R, s, m, args, below, meth, c⟩, Q, ⟨b, D, c1, c2, c3⟩, out, mc, ms⟩ := X
  intro hF hN H locs ls hl hH hS
  exact lv_istore_n hX.1 hX.2.1 d hi hl (by rw [hX.2.2.1]; exact hn) (pw_st1_eq (b := b) hL) (fun ls hl => K hF hN H locs ls hl hH hS)
theorem sp_istore (hX : pw_Ok X cc own rm nL) {i : Nat} {x : Int32} (hn : i < nL) (hL : pw_st1 i (.int x) L = L') (d : decode cc pc = .ok (.istore i, 2)) (K : pw_Sp X cells slots (pc + 2) L' st σ F) : pw_Sp X cells slots pc L (.int x :: st) σ F := by
  obtain ⟨⟨p, l, e, R, s, m, args, below, meth, c⟩, Q, ⟨b, D, c1, c2, c3⟩, out, mc, ms⟩ := X
  intro hF hN H locs ls hl hH hS
  exact lv_istore hX.1 hX.2.1 d hl (by rw [hX.2.2.1]; exact hn) (pw_st1_eq (b := b) hL) (fun ls hl => K hF hN H locs ls hl hH hS)
theorem sp_lstore_n (hX : pw_Ok X cc own rm nL) {k : Fin 4} {i : Nat} {x : Int64} (hi : (k : Nat) = i) (hn : i + 1 < nL) (hL : pw_st2 i (.long x) L = L') (d : decode cc pc = .ok (.lstore_n k, 1)) (K : pw_Sp X cells slots (pc + 1) L' st σ F) : pw_Sp X cells slots pc L (.long x :: st) σ F := by
  obtain ⟨⟨p, l, e, R, s, m, args, below, meth, c⟩, Q, ⟨b, D, c1, c2, c3⟩, out, mc, ms⟩ := X
  intro hF hN H locs ls hl hH hS
  exact lv_lstore_n hX.1 hX.2.1 d hi hl (by rw [hX.2.2.1]; exact hn) (pw_st2_eq (b := b) hL) (fun ls hl => K hF hN H locs ls hl hH hS)
theorem sp_lstore (hX : pw_Ok X cc own rm nL) {i : Nat} {x : Int64} (hn : i + 1 < nL) (hL : pw_st2 i (.long x) L = L') (d : decode cc pc = .ok (.lstore i, 2)) (K : pw_Sp X cells slots (pc + 2) L' st σ F) : pw_Sp X cells slots pc L (.long x :: st) σ F := by
  obtain ⟨⟨p, l, e, R, s, m, args, below, meth, c⟩, Q, ⟨b, D, c1, c2, c3⟩, out, mc, ms⟩ := X
  intro hF hN H locs ls hl hH hS
  exact lv_lstore hX.1 hX.2.1 d hl (by rw [hX.2.2.1]; exact hn) (pw_st2_eq (b := b) hL) (fun ls hl => K hF hN H locs ls hl hH hS)
theorem sp_astore_n (hX : pw_Ok X cc own rm nL) {k : Fin 4} {i : Nat} {x : Nat} (hi : (k : Nat) = i) (hn : i < nL) (hL : pw_st1 i (.ref x) L = L') (d : decode cc pc = .ok (.astore_n k, 1)) (K : pw_Sp X cells slots (pc + 1) L' st σ F) : pw_Sp X cells slots pc L (.ref x :: st) σ F := by
  obtain ⟨⟨p, l, e, R, s, m, args, below, meth, c⟩, Q, ⟨b, D, c1, c2, c3⟩, out, mc, ms⟩ := X
  intro hF hN H locs ls hl hH hS
  exact lv_astore_n hX.1 hX.2.1 d hi hl (by rw [hX.2.2.1]; exact hn) (pw_st1_eq (b := b) hL) (fun ls hl => K hF hN H locs ls hl hH hS)
theorem sp_astore (hX : pw_Ok X cc own rm nL) {i : Nat} {x : Nat} (hn : i < nL) (hL : pw_st1 i (.ref x) L = L') (d : decode cc pc = .ok (.astore i, 2)) (K : pw_Sp X cells slots (pc + 2) L' st σ F) : pw_Sp X cells slots pc L (.ref x :: st) σ F := by
  obtain ⟨⟨p, l, e, R, s, m, args, below, meth, c⟩, Q, ⟨b, D, c1, c2, c3⟩, out, mc, ms⟩ := X
  intro hF hN H locs ls hl hH hS
  exact lv_astore hX.1 hX.2.1 d hl (by rw [hX.2.2.1]; exact hn) (pw_st1_eq (b := b) hL) (fun ls hl => K hF hN H locs ls hl hH hS)
theorem sp_iinc (hX : pw_Ok X cc own rm nL) {i : Nat} {n : Int} {x : Int} (j : Nat) (hj : L[j]? = some (i, .int (iI x))) (hn : i < nL) (hL : pw_st1 i (.int (iI (x + n))) L = L') (d : decode cc pc = .ok (.iinc i n, 3)) (K : pw_Sp X cells slots (pc + 3) L' st σ F) : pw_Sp X cells slots pc L st σ F := by
  obtain ⟨⟨p, l, e, R, s, m, args, below, meth, c⟩, Q, ⟨b, D, c1, c2, c3⟩, out, mc, ms⟩ := X
  intro hF hN H locs ls hl hH hS
  exact lv_iinc hX.1 hX.2.1 d hl (k := j) (pw_at hj) (iI_add x n) (by rw [hX.2.2.1]; exact hn) (pw_st1_eq (b := b) hL) (fun ls hl => K hF hN H locs ls hl hH hS)
theorem sp_iadd (hX : pw_Ok X cc own rm nL) {x y : Int} (d : decode cc pc = .ok (.iadd, 1)) (K : pw_Sp X cells slots (pc + 1) L (.int (iI (x + y)) :: st) σ F) : pw_Sp X cells slots pc L (.int (iI y) :: .int (iI x) :: st) σ F := by
  obtain ⟨⟨p, l, e, R, s, m, args, below, meth, c⟩, Q, ⟨b, D, c1, c2, c3⟩, out, mc, ms⟩ := X
  intro hF hN H locs ls hl hH hS
  exact lv_iadd hX.1 hX.2.1 d (by rw [iI_add]; exact (K hF hN H locs ls hl hH hS))
theorem sp_isub (hX : pw_Ok X cc own rm nL) {x y : Int} (d : decode cc pc = .ok (.isub, 1)) (K : pw_Sp X cells slots (pc + 1) L (.int (iI (x - y)) :: st) σ F) : pw_Sp X cells slots pc L (.int (iI y) :: .int (iI x) :: st) σ F := by
  obtain ⟨⟨p, l, e, R, s, m, args, below, meth, c⟩, Q, ⟨b, D, c1, c2, c3⟩, out, mc, ms⟩ := X
  intro hF hN H locs ls hl hH hS
  exact lv_isub hX.1 hX.2.1 d (by rw [iI_sub]; exact (K hF hN H locs ls hl hH hS))
theorem sp_imul (hX : pw_Ok X cc own rm nL) {x y : Int} (d : decode cc pc = .ok (.imul, 1)) (K : pw_Sp X cells slots (pc + 1) L (.int (iI (x * y)) :: st) σ F) : pw_Sp X cells slots pc L (.int (iI y) :: .int (iI x) :: st) σ F := by
  obtain ⟨⟨p, l, e, R, s, m, args, below, meth, c⟩, Q, ⟨b, D, c1, c2, c3⟩, out, mc, ms⟩ := X
  intro hF hN H locs ls hl hH hS
  exact lv_imul hX.1 hX.2.1 d (by rw [iI_mul]; exact (K hF hN H locs ls hl hH hS))
theorem sp_iand1 (hX : pw_Ok X cc own rm nL) {x : Int} (d : decode cc pc = .ok (.iand, 1)) (K : pw_Sp X cells slots (pc + 1) L (.int (iI (x % 2)) :: st) σ F) : pw_Sp X cells slots pc L (.int (iI 1) :: .int (iI x) :: st) σ F := by
  obtain ⟨⟨p, l, e, R, s, m, args, below, meth, c⟩, Q, ⟨b, D, c1, c2, c3⟩, out, mc, ms⟩ := X
  intro hF hN H locs ls hl hH hS
  exact lv_iand hX.1 hX.2.1 d (by rw [iI_and1]; exact (K hF hN H locs ls hl hH hS))
theorem sp_iand3 (hX : pw_Ok X cc own rm nL) {x : Int} (d : decode cc pc = .ok (.iand, 1)) (K : pw_Sp X cells slots (pc + 1) L (.int (iI (x % 4)) :: st) σ F) : pw_Sp X cells slots pc L (.int (iI 3) :: .int (iI x) :: st) σ F := by
  obtain ⟨⟨p, l, e, R, s, m, args, below, meth, c⟩, Q, ⟨b, D, c1, c2, c3⟩, out, mc, ms⟩ := X
  intro hF hN H locs ls hl hH hS
  exact lv_iand hX.1 hX.2.1 d (by rw [iI_and3]; exact (K hF hN H locs ls hl hH hS))
theorem sp_iand31 (hX : pw_Ok X cc own rm nL) {x : Int} (d : decode cc pc = .ok (.iand, 1)) (K : pw_Sp X cells slots (pc + 1) L (.int (iI (x % 32)) :: st) σ F) : pw_Sp X cells slots pc L (.int (iI 31) :: .int (iI x) :: st) σ F := by
  obtain ⟨⟨p, l, e, R, s, m, args, below, meth, c⟩, Q, ⟨b, D, c1, c2, c3⟩, out, mc, ms⟩ := X
  intro hF hN H locs ls hl hH hS
  exact lv_iand hX.1 hX.2.1 d (by rw [iI_and31]; exact (K hF hN H locs ls hl hH hS))
theorem sp_ladd (hX : pw_Ok X cc own rm nL) {x y : Int64} (d : decode cc pc = .ok (.ladd, 1)) (K : pw_Sp X cells slots (pc + 1) L (.long (x + y) :: st) σ F) : pw_Sp X cells slots pc L (.long y :: .long x :: st) σ F := by
  obtain ⟨⟨p, l, e, R, s, m, args, below, meth, c⟩, Q, ⟨b, D, c1, c2, c3⟩, out, mc, ms⟩ := X
  intro hF hN H locs ls hl hH hS
  exact lv_ladd hX.1 hX.2.1 d (K hF hN H locs ls hl hH hS)
theorem sp_lmul (hX : pw_Ok X cc own rm nL) {x y : Int64} (d : decode cc pc = .ok (.lmul, 1)) (K : pw_Sp X cells slots (pc + 1) L (.long (x * y) :: st) σ F) : pw_Sp X cells slots pc L (.long y :: .long x :: st) σ F := by
  obtain ⟨⟨p, l, e, R, s, m, args, below, meth, c⟩, Q, ⟨b, D, c1, c2, c3⟩, out, mc, ms⟩ := X
  intro hF hN H locs ls hl hH hS
  exact lv_lmul hX.1 hX.2.1 d (K hF hN H locs ls hl hH hS)
theorem sp_ineg (hX : pw_Ok X cc own rm nL) {x : Int} (d : decode cc pc = .ok (.ineg, 1)) (K : pw_Sp X cells slots (pc + 1) L (.int (iI (-x)) :: st) σ F) : pw_Sp X cells slots pc L (.int (iI x) :: st) σ F := by
  obtain ⟨⟨p, l, e, R, s, m, args, below, meth, c⟩, Q, ⟨b, D, c1, c2, c3⟩, out, mc, ms⟩ := X
  intro hF hN H locs ls hl hH hS
  exact lv_ineg hX.1 hX.2.1 d (by rw [iI_neg]; exact (K hF hN H locs ls hl hH hS))
theorem sp_i2l (hX : pw_Ok X cc own rm nL) {x : Int32} (d : decode cc pc = .ok (.i2l, 1)) (K : pw_Sp X cells slots (pc + 1) L (.long x.toInt64 :: st) σ F) : pw_Sp X cells slots pc L (.int x :: st) σ F := by
  obtain ⟨⟨p, l, e, R, s, m, args, below, meth, c⟩, Q, ⟨b, D, c1, c2, c3⟩, out, mc, ms⟩ := X
  intro hF hN H locs ls hl hH hS
  exact lv_i2l hX.1 hX.2.1 d rfl (K hF hN H locs ls hl hH hS)
theorem sp_lcmp (hX : pw_Ok X cc own rm nL) {x y : Int64} (d : decode cc pc = .ok (.lcmp, 1)) (K : pw_Sp X cells slots (pc + 1) L (.int (lg_cmp x y) :: st) σ F) : pw_Sp X cells slots pc L (.long y :: .long x :: st) σ F := by
  obtain ⟨⟨p, l, e, R, s, m, args, below, meth, c⟩, Q, ⟨b, D, c1, c2, c3⟩, out, mc, ms⟩ := X
  intro hF hN H locs ls hl hH hS
  exact W.lcmp hX.1 hX.2.1 d (K hF hN H locs ls hl hH hS)
theorem sp_dup (hX : pw_Ok X cc own rm nL) {v : Value} (hv : v.category = 1) (d : decode cc pc = .ok (.dup, 1)) (K : pw_Sp X cells slots (pc + 1) L (v :: v :: st) σ F) : pw_Sp X cells slots pc L (v :: st) σ F := by
  obtain ⟨⟨p, l, e, R, s, m, args, below, meth, c⟩, Q, ⟨b, D, c1, c2, c3⟩, out, mc, ms⟩ := X
  intro hF hN H locs ls hl hH hS
  exact lv_dup hX.1 hX.2.1 d (by rw [pw_tr_cat]; exact hv) (K hF hN H locs ls hl hH hS)
theorem sp_dup2 (hX : pw_Ok X cc own rm nL) {v w : Value} (hv : v.category = 1) (hw : w.category = 1) (d : decode cc pc = .ok (.dup2, 1)) (K : pw_Sp X cells slots (pc + 1) L (v :: w :: v :: w :: st) σ F) : pw_Sp X cells slots pc L (v :: w :: st) σ F := by
  obtain ⟨⟨p, l, e, R, s, m, args, below, meth, c⟩, Q, ⟨b, D, c1, c2, c3⟩, out, mc, ms⟩ := X
  intro hF hN H locs ls hl hH hS
  exact lv_dup2_11 hX.1 hX.2.1 d (by rw [pw_tr_cat]; exact hv) (by rw [pw_tr_cat]; exact hw) (K hF hN H locs ls hl hH hS)
theorem sp_pop (hX : pw_Ok X cc own rm nL) {v : Value} (hv : v.category = 1) (d : decode cc pc = .ok (.pop, 1)) (K : pw_Sp X cells slots (pc + 1) L (st) σ F) : pw_Sp X cells slots pc L (v :: st) σ F := by
  obtain ⟨⟨p, l, e, R, s, m, args, below, meth, c⟩, Q, ⟨b, D, c1, c2, c3⟩, out, mc, ms⟩ := X
  intro hF hN H locs ls hl hH hS
  exact lv_pop hX.1 hX.2.1 d (by rw [pw_tr_cat]; exact hv) (K hF hN H locs ls hl hH hS)
theorem sp_goto (hX : pw_Ok X cc own rm nL) {off : Int} (tgt : Nat) (ht : (pc : Int) + off = (tgt : Int)) (d : decode cc pc = .ok (.goto off, 3)) (K : pw_Sp X cells slots tgt L st σ F) : pw_Sp X cells slots pc L st σ F := by
  obtain ⟨⟨p, l, e, R, s, m, args, below, meth, c⟩, Q, ⟨b, D, c1, c2, c3⟩, out, mc, ms⟩ := X
  intro hF hN H locs ls hl hH hS
  exact lv_goto hX.1 hX.2.1 d ht (K hF hN H locs ls hl hH hS)
def pw_rem (x y : Int) : Option Int := if pw_R x ∧ pw_R y ∧ 0 < y then some (x.tmod y) else none
def pw_shr (x : Int) : Option Int := if 0 ≤ x ∧ x ≤ 2147483647 then some (x / 2) else none
theorem sp_irem (hX : pw_Ok X cc own rm nL) {x y : Int} {g : Int → Option (α × pw_Sto)} (d : decode cc pc = .ok (.irem, 1)) (K : ∀ v, pw_Sp X cells slots (pc + 1) L (.int (iI v) :: st) σ (g v)) : pw_Sp X cells slots pc L (.int (iI y) :: .int (iI x) :: st) σ ((pw_rem x y).bind g) := by
  obtain ⟨⟨p, l, e, R, s, m, args, below, meth, c⟩, Q, ⟨b, D, c1, c2, c3⟩, out, mc, ms⟩ := X
  intro hF hN H locs ls hl hH hS
  by_cases h : pw_R x ∧ pw_R y ∧ 0 < y
  · rw [pw_rem, if_pos h] at hF
    refine lv_irem hX.1 hX.2.1 d (fun q => ?_) (by rw [iI_rem h.1 h.2.1 h.2.2]; exact K _ hF hN H locs ls hl hH hS)
    have := (iI_eq (x := y) (y := 0) h.2.1 (by omega)).mp q
    omega
  · rw [pw_rem, if_neg h] at hF; cases hF
theorem sp_ishr (hX : pw_Ok X cc own rm nL) {x : Int} {g : Int → Option (α × pw_Sto)} (d : decode cc pc = .ok (.ishr, 1)) (K : ∀ v, pw_Sp X cells slots (pc + 1) L (.int (iI v) :: st) σ (g v)) : pw_Sp X cells slots pc L (.int (iI 1) :: .int (iI x) :: st) σ ((pw_shr x).bind g) := by
  obtain ⟨⟨p, l, e, R, s, m, args, below, meth, c⟩, Q, ⟨b, D, c1, c2, c3⟩, out, mc, ms⟩ := X
  intro hF hN H locs ls hl hH hS
  by_cases h : 0 ≤ x ∧ x ≤ 2147483647
  · rw [pw_shr, if_pos h] at hF
    exact lv_ishr hX.1 hX.2.1 d (by rw [iI_shr1 h]; exact K _ hF hN H locs ls hl hH hS)
  · rw [pw_shr, if_neg h] at hF; cases hF
theorem sp_if_eq (hX : pw_Ok X cc own rm nL) {x : Int} {off : Int} (tgt : Nat) {G1 G2 : Option (α × pw_Sto)} (ht : (pc : Int) + off = (tgt : Int)) (d : decode cc pc = .ok (.ifCond .eq off, 3)) (K1 : x = 0 → pw_Sp X cells slots tgt L st σ G1) (K2 : ¬ x = 0 → pw_Sp X cells slots (pc + 3) L st σ G2) : pw_Sp X cells slots pc L (.int (iI x) :: st) σ (pw_ck x 0 (if x = 0 then G1 else G2)) := by
  obtain ⟨⟨p, l, e, R, s, m, args, below, meth, c⟩, Q, ⟨b, D, c1, c2, c3⟩, out, mc, ms⟩ := X
  intro hF hN H locs ls hl hH hS
  by_cases hr : pw_R x ∧ pw_R 0
  · rw [pw_ck, if_pos hr] at hF
    have hiff := (iI_eq (x := x) (y := 0) hr.1 ⟨by omega, by omega⟩)
    refine lv_if_eq hX.1 hX.2.1 d ht (fun h => ?_) (fun h => ?_)
    · have h := hiff.mp h
      rw [if_pos h] at hF; exact K1 h hF hN H locs ls hl hH hS
    · have h := mt hiff.mpr h
      rw [if_neg h] at hF; exact K2 h hF hN H locs ls hl hH hS
  · rw [pw_ck, if_neg hr] at hF; cases hF
theorem sp_icmp_eq (hX : pw_Ok X cc own rm nL) {x y : Int} {off : Int} (tgt : Nat) {G1 G2 : Option (α × pw_Sto)} (ht : (pc : Int) + off = (tgt : Int)) (d : decode cc pc = .ok (.if_icmp .eq off, 3)) (K1 : x = y → pw_Sp X cells slots tgt L st σ G1) (K2 : ¬ x = y → pw_Sp X cells slots (pc + 3) L st σ G2) : pw_Sp X cells slots pc L (.int (iI y) :: .int (iI x) :: st) σ (pw_ck x y (if x = y then G1 else G2)) := by
  obtain ⟨⟨p, l, e, R, s, m, args, below, meth, c⟩, Q, ⟨b, D, c1, c2, c3⟩, out, mc, ms⟩ := X
  intro hF hN H locs ls hl hH hS
  by_cases hr : pw_R x ∧ pw_R y
  · rw [pw_ck, if_pos hr] at hF
    have hiff := (iI_eq (x := x) (y := y) hr.1 hr.2)
    refine lv_icmp_eq hX.1 hX.2.1 d ht (fun h => ?_) (fun h => ?_)
    · have h := hiff.mp h
      rw [if_pos h] at hF; exact K1 h hF hN H locs ls hl hH hS
    · have h := mt hiff.mpr h
      rw [if_neg h] at hF; exact K2 h hF hN H locs ls hl hH hS
  · rw [pw_ck, if_neg hr] at hF; cases hF
theorem sp_if_ne (hX : pw_Ok X cc own rm nL) {x : Int} {off : Int} (tgt : Nat) {G1 G2 : Option (α × pw_Sto)} (ht : (pc : Int) + off = (tgt : Int)) (d : decode cc pc = .ok (.ifCond .ne off, 3)) (K2 : x = 0 → pw_Sp X cells slots (pc + 3) L st σ G2) (K1 : ¬ x = 0 → pw_Sp X cells slots tgt L st σ G1) : pw_Sp X cells slots pc L (.int (iI x) :: st) σ (pw_ck x 0 (if x = 0 then G2 else G1)) := by
  obtain ⟨⟨p, l, e, R, s, m, args, below, meth, c⟩, Q, ⟨b, D, c1, c2, c3⟩, out, mc, ms⟩ := X
  intro hF hN H locs ls hl hH hS
  by_cases hr : pw_R x ∧ pw_R 0
  · rw [pw_ck, if_pos hr] at hF
    have hiff := (iI_eq (x := x) (y := 0) hr.1 ⟨by omega, by omega⟩)
    refine lv_if_ne hX.1 hX.2.1 d ht (fun h => ?_) (fun h => ?_)
    · have h := mt hiff.mpr h
      rw [if_neg h] at hF; exact K1 h hF hN H locs ls hl hH hS
    · have h := hiff.mp h
      rw [if_pos h] at hF; exact K2 h hF hN H locs ls hl hH hS
  · rw [pw_ck, if_neg hr] at hF; cases hF
theorem sp_icmp_ne (hX : pw_Ok X cc own rm nL) {x y : Int} {off : Int} (tgt : Nat) {G1 G2 : Option (α × pw_Sto)} (ht : (pc : Int) + off = (tgt : Int)) (d : decode cc pc = .ok (.if_icmp .ne off, 3)) (K2 : x = y → pw_Sp X cells slots (pc + 3) L st σ G2) (K1 : ¬ x = y → pw_Sp X cells slots tgt L st σ G1) : pw_Sp X cells slots pc L (.int (iI y) :: .int (iI x) :: st) σ (pw_ck x y (if x = y then G2 else G1)) := by
  obtain ⟨⟨p, l, e, R, s, m, args, below, meth, c⟩, Q, ⟨b, D, c1, c2, c3⟩, out, mc, ms⟩ := X
  intro hF hN H locs ls hl hH hS
  by_cases hr : pw_R x ∧ pw_R y
  · rw [pw_ck, if_pos hr] at hF
    have hiff := (iI_eq (x := x) (y := y) hr.1 hr.2)
    refine lv_icmp_ne hX.1 hX.2.1 d ht (fun h => ?_) (fun h => ?_)
    · have h := mt hiff.mpr h
      rw [if_neg h] at hF; exact K1 h hF hN H locs ls hl hH hS
    · have h := hiff.mp h
      rw [if_pos h] at hF; exact K2 h hF hN H locs ls hl hH hS
  · rw [pw_ck, if_neg hr] at hF; cases hF
theorem sp_if_lt (hX : pw_Ok X cc own rm nL) {x : Int} {off : Int} (tgt : Nat) {G1 G2 : Option (α × pw_Sto)} (ht : (pc : Int) + off = (tgt : Int)) (d : decode cc pc = .ok (.ifCond .lt off, 3)) (K1 : x < 0 → pw_Sp X cells slots tgt L st σ G1) (K2 : ¬ x < 0 → pw_Sp X cells slots (pc + 3) L st σ G2) : pw_Sp X cells slots pc L (.int (iI x) :: st) σ (pw_ck x 0 (if x < 0 then G1 else G2)) := by
  obtain ⟨⟨p, l, e, R, s, m, args, below, meth, c⟩, Q, ⟨b, D, c1, c2, c3⟩, out, mc, ms⟩ := X
  intro hF hN H locs ls hl hH hS
  by_cases hr : pw_R x ∧ pw_R 0
  · rw [pw_ck, if_pos hr] at hF
    have hiff := (iI_lt (x := x) (y := 0) hr.1 ⟨by omega, by omega⟩)
    refine lv_if_lt hX.1 hX.2.1 d ht (fun h => ?_) (fun h => ?_)
    · have h := hiff.mp h
      rw [if_pos h] at hF; exact K1 h hF hN H locs ls hl hH hS
    · have h := mt hiff.mpr h
      rw [if_neg h] at hF; exact K2 h hF hN H locs ls hl hH hS
  · rw [pw_ck, if_neg hr] at hF; cases hF
theorem sp_icmp_lt (hX : pw_Ok X cc own rm nL) {x y : Int} {off : Int} (tgt : Nat) {G1 G2 : Option (α × pw_Sto)} (ht : (pc : Int) + off = (tgt : Int)) (d : decode cc pc = .ok (.if_icmp .lt off, 3)) (K1 : x < y → pw_Sp X cells slots tgt L st σ G1) (K2 : ¬ x < y → pw_Sp X cells slots (pc + 3) L st σ G2) : pw_Sp X cells slots pc L (.int (iI y) :: .int (iI x) :: st) σ (pw_ck x y (if x < y then G1 else G2)) := by
  obtain ⟨⟨p, l, e, R, s, m, args, below, meth, c⟩, Q, ⟨b, D, c1, c2, c3⟩, out, mc, ms⟩ := X
  intro hF hN H locs ls hl hH hS
  by_cases hr : pw_R x ∧ pw_R y
  · rw [pw_ck, if_pos hr] at hF
    have hiff := (iI_lt (x := x) (y := y) hr.1 hr.2)
    refine lv_icmp_lt hX.1 hX.2.1 d ht (fun h => ?_) (fun h => ?_)
    · have h := hiff.mp h
      rw [if_pos h] at hF; exact K1 h hF hN H locs ls hl hH hS
    · have h := mt hiff.mpr h
      rw [if_neg h] at hF; exact K2 h hF hN H locs ls hl hH hS
  · rw [pw_ck, if_neg hr] at hF; cases hF
theorem sp_if_ge (hX : pw_Ok X cc own rm nL) {x : Int} {off : Int} (tgt : Nat) {G1 G2 : Option (α × pw_Sto)} (ht : (pc : Int) + off = (tgt : Int)) (d : decode cc pc = .ok (.ifCond .ge off, 3)) (K1 : 0 ≤ x → pw_Sp X cells slots tgt L st σ G1) (K2 : ¬ 0 ≤ x → pw_Sp X cells slots (pc + 3) L st σ G2) : pw_Sp X cells slots pc L (.int (iI x) :: st) σ (pw_ck x 0 (if 0 ≤ x then G1 else G2)) := by
  obtain ⟨⟨p, l, e, R, s, m, args, below, meth, c⟩, Q, ⟨b, D, c1, c2, c3⟩, out, mc, ms⟩ := X
  intro hF hN H locs ls hl hH hS
  by_cases hr : pw_R x ∧ pw_R 0
  · rw [pw_ck, if_pos hr] at hF
    have hiff := (iI_le (x := 0) (y := x) ⟨by omega, by omega⟩ hr.1)
    refine lv_if_ge hX.1 hX.2.1 d ht (fun h => ?_) (fun h => ?_)
    · have h := hiff.mp h
      rw [if_pos h] at hF; exact K1 h hF hN H locs ls hl hH hS
    · have h := mt hiff.mpr h
      rw [if_neg h] at hF; exact K2 h hF hN H locs ls hl hH hS
  · rw [pw_ck, if_neg hr] at hF; cases hF
theorem sp_icmp_ge (hX : pw_Ok X cc own rm nL) {x y : Int} {off : Int} (tgt : Nat) {G1 G2 : Option (α × pw_Sto)} (ht : (pc : Int) + off = (tgt : Int)) (d : decode cc pc = .ok (.if_icmp .ge off, 3)) (K1 : y ≤ x → pw_Sp X cells slots tgt L st σ G1) (K2 : ¬ y ≤ x → pw_Sp X cells slots (pc + 3) L st σ G2) : pw_Sp X cells slots pc L (.int (iI y) :: .int (iI x) :: st) σ (pw_ck x y (if y ≤ x then G1 else G2)) := by
  obtain ⟨⟨p, l, e, R, s, m, args, below, meth, c⟩, Q, ⟨b, D, c1, c2, c3⟩, out, mc, ms⟩ := X
  intro hF hN H locs ls hl hH hS
  by_cases hr : pw_R x ∧ pw_R y
  · rw [pw_ck, if_pos hr] at hF
    have hiff := (iI_le (x := y) (y := x) hr.2 hr.1)
    refine lv_icmp_ge hX.1 hX.2.1 d ht (fun h => ?_) (fun h => ?_)
    · have h := hiff.mp h
      rw [if_pos h] at hF; exact K1 h hF hN H locs ls hl hH hS
    · have h := mt hiff.mpr h
      rw [if_neg h] at hF; exact K2 h hF hN H locs ls hl hH hS
  · rw [pw_ck, if_neg hr] at hF; cases hF
theorem sp_if_gt (hX : pw_Ok X cc own rm nL) {x : Int} {off : Int} (tgt : Nat) {G1 G2 : Option (α × pw_Sto)} (ht : (pc : Int) + off = (tgt : Int)) (d : decode cc pc = .ok (.ifCond .gt off, 3)) (K1 : 0 < x → pw_Sp X cells slots tgt L st σ G1) (K2 : ¬ 0 < x → pw_Sp X cells slots (pc + 3) L st σ G2) : pw_Sp X cells slots pc L (.int (iI x) :: st) σ (pw_ck x 0 (if 0 < x then G1 else G2)) := by
  obtain ⟨⟨p, l, e, R, s, m, args, below, meth, c⟩, Q, ⟨b, D, c1, c2, c3⟩, out, mc, ms⟩ := X
  intro hF hN H locs ls hl hH hS
  by_cases hr : pw_R x ∧ pw_R 0
  · rw [pw_ck, if_pos hr] at hF
    have hiff := (iI_lt (x := 0) (y := x) ⟨by omega, by omega⟩ hr.1)
    refine lv_if_gt hX.1 hX.2.1 d ht (fun h => ?_) (fun h => ?_)
    · have h := hiff.mp h
      rw [if_pos h] at hF; exact K1 h hF hN H locs ls hl hH hS
    · have h := mt hiff.mpr h
      rw [if_neg h] at hF; exact K2 h hF hN H locs ls hl hH hS
  · rw [pw_ck, if_neg hr] at hF; cases hF
theorem sp_icmp_gt (hX : pw_Ok X cc own rm nL) {x y : Int} {off : Int} (tgt : Nat) {G1 G2 : Option (α × pw_Sto)} (ht : (pc : Int) + off = (tgt : Int)) (d : decode cc pc = .ok (.if_icmp .gt off, 3)) (K1 : y < x → pw_Sp X cells slots tgt L st σ G1) (K2 : ¬ y < x → pw_Sp X cells slots (pc + 3) L st σ G2) : pw_Sp X cells slots pc L (.int (iI y) :: .int (iI x) :: st) σ (pw_ck x y (if y < x then G1 else G2)) := by
  obtain ⟨⟨p, l, e, R, s, m, args, below, meth, c⟩, Q, ⟨b, D, c1, c2, c3⟩, out, mc, ms⟩ := X
  intro hF hN H locs ls hl hH hS
  by_cases hr : pw_R x ∧ pw_R y
  · rw [pw_ck, if_pos hr] at hF
    have hiff := (iI_lt (x := y) (y := x) hr.2 hr.1)
    refine lv_icmp_gt hX.1 hX.2.1 d ht (fun h => ?_) (fun h => ?_)
    · have h := hiff.mp h
      rw [if_pos h] at hF; exact K1 h hF hN H locs ls hl hH hS
    · have h := mt hiff.mpr h
      rw [if_neg h] at hF; exact K2 h hF hN H locs ls hl hH hS
  · rw [pw_ck, if_neg hr] at hF; cases hF
theorem sp_if_le (hX : pw_Ok X cc own rm nL) {x : Int} {off : Int} (tgt : Nat) {G1 G2 : Option (α × pw_Sto)} (ht : (pc : Int) + off = (tgt : Int)) (d : decode cc pc = .ok (.ifCond .le off, 3)) (K1 : x ≤ 0 → pw_Sp X cells slots tgt L st σ G1) (K2 : ¬ x ≤ 0 → pw_Sp X cells slots (pc + 3) L st σ G2) : pw_Sp X cells slots pc L (.int (iI x) :: st) σ (pw_ck x 0 (if x ≤ 0 then G1 else G2)) := by
  obtain ⟨⟨p, l, e, R, s, m, args, below, meth, c⟩, Q, ⟨b, D, c1, c2, c3⟩, out, mc, ms⟩ := X
  intro hF hN H locs ls hl hH hS
  by_cases hr : pw_R x ∧ pw_R 0
  · rw [pw_ck, if_pos hr] at hF
    have hiff := (iI_le (x := x) (y := 0) hr.1 ⟨by omega, by omega⟩)
    refine lv_if_le hX.1 hX.2.1 d ht (fun h => ?_) (fun h => ?_)
    · have h := hiff.mp h
      rw [if_pos h] at hF; exact K1 h hF hN H locs ls hl hH hS
    · have h := mt hiff.mpr h
      rw [if_neg h] at hF; exact K2 h hF hN H locs ls hl hH hS
  · rw [pw_ck, if_neg hr] at hF; cases hF
theorem sp_icmp_le (hX : pw_Ok X cc own rm nL) {x y : Int} {off : Int} (tgt : Nat) {G1 G2 : Option (α × pw_Sto)} (ht : (pc : Int) + off = (tgt : Int)) (d : decode cc pc = .ok (.if_icmp .le off, 3)) (K1 : x ≤ y → pw_Sp X cells slots tgt L st σ G1) (K2 : ¬ x ≤ y → pw_Sp X cells slots (pc + 3) L st σ G2) : pw_Sp X cells slots pc L (.int (iI y) :: .int (iI x) :: st) σ (pw_ck x y (if x ≤ y then G1 else G2)) := by
  obtain ⟨⟨p, l, e, R, s, m, args, below, meth, c⟩, Q, ⟨b, D, c1, c2, c3⟩, out, mc, ms⟩ := X
  intro hF hN H locs ls hl hH hS
  by_cases hr : pw_R x ∧ pw_R y
  · rw [pw_ck, if_pos hr] at hF
    have hiff := (iI_le (x := x) (y := y) hr.1 hr.2)
    refine lv_icmp_le hX.1 hX.2.1 d ht (fun h => ?_) (fun h => ?_)
    · have h := hiff.mp h
      rw [if_pos h] at hF; exact K1 h hF hN H locs ls hl hH hS
    · have h := mt hiff.mpr h
      rw [if_neg h] at hF; exact K2 h hF hN H locs ls hl hH hS
  · rw [pw_ck, if_neg hr] at hF; cases hF
theorem sp_sub (ks : List Nat) (hL : lv_pick L ks = L') (K : pw_Sp X cells slots pc L' st σ F) : pw_Sp X cells slots pc L st σ F := by
  intro hF hN H locs ls hl hH hS
  refine K hF hN H locs ls (lv_sub hl ks ?_) hH hS
  rw [← hL]
  unfold lv_pick
  rw [List.map_filterMap]
  congr 1
  funext k
  rw [List.getElem?_map]
end PWR
