/-! ## contracts, calls, returns -/
def pw_Con (l : Launch) (E : pw_E) (y : MethodName) (cc : ByteArray) (nL : Nat) (ret : Option FieldType) (rm : Room) (As : List Value) (σ : pw_Sto) (Qc : Array Value → State → Outcome → State → Prop) : Prop :=
  Met l y (Cond.code y cc nL ret :: pw_gt) rm (va_Pc (As.map (pw_tr E.1)) (pw_U E σ)) Qc rm.cells rm.slots (fun q => E.1 ≤ q)
def pw_CI (l : Launch) (E : pw_E) (y : MethodName) (cc : ByteArray) (nL : Nat) (ret : Option FieldType) (rm : Room) (As : List Value) (σ : pw_Sto) (o : Int × pw_Sto) : Prop := pw_Con l E y cc nL ret rm As σ (va_Qi (fun (r : Int32) (_ : Unit) => r = iI o.1 ∧ o.2.1 = σ.1 + rm.cells) (fun _ t => pw_U E o.2 t) (fun q => E.1 ≤ q))
def pw_CL (l : Launch) (E : pw_E) (y : MethodName) (cc : ByteArray) (nL : Nat) (ret : Option FieldType) (rm : Room) (As : List Value) (σ : pw_Sto) (o : Int64 × pw_Sto) : Prop := pw_Con l E y cc nL ret rm As σ (va_Ql (fun (r : Int64) (_ : Unit) => r = o.1 ∧ o.2.1 = σ.1 + rm.cells) (fun _ t => pw_U E o.2 t) (fun q => E.1 ≤ q))
def pw_CV (l : Launch) (E : pw_E) (y : MethodName) (cc : ByteArray) (nL : Nat) (ret : Option FieldType) (rm : Room) (As : List Value) (σ : pw_Sto) (o : Unit × pw_Sto) : Prop := pw_Con l E y cc nL ret rm As σ (va_Qv (fun (_ : Unit) => o.2.1 = σ.1 + rm.cells) (fun _ t => pw_U E o.2 t) (fun q => E.1 ≤ q))
theorem pw_low {E : pw_E} {σ : pw_Sto} {H : Heap} (h : pw_H E σ H) : σ.1 = 0 ∨ E.1 + σ.1 ≤ H.size := by
  cases hn : σ.1 with
  | zero => exact Or.inl rfl
  | succ n =>
    have h1 := (h n _ (pw_ws_at (by omega))).lt
    dsimp only at h1
    right
    omega
theorem pw_size {E : pw_E} {σ : pw_Sto} {H : Heap} {n0 cells : Nat} (h : pw_H E σ H) (h0 : E.1 ≤ n0) (h1 : n0 ≤ H.size) (hN : E.1 + σ.1 = n0 + cells) (h2 : H.size ≤ n0 + cells) : H.size = E.1 + σ.1 := by
  rcases pw_low h with q | q
  · omega
  · omega
theorem pw_args (b : Nat) : ∀ (As : List Value) (n : Nat), lv_args n (As.map (pw_tr b)) = (lv_args n As).map (pw_trq b) := by
  intro As
  induction As with
  | nil => intro n; rfl
  | cons v As ih =>
    intro n
    simp only [List.map_cons, lv_args, ih, pw_tr_cat]
    rfl
theorem pw_sl_len (b : Nat) : ∀ (As : List Value), (lg_sl (As.map (pw_tr b))).length = (lg_sl As).length := by
  intro As
  induction As with
  | nil => rfl
  | cons v As ih => cases v <;> simp_all [lg_sl, pw_tr, Value.category]
theorem pw_blind {E : pw_E} {σ : pw_Sto} {av : List Value} : FrameBlind (va_Pc av (pw_U E σ)) := by
  intro a U g mk h
  exact ⟨h.1, h.2.1, h.2.2.1, pw_T.moved (U := U.calling g mk a) (State.WarmedH.refl U) h.2.2.2⟩
def pw_RI (X : pw_X Int) (cc : ByteArray) : Prop := ∀ (pc : Nat) (ls : Array Slot) (v : Int) (σ : pw_Sto) (H : Heap) (locs : List Loc), decode cc pc = .ok (.ireturn, 1) → some (v, σ) = some X.2.2.2.1 → X.2.2.1.1 + σ.1 = X.1.2.2.2.2.1.heap.size + X.2.2.2.2.1 → pw_H X.2.2.1 σ H → va_S (fun q => X.2.2.1.1 ≤ q) X.1.2.2.2.2.1.heap H locs → pw_W X H locs X.2.2.2.2.1 X.2.2.2.2.2 (F0 X.1.2.2.2.2.2.1 pc ls [.int (iI v)])
def pw_RZ (X : pw_X Int) (cc : ByteArray) : Prop := ∀ (pc : Nat) (ls : Array Slot) (v : Int) (σ : pw_Sto) (H : Heap) (locs : List Loc), (v = 0 ∨ v = 1) → decode cc pc = .ok (.ireturn, 1) → some (v, σ) = some X.2.2.2.1 → X.2.2.1.1 + σ.1 = X.1.2.2.2.2.1.heap.size + X.2.2.2.2.1 → pw_H X.2.2.1 σ H → va_S (fun q => X.2.2.1.1 ≤ q) X.1.2.2.2.2.1.heap H locs → pw_W X H locs X.2.2.2.2.1 X.2.2.2.2.2 (F0 X.1.2.2.2.2.2.1 pc ls [.int (iI v)])
def pw_RL (X : pw_X Int64) (cc : ByteArray) : Prop := ∀ (pc : Nat) (ls : Array Slot) (v : Int64) (σ : pw_Sto) (H : Heap) (locs : List Loc), decode cc pc = .ok (.lreturn, 1) → some (v, σ) = some X.2.2.2.1 → X.2.2.1.1 + σ.1 = X.1.2.2.2.2.1.heap.size + X.2.2.2.2.1 → pw_H X.2.2.1 σ H → va_S (fun q => X.2.2.1.1 ≤ q) X.1.2.2.2.2.1.heap H locs → pw_W X H locs X.2.2.2.2.1 X.2.2.2.2.2 (F0 X.1.2.2.2.2.2.1 pc ls [.long v])
def pw_RV (X : pw_X Unit) (cc : ByteArray) : Prop := ∀ (pc : Nat) (ls : Array Slot) (σ : pw_Sto) (H : Heap) (locs : List Loc), decode cc pc = .ok (.return_, 1) → some ((), σ) = some X.2.2.2.1 → X.2.2.1.1 + σ.1 = X.1.2.2.2.2.1.heap.size + X.2.2.2.2.1 → pw_H X.2.2.1 σ H → va_S (fun q => X.2.2.1.1 ≤ q) X.1.2.2.2.2.1.heap H locs → pw_W X H locs X.2.2.2.2.1 X.2.2.2.2.2 (F0 X.1.2.2.2.2.2.1 pc ls [])
section PWret
variable {cc : ByteArray} {own : String} {rm : Room} {nL cells slots pc : Nat} {L : List (Nat × Value)} {σ : pw_Sto}
theorem sp_iret {X : pw_X Int} (hX : pw_Ok X cc own rm nL) (hR : pw_RI X cc) {v : Int} (hc : cells = rm.cells) (hs : slots ≤ rm.slots) (d : decode cc pc = .ok (.ireturn, 1)) : pw_Sp X cells slots pc L [.int (iI v)] σ (some (v, σ)) := by
  intro hF hN H locs ls hl hH hS
  subst hc
  rw [← hX.2.2.2.2.2.2.2.2.1] at hN ⊢
  exact W.widen (Nat.le_refl _) (by rw [hX.2.2.2.2.2.2.2.2.2]; exact hs) (hR pc ls v σ H locs d hF hN hH hS)
theorem sp_zret {X : pw_X Int} (hX : pw_Ok X cc own rm nL) (hR : pw_RZ X cc) {v : Int} (hv : v = 0 ∨ v = 1) (hc : cells = rm.cells) (hs : slots ≤ rm.slots) (d : decode cc pc = .ok (.ireturn, 1)) : pw_Sp X cells slots pc L [.int (iI v)] σ (some (v, σ)) := by
  intro hF hN H locs ls hl hH hS
  subst hc
  rw [← hX.2.2.2.2.2.2.2.2.1] at hN ⊢
  exact W.widen (Nat.le_refl _) (by rw [hX.2.2.2.2.2.2.2.2.2]; exact hs) (hR pc ls v σ H locs hv d hF hN hH hS)
def pw_z (v : Int) (σ : pw_Sto) : Option (Int × pw_Sto) := if v = 0 ∨ v = 1 then some (v, σ) else none
theorem sp_zretg {X : pw_X Int} (hX : pw_Ok X cc own rm nL) (hR : pw_RZ X cc) {v : Int} (hc : cells = rm.cells) (hs : slots ≤ rm.slots) (d : decode cc pc = .ok (.ireturn, 1)) : pw_Sp X cells slots pc L [.int (iI v)] σ (pw_z v σ) := by
  by_cases h : v = 0 ∨ v = 1
  · unfold pw_z
    rw [if_pos h]
    exact sp_zret hX hR h hc hs d
  · unfold pw_z
    rw [if_neg h]
    exact pw_none
theorem sp_lret {X : pw_X Int64} (hX : pw_Ok X cc own rm nL) (hR : pw_RL X cc) {v : Int64} (hc : cells = rm.cells) (hs : slots ≤ rm.slots) (d : decode cc pc = .ok (.lreturn, 1)) : pw_Sp X cells slots pc L [.long v] σ (some (v, σ)) := by
  intro hF hN H locs ls hl hH hS
  subst hc
  rw [← hX.2.2.2.2.2.2.2.2.1] at hN ⊢
  exact W.widen (Nat.le_refl _) (by rw [hX.2.2.2.2.2.2.2.2.2]; exact hs) (hR pc ls v σ H locs d hF hN hH hS)
theorem sp_vret {X : pw_X Unit} (hX : pw_Ok X cc own rm nL) (hR : pw_RV X cc) (hc : cells = rm.cells) (hs : slots ≤ rm.slots) (d : decode cc pc = .ok (.return_, 1)) : pw_Sp X cells slots pc L [] σ (some ((), σ)) := by
  intro hF hN H locs ls hl hH hS
  subst hc
  rw [← hX.2.2.2.2.2.2.2.2.1] at hN ⊢
  exact W.widen (Nat.le_refl _) (by rw [hX.2.2.2.2.2.2.2.2.2]; exact hs) (hR pc ls σ H locs d hF hN hH hS)
end PWret
theorem pw_entryI {l : Launch} {E : pw_E} {y : MethodName} {cc : ByteArray} {nL : Nat} {rm : Room} {As : List Value} {σ : pw_Sto} {out : Int × pw_Sto} {F : Option (Int × pw_Sto)} (hy : plainName y.cls = true) (hnl : (lg_sl As).length ≤ nL) (h : F = some out)
    (body : ∀ X : pw_X Int, pw_Ok X cc y.cls rm nL → pw_RI X cc → X.1.2.2.2.2.2.2.2.2.1.name = y.name → pw_Sp X 0 0 0 (lv_args 0 As) [] σ F) : pw_CI l E y cc nL (some .int) rm As σ out := by
  refine Met.ofW (cc := cc) (maxL := nL) (ret := (some .int)) hy rfl ?_
  intro p e s m args below meth c s₁ B hml hv
  obtain ⟨rfl, hH, hsz, hT⟩ := hv
  have hts := atoms_spec (ws := Cond.code y cc nL (some .int) :: pw_gt) B.pre
  have hlocks := B.notSynchronized
  have hr := B.returns
  have hX : ∀ Q : State → Prop, pw_Ok (((p, l, e, (headSpec (Cond.code y cc nL (some .int) :: pw_gt) rm).room, s, m, (As.map (pw_tr E.1)).toArray, below, meth, c), Q, E, out, rm.cells, rm.slots) : pw_X Int) cc y.cls rm nL := fun Q => ⟨B.exec, B.bytes, hml, rfl, findClass_of_methodNamed B.named, fun w hw => hts w (List.mem_cons_of_mem _ hw), hT, by show E.1 ≤ s.heap.size; omega, rfl, rfl⟩
  have hl := lv_entry (As.map (pw_tr E.1)) (n := nL) (by rw [pw_sl_len]; exact hnl)
  rw [pw_args] at hl
  rw [lg_entry_eq]
  refine body _ (hX _) ?_ (name_of_methodNamed B.named B.method).1 h (by show E.1 + σ.1 = s.heap.size + 0; omega) s.heap [] _ (by rw [hml]; exact hl) hH va_S.rf
  intro pc' ls' v' σ' H' locs' d' hF' hN' hH' hS'
  intro T hTT XX
  have hle : T.heap.size ≤ s.heap.size + rm.cells := XX.heapSize
  have hsz2 : T.heap.size = E.1 + σ'.1 := pw_size (n0 := s.heap.size) (cells := rm.cells) (by rw [hTT]; exact hH') (by omega) (by rw [hTT]; exact hS'.1) hN' hle
  have hF2 : (v', σ') = out := Option.some.inj hF'
  have hN2 : E.1 + σ'.1 = s.heap.size + rm.cells := hN'
  refine W.iret (v := iI v') B.exec B.bytes hr (fun t ht hW => ⟨⟨iI v', (), rfl, ⟨by rw [← hF2], by rw [← hF2]; show σ'.1 = σ.1 + rm.cells; omega⟩, ?_, ?_, pw_T.moved hW hT⟩, hS'.F ht⟩) hS'.2.2 d' hlocks T hTT XX
  · rw [ht]; show pw_H E out.2 H'; rw [← hF2]; exact hH'
  · rw [ht, ← hTT]; show T.heap.size = E.1 + out.2.1; rw [← hF2]; exact hsz2
theorem pw_entryZ {l : Launch} {E : pw_E} {y : MethodName} {cc : ByteArray} {nL : Nat} {rm : Room} {As : List Value} {σ : pw_Sto} {out : Int × pw_Sto} {F : Option (Int × pw_Sto)} (hy : plainName y.cls = true) (hnl : (lg_sl As).length ≤ nL) (h : F = some out)
    (body : ∀ X : pw_X Int, pw_Ok X cc y.cls rm nL → pw_RZ X cc → X.1.2.2.2.2.2.2.2.2.1.name = y.name → pw_Sp X 0 0 0 (lv_args 0 As) [] σ F) : pw_CI l E y cc nL (some .boolean) rm As σ out := by
  refine Met.ofW (cc := cc) (maxL := nL) (ret := (some .boolean)) hy rfl ?_
  intro p e s m args below meth c s₁ B hml hv
  obtain ⟨rfl, hH, hsz, hT⟩ := hv
  have hts := atoms_spec (ws := Cond.code y cc nL (some .boolean) :: pw_gt) B.pre
  have hlocks := B.notSynchronized
  have hr := B.returns
  have hX : ∀ Q : State → Prop, pw_Ok (((p, l, e, (headSpec (Cond.code y cc nL (some .boolean) :: pw_gt) rm).room, s, m, (As.map (pw_tr E.1)).toArray, below, meth, c), Q, E, out, rm.cells, rm.slots) : pw_X Int) cc y.cls rm nL := fun Q => ⟨B.exec, B.bytes, hml, rfl, findClass_of_methodNamed B.named, fun w hw => hts w (List.mem_cons_of_mem _ hw), hT, by show E.1 ≤ s.heap.size; omega, rfl, rfl⟩
  have hl := lv_entry (As.map (pw_tr E.1)) (n := nL) (by rw [pw_sl_len]; exact hnl)
  rw [pw_args] at hl
  rw [lg_entry_eq]
  refine body _ (hX _) ?_ (name_of_methodNamed B.named B.method).1 h (by show E.1 + σ.1 = s.heap.size + 0; omega) s.heap [] _ (by rw [hml]; exact hl) hH va_S.rf
  intro pc' ls' v' σ' H' locs' hz' d' hF' hN' hH' hS'
  intro T hTT XX
  have hle : T.heap.size ≤ s.heap.size + rm.cells := XX.heapSize
  have hsz2 : T.heap.size = E.1 + σ'.1 := pw_size (n0 := s.heap.size) (cells := rm.cells) (by rw [hTT]; exact hH') (by omega) (by rw [hTT]; exact hS'.1) hN' hle
  have hF2 : (v', σ') = out := Option.some.inj hF'
  have hN2 : E.1 + σ'.1 = s.heap.size + rm.cells := hN'
  refine W.zret (v := iI v') (ty := .boolean) B.exec B.bytes hr (by rcases hz' with q | q <;> rw [q] <;> rfl) (fun t ht hW => ⟨⟨iI v', (), rfl, ⟨by rw [← hF2], by rw [← hF2]; show σ'.1 = σ.1 + rm.cells; omega⟩, ?_, ?_, pw_T.moved hW hT⟩, hS'.F ht⟩) hS'.2.2 d' hlocks T hTT XX
  · rw [ht]; show pw_H E out.2 H'; rw [← hF2]; exact hH'
  · rw [ht, ← hTT]; show T.heap.size = E.1 + out.2.1; rw [← hF2]; exact hsz2
theorem pw_entryL {l : Launch} {E : pw_E} {y : MethodName} {cc : ByteArray} {nL : Nat} {rm : Room} {As : List Value} {σ : pw_Sto} {out : Int64 × pw_Sto} {F : Option (Int64 × pw_Sto)} (hy : plainName y.cls = true) (hnl : (lg_sl As).length ≤ nL) (h : F = some out)
    (body : ∀ X : pw_X Int64, pw_Ok X cc y.cls rm nL → pw_RL X cc → X.1.2.2.2.2.2.2.2.2.1.name = y.name → pw_Sp X 0 0 0 (lv_args 0 As) [] σ F) : pw_CL l E y cc nL (some .long) rm As σ out := by
  refine Met.ofW (cc := cc) (maxL := nL) (ret := (some .long)) hy rfl ?_
  intro p e s m args below meth c s₁ B hml hv
  obtain ⟨rfl, hH, hsz, hT⟩ := hv
  have hts := atoms_spec (ws := Cond.code y cc nL (some .long) :: pw_gt) B.pre
  have hlocks := B.notSynchronized
  have hr := B.returns
  have hX : ∀ Q : State → Prop, pw_Ok (((p, l, e, (headSpec (Cond.code y cc nL (some .long) :: pw_gt) rm).room, s, m, (As.map (pw_tr E.1)).toArray, below, meth, c), Q, E, out, rm.cells, rm.slots) : pw_X Int64) cc y.cls rm nL := fun Q => ⟨B.exec, B.bytes, hml, rfl, findClass_of_methodNamed B.named, fun w hw => hts w (List.mem_cons_of_mem _ hw), hT, by show E.1 ≤ s.heap.size; omega, rfl, rfl⟩
  have hl := lv_entry (As.map (pw_tr E.1)) (n := nL) (by rw [pw_sl_len]; exact hnl)
  rw [pw_args] at hl
  rw [lg_entry_eq]
  refine body _ (hX _) ?_ (name_of_methodNamed B.named B.method).1 h (by show E.1 + σ.1 = s.heap.size + 0; omega) s.heap [] _ (by rw [hml]; exact hl) hH va_S.rf
  intro pc' ls' v' σ' H' locs' d' hF' hN' hH' hS'
  intro T hTT XX
  have hle : T.heap.size ≤ s.heap.size + rm.cells := XX.heapSize
  have hsz2 : T.heap.size = E.1 + σ'.1 := pw_size (n0 := s.heap.size) (cells := rm.cells) (by rw [hTT]; exact hH') (by omega) (by rw [hTT]; exact hS'.1) hN' hle
  have hF2 : (v', σ') = out := Option.some.inj hF'
  have hN2 : E.1 + σ'.1 = s.heap.size + rm.cells := hN'
  refine W.lret (v := v') B.exec B.bytes hr (fun t ht hW => ⟨⟨v', (), rfl, ⟨by rw [← hF2], by rw [← hF2]; show σ'.1 = σ.1 + rm.cells; omega⟩, ?_, ?_, pw_T.moved hW hT⟩, hS'.F ht⟩) hS'.2.2 d' hlocks T hTT XX
  · rw [ht]; show pw_H E out.2 H'; rw [← hF2]; exact hH'
  · rw [ht, ← hTT]; show T.heap.size = E.1 + out.2.1; rw [← hF2]; exact hsz2
theorem pw_entryV {l : Launch} {E : pw_E} {y : MethodName} {cc : ByteArray} {nL : Nat} {rm : Room} {As : List Value} {σ : pw_Sto} {out : Unit × pw_Sto} {F : Option (Unit × pw_Sto)} (hy : plainName y.cls = true) (hnl : (lg_sl As).length ≤ nL) (h : F = some out)
    (body : ∀ X : pw_X Unit, pw_Ok X cc y.cls rm nL → pw_RV X cc → X.1.2.2.2.2.2.2.2.2.1.name = y.name → pw_Sp X 0 0 0 (lv_args 0 As) [] σ F) : pw_CV l E y cc nL none rm As σ out := by
  refine Met.ofW (cc := cc) (maxL := nL) (ret := none) hy rfl ?_
  intro p e s m args below meth c s₁ B hml hv
  obtain ⟨rfl, hH, hsz, hT⟩ := hv
  have hts := atoms_spec (ws := Cond.code y cc nL none :: pw_gt) B.pre
  have hlocks := B.notSynchronized
  have hr := B.returns
  have hX : ∀ Q : State → Prop, pw_Ok (((p, l, e, (headSpec (Cond.code y cc nL none :: pw_gt) rm).room, s, m, (As.map (pw_tr E.1)).toArray, below, meth, c), Q, E, out, rm.cells, rm.slots) : pw_X Unit) cc y.cls rm nL := fun Q => ⟨B.exec, B.bytes, hml, rfl, findClass_of_methodNamed B.named, fun w hw => hts w (List.mem_cons_of_mem _ hw), hT, by show E.1 ≤ s.heap.size; omega, rfl, rfl⟩
  have hl := lv_entry (As.map (pw_tr E.1)) (n := nL) (by rw [pw_sl_len]; exact hnl)
  rw [pw_args] at hl
  rw [lg_entry_eq]
  refine body _ (hX _) ?_ (name_of_methodNamed B.named B.method).1 h (by show E.1 + σ.1 = s.heap.size + 0; omega) s.heap [] _ (by rw [hml]; exact hl) hH va_S.rf
  intro pc' ls' σ' H' locs' d' hF' hN' hH' hS'
  intro T hTT XX
  have hle : T.heap.size ≤ s.heap.size + rm.cells := XX.heapSize
  have hsz2 : T.heap.size = E.1 + σ'.1 := pw_size (n0 := s.heap.size) (cells := rm.cells) (by rw [hTT]; exact hH') (by omega) (by rw [hTT]; exact hS'.1) hN' hle
  have hF2 : ((), σ') = out := Option.some.inj hF'
  have hN2 : E.1 + σ'.1 = s.heap.size + rm.cells := hN'
  refine W.vret B.exec B.bytes hr (fun t ht hW => ⟨⟨(), rfl, by rw [← hF2]; show σ'.1 = σ.1 + rm.cells; omega, ?_, ?_, pw_T.moved hW hT⟩, hS'.F ht⟩) hS'.2.2 d' hlocks T hTT XX
  · rw [ht]; show pw_H E out.2 H'; rw [← hF2]; exact hH'
  · rw [ht, ← hTT]; show T.heap.size = E.1 + out.2.1; rw [← hF2]; exact hsz2
def pw_bd {β γ : Type} (f : Option (β × pw_Sto)) (k : β → pw_Sto → Option γ) : Option γ := f.bind (fun q => k q.1 q.2)
theorem pw_gd_of {β : Type} {c o : Nat} {σ : pw_Sto} {F : Option β} {out : β} (h : pw_gd c o σ F = some out) : o < σ.1 ∧ (pw_sh o).1 = c := by
  unfold pw_gd at h
  by_cases q : o < σ.1 ∧ (pw_sh o).1 = c
  · exact q
  · rw [if_neg q] at h; cases h
theorem pw_gd_val {β : Type} {c o : Nat} {σ : pw_Sto} {F : Option β} {out : β} (h : pw_gd c o σ F = some out) : F = some out := by
  have q := pw_gd_of h
  unfold pw_gd at h
  rw [if_pos q] at h
  exact h
def pw_lp {β : Type} (bot : β) (f : β → β) : Nat → β
  | 0 => bot
  | n + 1 => f (pw_lp bot f n)
def pw_Cal (y : MethodName) (cc : ByteArray) (nL : Nat) (ret : Option FieldType) (n : Nat) : Prop := Cond.code y cc nL ret ∈ pw_gt ∧ Cond.initialized y.cls ∈ pw_gt ∧ (y.cls ≠ "java/lang/invoke/MethodHandle" ∧ y.cls ≠ "java/lang/invoke/VarHandle" ∧ (parseMethodDescriptor y.desc).map (fun d => d.parameters.length) = some n)
def pw_CalV (y : MethodName) : Prop := Cond.instanceMethod y ∈ pw_gt ∧ Cond.selects y.cls y y ∈ pw_gt
section PWcall
variable {α : Type} {X : pw_X α} {cc ccy : ByteArray} {own host : String} {rm rmy : Room} {nL nLy n idx cells slots cells' slots' pc : Nat} {L : List (Nat × Value)} {st stk As : List Value} {σ : pw_Sto} {y : MethodName} {ret : Option FieldType} {o ci : Nat} {T : u_T} {N : Nat} {Y : Nat → FieldType}
theorem pw_cat (b : Nat) (st : List Value) : ((st.map (pw_tr b)).map fun v => v.category) = st.map fun v => v.category := by
  rw [List.map_map]
  congr 1
  funext v
  exact pw_tr_cat b v
theorem sp_callVI (hX : pw_Ok X cc own rm nL) {f : Option (Int × pw_Sto)} (hM : ∀ out, f = some out → pw_CI X.1.2.1 X.2.2.1 y ccy nLy ret rmy (.ref o :: As) σ out) (hB : pw_Cal y ccy nLy ret n) (hV : pw_CalV y) (hC : pw_Cl ci y.cls T N Y) (hg : ∀ out, f = some out → o < σ.1 ∧ (pw_sh o).1 = ci) (hw : Cond.methodLink own idx y ∈ pw_gt) (hR : rmy.frames + 1 ≤ rm.frames ∧ 8 + (nLy + 11) + rmy.locals ≤ rm.locals) (hn : As.length = n) (hstk : As.reverse ++ .ref o :: st = stk) (hst : (st.map fun v => v.category).sum ≤ 8) (hcs : cells + rmy.cells ≤ rm.cells ∧ slots + rmy.slots ≤ rm.slots) (hc1 : cells + rmy.cells = cells') (hc2 : slots + rmy.slots = slots') (d : decode cc pc = .ok (.invokevirtual idx, 3)) {g : Int → pw_Sto → Option (α × pw_Sto)} (K : ∀ r σ', pw_Sp X cells' slots' (pc + 3) L (.int (iI r) :: st) σ' (g r σ')) : pw_Sp X cells slots pc L stk σ (pw_bd f g) := by
  unfold pw_bd
  subst hstk
  subst hc1
  subst hc2
  obtain ⟨⟨p, l, e, R, s, m, args, below, meth, c⟩, Q, ⟨b, D, c1, c2, c3⟩, out, mc, ms⟩ := X
  intro hF hN H locs ls hl hH hS
  cases hf : f with
  | none => rw [hf] at hF; cases hF
  | some out' =>
    rw [hf] at hF
    intro TT hTT XX
    have hle : TT.heap.size ≤ s.heap.size + cells := XX.heapSize
    rw [hTT] at hle
    have hsz : H.size = b + σ.1 := pw_size (E := (b, D, c1, c2, c3)) (n0 := s.heap.size) (cells := cells) hH hX.2.2.2.2.2.2.2.1 hS.1 hN hle
    refine va_calli (va_runV (As := As.map (pw_tr b)) (rest := st.map (pw_tr b)) ⟨hX.1, hX.2.1, hX.2.2.1, hX.2.2.2.2.1, hX.2.2.2.2.2.1⟩ (hM out' hf) ⟨callB_of n (hX.2.2.2.2.2.1) (pw_good hB.1) rfl rfl rfl (hX.2.2.2.2.2.1 _ hB.2.1) (hX.2.2.2.2.2.1 _ hw) hB.2.2 (by rw [hX.2.2.2.1]; exact hR), hX.2.2.2.2.2.1 _ hV.1, hX.2.2.2.2.2.1 _ hV.2⟩ ⟨pw_blind, va_recv hX.2.2.2.2.2.2.1.1 hH (ci := ci) (q0 := o) hC.1 (by rw [pw_ws_at (hg out' hf).1, pw_cell_o (hg out' hf).2 hC.2.1]), fun U hU hW => ⟨rfl, by rw [hU]; exact hH, by rw [hU]; exact hsz, pw_T.moved hW hX.2.2.2.2.2.2.1⟩⟩ rfl (by rw [List.length_map]; exact hn) (by rw [← hX.2.2.1]; exact hl.1) (by rw [List.map_append, List.map_reverse]; rfl) (lv_room (by rw [pw_cat]; exact hst)) d (by rw [hX.2.2.2.1]; exact hcs)) hS (fun q _ h => h) (fun q h => h) (fun r u t H1 locs1 ht hvm hw hB hz1 hk1 hS1 => ?_) TT hTT XX
    have hN2 : b + out'.2.1 = s.heap.size + (cells + rmy.cells) := by
      have h9 := hw.2
      have h8 : b + σ.1 = s.heap.size + cells := hN
      omega
    rw [hw.1]
    exact K out'.1 out'.2 hF hN2 H1 locs1 ls hl (by rw [← ht]; exact hB.1) hS1
theorem sp_callVL (hX : pw_Ok X cc own rm nL) {f : Option (Int64 × pw_Sto)} (hM : ∀ out, f = some out → pw_CL X.1.2.1 X.2.2.1 y ccy nLy ret rmy (.ref o :: As) σ out) (hB : pw_Cal y ccy nLy ret n) (hV : pw_CalV y) (hC : pw_Cl ci y.cls T N Y) (hg : ∀ out, f = some out → o < σ.1 ∧ (pw_sh o).1 = ci) (hw : Cond.methodLink own idx y ∈ pw_gt) (hR : rmy.frames + 1 ≤ rm.frames ∧ 8 + (nLy + 11) + rmy.locals ≤ rm.locals) (hn : As.length = n) (hstk : As.reverse ++ .ref o :: st = stk) (hst : (st.map fun v => v.category).sum ≤ 8) (hcs : cells + rmy.cells ≤ rm.cells ∧ slots + rmy.slots ≤ rm.slots) (hc1 : cells + rmy.cells = cells') (hc2 : slots + rmy.slots = slots') (d : decode cc pc = .ok (.invokevirtual idx, 3)) {g : Int64 → pw_Sto → Option (α × pw_Sto)} (K : ∀ r σ', pw_Sp X cells' slots' (pc + 3) L (.long r :: st) σ' (g r σ')) : pw_Sp X cells slots pc L stk σ (pw_bd f g) := by
  unfold pw_bd
  subst hstk
  subst hc1
  subst hc2
  obtain ⟨⟨p, l, e, R, s, m, args, below, meth, c⟩, Q, ⟨b, D, c1, c2, c3⟩, out, mc, ms⟩ := X
  intro hF hN H locs ls hl hH hS
  cases hf : f with
  | none => rw [hf] at hF; cases hF
  | some out' =>
    rw [hf] at hF
    intro TT hTT XX
    have hle : TT.heap.size ≤ s.heap.size + cells := XX.heapSize
    rw [hTT] at hle
    have hsz : H.size = b + σ.1 := pw_size (E := (b, D, c1, c2, c3)) (n0 := s.heap.size) (cells := cells) hH hX.2.2.2.2.2.2.2.1 hS.1 hN hle
    refine va_calll (va_runV (As := As.map (pw_tr b)) (rest := st.map (pw_tr b)) ⟨hX.1, hX.2.1, hX.2.2.1, hX.2.2.2.2.1, hX.2.2.2.2.2.1⟩ (hM out' hf) ⟨callB_of n (hX.2.2.2.2.2.1) (pw_good hB.1) rfl rfl rfl (hX.2.2.2.2.2.1 _ hB.2.1) (hX.2.2.2.2.2.1 _ hw) hB.2.2 (by rw [hX.2.2.2.1]; exact hR), hX.2.2.2.2.2.1 _ hV.1, hX.2.2.2.2.2.1 _ hV.2⟩ ⟨pw_blind, va_recv hX.2.2.2.2.2.2.1.1 hH (ci := ci) (q0 := o) hC.1 (by rw [pw_ws_at (hg out' hf).1, pw_cell_o (hg out' hf).2 hC.2.1]), fun U hU hW => ⟨rfl, by rw [hU]; exact hH, by rw [hU]; exact hsz, pw_T.moved hW hX.2.2.2.2.2.2.1⟩⟩ rfl (by rw [List.length_map]; exact hn) (by rw [← hX.2.2.1]; exact hl.1) (by rw [List.map_append, List.map_reverse]; rfl) (lv_room (by rw [pw_cat]; exact hst)) d (by rw [hX.2.2.2.1]; exact hcs)) hS (fun q _ h => h) (fun q h => h) (fun r u t H1 locs1 ht hvm hw hB hz1 hk1 hS1 => ?_) TT hTT XX
    have hN2 : b + out'.2.1 = s.heap.size + (cells + rmy.cells) := by
      have h9 := hw.2
      have h8 : b + σ.1 = s.heap.size + cells := hN
      omega
    rw [hw.1]
    exact K out'.1 out'.2 hF hN2 H1 locs1 ls hl (by rw [← ht]; exact hB.1) hS1
theorem sp_callVV (hX : pw_Ok X cc own rm nL) {f : Option (Unit × pw_Sto)} (hM : ∀ out, f = some out → pw_CV X.1.2.1 X.2.2.1 y ccy nLy ret rmy (.ref o :: As) σ out) (hB : pw_Cal y ccy nLy ret n) (hV : pw_CalV y) (hC : pw_Cl ci y.cls T N Y) (hg : ∀ out, f = some out → o < σ.1 ∧ (pw_sh o).1 = ci) (hw : Cond.methodLink own idx y ∈ pw_gt) (hR : rmy.frames + 1 ≤ rm.frames ∧ 8 + (nLy + 11) + rmy.locals ≤ rm.locals) (hn : As.length = n) (hstk : As.reverse ++ .ref o :: st = stk) (hst : (st.map fun v => v.category).sum ≤ 8) (hcs : cells + rmy.cells ≤ rm.cells ∧ slots + rmy.slots ≤ rm.slots) (hc1 : cells + rmy.cells = cells') (hc2 : slots + rmy.slots = slots') (d : decode cc pc = .ok (.invokevirtual idx, 3)) {g : Unit → pw_Sto → Option (α × pw_Sto)} (K : ∀ σ', pw_Sp X cells' slots' (pc + 3) L (st) σ' (g () σ')) : pw_Sp X cells slots pc L stk σ (pw_bd f g) := by
  unfold pw_bd
  subst hstk
  subst hc1
  subst hc2
  obtain ⟨⟨p, l, e, R, s, m, args, below, meth, c⟩, Q, ⟨b, D, c1, c2, c3⟩, out, mc, ms⟩ := X
  intro hF hN H locs ls hl hH hS
  cases hf : f with
  | none => rw [hf] at hF; cases hF
  | some out' =>
    rw [hf] at hF
    intro TT hTT XX
    have hle : TT.heap.size ≤ s.heap.size + cells := XX.heapSize
    rw [hTT] at hle
    have hsz : H.size = b + σ.1 := pw_size (E := (b, D, c1, c2, c3)) (n0 := s.heap.size) (cells := cells) hH hX.2.2.2.2.2.2.2.1 hS.1 hN hle
    refine va_callv (va_runV (As := As.map (pw_tr b)) (rest := st.map (pw_tr b)) ⟨hX.1, hX.2.1, hX.2.2.1, hX.2.2.2.2.1, hX.2.2.2.2.2.1⟩ (hM out' hf) ⟨callB_of n (hX.2.2.2.2.2.1) (pw_good hB.1) rfl rfl rfl (hX.2.2.2.2.2.1 _ hB.2.1) (hX.2.2.2.2.2.1 _ hw) hB.2.2 (by rw [hX.2.2.2.1]; exact hR), hX.2.2.2.2.2.1 _ hV.1, hX.2.2.2.2.2.1 _ hV.2⟩ ⟨pw_blind, va_recv hX.2.2.2.2.2.2.1.1 hH (ci := ci) (q0 := o) hC.1 (by rw [pw_ws_at (hg out' hf).1, pw_cell_o (hg out' hf).2 hC.2.1]), fun U hU hW => ⟨rfl, by rw [hU]; exact hH, by rw [hU]; exact hsz, pw_T.moved hW hX.2.2.2.2.2.2.1⟩⟩ rfl (by rw [List.length_map]; exact hn) (by rw [← hX.2.2.1]; exact hl.1) (by rw [List.map_append, List.map_reverse]; rfl) (lv_room (by rw [pw_cat]; exact hst)) d (by rw [hX.2.2.2.1]; exact hcs)) hS (fun q _ h => h) (fun q h => h) (fun u t H1 locs1 ht hvm hw hB hz1 hk1 hS1 => ?_) TT hTT XX
    have hN2 : b + out'.2.1 = s.heap.size + (cells + rmy.cells) := by
      have h9 := hw
      have h8 : b + σ.1 = s.heap.size + cells := hN
      omega
    exact K out'.2 hF hN2 H1 locs1 ls hl (by rw [← ht]; exact hB.1) hS1
theorem sp_callVIN (hX : pw_Ok X cc own rm nL) {f : Option (Int × pw_Sto)} (hM : ∀ out, f = some out → pw_CI X.1.2.1 X.2.2.1 y ccy nLy ret rmy (.ref o :: As) σ out) (hB : pw_Cal y ccy nLy ret n) (hV : pw_CalV y) (hC : pw_Cl ci y.cls T N Y) (hg : ∀ out, f = some out → o < σ.1 ∧ (pw_sh o).1 = ci) (hw : Cond.methodLinkNest own idx y host ∈ pw_nest) (hR : rmy.frames + 1 ≤ rm.frames ∧ 8 + (nLy + 11) + rmy.locals ≤ rm.locals) (hn : As.length = n) (hstk : As.reverse ++ .ref o :: st = stk) (hst : (st.map fun v => v.category).sum ≤ 8) (hcs : cells + rmy.cells ≤ rm.cells ∧ slots + rmy.slots ≤ rm.slots) (hc1 : cells + rmy.cells = cells') (hc2 : slots + rmy.slots = slots') (d : decode cc pc = .ok (.invokevirtual idx, 3)) {g : Int → pw_Sto → Option (α × pw_Sto)} (K : ∀ r σ', pw_Sp X cells' slots' (pc + 3) L (.int (iI r) :: st) σ' (g r σ')) : pw_Sp X cells slots pc L stk σ (pw_bd f g) := by
  unfold pw_bd
  subst hstk
  subst hc1
  subst hc2
  obtain ⟨⟨p, l, e, R, s, m, args, below, meth, c⟩, Q, ⟨b, D, c1, c2, c3⟩, out, mc, ms⟩ := X
  intro hF hN H locs ls hl hH hS
  cases hf : f with
  | none => rw [hf] at hF; cases hF
  | some out' =>
    rw [hf] at hF
    intro TT hTT XX
    have hle : TT.heap.size ≤ s.heap.size + cells := XX.heapSize
    rw [hTT] at hle
    have hsz : H.size = b + σ.1 := pw_size (E := (b, D, c1, c2, c3)) (n0 := s.heap.size) (cells := cells) hH hX.2.2.2.2.2.2.2.1 hS.1 hN hle
    refine va_calli (va_runVN (As := As.map (pw_tr b)) (rest := st.map (pw_tr b)) ⟨hX.1, hX.2.1, hX.2.2.1, hX.2.2.2.2.1, hX.2.2.2.2.2.1⟩ (hM out' hf) ⟨va_cnB n (hX.2.2.2.2.2.1) (pw_good hB.1) rfl rfl rfl (hX.2.2.2.2.2.2.1.2 _ hw) (hX.2.2.2.2.2.1 _ hB.2.1) hB.2.2 (by rw [hX.2.2.2.1]; exact hR), hX.2.2.2.2.2.1 _ hV.1, hX.2.2.2.2.2.1 _ hV.2⟩ ⟨pw_blind, va_recv hX.2.2.2.2.2.2.1.1 hH (ci := ci) (q0 := o) hC.1 (by rw [pw_ws_at (hg out' hf).1, pw_cell_o (hg out' hf).2 hC.2.1]), fun U hU hW => ⟨rfl, by rw [hU]; exact hH, by rw [hU]; exact hsz, pw_T.moved hW hX.2.2.2.2.2.2.1⟩⟩ rfl (by rw [List.length_map]; exact hn) (by rw [← hX.2.2.1]; exact hl.1) (by rw [List.map_append, List.map_reverse]; rfl) (lv_room (by rw [pw_cat]; exact hst)) d (by rw [hX.2.2.2.1]; exact hcs)) hS (fun q _ h => h) (fun q h => h) (fun r u t H1 locs1 ht hvm hw hB hz1 hk1 hS1 => ?_) TT hTT XX
    have hN2 : b + out'.2.1 = s.heap.size + (cells + rmy.cells) := by
      have h9 := hw.2
      have h8 : b + σ.1 = s.heap.size + cells := hN
      omega
    rw [hw.1]
    exact K out'.1 out'.2 hF hN2 H1 locs1 ls hl (by rw [← ht]; exact hB.1) hS1
theorem sp_callVLN (hX : pw_Ok X cc own rm nL) {f : Option (Int64 × pw_Sto)} (hM : ∀ out, f = some out → pw_CL X.1.2.1 X.2.2.1 y ccy nLy ret rmy (.ref o :: As) σ out) (hB : pw_Cal y ccy nLy ret n) (hV : pw_CalV y) (hC : pw_Cl ci y.cls T N Y) (hg : ∀ out, f = some out → o < σ.1 ∧ (pw_sh o).1 = ci) (hw : Cond.methodLinkNest own idx y host ∈ pw_nest) (hR : rmy.frames + 1 ≤ rm.frames ∧ 8 + (nLy + 11) + rmy.locals ≤ rm.locals) (hn : As.length = n) (hstk : As.reverse ++ .ref o :: st = stk) (hst : (st.map fun v => v.category).sum ≤ 8) (hcs : cells + rmy.cells ≤ rm.cells ∧ slots + rmy.slots ≤ rm.slots) (hc1 : cells + rmy.cells = cells') (hc2 : slots + rmy.slots = slots') (d : decode cc pc = .ok (.invokevirtual idx, 3)) {g : Int64 → pw_Sto → Option (α × pw_Sto)} (K : ∀ r σ', pw_Sp X cells' slots' (pc + 3) L (.long r :: st) σ' (g r σ')) : pw_Sp X cells slots pc L stk σ (pw_bd f g) := by
  unfold pw_bd
  subst hstk
  subst hc1
  subst hc2
  obtain ⟨⟨p, l, e, R, s, m, args, below, meth, c⟩, Q, ⟨b, D, c1, c2, c3⟩, out, mc, ms⟩ := X
  intro hF hN H locs ls hl hH hS
  cases hf : f with
  | none => rw [hf] at hF; cases hF
  | some out' =>
    rw [hf] at hF
    intro TT hTT XX
    have hle : TT.heap.size ≤ s.heap.size + cells := XX.heapSize
    rw [hTT] at hle
    have hsz : H.size = b + σ.1 := pw_size (E := (b, D, c1, c2, c3)) (n0 := s.heap.size) (cells := cells) hH hX.2.2.2.2.2.2.2.1 hS.1 hN hle
    refine va_calll (va_runVN (As := As.map (pw_tr b)) (rest := st.map (pw_tr b)) ⟨hX.1, hX.2.1, hX.2.2.1, hX.2.2.2.2.1, hX.2.2.2.2.2.1⟩ (hM out' hf) ⟨va_cnB n (hX.2.2.2.2.2.1) (pw_good hB.1) rfl rfl rfl (hX.2.2.2.2.2.2.1.2 _ hw) (hX.2.2.2.2.2.1 _ hB.2.1) hB.2.2 (by rw [hX.2.2.2.1]; exact hR), hX.2.2.2.2.2.1 _ hV.1, hX.2.2.2.2.2.1 _ hV.2⟩ ⟨pw_blind, va_recv hX.2.2.2.2.2.2.1.1 hH (ci := ci) (q0 := o) hC.1 (by rw [pw_ws_at (hg out' hf).1, pw_cell_o (hg out' hf).2 hC.2.1]), fun U hU hW => ⟨rfl, by rw [hU]; exact hH, by rw [hU]; exact hsz, pw_T.moved hW hX.2.2.2.2.2.2.1⟩⟩ rfl (by rw [List.length_map]; exact hn) (by rw [← hX.2.2.1]; exact hl.1) (by rw [List.map_append, List.map_reverse]; rfl) (lv_room (by rw [pw_cat]; exact hst)) d (by rw [hX.2.2.2.1]; exact hcs)) hS (fun q _ h => h) (fun q h => h) (fun r u t H1 locs1 ht hvm hw hB hz1 hk1 hS1 => ?_) TT hTT XX
    have hN2 : b + out'.2.1 = s.heap.size + (cells + rmy.cells) := by
      have h9 := hw.2
      have h8 : b + σ.1 = s.heap.size + cells := hN
      omega
    rw [hw.1]
    exact K out'.1 out'.2 hF hN2 H1 locs1 ls hl (by rw [← ht]; exact hB.1) hS1
theorem sp_callVVN (hX : pw_Ok X cc own rm nL) {f : Option (Unit × pw_Sto)} (hM : ∀ out, f = some out → pw_CV X.1.2.1 X.2.2.1 y ccy nLy ret rmy (.ref o :: As) σ out) (hB : pw_Cal y ccy nLy ret n) (hV : pw_CalV y) (hC : pw_Cl ci y.cls T N Y) (hg : ∀ out, f = some out → o < σ.1 ∧ (pw_sh o).1 = ci) (hw : Cond.methodLinkNest own idx y host ∈ pw_nest) (hR : rmy.frames + 1 ≤ rm.frames ∧ 8 + (nLy + 11) + rmy.locals ≤ rm.locals) (hn : As.length = n) (hstk : As.reverse ++ .ref o :: st = stk) (hst : (st.map fun v => v.category).sum ≤ 8) (hcs : cells + rmy.cells ≤ rm.cells ∧ slots + rmy.slots ≤ rm.slots) (hc1 : cells + rmy.cells = cells') (hc2 : slots + rmy.slots = slots') (d : decode cc pc = .ok (.invokevirtual idx, 3)) {g : Unit → pw_Sto → Option (α × pw_Sto)} (K : ∀ σ', pw_Sp X cells' slots' (pc + 3) L (st) σ' (g () σ')) : pw_Sp X cells slots pc L stk σ (pw_bd f g) := by
  unfold pw_bd
  subst hstk
  subst hc1
  subst hc2
  obtain ⟨⟨p, l, e, R, s, m, args, below, meth, c⟩, Q, ⟨b, D, c1, c2, c3⟩, out, mc, ms⟩ := X
  intro hF hN H locs ls hl hH hS
  cases hf : f with
  | none => rw [hf] at hF; cases hF
  | some out' =>
    rw [hf] at hF
    intro TT hTT XX
    have hle : TT.heap.size ≤ s.heap.size + cells := XX.heapSize
    rw [hTT] at hle
    have hsz : H.size = b + σ.1 := pw_size (E := (b, D, c1, c2, c3)) (n0 := s.heap.size) (cells := cells) hH hX.2.2.2.2.2.2.2.1 hS.1 hN hle
    refine va_callv (va_runVN (As := As.map (pw_tr b)) (rest := st.map (pw_tr b)) ⟨hX.1, hX.2.1, hX.2.2.1, hX.2.2.2.2.1, hX.2.2.2.2.2.1⟩ (hM out' hf) ⟨va_cnB n (hX.2.2.2.2.2.1) (pw_good hB.1) rfl rfl rfl (hX.2.2.2.2.2.2.1.2 _ hw) (hX.2.2.2.2.2.1 _ hB.2.1) hB.2.2 (by rw [hX.2.2.2.1]; exact hR), hX.2.2.2.2.2.1 _ hV.1, hX.2.2.2.2.2.1 _ hV.2⟩ ⟨pw_blind, va_recv hX.2.2.2.2.2.2.1.1 hH (ci := ci) (q0 := o) hC.1 (by rw [pw_ws_at (hg out' hf).1, pw_cell_o (hg out' hf).2 hC.2.1]), fun U hU hW => ⟨rfl, by rw [hU]; exact hH, by rw [hU]; exact hsz, pw_T.moved hW hX.2.2.2.2.2.2.1⟩⟩ rfl (by rw [List.length_map]; exact hn) (by rw [← hX.2.2.1]; exact hl.1) (by rw [List.map_append, List.map_reverse]; rfl) (lv_room (by rw [pw_cat]; exact hst)) d (by rw [hX.2.2.2.1]; exact hcs)) hS (fun q _ h => h) (fun q h => h) (fun u t H1 locs1 ht hvm hw hB hz1 hk1 hS1 => ?_) TT hTT XX
    have hN2 : b + out'.2.1 = s.heap.size + (cells + rmy.cells) := by
      have h9 := hw
      have h8 : b + σ.1 = s.heap.size + cells := hN
      omega
    exact K out'.2 hF hN2 H1 locs1 ls hl (by rw [← ht]; exact hB.1) hS1
theorem sp_callSI (hX : pw_Ok X cc own rm nL) {f : Option (Int × pw_Sto)} (hM : ∀ out, f = some out → pw_CI X.1.2.1 X.2.2.1 y ccy nLy ret rmy As σ out) (hB : pw_Cal y ccy nLy ret n) (hV : Cond.static y ∈ pw_gt) (hw : Cond.methodLink own idx y ∈ pw_gt) (hR : rmy.frames + 1 ≤ rm.frames ∧ 8 + (nLy + 11) + rmy.locals ≤ rm.locals) (hn : As.length = n) (hstk : As.reverse ++ st = stk) (hst : (st.map fun v => v.category).sum ≤ 8) (hcs : cells + rmy.cells ≤ rm.cells ∧ slots + rmy.slots ≤ rm.slots) (hc1 : cells + rmy.cells = cells') (hc2 : slots + rmy.slots = slots') (d : decode cc pc = .ok (.invokestatic idx, 3)) {g : Int → pw_Sto → Option (α × pw_Sto)} (K : ∀ r σ', pw_Sp X cells' slots' (pc + 3) L (.int (iI r) :: st) σ' (g r σ')) : pw_Sp X cells slots pc L stk σ (pw_bd f g) := by
  unfold pw_bd
  subst hstk
  subst hc1
  subst hc2
  obtain ⟨⟨p, l, e, R, s, m, args, below, meth, c⟩, Q, ⟨b, D, c1, c2, c3⟩, out, mc, ms⟩ := X
  intro hF hN H locs ls hl hH hS
  cases hf : f with
  | none => rw [hf] at hF; cases hF
  | some out' =>
    rw [hf] at hF
    intro TT hTT XX
    have hle : TT.heap.size ≤ s.heap.size + cells := XX.heapSize
    rw [hTT] at hle
    have hsz : H.size = b + σ.1 := pw_size (E := (b, D, c1, c2, c3)) (n0 := s.heap.size) (cells := cells) hH hX.2.2.2.2.2.2.2.1 hS.1 hN hle
    refine va_calli (va_runS (As := As.map (pw_tr b)) (rest := st.map (pw_tr b)) ⟨hX.1, hX.2.1, hX.2.2.1, hX.2.2.2.2.1, hX.2.2.2.2.2.1⟩ (hM out' hf) ⟨callB_of n (hX.2.2.2.2.2.1) (pw_good hB.1) rfl rfl rfl (hX.2.2.2.2.2.1 _ hB.2.1) (hX.2.2.2.2.2.1 _ hw) hB.2.2 (by rw [hX.2.2.2.1]; exact hR), hX.2.2.2.2.2.1 _ hV⟩ ⟨pw_blind, fun U hU hW => ⟨rfl, by rw [hU]; exact hH, by rw [hU]; exact hsz, pw_T.moved hW hX.2.2.2.2.2.2.1⟩⟩ rfl (by rw [List.length_map]; exact hn) (by rw [← hX.2.2.1]; exact hl.1) (by rw [List.map_append, List.map_reverse]) (lv_room (by rw [pw_cat]; exact hst)) d (by rw [hX.2.2.2.1]; exact hcs)) hS (fun q _ h => h) (fun q h => h) (fun r u t H1 locs1 ht hvm hw hB hz1 hk1 hS1 => ?_) TT hTT XX
    have hN2 : b + out'.2.1 = s.heap.size + (cells + rmy.cells) := by
      have h9 := hw.2
      have h8 : b + σ.1 = s.heap.size + cells := hN
      omega
    rw [hw.1]
    exact K out'.1 out'.2 hF hN2 H1 locs1 ls hl (by rw [← ht]; exact hB.1) hS1
theorem sp_callSL (hX : pw_Ok X cc own rm nL) {f : Option (Int64 × pw_Sto)} (hM : ∀ out, f = some out → pw_CL X.1.2.1 X.2.2.1 y ccy nLy ret rmy As σ out) (hB : pw_Cal y ccy nLy ret n) (hV : Cond.static y ∈ pw_gt) (hw : Cond.methodLink own idx y ∈ pw_gt) (hR : rmy.frames + 1 ≤ rm.frames ∧ 8 + (nLy + 11) + rmy.locals ≤ rm.locals) (hn : As.length = n) (hstk : As.reverse ++ st = stk) (hst : (st.map fun v => v.category).sum ≤ 8) (hcs : cells + rmy.cells ≤ rm.cells ∧ slots + rmy.slots ≤ rm.slots) (hc1 : cells + rmy.cells = cells') (hc2 : slots + rmy.slots = slots') (d : decode cc pc = .ok (.invokestatic idx, 3)) {g : Int64 → pw_Sto → Option (α × pw_Sto)} (K : ∀ r σ', pw_Sp X cells' slots' (pc + 3) L (.long r :: st) σ' (g r σ')) : pw_Sp X cells slots pc L stk σ (pw_bd f g) := by
  unfold pw_bd
  subst hstk
  subst hc1
  subst hc2
  obtain ⟨⟨p, l, e, R, s, m, args, below, meth, c⟩, Q, ⟨b, D, c1, c2, c3⟩, out, mc, ms⟩ := X
  intro hF hN H locs ls hl hH hS
  cases hf : f with
  | none => rw [hf] at hF; cases hF
  | some out' =>
    rw [hf] at hF
    intro TT hTT XX
    have hle : TT.heap.size ≤ s.heap.size + cells := XX.heapSize
    rw [hTT] at hle
    have hsz : H.size = b + σ.1 := pw_size (E := (b, D, c1, c2, c3)) (n0 := s.heap.size) (cells := cells) hH hX.2.2.2.2.2.2.2.1 hS.1 hN hle
    refine va_calll (va_runS (As := As.map (pw_tr b)) (rest := st.map (pw_tr b)) ⟨hX.1, hX.2.1, hX.2.2.1, hX.2.2.2.2.1, hX.2.2.2.2.2.1⟩ (hM out' hf) ⟨callB_of n (hX.2.2.2.2.2.1) (pw_good hB.1) rfl rfl rfl (hX.2.2.2.2.2.1 _ hB.2.1) (hX.2.2.2.2.2.1 _ hw) hB.2.2 (by rw [hX.2.2.2.1]; exact hR), hX.2.2.2.2.2.1 _ hV⟩ ⟨pw_blind, fun U hU hW => ⟨rfl, by rw [hU]; exact hH, by rw [hU]; exact hsz, pw_T.moved hW hX.2.2.2.2.2.2.1⟩⟩ rfl (by rw [List.length_map]; exact hn) (by rw [← hX.2.2.1]; exact hl.1) (by rw [List.map_append, List.map_reverse]) (lv_room (by rw [pw_cat]; exact hst)) d (by rw [hX.2.2.2.1]; exact hcs)) hS (fun q _ h => h) (fun q h => h) (fun r u t H1 locs1 ht hvm hw hB hz1 hk1 hS1 => ?_) TT hTT XX
    have hN2 : b + out'.2.1 = s.heap.size + (cells + rmy.cells) := by
      have h9 := hw.2
      have h8 : b + σ.1 = s.heap.size + cells := hN
      omega
    rw [hw.1]
    exact K out'.1 out'.2 hF hN2 H1 locs1 ls hl (by rw [← ht]; exact hB.1) hS1
theorem sp_callSV (hX : pw_Ok X cc own rm nL) {f : Option (Unit × pw_Sto)} (hM : ∀ out, f = some out → pw_CV X.1.2.1 X.2.2.1 y ccy nLy ret rmy As σ out) (hB : pw_Cal y ccy nLy ret n) (hV : Cond.static y ∈ pw_gt) (hw : Cond.methodLink own idx y ∈ pw_gt) (hR : rmy.frames + 1 ≤ rm.frames ∧ 8 + (nLy + 11) + rmy.locals ≤ rm.locals) (hn : As.length = n) (hstk : As.reverse ++ st = stk) (hst : (st.map fun v => v.category).sum ≤ 8) (hcs : cells + rmy.cells ≤ rm.cells ∧ slots + rmy.slots ≤ rm.slots) (hc1 : cells + rmy.cells = cells') (hc2 : slots + rmy.slots = slots') (d : decode cc pc = .ok (.invokestatic idx, 3)) {g : Unit → pw_Sto → Option (α × pw_Sto)} (K : ∀ σ', pw_Sp X cells' slots' (pc + 3) L (st) σ' (g () σ')) : pw_Sp X cells slots pc L stk σ (pw_bd f g) := by
  unfold pw_bd
  subst hstk
  subst hc1
  subst hc2
  obtain ⟨⟨p, l, e, R, s, m, args, below, meth, c⟩, Q, ⟨b, D, c1, c2, c3⟩, out, mc, ms⟩ := X
  intro hF hN H locs ls hl hH hS
  cases hf : f with
  | none => rw [hf] at hF; cases hF
  | some out' =>
    rw [hf] at hF
    intro TT hTT XX
    have hle : TT.heap.size ≤ s.heap.size + cells := XX.heapSize
    rw [hTT] at hle
    have hsz : H.size = b + σ.1 := pw_size (E := (b, D, c1, c2, c3)) (n0 := s.heap.size) (cells := cells) hH hX.2.2.2.2.2.2.2.1 hS.1 hN hle
    refine va_callv (va_runS (As := As.map (pw_tr b)) (rest := st.map (pw_tr b)) ⟨hX.1, hX.2.1, hX.2.2.1, hX.2.2.2.2.1, hX.2.2.2.2.2.1⟩ (hM out' hf) ⟨callB_of n (hX.2.2.2.2.2.1) (pw_good hB.1) rfl rfl rfl (hX.2.2.2.2.2.1 _ hB.2.1) (hX.2.2.2.2.2.1 _ hw) hB.2.2 (by rw [hX.2.2.2.1]; exact hR), hX.2.2.2.2.2.1 _ hV⟩ ⟨pw_blind, fun U hU hW => ⟨rfl, by rw [hU]; exact hH, by rw [hU]; exact hsz, pw_T.moved hW hX.2.2.2.2.2.2.1⟩⟩ rfl (by rw [List.length_map]; exact hn) (by rw [← hX.2.2.1]; exact hl.1) (by rw [List.map_append, List.map_reverse]) (lv_room (by rw [pw_cat]; exact hst)) d (by rw [hX.2.2.2.1]; exact hcs)) hS (fun q _ h => h) (fun q h => h) (fun u t H1 locs1 ht hvm hw hB hz1 hk1 hS1 => ?_) TT hTT XX
    have hN2 : b + out'.2.1 = s.heap.size + (cells + rmy.cells) := by
      have h9 := hw
      have h8 : b + σ.1 = s.heap.size + cells := hN
      omega
    exact K out'.2 hF hN2 H1 locs1 ls hl (by rw [← ht]; exact hB.1) hS1
theorem sp_callSIN (hX : pw_Ok X cc own rm nL) {f : Option (Int × pw_Sto)} (hM : ∀ out, f = some out → pw_CI X.1.2.1 X.2.2.1 y ccy nLy ret rmy As σ out) (hB : pw_Cal y ccy nLy ret n) (hV : Cond.static y ∈ pw_gt) (hw : Cond.methodLinkNest own idx y host ∈ pw_nest) (hR : rmy.frames + 1 ≤ rm.frames ∧ 8 + (nLy + 11) + rmy.locals ≤ rm.locals) (hn : As.length = n) (hstk : As.reverse ++ st = stk) (hst : (st.map fun v => v.category).sum ≤ 8) (hcs : cells + rmy.cells ≤ rm.cells ∧ slots + rmy.slots ≤ rm.slots) (hc1 : cells + rmy.cells = cells') (hc2 : slots + rmy.slots = slots') (d : decode cc pc = .ok (.invokestatic idx, 3)) {g : Int → pw_Sto → Option (α × pw_Sto)} (K : ∀ r σ', pw_Sp X cells' slots' (pc + 3) L (.int (iI r) :: st) σ' (g r σ')) : pw_Sp X cells slots pc L stk σ (pw_bd f g) := by
  unfold pw_bd
  subst hstk
  subst hc1
  subst hc2
  obtain ⟨⟨p, l, e, R, s, m, args, below, meth, c⟩, Q, ⟨b, D, c1, c2, c3⟩, out, mc, ms⟩ := X
  intro hF hN H locs ls hl hH hS
  cases hf : f with
  | none => rw [hf] at hF; cases hF
  | some out' =>
    rw [hf] at hF
    intro TT hTT XX
    have hle : TT.heap.size ≤ s.heap.size + cells := XX.heapSize
    rw [hTT] at hle
    have hsz : H.size = b + σ.1 := pw_size (E := (b, D, c1, c2, c3)) (n0 := s.heap.size) (cells := cells) hH hX.2.2.2.2.2.2.2.1 hS.1 hN hle
    refine va_calli (va_runSN (As := As.map (pw_tr b)) (rest := st.map (pw_tr b)) ⟨hX.1, hX.2.1, hX.2.2.1, hX.2.2.2.2.1, hX.2.2.2.2.2.1⟩ (hM out' hf) ⟨va_cnB n (hX.2.2.2.2.2.1) (pw_good hB.1) rfl rfl rfl (hX.2.2.2.2.2.2.1.2 _ hw) (hX.2.2.2.2.2.1 _ hB.2.1) hB.2.2 (by rw [hX.2.2.2.1]; exact hR), hX.2.2.2.2.2.1 _ hV, trivial⟩ ⟨pw_blind, fun U hU hW => ⟨rfl, by rw [hU]; exact hH, by rw [hU]; exact hsz, pw_T.moved hW hX.2.2.2.2.2.2.1⟩⟩ rfl (by rw [List.length_map]; exact hn) (by rw [← hX.2.2.1]; exact hl.1) (by rw [List.map_append, List.map_reverse]) (lv_room (by rw [pw_cat]; exact hst)) d (by rw [hX.2.2.2.1]; exact hcs)) hS (fun q _ h => h) (fun q h => h) (fun r u t H1 locs1 ht hvm hw hB hz1 hk1 hS1 => ?_) TT hTT XX
    have hN2 : b + out'.2.1 = s.heap.size + (cells + rmy.cells) := by
      have h9 := hw.2
      have h8 : b + σ.1 = s.heap.size + cells := hN
      omega
    rw [hw.1]
    exact K out'.1 out'.2 hF hN2 H1 locs1 ls hl (by rw [← ht]; exact hB.1) hS1
theorem sp_callSLN (hX : pw_Ok X cc own rm nL) {f : Option (Int64 × pw_Sto)} (hM : ∀ out, f = some out → pw_CL X.1.2.1 X.2.2.1 y ccy nLy ret rmy As σ out) (hB : pw_Cal y ccy nLy ret n) (hV : Cond.static y ∈ pw_gt) (hw : Cond.methodLinkNest own idx y host ∈ pw_nest) (hR : rmy.frames + 1 ≤ rm.frames ∧ 8 + (nLy + 11) + rmy.locals ≤ rm.locals) (hn : As.length = n) (hstk : As.reverse ++ st = stk) (hst : (st.map fun v => v.category).sum ≤ 8) (hcs : cells + rmy.cells ≤ rm.cells ∧ slots + rmy.slots ≤ rm.slots) (hc1 : cells + rmy.cells = cells') (hc2 : slots + rmy.slots = slots') (d : decode cc pc = .ok (.invokestatic idx, 3)) {g : Int64 → pw_Sto → Option (α × pw_Sto)} (K : ∀ r σ', pw_Sp X cells' slots' (pc + 3) L (.long r :: st) σ' (g r σ')) : pw_Sp X cells slots pc L stk σ (pw_bd f g) := by
  unfold pw_bd
  subst hstk
  subst hc1
  subst hc2
  obtain ⟨⟨p, l, e, R, s, m, args, below, meth, c⟩, Q, ⟨b, D, c1, c2, c3⟩, out, mc, ms⟩ := X
  intro hF hN H locs ls hl hH hS
  cases hf : f with
  | none => rw [hf] at hF; cases hF
  | some out' =>
    rw [hf] at hF
    intro TT hTT XX
    have hle : TT.heap.size ≤ s.heap.size + cells := XX.heapSize
    rw [hTT] at hle
    have hsz : H.size = b + σ.1 := pw_size (E := (b, D, c1, c2, c3)) (n0 := s.heap.size) (cells := cells) hH hX.2.2.2.2.2.2.2.1 hS.1 hN hle
    refine va_calll (va_runSN (As := As.map (pw_tr b)) (rest := st.map (pw_tr b)) ⟨hX.1, hX.2.1, hX.2.2.1, hX.2.2.2.2.1, hX.2.2.2.2.2.1⟩ (hM out' hf) ⟨va_cnB n (hX.2.2.2.2.2.1) (pw_good hB.1) rfl rfl rfl (hX.2.2.2.2.2.2.1.2 _ hw) (hX.2.2.2.2.2.1 _ hB.2.1) hB.2.2 (by rw [hX.2.2.2.1]; exact hR), hX.2.2.2.2.2.1 _ hV, trivial⟩ ⟨pw_blind, fun U hU hW => ⟨rfl, by rw [hU]; exact hH, by rw [hU]; exact hsz, pw_T.moved hW hX.2.2.2.2.2.2.1⟩⟩ rfl (by rw [List.length_map]; exact hn) (by rw [← hX.2.2.1]; exact hl.1) (by rw [List.map_append, List.map_reverse]) (lv_room (by rw [pw_cat]; exact hst)) d (by rw [hX.2.2.2.1]; exact hcs)) hS (fun q _ h => h) (fun q h => h) (fun r u t H1 locs1 ht hvm hw hB hz1 hk1 hS1 => ?_) TT hTT XX
    have hN2 : b + out'.2.1 = s.heap.size + (cells + rmy.cells) := by
      have h9 := hw.2
      have h8 : b + σ.1 = s.heap.size + cells := hN
      omega
    rw [hw.1]
    exact K out'.1 out'.2 hF hN2 H1 locs1 ls hl (by rw [← ht]; exact hB.1) hS1
theorem sp_callSVN (hX : pw_Ok X cc own rm nL) {f : Option (Unit × pw_Sto)} (hM : ∀ out, f = some out → pw_CV X.1.2.1 X.2.2.1 y ccy nLy ret rmy As σ out) (hB : pw_Cal y ccy nLy ret n) (hV : Cond.static y ∈ pw_gt) (hw : Cond.methodLinkNest own idx y host ∈ pw_nest) (hR : rmy.frames + 1 ≤ rm.frames ∧ 8 + (nLy + 11) + rmy.locals ≤ rm.locals) (hn : As.length = n) (hstk : As.reverse ++ st = stk) (hst : (st.map fun v => v.category).sum ≤ 8) (hcs : cells + rmy.cells ≤ rm.cells ∧ slots + rmy.slots ≤ rm.slots) (hc1 : cells + rmy.cells = cells') (hc2 : slots + rmy.slots = slots') (d : decode cc pc = .ok (.invokestatic idx, 3)) {g : Unit → pw_Sto → Option (α × pw_Sto)} (K : ∀ σ', pw_Sp X cells' slots' (pc + 3) L (st) σ' (g () σ')) : pw_Sp X cells slots pc L stk σ (pw_bd f g) := by
  unfold pw_bd
  subst hstk
  subst hc1
  subst hc2
  obtain ⟨⟨p, l, e, R, s, m, args, below, meth, c⟩, Q, ⟨b, D, c1, c2, c3⟩, out, mc, ms⟩ := X
  intro hF hN H locs ls hl hH hS
  cases hf : f with
  | none => rw [hf] at hF; cases hF
  | some out' =>
    rw [hf] at hF
    intro TT hTT XX
    have hle : TT.heap.size ≤ s.heap.size + cells := XX.heapSize
    rw [hTT] at hle
    have hsz : H.size = b + σ.1 := pw_size (E := (b, D, c1, c2, c3)) (n0 := s.heap.size) (cells := cells) hH hX.2.2.2.2.2.2.2.1 hS.1 hN hle
    refine va_callv (va_runSN (As := As.map (pw_tr b)) (rest := st.map (pw_tr b)) ⟨hX.1, hX.2.1, hX.2.2.1, hX.2.2.2.2.1, hX.2.2.2.2.2.1⟩ (hM out' hf) ⟨va_cnB n (hX.2.2.2.2.2.1) (pw_good hB.1) rfl rfl rfl (hX.2.2.2.2.2.2.1.2 _ hw) (hX.2.2.2.2.2.1 _ hB.2.1) hB.2.2 (by rw [hX.2.2.2.1]; exact hR), hX.2.2.2.2.2.1 _ hV, trivial⟩ ⟨pw_blind, fun U hU hW => ⟨rfl, by rw [hU]; exact hH, by rw [hU]; exact hsz, pw_T.moved hW hX.2.2.2.2.2.2.1⟩⟩ rfl (by rw [List.length_map]; exact hn) (by rw [← hX.2.2.1]; exact hl.1) (by rw [List.map_append, List.map_reverse]) (lv_room (by rw [pw_cat]; exact hst)) d (by rw [hX.2.2.2.1]; exact hcs)) hS (fun q _ h => h) (fun q h => h) (fun u t H1 locs1 ht hvm hw hB hz1 hk1 hS1 => ?_) TT hTT XX
    have hN2 : b + out'.2.1 = s.heap.size + (cells + rmy.cells) := by
      have h9 := hw
      have h8 : b + σ.1 = s.heap.size + cells := hN
      omega
    exact K out'.2 hF hN2 H1 locs1 ls hl (by rw [← ht]; exact hB.1) hS1
theorem sp_callIV (hX : pw_Ok X cc own rm nL) {f : Option (Unit × pw_Sto)} (hM : ∀ out, f = some out → pw_CV X.1.2.1 X.2.2.1 y ccy nLy none rmy (.ref o :: As) σ out) (hB : pw_Cal y ccy nLy none n) (hV : Cond.instanceMethod y ∈ pw_gt) (hnm : y.name = "<init>") (hw : Cond.methodLink own idx y ∈ pw_gt) (hR : rmy.frames + 1 ≤ rm.frames ∧ 8 + (nLy + 11) + rmy.locals ≤ rm.locals) (hn : As.length = n) (hstk : As.reverse ++ .ref o :: st = stk) (hst : (st.map fun v => v.category).sum ≤ 8) (hcs : cells + rmy.cells ≤ rm.cells ∧ slots + rmy.slots ≤ rm.slots) (hc1 : cells + rmy.cells = cells') (hc2 : slots + rmy.slots = slots') (d : decode cc pc = .ok (.invokespecial idx, 3)) {g : Unit → pw_Sto → Option (α × pw_Sto)} (K : ∀ σ', pw_Sp X cells' slots' (pc + 3) L (st) σ' (g () σ')) : pw_Sp X cells slots pc L stk σ (pw_bd f g) := by
  unfold pw_bd
  subst hstk
  subst hc1
  subst hc2
  obtain ⟨⟨p, l, e, R, s, m, args, below, meth, c⟩, Q, ⟨b, D, c1, c2, c3⟩, out, mc, ms⟩ := X
  intro hF hN H locs ls hl hH hS
  cases hf : f with
  | none => rw [hf] at hF; cases hF
  | some out' =>
    rw [hf] at hF
    intro TT hTT XX
    have hle : TT.heap.size ≤ s.heap.size + cells := XX.heapSize
    rw [hTT] at hle
    have hsz : H.size = b + σ.1 := pw_size (E := (b, D, c1, c2, c3)) (n0 := s.heap.size) (cells := cells) hH hX.2.2.2.2.2.2.2.1 hS.1 hN hle
    refine va_callv (va_runI (As := As.map (pw_tr b)) (rest := st.map (pw_tr b)) ⟨hX.1, hX.2.1, hX.2.2.1, hX.2.2.2.2.1, hX.2.2.2.2.2.1⟩ (hM out' hf) ⟨callB_of n (hX.2.2.2.2.2.1) (pw_good hB.1) rfl rfl rfl (hX.2.2.2.2.2.1 _ hB.2.1) (hX.2.2.2.2.2.1 _ hw) hB.2.2 (by rw [hX.2.2.2.1]; exact hR), hnm, hX.2.2.2.2.2.1 _ hV⟩ ⟨pw_blind, fun U hU hW => ⟨rfl, by rw [hU]; exact hH, by rw [hU]; exact hsz, pw_T.moved hW hX.2.2.2.2.2.2.1⟩⟩ rfl (by rw [List.length_map]; exact hn) (by rw [← hX.2.2.1]; exact hl.1) (by rw [List.map_append, List.map_reverse]; rfl) (lv_room (by rw [pw_cat]; exact hst)) d (by rw [hX.2.2.2.1]; exact hcs)) hS (fun q _ h => h) (fun q h => h) (fun u t H1 locs1 ht hvm hw hB hz1 hk1 hS1 => ?_) TT hTT XX
    have hN2 : b + out'.2.1 = s.heap.size + (cells + rmy.cells) := by
      have h9 := hw
      have h8 : b + σ.1 = s.heap.size + cells := hN
      omega
    exact K out'.2 hF hN2 H1 locs1 ls hl (by rw [← ht]; exact hB.1) hS1
theorem sp_callIVN (hX : pw_Ok X cc own rm nL) {f : Option (Unit × pw_Sto)} (hM : ∀ out, f = some out → pw_CV X.1.2.1 X.2.2.1 y ccy nLy none rmy (.ref o :: As) σ out) (hB : pw_Cal y ccy nLy none n) (hV : Cond.instanceMethod y ∈ pw_gt) (hnm : y.name = "<init>") (hw : Cond.methodLinkNest own idx y host ∈ pw_nest) (hR : rmy.frames + 1 ≤ rm.frames ∧ 8 + (nLy + 11) + rmy.locals ≤ rm.locals) (hn : As.length = n) (hstk : As.reverse ++ .ref o :: st = stk) (hst : (st.map fun v => v.category).sum ≤ 8) (hcs : cells + rmy.cells ≤ rm.cells ∧ slots + rmy.slots ≤ rm.slots) (hc1 : cells + rmy.cells = cells') (hc2 : slots + rmy.slots = slots') (d : decode cc pc = .ok (.invokespecial idx, 3)) {g : Unit → pw_Sto → Option (α × pw_Sto)} (K : ∀ σ', pw_Sp X cells' slots' (pc + 3) L (st) σ' (g () σ')) : pw_Sp X cells slots pc L stk σ (pw_bd f g) := by
  unfold pw_bd
  subst hstk
  subst hc1
  subst hc2
  obtain ⟨⟨p, l, e, R, s, m, args, below, meth, c⟩, Q, ⟨b, D, c1, c2, c3⟩, out, mc, ms⟩ := X
  intro hF hN H locs ls hl hH hS
  cases hf : f with
  | none => rw [hf] at hF; cases hF
  | some out' =>
    rw [hf] at hF
    intro TT hTT XX
    have hle : TT.heap.size ≤ s.heap.size + cells := XX.heapSize
    rw [hTT] at hle
    have hsz : H.size = b + σ.1 := pw_size (E := (b, D, c1, c2, c3)) (n0 := s.heap.size) (cells := cells) hH hX.2.2.2.2.2.2.2.1 hS.1 hN hle
    refine va_callv (va_runIN (As := As.map (pw_tr b)) (rest := st.map (pw_tr b)) ⟨hX.1, hX.2.1, hX.2.2.1, hX.2.2.2.2.1, hX.2.2.2.2.2.1⟩ (hM out' hf) ⟨va_cnB n (hX.2.2.2.2.2.1) (pw_good hB.1) rfl rfl rfl (hX.2.2.2.2.2.2.1.2 _ hw) (hX.2.2.2.2.2.1 _ hB.2.1) hB.2.2 (by rw [hX.2.2.2.1]; exact hR), hnm, hX.2.2.2.2.2.1 _ hV⟩ ⟨pw_blind, fun U hU hW => ⟨rfl, by rw [hU]; exact hH, by rw [hU]; exact hsz, pw_T.moved hW hX.2.2.2.2.2.2.1⟩⟩ rfl (by rw [List.length_map]; exact hn) (by rw [← hX.2.2.1]; exact hl.1) (by rw [List.map_append, List.map_reverse]; rfl) (lv_room (by rw [pw_cat]; exact hst)) d (by rw [hX.2.2.2.1]; exact hcs)) hS (fun q _ h => h) (fun q h => h) (fun u t H1 locs1 ht hvm hw hB hz1 hk1 hS1 => ?_) TT hTT XX
    have hN2 : b + out'.2.1 = s.heap.size + (cells + rmy.cells) := by
      have h9 := hw
      have h8 : b + σ.1 = s.heap.size + cells := hN
      omega
    exact K out'.2 hF hN2 H1 locs1 ls hl (by rw [← ht]; exact hB.1) hS1
end PWcall
