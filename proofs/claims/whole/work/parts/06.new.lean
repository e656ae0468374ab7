/-! ## making cells -/
def pw_new (n : Nat) (σ : pw_Sto) (r : Nat → Nat → Option Nat) : pw_Sto := (σ.1 + n, (fun i => if i < σ.1 then σ.2.1 i else (fun _ => 0)), (fun i => if i < σ.1 then σ.2.2 i else r i))
def pw_nw (c : Nat) (σ : pw_Sto) : Option (Nat × pw_Sto) := if (pw_sh σ.1).1 = c then some (σ.1, pw_new 1 σ (fun _ _ => none)) else none
def pw_na (n : Nat) (σ : pw_Sto) : Option (Nat × pw_Sto) := if pw_sh σ.1 = (11, n) then some (σ.1, pw_new 1 σ (fun _ _ => none)) else none
def pw_nq (n : Nat) (σ : pw_Sto) : Option (Nat × pw_Sto) := if pw_sh σ.1 = (12, n) then some (σ.1, pw_new 1 σ (fun _ _ => none)) else none
def pw_nm (n k : Nat) (σ : pw_Sto) : Option (Nat × pw_Sto) := if k ≤ 344 ∧ pw_sh σ.1 = (13, n) ∧ ∀ j, j < n → pw_sh (σ.1 + 1 + j) = (11, k) then some (σ.1, pw_new (1 + n) σ (fun i j => if i = σ.1 then (if j < n then some (σ.1 + 1 + j) else none) else none)) else none
theorem pw_cell_new {E : pw_E} {σ : pw_Sto} {n : Nat} {r : Nat → Nat → Option Nat} {j : Nat} (h : j < σ.1) : pw_cell E (pw_new n σ r) j = pw_cell E σ j := pw_cell_ne (if_pos h) (if_pos h)
theorem pw_P_new {E : pw_E} {σ : pw_Sto} {n : Nat} {r : Nat → Nat → Option Nat} {H H1 : Heap} (hP : pw_H E σ H) (ho : ∀ q, q < H.size → H1[q]? = H[q]?) (hn : ∀ j, j < n → va_at E.2.1 pw_cl (E.1 + (σ.1 + j), pw_cell E (pw_new n σ r) (σ.1 + j)) H1) : pw_H E (pw_new n σ r) H1 := by
  intro k q hk
  unfold pw_ws at hk
  rw [List.getElem?_map] at hk
  by_cases h : k < (pw_new n σ r).1
  · rw [List.getElem?_range h] at hk
    cases hk
    by_cases h2 : k < σ.1
    · show va_at E.2.1 pw_cl (E.1 + k, pw_cell E (pw_new n σ r) k) H1
      rw [pw_cell_new h2]
      have h3 := hP k _ (pw_ws_at h2)
      exact h3.kept (ho _ h3.lt)
    · have h4 : k < σ.1 + n := h
      have h5 := hn (k - σ.1) (by omega)
      rw [show σ.1 + (k - σ.1) = k by omega] at h5
      exact h5
  · rw [List.getElem?_eq_none (by rw [List.length_range]; omega)] at hk
    cases hk
section PWnew
variable {α : Type} {X : pw_X α} {cc : ByteArray} {own : String} {rm : Room} {nL idx cells slots slots' pc : Nat} {L : List (Nat × Value)} {st : List Value} {σ : pw_Sto} {ci : Nat} {C : String} {T : u_T} {N : Nat} {Y : Nat → FieldType}
theorem sp_objInit (hX : pw_Ok X cc own rm nL) {F : Option (α × pw_Sto)} {o : Nat} (h1 : Cond.methodLink own idx objectInit ∈ pw_gt) (h2 : Cond.instanceMethod objectInit ∈ pw_gt) (h3 : Cond.code objectInit ⟨#[0xb1]⟩ 1 none ∈ pw_gt) (hfr : 1 ≤ rm.frames) (hlo : (st.map fun v => v.category).sum + 12 ≤ rm.locals) (d : decode cc pc = .ok (.invokespecial idx, 3)) (K : pw_Sp X cells slots (pc + 3) L st σ F) : pw_Sp X cells slots pc L (.ref o :: st) σ F := by
  obtain ⟨⟨p, l, e, R, s, m, args, below, meth, c⟩, Q, ⟨b, D, c1, c2, c3⟩, out, mc, ms⟩ := X
  intro hF hN H locs ls hl hH hS
  refine W.objInit hX.1 hX.2.1 hX.2.2.2.2.1 (hX.2.2.2.2.2.1 _ h1) (hX.2.2.2.2.2.1 _ h2) (hX.2.2.2.2.2.1 _ h3) rfl hl.1 rfl d (by rw [hX.2.2.2.1]; exact hfr) ?_ (K hF hN H locs ls hl hH hS)
  show 2 * 0 + ((st.map (pw_tr b)).map fun v => v.category).sum + 12 ≤ R.locals
  rw [pw_cat, show R = rm from hX.2.2.2.1]
  omega
theorem sp_new (hX : pw_Ok X cc own rm nL) (hC : pw_Cl ci C T N Y) (hd : ∀ j, j < N → defaultValue (Y j) = (match (pw_ft ci)[j]? with | some true => .int 0 | _ => .null)) (h1 : Cond.classLink own idx C ∈ pw_gt) (h2 : Cond.instantiable C N ∈ pw_gt) (h3 : Cond.initialized C ∈ pw_gt) (hc : cells + 1 ≤ rm.cells) (hs : slots + N ≤ rm.slots) (hs' : slots + N = slots') (d : decode cc pc = .ok (.new idx, 3)) {g : Nat → pw_Sto → Option (α × pw_Sto)} (K : ∀ q σ', pw_Sp X (cells + 1) slots' (pc + 3) L (.ref q :: st) σ' (g q σ')) : pw_Sp X cells slots pc L st σ (pw_bd (pw_nw ci σ) g) := by
  unfold pw_bd
  subst hs'
  obtain ⟨⟨p, l, e, R, s, m, args, below, meth, c⟩, Q, ⟨b, D, c1, c2, c3⟩, out, mc, ms⟩ := X
  intro hF hN H locs ls hl hH hS
  by_cases h : (pw_sh σ.1).1 = ci
  · rw [pw_nw, if_pos h] at hF
    intro TT hTT XX
    have hle : TT.heap.size ≤ s.heap.size + cells := XX.heapSize
    rw [hTT] at hle
    have hsz : H.size = b + σ.1 := pw_size (E := (b, D, c1, c2, c3)) (n0 := s.heap.size) (cells := cells) hH hX.2.2.2.2.2.2.2.1 hS.1 hN hle
    have hKn := hX.2.2.2.2.2.2.1.1.1 ci _ hC.1
    refine W.newcK (g := F0 m pc ls (st.map (pw_tr b))) hX.1 hX.2.1 hX.2.2.2.2.1 (hX.2.2.2.2.2.1 _ h1) (hX.2.2.2.2.2.1 _ h2) (hX.2.2.2.2.2.1 _ h3) rfl d (by rw [hX.2.2.2.1]; exact hc) (by rw [hX.2.2.2.1]; exact hs) hKn.2.1 rfl (fun H1 kC hkC e1 z1 o1 => ?_) TT hTT XX
    have hP1 : pw_H (b, D, c1, c2, c3) (pw_new 1 σ (fun _ _ => none)) H1 := by
      refine pw_P_new hH o1 (fun j hj => ?_)
      have hj0 : j = 0 := by omega
      subst hj0
      rw [Nat.add_zero, pw_cell_o h hC.2.1]
      refine ⟨_, hC.1, ?_⟩
      have hb := (u_born Y (ws := pw_gt) hX.2.2.2.2.2.1 hC.2.2.1 hKn hkC e1 hC.2.2.2.1)
      rw [hsz] at hb
      refine hb.to (fun j hj => ?_)
      rw [hd j hj]
      unfold vp_V
      rw [List.getD_eq_getElem?_getD]
      cases ht : (pw_ft ci)[j]? with
      | none =>
        have := List.getElem?_eq_none_iff.mp ht
        rw [hC.2.2.2.2.2] at this
        omega
      | some t =>
        rw [pw_flds_at ht]
        cases t
        · show Value.null = va_rf (Option.map _ ((pw_new 1 σ (fun _ _ => none)).2.2 σ.1 j))
          show Value.null = va_rf (Option.map _ ((if σ.1 < σ.1 then σ.2.2 σ.1 else (fun _ => none)) j))
          rw [if_neg (Nat.lt_irrefl _)]
          rfl
        · show Value.int 0 = Value.int (iI ((if σ.1 < σ.1 then σ.2.1 σ.1 else (fun _ => 0)) j))
          rw [if_neg (Nat.lt_irrefl _)]
          rfl
    have hk := K σ.1 (pw_new 1 σ (fun _ _ => none)) hF (by show b + (σ.1 + 1) = s.heap.size + (cells + 1); have h8 : b + σ.1 = s.heap.size + cells := hN; omega) H1 locs ls hl hP1 ⟨Nat.le_trans hS.1 (by omega), fun x h1 h2 => (o1 x (Nat.lt_of_lt_of_le h1 hS.1)).trans (hS.2.1 x h1 h2), hS.2.2⟩
    rw [hsz]
    exact hk
  · rw [pw_nw, if_neg h] at hF; cases hF
theorem sp_newa (hX : pw_Ok X cc own rm nL) {n : Nat} (h1 : Cond.arrayClass .int ∈ pw_gt) (hc : cells + 1 ≤ rm.cells) (hs : slots + n ≤ rm.slots) (hs' : slots + n = slots') (d : decode cc pc = .ok (.newarray .int, 2)) {g : Nat → pw_Sto → Option (α × pw_Sto)} (K : ∀ q σ', pw_Sp X (cells + 1) slots' (pc + 2) L (.ref q :: st) σ' (g q σ')) : pw_Sp X cells slots pc L (.int (iI n) :: st) σ (pw_bd (pw_na n σ) g) := by
  unfold pw_bd
  subst hs'
  obtain ⟨⟨p, l, e, R, s, m, args, below, meth, c⟩, Q, ⟨b, D, c1, c2, c3⟩, out, mc, ms⟩ := X
  intro hF hN H locs ls hl hH hS
  by_cases h : pw_sh σ.1 = (11, n)
  · rw [pw_na, if_pos h] at hF
    intro TT hTT XX
    have hle : TT.heap.size ≤ s.heap.size + cells := XX.heapSize
    rw [hTT] at hle
    have hsz : H.size = b + σ.1 := pw_size (E := (b, D, c1, c2, c3)) (n0 := s.heap.size) (cells := cells) hH hX.2.2.2.2.2.2.2.1 hS.1 hN hle
    have hlen : n ≤ 344 := by
      have := pw_sh_le σ.1
      rw [h] at this
      exact this
    have hrn : pw_R (n : Int) := ⟨by omega, by omega⟩
    have hn0 : ¬ iI n < 0 := fun q => by have := (iI_lt (x := n) (y := 0) hrn (by omega)).mp q; omega
    have h4 : componentBytes (newarray.typeOf .int) = 4 := by rfl
    refine va_newaK (atype := .int) (g := F0 m pc ls (.int (iI n) :: st.map (pw_tr b))) (N := n) hX.1 hX.2.1 (hX.2.2.2.2.2.1 _ h1) rfl d rfl hn0 (by rw [iI_cl hrn]; omega) (by rw [h4]; omega) (by rw [hX.2.2.2.1]; exact hc) (by rw [hX.2.2.2.1]; exact hs) hsz (fun H1 cA e1 z1 o1 hAr hNm => ?_) TT hTT XX
    have hcA : cA = c1 := by
      have h9 := (hX.2.2.2.2.2.2.1.1.2 0 (c1, .int) rfl).2
      exact Option.some.inj (hNm.symm.trans h9)
    subst hcA
    have hP1 : pw_H (b, D, cA, c2, c3) (pw_new 1 σ (fun _ _ => none)) H1 := by
      refine pw_P_new hH (by rw [hsz]; exact o1) (fun j hj => ?_)
      have hj0 : j = 0 := by omega
      subst hj0
      rw [Nat.add_zero, pw_cell_i (by rw [h])]
      show H1[b + σ.1]? = some (vp_cell cA _)
      rw [e1, h]
      show _ = some (vp_cell cA (n, .inl (fun k => iI ((if σ.1 < σ.1 then σ.2.1 σ.1 else (fun _ => 0)) k))))
      rw [if_neg (Nat.lt_irrefl _)]
      rfl
    exact K σ.1 (pw_new 1 σ (fun _ _ => none)) hF (by show b + (σ.1 + 1) = s.heap.size + (cells + 1); have h8 : b + σ.1 = s.heap.size + cells := hN; omega) H1 locs ls hl hP1 ⟨Nat.le_trans hS.1 (by omega), fun x h1 h2 => (o1 x (by have := hS.1; omega)).trans (hS.2.1 x h1 h2), hS.2.2⟩
  · rw [pw_na, if_neg h] at hF; cases hF
theorem sp_newq (hX : pw_Ok X cc own rm nL) {n : Nat} (h1 : Cond.classLink own idx "PadeWorkbench$State" ∈ pw_gt) (hc : cells + 1 ≤ rm.cells) (hs : slots + n ≤ rm.slots) (hs' : slots + n = slots') (d : decode cc pc = .ok (.anewarray idx, 3)) {g : Nat → pw_Sto → Option (α × pw_Sto)} (K : ∀ q σ', pw_Sp X (cells + 1) slots' (pc + 3) L (.ref q :: st) σ' (g q σ')) : pw_Sp X cells slots pc L (.int (iI n) :: st) σ (pw_bd (pw_nq n σ) g) := by
  unfold pw_bd
  subst hs'
  obtain ⟨⟨p, l, e, R, s, m, args, below, meth, c⟩, Q, ⟨b, D, c1, c2, c3⟩, out, mc, ms⟩ := X
  intro hF hN H locs ls hl hH hS
  by_cases h : pw_sh σ.1 = (12, n)
  · rw [pw_nq, if_pos h] at hF
    intro TT hTT XX
    have hle : TT.heap.size ≤ s.heap.size + cells := XX.heapSize
    rw [hTT] at hle
    have hsz : H.size = b + σ.1 := pw_size (E := (b, D, c1, c2, c3)) (n0 := s.heap.size) (cells := cells) hH hX.2.2.2.2.2.2.2.1 hS.1 hN hle
    have hlen : n ≤ 344 := by
      have := pw_sh_le σ.1
      rw [h] at this
      exact this
    have hrn : pw_R (n : Int) := ⟨by omega, by omega⟩
    have hn0 : ¬ iI n < 0 := fun q => by have := (iI_lt (x := n) (y := 0) hrn (by omega)).mp q; omega
    have hnn : (iI n).toNatClampNeg = n := by rw [iI_cl hrn]; omega
    have hov : va_AO "PadeWorkbench$State" s := hX.2.2.2.2.2.2.1.2 (.arrayOver (.object "PadeWorkbench$State")) (List.mem_append_right _ (List.mem_append_right _ (List.mem_map.mpr ⟨_, List.mem_of_getElem? (i := 1) rfl, rfl⟩)))
    refine W.anew (g := F0 m pc ls (.int (iI n) :: st.map (pw_tr b))) hX.1 hX.2.1 hX.2.2.2.2.1 (hX.2.2.2.2.2.1 _ h1) (va_AO.use hov) rfl d rfl hn0 (by rw [hnn]; omega) (by rw [hX.2.2.2.1]; exact hc) (by rw [hX.2.2.2.1, hnn]; exact hs) (fun cA kA comp f1 f2 f3 f4 => ?_) TT hTT XX
    have hcA : cA = c2 := by
      obtain ⟨kA2, comp2, g1, g2, g3, g4⟩ := (hX.2.2.2.2.2.2.1.1.2 1 (c2, .object "PadeWorkbench$State") rfl).2
      exact Option.some.inj (f1.symm.trans g4)
    subst hcA
    rw [hnn]
    generalize hH1 : H.push ({ cls := cA, slots := Array.replicate n .null, vm := .none } : Cell) = H1
    have z1 : H1.size = H.size + 1 := by rw [← hH1, Array.size_push]
    have e1 : H1[H.size]? = some (arrV cA n (fun _ => .null)) := by rw [← hH1, Array.getElem?_push_size, ← arrV_new]
    have o1 : ∀ q : Nat, q < H.size → H1[q]? = H[q]? := fun q hq => by rw [← hH1, Array.getElem?_push, if_neg (Nat.ne_of_lt hq)]
    have hP1 : pw_H (b, D, c1, cA, c3) (pw_new 1 σ (fun _ _ => none)) H1 := by
      refine pw_P_new hH o1 (fun j hj => ?_)
      have hj0 : j = 0 := by omega
      subst hj0
      rw [Nat.add_zero, pw_cell_s (by rw [h])]
      show H1[b + σ.1]? = some (vp_cell cA _)
      rw [← hsz, e1, h, vp_cell_q]
      refine congrArg some (congrArg (arrV cA n) (funext fun j => ?_))
      show Value.null = va_rf (Option.map _ ((if σ.1 < σ.1 then σ.2.2 σ.1 else (fun _ => none)) j))
      rw [if_neg (Nat.lt_irrefl _)]
      rfl
    have hk := K σ.1 (pw_new 1 σ (fun _ _ => none)) hF (by show b + (σ.1 + 1) = s.heap.size + (cells + 1); have h8 : b + σ.1 = s.heap.size + cells := hN; omega) H1 locs ls hl hP1 ⟨Nat.le_trans hS.1 (by omega), fun x h1 h2 => (o1 x (Nat.lt_of_lt_of_le h1 hS.1)).trans (hS.2.1 x h1 h2), hS.2.2⟩
    rw [hsz]
    exact hk
  · rw [pw_nq, if_neg h] at hF; cases hF
theorem sp_aastore (hX : pw_Ok X cc own rm nL) {a v : Nat} {i : Int} (d : decode cc pc = .ok (.aastore, 1)) {g : pw_Sto → Option (α × pw_Sto)} (K : ∀ σ', pw_Sp X cells slots (pc + 1) L st σ' (g σ')) : pw_Sp X cells slots pc L (.ref v :: .int (iI i) :: .ref a :: st) σ ((pw_sr 12 a i 7 v σ).bind g) := by
  obtain ⟨⟨p, l, e, R, s, m, args, below, meth, c⟩, Q, ⟨b, D, c1, c2, c3⟩, out, mc, ms⟩ := X
  intro hF hN H locs ls hl hH hS
  by_cases h : ((a < σ.1 ∧ (pw_sh a).1 = 12) ∧ (0 ≤ i ∧ i < (pw_sh a).2)) ∧ (v < σ.1 ∧ (pw_sh v).1 = 7)
  · rw [pw_sr, if_pos h] at hF
    refine va_astq (D := D) (cl := pw_cl) hX.1 hX.2.1 hX.2.2.2.2.2.2.1.1 hH (pw_ws_D (b, D, c1, c2, c3) σ) hS a 1 v 7 (r := ("PadeWorkbench$State", pw_T7, 5)) (by rw [pw_ws_at h.1.1.1, pw_cell_s h.1.1.2]) rfl (by rw [pw_ws_at h.2.1, pw_cell_o h.2.2 (by decide)]) rfl (pw_vin h.1.2) d (fun H1 locs1 hP1 hD1 hS1 => ?_)
    rw [pw_icl h.1.2] at hP1
    refine K (σ.1, σ.2.1, pw_u2 σ.2.2 a i.toNat (some v)) hF hN H1 locs1 ls hl (pw_va_P_setK (E := (b, D, c1, c2, c3)) (σ := σ) (σ' := (σ.1, σ.2.1, pw_u2 σ.2.2 a i.toNat (some v))) rfl h.1.1.1 (fun j hj => pw_cell_ne rfl (pw_u2_ne hj)) ?_ hP1) hS1
    rw [pw_cell_s h.1.1.2]
    show Sum.inl (_, _, Sum.inr (Sum.inr (Sum.inr (Sum.inr (fun k => Option.map _ (pw_u2 σ.2.2 a i.toNat (some v) a k)))))) = _
    refine congrArg (fun f => Sum.inl (c2, (pw_sh a).2, Sum.inr (Sum.inr (Sum.inr (Sum.inr f))))) (funext fun k => ?_)
    rw [pw_u2_at]
    unfold va_up
    by_cases hk : k = i.toNat
    · rw [if_pos hk, if_pos hk]; rfl
    · rw [if_neg hk, if_neg hk]
  · rw [pw_sr, if_neg h] at hF; cases hF
theorem pw_outer (c : ClassId) (N h0 : Nat) : ∀ i : Nat, Jvm.Free.Multi.outerC c N h0 i = arrV c N (fun j => va_rf (if j < i then some (h0 + 1 + j) else none))
  | 0 => by
    show ({ cls := c, slots := Array.replicate N .null, vm := .none } : Cell) = _
    rw [arrV_new]
    refine congrArg (arrV c N) (funext fun j => ?_)
    simp [va_rf]
  | i + 1 => by
    show (Jvm.Free.Multi.outerC c N h0 i).setSlot i (.ref (h0 + 1 + i)) = _
    rw [pw_outer c N h0 i, arrV_store]
    refine congrArg (arrV c N) (funext fun j => ?_)
    by_cases e : j = i
    · subst e
      simp [updV, va_rf]
    · by_cases h : j < i
      · simp [updV, e, h, Nat.lt_succ_of_lt h]
      · simp [updV, e, h, show ¬ j < i + 1 by omega]
theorem sp_mna (hX : pw_Ok X cc own rm nL) {n k : Nat} {cells' : Nat} (h1 : Cond.arrayClass .int ∈ pw_gt) (h2 : Cond.classLink own idx "[[I" ∈ pw_gt) (hc : cells + (1 + n) ≤ rm.cells) (hs : slots + (n + n * k) ≤ rm.slots) (hc' : cells + 1 + n = cells') (hs' : slots + n + n * k = slots') (d : decode cc pc = .ok (.multianewarray idx 2, 4)) {g : Nat → pw_Sto → Option (α × pw_Sto)} (K : ∀ q σ', pw_Sp X cells' slots' (pc + 4) L (.ref q :: st) σ' (g q σ')) : pw_Sp X cells slots pc L (.int (iI k) :: .int (iI n) :: st) σ (pw_bd (pw_nm n k σ) g) := by
  unfold pw_bd
  subst hs'
  subst hc'
  obtain ⟨⟨p, l, e, R, s, m, args, below, meth, c⟩, Q, ⟨b, D, c1, c2, c3⟩, out, mc, ms⟩ := X
  intro hF hN H locs ls hl hH hS
  by_cases h : k ≤ 344 ∧ pw_sh σ.1 = (13, n) ∧ ∀ j, j < n → pw_sh (σ.1 + 1 + j) = (11, k)
  · rw [pw_nm, if_pos h] at hF
    intro TT hTT XX
    have hle : TT.heap.size ≤ s.heap.size + cells := XX.heapSize
    rw [hTT] at hle
    have hsz : H.size = b + σ.1 := pw_size (E := (b, D, c1, c2, c3)) (n0 := s.heap.size) (cells := cells) hH hX.2.2.2.2.2.2.2.1 hS.1 hN hle
    have hn : n ≤ 344 := by
      have := pw_sh_le σ.1
      rw [h.2.1] at this
      exact this
    have hrn : pw_R (n : Int) := ⟨by omega, by omega⟩
    have hn0 : ¬ iI n < 0 := fun q => by have := (iI_lt (x := n) (y := 0) hrn (by omega)).mp q; omega
    have hnn : (iI n).toNatClampNeg = n := by rw [iI_cl hrn]; omega
    have hkb : k ≤ 344 := h.1
    have hrk : pw_R (k : Int) := ⟨by omega, by omega⟩
    have hk0 : ¬ iI k < 0 := fun q => by have := (iI_lt (x := k) (y := 0) hrk (by omega)).mp q; omega
    have hkk : (iI k).toNatClampNeg = k := by rw [iI_cl hrk]; omega
    have hov : (Cond.arrayOver (.array .int)).before args s = true := hX.2.2.2.2.2.2.1.2 (.arrayOver (.array .int)) (List.mem_append_right _ (List.mem_append_right _ (List.mem_map.mpr ⟨_, List.mem_of_getElem? (i := 0) rfl, rfl⟩)))
    have hRs : R = rm := hX.2.2.2.1
    have hb4 : componentBytes .int = 4 := by rfl
    obtain ⟨vm₁, cA, comp, -, fA, fC, hO, -, X', step⟩ := XX.multianewarray2F hX.1 hX.2.2.2.2.1 (hX.2.2.2.2.2.1 _ h2) hov (hX.2.2.2.2.2.1 _ h1) (g := F0 m pc ls (.int (iI k) :: .int (iI n) :: st.map (pw_tr b))) rfl (by rw [hX.2.1]; exact d) rfl hn0 hk0 (by rw [hnn]; omega) (by rw [hb4, hkk]; omega) (by rw [hkk]; omega) rfl rfl (by rw [hRs, hnn]; exact hc) (by rw [hRs, hnn, hkk]; exact hs)
    rw [hnn, hkk] at X' step
    have ecA : cA = c3 := by
      have h9 := (hX.2.2.2.2.2.2.1.1.2 2 (c3, .array .int) rfl).2
      exact Option.some.inj (fA.symm.trans h9)
    have ecC : comp = c1 := by
      have h9 := (hX.2.2.2.2.2.2.1.1.2 0 (c1, .int) rfl).2
      exact Option.some.inj (fC.symm.trans h9)
    subst ecA
    subst ecC
    have hTh : (TT.setVm vm₁).heap = H := hTT
    generalize hFF : Jvm.Free.Multi.fill (TT.setVm vm₁) cA comp n k (defaultValue .int) n = FF at X' step
    obtain ⟨f1, f2, -, -⟩ := Jvm.Free.Multi.fill_facts (TT.setVm vm₁) cA comp n k (defaultValue .int) n
    rw [hFF, hTh] at f1 f2
    have hold : ∀ x : Nat, x < H.size → FF.heap[x]? = H[x]? := fun x hx => by
      have := Jvm.Free.Multi.fill_old (TT.setVm vm₁) cA comp n k (defaultValue .int) (a := x) (by rw [hTh]; exact hx) n
      rw [hFF, hTh] at this
      exact this
    have hrow : ∀ j : Nat, j < n → FF.heap[H.size + 1 + j]? = some (vp_cell comp (k, .inl (fun _ => iI 0))) := fun j hj => by
      have := Jvm.Free.Multi.fill_inner (TT.setVm vm₁) cA comp n k (defaultValue .int) n j hj
      rw [hFF, hTh] at this
      rw [this]
      refine congrArg some ?_
      show ({ cls := comp, slots := Array.replicate k (.int 0), vm := .none } : Cell) = _
      rw [arrV_new]
      rfl
    rw [pw_outer] at f2
    have hP1 : pw_H (b, D, comp, c2, cA) (pw_new (1 + n) σ (fun i j => if i = σ.1 then (if j < n then some (σ.1 + 1 + j) else none) else none)) FF.heap := by
      refine pw_P_new hH hold (fun j hj => ?_)
      cases j with
      | zero =>
        rw [Nat.add_zero, pw_cell_g (by rw [h.2.1])]
        show FF.heap[b + σ.1]? = some (vp_cell cA _)
        rw [← hsz, f2, h.2.1, vp_cell_q]
        refine congrArg some (congrArg (arrV cA n) (funext fun j => ?_))
        show va_rf (if j < n then some (H.size + 1 + j) else none) = va_rf (Option.map (fun j => b + j) ((if σ.1 < σ.1 then σ.2.2 σ.1 else (fun j => if σ.1 = σ.1 then (if j < n then some (σ.1 + 1 + j) else none) else none)) j))
        rw [if_neg (Nat.lt_irrefl σ.1), if_pos rfl, hsz]
        by_cases hj : j < n
        · rw [if_pos hj, if_pos hj]
          show va_rf (some (b + σ.1 + 1 + j)) = va_rf (some (b + (σ.1 + 1 + j)))
          rw [show b + σ.1 + 1 + j = b + (σ.1 + 1 + j) by omega]
        · rw [if_neg hj, if_neg hj]; rfl
      | succ j =>
        have hj2 : j < n := by omega
        have hs9 := h.2.2 j hj2
        rw [show σ.1 + (j + 1) = σ.1 + 1 + j by omega, pw_cell_i (by rw [hs9])]
        show FF.heap[b + (σ.1 + 1 + j)]? = some (vp_cell comp _)
        rw [show b + (σ.1 + 1 + j) = H.size + 1 + j by omega, hrow j hj2, hs9]
        show _ = some (vp_cell comp (k, .inl (fun q => iI ((if σ.1 + 1 + j < σ.1 then σ.2.1 (σ.1 + 1 + j) else (fun _ => 0)) q))))
        rw [if_neg (by omega)]
    obtain ⟨t, a1, b1⟩ := K σ.1 _ hF (by show b + (σ.1 + (1 + n)) = s.heap.size + (cells + 1 + n); have h8 : b + σ.1 = s.heap.size + cells := hN; omega) FF.heap locs ls hl hP1 ⟨by rw [f1]; have := hS.1; omega, fun x h1 h2 => (hold x (Nat.lt_of_lt_of_le h1 hS.1)).trans (hS.2.1 x h1 h2), hS.2.2⟩ FF rfl X'
    refine ⟨t, step t ?_, b1⟩
    have e9 : TT.heap.size = b + σ.1 := by rw [hTT]; exact hsz
    rw [e9]
    exact a1
  · rw [pw_nm, if_neg h] at hF; cases hF
end PWnew
