-- ===== end of PART A; then your names; then what follows =====
/-! THE CLAIM OUT OF ONE WALK OF THE LAW'S BODY. Your part is whole_start (and what it stands on); all else here is the same for every law, but numbers. -/
def R_law : String := "PadeWorkbenchLaw"
def lw_P (b : Addr) (xs : List Int32) (args : Array Value) (s : State) : Prop := args = #[.ref b] ∧ s.IntsAt b xs ∧ xs.length ≤ 2560 ∧ (Jvm.Cond.and given_1 narrow_1).before args s = true
def lw_Q (_ : Array Value) (s : State) (o : Outcome) (t : State) : Prop := o = .returned (some (.int 1)) ∧ Framed s o t [] 600000 7302250
def lw_Z (below : List Frame) (a : Array Value) (s : State) : State → Prop := fun t => ∃ o, t.status = .running ∧ Ended t below o ∧ lw_Q a s o t
/-- the law's own end, with 1 on the stack, nothing written that was there before, its room as the claim has it -/
theorem lw_ret {p : Program} {l : Launch} {e : Env} {s : State} {m : MethodId} {below : List Frame} {meth : Method} {c : Code} {b : Nat} (hx : p.tables.exec = Jvm.exec) (hb : c.code = code) (hr : meth.sig.returnType = ret) (hlocks : meth.locks = false) {pc : Nat} {H : Heap} {ls : Array Slot} (hdg : decode code pc = .ok (.ireturn, 1)) : W p l e room_1 s m #[Value.ref b] below meth c H [] 600000 7302250 (lw_Z below #[Value.ref b] s) (F0 m pc ls [.int 1]) := by
  intro T hT X
  obtain ⟨fs, hret, hrun, hended, hW, hframe⟩ := X.leave (v := some (.int 1)) (hlocks := hlocks) (fun h => by rw [hr] at h; cases h)
  have hmeth' : T.vm.method? m = some meth := X.method'
  refine ⟨T.setFrames fs, ?_, .returned (some (.int 1)), hrun, hended, rfl, ⟨_, rfl⟩, hW, hframe⟩
  jvm_step X.here [X.here.top, hx, hb, hdg, hmeth', hr, ret, narrow_b1]
  (try refine ⟨rfl, ?_⟩); (try refine ⟨rfl, ?_⟩)
  first | (intro acts; rw [hret _ acts rfl rfl rfl]) | rw [hret _ _ rfl rfl rfl]
  exact Steps.refl _
/-- what holds at the law's entry: the machine, the code, the tables' words (any of lw_tbl by 'hts w (by decide +kernel)'), the script of L ints xs at the cell b, what the Statement gives of the start (any of its parts by flat_of_before) -/
def lw_At (p : Program) (s : State) (m : MethodId) (meth : Method) (c : Code) (b L : Nat) (xs : Nat → Int32) : Prop :=
  p.tables.exec = Jvm.exec ∧ c.code = code ∧ meth.sig.returnType = ret ∧ c.maxLocals = 4 ∧ s.vm.findClass R_law = some m.cls ∧ (∀ w ∈ lw_tbl, w.before #[Value.ref b] s = true) ∧ va_X b L xs s s.heap ∧ b < s.heap.size ∧ meth.locks = false ∧ (Jvm.Cond.and given_1 narrow_1).before #[Value.ref b] s = true
theorem md_L_1320 : decode code 1320 = .ok (.ireturn, 1) := by decide +kernel
theorem va_Nw_of {w : Cond} {args : Array Value} {s : State} (hw : w ∈ pw_nest) (h : w.before args s = true) : va_Nw w s := by
  rcases List.mem_append.mp hw with q | q
  · obtain ⟨x, -, rfl⟩ := List.mem_map.mp q
    exact va_Nw.of rfl h
  · rcases List.mem_append.mp q with q | q
    · obtain ⟨x, -, rfl⟩ := List.mem_map.mp q
      exact va_Nw.of rfl h
    · obtain ⟨x, -, rfl⟩ := List.mem_map.mp q
      exact h
theorem pw_gt_in {w : Cond} (h : w ∈ pw_gt) : w ∈ lw_tbl := (List.mem_filter.mp h).1
theorem pw_cl_known {s : State} {args : Array Value} (hts : ∀ w ∈ lw_tbl, w.before args s = true) : ∃ D : va_G, ∀ (k : Nat) (q : vw_C), pw_cl[k]? = some q → u_Kn s q.1 q.2.1 q.2.2 (D.1 k) (D.2 k) := by
  have h2 : ∀ k : Nat, ∃ z : ClassId × (Nat → Nat), ∀ q : vw_C, pw_cl[k]? = some q → u_Kn s q.1 q.2.1 q.2.2 z.1 z.2 := by
    intro k
    match k with
    | 0 =>
      obtain ⟨c0, i0, h⟩ := u_known (C := "PadeWorkbench$Euclid") (T := pw_T0) (N := 6) (n := 6) hts (fun w hw => pw_gt_in (mcl_0.2.2.1 w hw)) (hts _ (pw_gt_in mq_176))
      exact ⟨(c0, i0), fun q hq => by cases hq; exact h⟩
    | 1 =>
      obtain ⟨c0, i0, h⟩ := u_known (C := "PadeWorkbench$Fraction") (T := pw_T1) (N := 2) (n := 2) hts (fun w hw => pw_gt_in (mcl_1.2.2.1 w hw)) (hts _ (pw_gt_in mq_223))
      exact ⟨(c0, i0), fun q hq => by cases hq; exact h⟩
    | 2 =>
      obtain ⟨c0, i0, h⟩ := u_known (C := "PadeWorkbench$FractionText") (T := pw_T2) (N := 6) (n := 6) hts (fun w hw => pw_gt_in (mcl_2.2.2.1 w hw)) (hts _ (pw_gt_in mq_147))
      exact ⟨(c0, i0), fun q hq => by cases hq; exact h⟩
    | 3 =>
      obtain ⟨c0, i0, h⟩ := u_known (C := "PadeWorkbench$History") (T := pw_T3) (N := 3) (n := 3) hts (fun w hw => pw_gt_in (mcl_3.2.2.1 w hw)) (hts _ (pw_gt_in mq_127))
      exact ⟨(c0, i0), fun q hq => by cases hq; exact h⟩
    | 4 =>
      obtain ⟨c0, i0, h⟩ := u_known (C := "PadeWorkbench$Polynomial") (T := pw_T4) (N := 2) (n := 2) hts (fun w hw => pw_gt_in (mcl_4.2.2.1 w hw)) (hts _ (pw_gt_in mq_182))
      exact ⟨(c0, i0), fun q hq => by cases hq; exact h⟩
    | 5 =>
      obtain ⟨c0, i0, h⟩ := u_known (C := "PadeWorkbench$Register") (T := pw_T5) (N := 4) (n := 4) hts (fun w hw => pw_gt_in (mcl_5.2.2.1 w hw)) (hts _ (pw_gt_in mq_264))
      exact ⟨(c0, i0), fun q hq => by cases hq; exact h⟩
    | 6 =>
      obtain ⟨c0, i0, h⟩ := u_known (C := "PadeWorkbench$Scheme") (T := pw_T6) (N := 2) (n := 2) hts (fun w hw => pw_gt_in (mcl_6.2.2.1 w hw)) (hts _ (pw_gt_in mq_251))
      exact ⟨(c0, i0), fun q hq => by cases hq; exact h⟩
    | 7 =>
      obtain ⟨c0, i0, h⟩ := u_known (C := "PadeWorkbench$State") (T := pw_T7) (N := 5) (n := 5) hts (fun w hw => pw_gt_in (mcl_7.2.2.1 w hw)) (hts _ (pw_gt_in mq_93))
      exact ⟨(c0, i0), fun q hq => by cases hq; exact h⟩
    | 8 =>
      obtain ⟨c0, i0, h⟩ := u_known (C := "PadeWorkbench$Toeplitz") (T := pw_T8) (N := 1) (n := 1) hts (fun w hw => pw_gt_in (mcl_8.2.2.1 w hw)) (hts _ (pw_gt_in mq_240))
      exact ⟨(c0, i0), fun q hq => by cases hq; exact h⟩
    | 9 =>
      obtain ⟨c0, i0, h⟩ := u_known (C := "PadeWorkbench") (T := pw_T9) (N := 11) (n := 11) hts (fun w hw => pw_gt_in (mcl_9.2.2.1 w hw)) (hts _ (pw_gt_in mq_85))
      exact ⟨(c0, i0), fun q hq => by cases hq; exact h⟩
    | 10 =>
      obtain ⟨c0, i0, h⟩ := u_known (C := "PadeWorkbenchModel") (T := pw_T10) (N := 20) (n := 20) hts (fun w hw => pw_gt_in (mcl_10.2.2.1 w hw)) (hts _ (pw_gt_in mq_794))
      exact ⟨(c0, i0), fun q hq => by cases hq; exact h⟩
    | k + 11 => exact ⟨(0, fun _ => 0), fun q hq => by simp [pw_cl] at hq⟩
  exact ⟨(fun k => (Classical.choose (h2 k)).1, fun k => (Classical.choose (h2 k)).2), fun k q hq => Classical.choose_spec (h2 k) q hq⟩
theorem pw_nest_in : ∀ w ∈ pw_nest, w ∈ lw_tbl := by decide +kernel
theorem pw_tys_known {s : State} {args : Array Value} (hts : ∀ w ∈ lw_tbl, w.before args s = true) : ∃ c1 c2 c3 : ClassId, ∀ (k : Nat) (q : ClassId × FieldType), ([(c1, .int), (c2, .object "PadeWorkbench$State"), (c3, .array .int)] : List (ClassId × FieldType))[k]? = some q → ArrOfT s q.1 q.2 ∧ va_RA s q.1 q.2 := by
  have h1 : (Cond.arrayClass .int).before args s = true := hts _ (pw_gt_in mq_125)
  obtain ⟨a1, k1, m1, e1, e2, e3⟩ := Cond.arrayClass_spec h1
  have h2 : (Cond.arrayOver (.object "PadeWorkbench$State")).before args s = true := hts _ (pw_nest_in _ (List.mem_append_right _ (List.mem_append_right _ (List.mem_map.mpr ⟨_, List.mem_of_getElem? (i := 1) rfl, rfl⟩))))
  obtain ⟨m2, a2, k2, f1, -, f3, f4, f5⟩ := Cond.arrayOver_spec h2
  have h3 : (Cond.arrayOver (.array .int)).before args s = true := hts _ (pw_nest_in _ (List.mem_append_right _ (List.mem_append_right _ (List.mem_map.mpr ⟨_, List.mem_of_getElem? (i := 0) rfl, rfl⟩))))
  obtain ⟨m3, a3, k3, g1, g3, g4, g5⟩ := Cond.arrayOver_specA h3
  refine ⟨a1, a2, a3, fun k q hq => ?_⟩
  match k, hq with
  | 0, hq => cases hq; exact ⟨fun n z => ⟨fun k h => (by cases h), k1, e2, m1, e3⟩, e1⟩
  | 1, hq => cases hq; exact ⟨fun n z => ⟨fun k h => (by cases h), k2, f3, m2, f4⟩, k2, m2, f3, f4, f1, f5⟩
  | 2, hq => cases hq; exact ⟨fun n z => ⟨fun k h => (by cases h), k3, g3, m3, g4⟩, g5⟩
  | k + 3, hq => simp at hq
theorem whole_start {p : Program} {e : Env} {s : State} {m : MethodId} {below : List Frame} {meth : Method} {c : Code} (l : Launch) (hflags : l.flags = flags0) {b L : Nat} {xs : Nat → Int32} (hL : L ≤ 2560) (C0 : lw_At p s m meth c b L xs) : W p l e room_1 s m #[Value.ref b] below meth c s.heap [] 0 0 (lw_Z below #[Value.ref b] s) (entryFrame m ([Value.ref b] : List Value).toArray 4) := by
  obtain ⟨hx, hb, hr, hml, hown, hts, hX, hbl, hlocks, hgv⟩ := id C0
  obtain ⟨D, hD⟩ := pw_cl_known hts
  obtain ⟨c1, c2, c3, hty⟩ := pw_tys_known hts
  obtain ⟨σ', hF⟩ := pw_law_total L (fun k => (xs k).toInt) hL (fun k => ⟨Int32.le_toInt (xs k), by have := Int32.toInt_lt (xs k); omega⟩)
  have hT : pw_T (s.heap.size, D, c1, c2, c3) s := ⟨⟨hD, hty⟩, fun w hw => pw_nest_warm (State.WarmedH.refl s) hw (va_Nw_of hw (hts w (pw_nest_in w hw)))⟩
  have hO : pw_Ok (((p, l, e, room_1, s, m, #[Value.ref b], below, meth, c), lw_Z below #[Value.ref b] s, (s.heap.size, D, c1, c2, c3), ((), σ'), 600000, 7302250) : pw_X Unit) code "PadeWorkbenchLaw" room_1 4 := ⟨hx, hb, hml, rfl, hown, fun w hw => hts w (pw_gt_in hw), hT, Nat.le_refl _, rfl, rfl⟩
  have hR : pw_RW (((p, l, e, room_1, s, m, #[Value.ref b], below, meth, c), lw_Z below #[Value.ref b] s, (s.heap.size, D, c1, c2, c3), ((), σ'), 600000, 7302250) : pw_X Unit) := by
    intro ls σ H locs cells slots hc hs _ hS
    refine va_forget (fun q hq => hS.2.2 q hq) ?_
    refine W.widen (k := 600000) (n := 7302250) hc hs ?_
    exact lw_ret hx hb hr hlocks md_L_1320
  have hl := lv_entry ([.ref b]) (n := 4) (Nat.le_of_ble_eq_true rfl)
  rw [lg_entry_eq]
  exact lss_law hO hR (bs := b) (Lx := L) (xs := fun k => (xs k).toInt) ⟨xs, hX, hbl, hbl, hL, fun _ => rfl⟩ (0, (fun _ _ => 0), (fun _ _ => none)) hF rfl s.heap [] _ (by rw [hml]; exact hl) (fun k q h => by simp [pw_ws] at h) va_S.rf
-- ===== YOUR PART ENDS =====
set_option maxHeartbeats 4000000 in
theorem lw_walk (l : Launch) (hflags : l.flags = flags0) (b : Addr) (xs : List Int32) : MetFree l x (headSpec (Jvm.Cond.code x code maxLocals ret :: tables_1) room_1) (lw_P b xs) (fun _ _ _ _ _ => True) lw_Q := by
  refine MetFree.of_bodyS (code := code) (maxLocals := maxLocals) (ret := ret) (by decide) ?_ ?_
  · intro args s m h hn
    obtain ⟨meth, c, h1, h2, h3, h4, h5, h6, -, -⟩ := Cond.code_spec hn (atoms_spec (ws := Jvm.Cond.code x code maxLocals ret :: tables_1) h _ List.mem_cons_self)
    exact ⟨meth, c, h1, h2, h3, h4, h5, h6⟩
  · intro p e s m args below meth c s₁ B hml0 hP _
    obtain ⟨rfl, hx, hbd, hgv⟩ := hP
    obtain ⟨scr, harrAt, hlist, hof, hsmall⟩ := hx
    obtain ⟨hcb, hkn, -, -⟩ := State.arrayAt?_spec harrAt
    have hown : s.vm.findClass R_law = some m.cls := findClass_of_methodNamed B.named
    have hts0 : ∀ c ∈ (Jvm.Cond.code x code maxLocals ret :: tables_1), c.before #[Value.ref b] s = true := atoms_spec (ws := Jvm.Cond.code x code maxLocals ret :: tables_1) B.pre
    have hts : ∀ w ∈ lw_tbl, w.before #[Value.ref b] s = true := k2_hts_sels lw_privs (fun w hw => hts0 w (List.mem_cons_of_mem _ hw)) lw_privs_ok
    have hml : c.maxLocals = 4 := B.maxLocals_eq (hts0 _ List.mem_cons_self)
    have X₀ : Stand p l e room_1 s m #[Value.ref b] below meth c s₁ [] 0 0 := Stand.of_body B
    have hh0 : s₁.heap = s.heap := by rw [B.state]; rfl
    have hsz : scr.slots.size = xs.length := by rw [← Array.length_toList, hlist, List.length_map]
    have hval : ∀ j : Nat, j < xs.length → scr.slots[j]? = some (.int (xs.getD j 0)) := fun j hj => by
      rw [← Array.getElem?_toList, hlist]
      simp [hj]
    have hbl : b < s.heap.size := (Array.getElem?_eq_some_iff.mp hcb).1
    have hX : va_X b xs.length (fun j => xs.getD j 0) s s.heap := ⟨scr, hcb, hof, hkn, hsz, hval⟩
    have K : W p l e room_1 s m #[Value.ref b] below meth c s₁.heap [] 0 0 (lw_Z below #[Value.ref b] s) (entryFrame m ([Value.ref b] : List Value).toArray 4) := by
      rw [hh0]
      exact whole_start l hflags hbd ⟨B.exec, B.bytes, B.returns, hml, hown, hts, hX, hbl, B.notSynchronized, hgv⟩
    obtain ⟨t, a1, o, b1, b2, b3⟩ := K s₁ rfl X₀
    exact ⟨t, o, a1, b1, b2, b3⟩
theorem lw_pre_spec {args : Array Value} {s : State} (h : (Jvm.Cond.and given_1 narrow_1).before args s = true) (hr : rest_1_c.before args s = true) : ∃ (b : Addr) (xs : List Int32), lw_P b xs args s := by
  have hs := flat_of_before _ h
  have hq := flat_of_before _ hr
  have hc : (Cond.count 1).before args s = true := hs _ (by decide +kernel)
  have harr : (Cond.arrayOf (.arg 0) .int).before args s = true := hs _ (by decide +kernel)
  have hle : (Cond.le (.length (.arg 0)) (.int 2560)).before args s = true := hs _ (by decide +kernel)
  have hlen : (Cond.isInt (.length (.arg 0))).before args s = true := hq _ (by decide +kernel)
  have hall : (Cond.all (.arg 0) (.isInt (.elem (.arg 0) (.index 0)))).before args s = true := hq _ (by decide +kernel)
  obtain ⟨b, xs, hb, hx⟩ := State.ints_of_pre rfl harr hlen hall
  have hsm : xs.length < 2 ^ 31 := hx.choose_spec.2.2.2
  have hev : (Term.length (.arg 0)).eval args s none [] s = some (.int xs.length.toInt32) := hx.length_eval hb
  have hv := Cond.le_ints hev (show (Term.int 2560).eval args s none [] s = some (.int 2560) from rfl)
  have hd : xs.length.toInt32 ≤ 2560 := by
    simpa [Cond.before, Cond.holds, hv] using hle
  have hN : xs.length ≤ 2560 := (Int32.ofNat_le_ofNat hsm (by decide)).mp (show Int32.ofNat xs.length ≤ Int32.ofNat 2560 from hd)
  exact ⟨b, xs, Cond.one_arg hc (show args[0]? = some (.ref b) from hb), hx, hN, h⟩
theorem lw_comes (l : Launch) (hflags : l.flags = flags0) : Comes l x (Jvm.Cond.code x code maxLocals ret :: tables_1) room_1 (fun tb e args s => Calls_1 tb e args s ∧ rest_1 tb e args s ∧ Pre_1 tb e args s)
    (fun _ _ args s o t => lw_Q args s o t) := by
  intro p e ha hc hk s m args below hf hfit hheap happ hpre
  obtain ⟨b, xs, hP⟩ := lw_pre_spec hpre.2.2 hpre.2.1
  obtain ⟨k, o, h1, h2, h3, hQ⟩ := lw_walk l hflags b xs p e ha hc hk s m args below hf ((Spec.applies_iff_loose hf).mp happ).1 hP trivial
  exact ⟨k, o, h1, h2, h3, hQ⟩
theorem lw_frame {s t : State} {o : Outcome} {args : Array Value} (h : Framed s o t [] 600000 7302250) :
    Framed s o t (fieldLocs frame_1_writes args s ++ arrayLocs frame_1_arrays args s ++ staticLocs frame_1_statics s) 600000 7302250 := h
theorem lw_limb (L : Cond) (hL : ∀ (args : Array Value) (s t : State), L.after args s (.returned (some (.int 1))) t = true) :
    ArmFor flags0 classFile x code maxLocals ret World_1 tables_1 room_1 Calls_1 rest_1 Pre_1
      (fun tb e a s o t => postC L tb e a s o t ∧ Framed s o t (fieldLocs frame_1_writes a s ++ arrayLocs frame_1_arrays a s ++ staticLocs frame_1_statics s) 600000 7302250) := by
  intro l hflags _ _ p e ha hc hk s m args below hf hfit hheap happ hpre
  obtain ⟨k, o, h1, h2, h3, rfl, hF⟩ := lw_comes l hflags p e ha hc hk s m args below hf hfit hheap happ hpre
  exact ⟨k, _, h1, h2, h3, hL args s _, lw_frame hF⟩
theorem i_vc : Claimed_1_1 ∧ Claimed_1_2 := ⟨lw_limb limb_1_1 (fun args s t => by simp [limb_1_1, Cond.after, Cond.holds, Cond.value]), lw_limb limb_1_2 (fun args s t => Cond.after_iff.mpr (by
  first | (rw [show limb_1_2 = Cond.eq .result (.int 1) from rfl, Cond.eq_ints (x := 1) (y := 1) rfl rfl]; simp; done) | (simp [limb_1_2, Cond.value, Term.eval]; done)))⟩
