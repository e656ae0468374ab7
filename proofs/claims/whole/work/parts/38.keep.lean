/-- a loop counting up that writes cell a at off + its counter -/
theorem lp_fillo {O : Type} (f : Nat → Int → pw_Sto → Option O) (σ : pw_Sto) (a off e : Nat) (v : Nat → Int) (out : pw_Sto → Option O)
    (hs : ∀ n k h, k < e → (∀ j, (off + k ≤ j ∨ j < off) → h j = σ.2.1 a j) → (∀ j, j < k → h (off + j) = v j) → f (n + 1) (k : Nat) (pw_st σ a h) = f n ((k + 1 : Nat) : Int) (pw_st σ a (fun j => if j = off + k then v k else h j)))
    (hx : ∀ n h, f (n + 1) (e : Nat) (pw_st σ a h) = out (pw_st σ a h)) (n : Nat) (hn : e < n) :
    f n 0 σ = out (pw_st σ a (fun j => if off ≤ j ∧ j < off + e then v (j - off) else σ.2.1 a j)) := by
  have key : ∀ (n k : Nat) (h : Nat → Int), k ≤ e → e < n + k → (∀ j, (off + k ≤ j ∨ j < off) → h j = σ.2.1 a j) → (∀ j, j < k → h (off + j) = v j) → f n (k : Nat) (pw_st σ a h) = out (pw_st σ a (fun j => if off ≤ j ∧ j < off + e then v (j - off) else σ.2.1 a j)) := by
    intro n
    induction n with
    | zero => intro k h h2 h3; omega
    | succ n ih =>
      intro k h h2 h3 h4 h5
      by_cases hk : k < e
      · rw [hs n k h hk h4 h5]
        refine ih (k + 1) _ (by omega) (by omega) ?_ ?_
        · intro j hj
          show (if j = off + k then v k else h j) = _
          rw [if_neg (by omega)]
          exact h4 j (by omega)
        · intro j h7
          show (if off + j = off + k then v k else h (off + j)) = _
          by_cases hjk : j = k
          · rw [if_pos (by omega), hjk]
          · rw [if_neg (by omega)]
            exact h5 j (by omega)
      · have hk2 : k = e := by omega
        subst hk2
        rw [hx n h]
        refine congrArg out (st_congr fun j => ?_)
        by_cases hj : off ≤ j ∧ j < off + k
        · rw [if_pos hj, ← h5 (j - off) (by omega)]
          congr 1
          omega
        · rw [if_neg hj]
          exact h4 j (by omega)
  have h := key n 0 (σ.2.1 a) (Nat.zero_le _) hn (fun _ _ => rfl) (fun j h2 => by omega)
  rw [st_self] at h
  exact h
theorem take4 {A B : ASt} {Hs : List ASt} {j : Nat} (h : ((A :: Hs).take 4)[j]? = some B) : (j = 0 ∧ B = A) ∨ ∃ i, j = i + 1 ∧ i < 3 ∧ Hs[i]? = some B := by
  have hj : j < 4 := by
    have := (List.getElem?_eq_some_iff.mp h).1
    rw [List.length_take] at this
    omega
  rw [List.getElem?_take, if_pos hj] at h
  cases j with
  | zero => left; rw [List.getElem?_cons_zero] at h; exact ⟨rfl, (Option.some.inj h).symm⟩
  | succ i => right; rw [List.getElem?_cons_succ] at h; exact ⟨i, rfl, by omega, h⟩
theorem take4_len {A : ASt} {Hs : List ASt} (h : Hs.length ≤ 4) : ((A :: Hs).take 4).length = if Hs.length = 4 then 4 else Hs.length + 1 := by
  rw [List.length_take, List.length_cons]
  by_cases q : Hs.length = 4
  · rw [if_pos q]; omega
  · rw [if_neg q]; omega
theorem e_H_keep {σ : pw_Sto} {A : ASt} {T : Nat → Int} {len : Nat} {E : Nat → Int} {Hs : List ASt} (hC : CR σ A T len E Hs) (hV : VR A T len Hs) : ∃ σ', mf_H_keep 9 1 σ = some ((), σ') ∧ CR σ' A T len E ((A :: Hs).take 4) ∧ σ'.1 = σ.1 ∧ σ'.2.2 = σ.2.2 ∧ ∀ i, ¬ (9 ≤ i ∧ i < 43) → σ'.2.1 i = σ.2.1 i := by
  obtain ⟨hL, hDy, hS, hT, hE, nx, h6, h7, h8, h9⟩ := hC
  have hN := hL.1
  have := sh_9
  have := sh_10
  have hl4 := hV.2.2.2.1
  have hnx4 : nx = 0 ∨ nx = 1 ∨ nx = 2 ∨ nx = 3 := by omega
  have hid : isSt (11 + 8 * nx) := by unfold isSt; omega
  have hr10 : σ.2.2 10 nx = some (11 + 8 * nx) := by rcases hnx4 with rfl | rfl | rfl | rfl <;> exact hL.2 (_, _, _) (by decide)
  obtain ⟨s1, e1, c1, c2, c3, c4⟩ := e_Z_copyFrom hL hid (b := 1) (Or.inl rfl) (by omega)
  unfold mf_H_keep
  rw [ex_gd (by omega) (by omega), ex_gr (by omega) (by omega), lr_9_0 hL, Option.bind_some, ex_gi (by omega) (by omega), Option.bind_some, h7, ex_ar (by omega) (by omega) (by omega) (by omega), show ((nx : Int) % 4).toNat = nx by omega, hr10, Option.bind_some, e1, ex_bd, ex_gi (by omega) (by omega), Option.bind_some, xs_pi (by omega) (by omega), Option.bind_some, c3 9 (by omega), h7, ex_gi (by rw [st_1]; omega) (by omega), Option.bind_some, st_eq]
  have hcnt : (if (2 : Nat) = 1 then ((nx : Int) + 1) % 4 else σ.2.1 9 2) = (Hs.length : Int) := by rw [if_neg (by omega)]; exact h8
  have hlen := take4_len (A := A) hl4
  have base : ∀ c : Int, c = (((A :: Hs).take 4).length : Int) → CR (pw_st s1 9 (fun j => if j = 2 then c else if j = 1 then ((nx : Int) + 1) % 4 else σ.2.1 9 j)) A T len E ((A :: Hs).take 4) := by
    intro c hc
    refine ⟨⟨c1.trans hN, fun q hq => by show s1.2.2 _ _ = _; rw [c2]; exact hL.2 q hq⟩, by unfold Dyn; rw [st_2, c2]; exact hDy, hS.kept (fun i _ hi => by rw [st_ne (by omega), c3 i (by omega)]), ⟨by rw [st_ne (by omega), c3 43 (by omega)]; exact hT.1, fun i hi => by rw [st_ne (by omega), c3 44 (by omega)]; exact hT.2 i hi⟩, fun k hk => by rw [st_ne (by omega), c3 90 (by omega)]; exact hE k hk, (nx + 1) % 4, by omega, ?_, ?_, fun j B hj => ?_⟩
    · rw [st_eq]
      show (if (1 : Nat) = 2 then c else if (1 : Nat) = 1 then ((nx : Int) + 1) % 4 else _) = _
      rw [if_neg (by omega), if_pos rfl]
      omega
    · rw [st_eq]
      show (if (2 : Nat) = 2 then c else _) = _
      rw [if_pos rfl, hc]
    · rcases take4 hj with ⟨rfl, rfl⟩ | ⟨i, rfl, hi, hB⟩
      · rw [show ((nx + 1) % 4 + 3 - 0) % 4 = nx by omega]
        exact (c4 B hV.1 hS).kept (fun i _ hi => st_ne (by omega))
      · rw [show ((nx + 1) % 4 + 3 - (i + 1)) % 4 = (nx + 3 - i) % 4 by omega]
        refine (h9 i B hB).kept (fun q hq1 hq2 => ?_)
        have hne : (nx + 3 - i) % 4 ≠ nx := by omega
        rw [st_ne (by omega), c3 q (by omega)]
  rw [hcnt]
  by_cases hq : Hs.length = 4
  · rw [pw_ck_ok (by omega) (by omega), if_pos (by omega)]
    rw [if_pos hq] at hlen
    refine ⟨_, rfl, ?_, c1, c2, fun i hi => by rw [st_ne (by omega), c3 i (by omega)]⟩
    have hb := base (Hs.length : Int) (by rw [hlen, hq])
    have e2 : pw_st s1 9 (fun j => if j = 1 then ((nx : Int) + 1) % 4 else σ.2.1 9 j) = pw_st s1 9 (fun j => if j = 2 then (Hs.length : Int) else if j = 1 then ((nx : Int) + 1) % 4 else σ.2.1 9 j) := st_congr (fun j => by
      by_cases hj : j = 2
      · rw [if_pos hj, if_neg (by omega), hj]; exact h8
      · rw [if_neg hj])
    rw [e2]
    exact hb
  · rw [pw_ck_ok (by omega) (by omega), if_neg (by omega), Option.bind_some, xs_pi (by rw [st_1]; omega) (by omega), Option.bind_some, st_st, st_eq]
    rw [if_neg hq] at hlen
    refine ⟨_, rfl, base ((Hs.length : Int) + 1) (by rw [hlen]; omega), c1, c2, fun i hi => by rw [st_ne (by omega), c3 i (by omega)]⟩
/-! the model's -/
theorem e_M_save50 {σ : pw_Sto} (hL : Lay σ) {w : Nat} (hw : w ≤ 3) (h2 : σ.2.1 91 2 = w) : ml_M_save_50 1000 91 0 σ = some ((), pw_st (pw_st σ 93 (fun j => if 86 * w ≤ j ∧ j < 86 * w + 86 then σ.2.1 92 (j - 86 * w) else σ.2.1 93 j)) 91 (fun j => if j = 2 then (w : Int) + 1 else σ.2.1 91 j)) := by
  have hN := hL.1
  have := sh_91
  have := sh_92
  have := sh_93
  have h := lp_fillo (O := Unit × pw_Sto) (fun n k s => ml_M_save_50 n 91 k s) σ 93 (86 * w) 86 (fun k => σ.2.1 92 k) (fun s => (pw_gi 10 91 2 s).bind (fun v2 => (pw_pi 10 91 2 (v2 + (1 : Int)) s).bind (fun s3 => some ((), s3))))
    (by
      intro n k h hk h1 h3
      show mb_M_save_50 (ml_M_save_50 n) 91 k (pw_st σ 93 h) = _
      unfold mb_M_save_50
      rw [pw_ck_ok (by omega) (by omega), if_neg (by omega), ex_gr (by rw [st_1]; omega) (by omega), st_2, lr_91_1 hL, Option.bind_some, ex_gi (by rw [st_1]; omega) (by omega), Option.bind_some, st_ne (by omega), h2, ex_gr (by rw [st_1]; omega) (by omega), st_2, lr_91_0 hL, Option.bind_some, ex_ai (by rw [st_1]; omega) (by omega) (by omega) (by omega), Option.bind_some, st_ne (by omega), xs_si (by rw [st_1]; omega) (by omega) (by omega) (by omega), Option.bind_some, st_st, st_eq, Int.toNat_natCast, show (86 * (w : Int) + k).toNat = 86 * w + k by omega]
      rfl)
    (by
      intro n h
      show mb_M_save_50 (ml_M_save_50 n) 91 ((86 : Nat) : Int) (pw_st σ 93 h) = _
      unfold mb_M_save_50
      rw [pw_ck_ok (by omega) (by omega), if_pos (by omega)]) 1000 (by omega)
  have h' : ml_M_save_50 1000 91 0 σ = _ := h
  rw [h', ex_gi (by rw [st_1]; omega) (by omega), Option.bind_some, st_ne (by omega), h2, xs_pi (by rw [st_1]; omega) (by omega), Option.bind_some, st_ne (by omega)]
theorem e_M_save10 {σ : pw_Sto} (hL : Lay σ) (h2 : σ.2.1 91 2 = 4) : ml_M_save_10 1000 91 0 σ = ml_M_save_50 1000 91 0 (pw_st (pw_st σ 93 (fun j => if j < 258 then σ.2.1 93 (j + 86) else σ.2.1 93 j)) 91 (fun j => if j = 2 then 3 else σ.2.1 91 j)) := by
  have hN := hL.1
  have := sh_91
  have := sh_93
  have h := lp_fill (O := Unit × pw_Sto) (fun n k s => ml_M_save_10 n 91 k s) σ 93 0 258 (fun k => σ.2.1 93 (k + 86)) (fun s => (pw_gi 10 91 2 s).bind (fun v9 => (pw_pi 10 91 2 (v9 - (1 : Int)) s).bind (fun s10 => ml_M_save_50 1000 91 (0 : Int) s10)))
    (by
      intro n k h hk0 hk h1 h3
      show mb_M_save_10 (ml_M_save_10 n) 91 k (pw_st σ 93 h) = _
      unfold mb_M_save_10
      rw [pw_ck_ok (by omega) (by omega), if_neg (by omega), ex_gr (by rw [st_1]; omega) (by omega), st_2, lr_91_1 hL, Option.bind_some, Option.bind_some, ex_ai (by rw [st_1]; omega) (by omega) (by omega) (by omega), Option.bind_some, st_eq, show ((k : Int) + 86).toNat = k + 86 by omega, h1 (k + 86) (by omega), xs_si (by rw [st_1]; omega) (by omega) (by omega) (by omega), Option.bind_some, st_st, st_eq, Int.toNat_natCast]
      rfl)
    (by
      intro n h
      show mb_M_save_10 (ml_M_save_10 n) 91 ((258 : Nat) : Int) (pw_st σ 93 h) = _
      unfold mb_M_save_10
      rw [pw_ck_ok (by omega) (by omega), if_pos (by omega)]) 1000 (by omega) (by omega)
  have h' : ml_M_save_10 1000 91 0 σ = _ := h
  rw [h', ex_gi (by rw [st_1]; omega) (by omega), Option.bind_some, st_ne (by omega), h2, xs_pi (by rw [st_1]; omega) (by omega), Option.bind_some, st_ne (by omega)]
  have e3 : (fun j => if 0 ≤ j ∧ j < 258 then σ.2.1 93 (j + 86) else σ.2.1 93 j) = (fun j => if j < 258 then σ.2.1 93 (j + 86) else σ.2.1 93 j) := by
    funext j
    simp
  rw [e3]
  rfl
theorem e_M_save {σ : pw_Sto} {A : ASt} {T : Nat → Int} {len : Nat} {E : Nat → Int} {Hs : List ASt} (hM : MR σ A T len E Hs) (hV : VR A T len Hs) : ∃ σ', mf_M_save 91 σ = some ((), σ') ∧ MR σ' A T len E ((A :: Hs).take 4) ∧ σ'.1 = σ.1 ∧ σ'.2.2 = σ.2.2 ∧ ∀ i, i ≠ 91 → i ≠ 93 → σ'.2.1 i = σ.2.1 i := by
  obtain ⟨hL, hS, hT, hE, h5, h6⟩ := hM
  have hN := hL.1
  have := sh_91
  have hl4 := hV.2.2.2.1
  have hN10 := hV.1.2.2.1
  have hlen := take4_len (A := A) hl4
  unfold mf_M_save
  rw [ex_gd (by omega) (by omega), ex_gi (by omega) (by omega), Option.bind_some, h5]
  -- the block of A in the new history, and the others
  have fin : ∀ (τ : pw_Sto) (w : Nat), w ≤ 3 → Lay τ → (∀ i, i ≠ 91 → i ≠ 93 → τ.2.1 i = σ.2.1 i) → τ.1 = σ.1 → τ.2.2 = σ.2.2 → τ.2.1 91 2 = w → (∀ j, j ≠ 2 → τ.2.1 91 j = σ.2.1 91 j) → ((A :: Hs).take 4).length = w + 1 → (∀ i B, i < 3 → Hs[i]? = some B → i < w ∧ StM τ 93 (86 * (w - 1 - i)) B ∧ VA B) → ∃ σ', ml_M_save_50 1000 91 0 τ = some ((), σ') ∧ MR σ' A T len E ((A :: Hs).take 4) ∧ σ'.1 = σ.1 ∧ σ'.2.2 = σ.2.2 ∧ ∀ i, i ≠ 91 → i ≠ 93 → σ'.2.1 i = σ.2.1 i := by
    intro τ w hw hLτ hk1 hk2 hk3 hk4 hk5 hk6 hk7
    refine ⟨_, e_M_save50 hLτ hw hk4, ⟨⟨hLτ.1, fun q hq => by show τ.2.2 _ _ = _; exact hLτ.2 q hq⟩, ?_, ⟨?_, fun i hi => ?_⟩, fun k hk => ?_, ?_, fun j B hj => ?_⟩, hk2, hk3, fun i h1 h2 => by rw [st_ne h1, st_ne h2]; exact hk1 i h1 h2⟩
    · exact (hS.kept (σ' := τ) (hk1 92 (by omega) (by omega))).kept (by rw [st_ne (by omega), st_ne (by omega)])
    · rw [st_eq]
      show (if (5 : Nat) = 2 then _ else τ.2.1 91 5) = _
      rw [if_neg (by omega), hk5 5 (by omega)]
      exact hT.1
    · rw [st_ne (by omega), st_ne (by omega), hk1 95 (by omega) (by omega)]
      exact hT.2 i hi
    · rw [st_ne (by omega), st_ne (by omega), hk1 94 (by omega) (by omega)]
      exact hE k hk
    · rw [st_eq, hk6]
      show (if (2 : Nat) = 2 then (w : Int) + 1 else _) = _
      rw [if_pos rfl]
      omega
    · rw [hk6]
      rcases take4 hj with ⟨rfl, rfl⟩ | ⟨i, rfl, hi, hB⟩
      · obtain ⟨a1, a2, a3, a4⟩ := hS
        rw [show 86 * (w + 1 - 1 - 0) = 86 * w by omega]
        refine ⟨?_, fun s k hs hk => ?_, ?_, fun i hi => ⟨?_, ?_⟩⟩ <;> rw [st_ne (by omega), st_eq, hk1 92 (by omega) (by omega)]
        · rw [if_pos (by omega), show 86 * w - 86 * w = 0 by omega]; exact a1
        · rw [if_pos (by omega), show 86 * w + 1 + 16 * s + k - 86 * w = 0 + 1 + 16 * s + k by omega]; exact a2 s k hs hk
        · rw [if_pos (by omega), show 86 * w + 65 - 86 * w = 0 + 65 by omega]; exact a3
        · rw [if_pos (by omega), show 86 * w + 66 + i - 86 * w = 0 + 66 + i by omega]; exact (a4 i hi).1
        · rw [if_pos (by omega), show 86 * w + 76 + i - 86 * w = 0 + 76 + i by omega]; exact (a4 i hi).2
      · obtain ⟨g0, ⟨a1, a2, a3, a4⟩, hVB⟩ := hk7 i B hi hB
        have hNB := hVB.2.2.1
        rw [show 86 * (w + 1 - 1 - (i + 1)) = 86 * (w - 1 - i) by omega]
        refine ⟨?_, fun s k hs hk => ?_, ?_, fun i' hi' => ⟨?_, ?_⟩⟩ <;> rw [st_ne (by omega), st_eq]
        · rw [if_neg (by omega)]; exact a1
        · rw [if_neg (by omega)]; exact a2 s k hs hk
        · rw [if_neg (by omega)]; exact a3
        · rw [if_neg (by omega)]; exact (a4 i' hi').1
        · rw [if_neg (by omega)]; exact (a4 i' hi').2
  by_cases hq : Hs.length = 4
  · rw [pw_ck_ok (by omega) (by omega), if_pos (by omega), e_M_save10 hL (by rw [h5, hq]; rfl)]
    rw [if_pos hq] at hlen
    refine fin _ 3 (by omega) hL (fun i h1 h2 => by rw [st_ne h1, st_ne h2]) rfl rfl (by rw [st_eq]; rfl) (fun j hj => by rw [st_eq, if_neg hj]) (by rw [hlen]) (fun i B hi hB => ?_)
    obtain ⟨a1, a2, a3, a4⟩ := h6 i B hB
    have hNB := (hV.2.2.2.2 B (List.mem_of_getElem? hB)).2.2.1
    rw [hq] at a1 a2 a3 a4
    refine ⟨by omega, ⟨?_, fun s k hs hk => ?_, ?_, fun i' hi' => ⟨?_, ?_⟩⟩, hV.2.2.2.2 B (List.mem_of_getElem? hB)⟩ <;> rw [st_ne (by omega), st_eq]
    · rw [if_pos (by omega), show 86 * (3 - 1 - i) + 86 = 86 * (4 - 1 - i) by omega]; exact a1
    · rw [if_pos (by omega), show 86 * (3 - 1 - i) + 1 + 16 * s + k + 86 = 86 * (4 - 1 - i) + 1 + 16 * s + k by omega]; exact a2 s k hs hk
    · rw [if_pos (by omega), show 86 * (3 - 1 - i) + 65 + 86 = 86 * (4 - 1 - i) + 65 by omega]; exact a3
    · rw [if_pos (by omega), show 86 * (3 - 1 - i) + 66 + i' + 86 = 86 * (4 - 1 - i) + 66 + i' by omega]; exact (a4 i' hi').1
    · rw [if_pos (by omega), show 86 * (3 - 1 - i) + 76 + i' + 86 = 86 * (4 - 1 - i) + 76 + i' by omega]; exact (a4 i' hi').2
  · rw [pw_ck_ok (by omega) (by omega), if_neg (by omega)]
    rw [if_neg hq] at hlen
    refine fin σ Hs.length (by omega) hL (fun i _ _ => rfl) rfl rfl h5 (fun _ _ => rfl) hlen (fun i B hi hB => ?_)
    exact ⟨(List.getElem?_eq_some_iff.mp hB).1, h6 i B hB, hV.2.2.2.2 B (List.mem_of_getElem? hB)⟩
