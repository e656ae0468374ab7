theorem pw_law_total (L : Nat) (xs : Nat → Int) (hL : L ≤ 2560) : ∃ σ' : pw_Sto, lf_law L xs (0, (fun _ _ => 0), (fun _ _ => none)) = some ((), σ') := by
  sorry
