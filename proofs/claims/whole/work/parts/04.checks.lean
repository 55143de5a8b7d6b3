/-! Every method of the table is as the claim has it. -/
theorem met_ok {mid : Nat} (h : mid < nM) : metOk mid = true := sorry
