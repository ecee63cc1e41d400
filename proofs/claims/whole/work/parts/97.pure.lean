/-- THE LAW, over the pure machine: on every script of at most 2048 ints it comes to its end with 1, in its room -/
theorem pure_law (sc : Nat × (Nat → Int32)) (hL : sc.1 ≤ 2048) : ∃ d n h', d ≤ 1000 ∧ pm_ev sc (pm_D sc d) (pm_cd mL_law) n (0, pm_ent [.ref 0] 4, [], []) (some (.int 1)) h' ∧ h'.length ≤ 600000 ∧ pm_sz h' ≤ 7302250 := by
  sorry
