theorem c_isWithin (sc : Nat × (Nat → Int32)) (d : Nat) (h : pm_H) (x lo hi : Int32) : pm_D sc (d + 1) mX5_isWithin [.int x, .int lo, .int hi] h (some (.int (if lo ≤ x ∧ x ≤ hi then 1 else 0))) h := by
  refine pm_in (pm_go [] 12 ?_)
  refine ⟨fun c1 => ?_, fun c1 => ?_⟩
  · refine ⟨Or.inl rfl, ?_, rfl⟩
    rw [if_neg (fun q => absurd q.1 (by rw [Int32.le_iff_toInt_le]; rw [Int32.lt_iff_toInt_lt] at c1; omega))]
  · refine ⟨fun c2 => ?_, fun c2 => ?_⟩
    · refine ⟨Or.inl rfl, ?_, rfl⟩
      rw [if_neg (fun q => absurd q.2 (by rw [Int32.le_iff_toInt_le]; rw [Int32.lt_iff_toInt_lt] at c2; omega))]
    · refine ⟨Or.inr rfl, ?_, rfl⟩
      rw [if_pos]
      rw [Int32.lt_iff_toInt_lt] at c1 c2
      rw [Int32.le_iff_toInt_le, Int32.le_iff_toInt_le]
      omega
theorem c_holds (sc : Nat × (Nat → Int32)) (d : Nat) (H : tH) (r c : tR) (P : tP) (w : tW) (B : tB) (M : tM) (N : tN) (O : tO) (x y : Int32) : pm_D sc (d + 2) mX1_holds [.ref 2, .int x, .int y] (hp H r c P w B M N O) (some (.int (if (0 ≤ x ∧ x ≤ H.1 - 1) ∧ (0 ≤ y ∧ y ≤ H.2.1 - 1) then 1 else 0))) (hp H r c P w B M N O) := by
  refine pm_in (pm_go [] 22 ?_)
  refine ⟨_, _, c_isWithin sc d _ _ _ _, ?_⟩
  refine ⟨fun c1 => ?_, fun c1 => ?_⟩
  · refine ⟨Or.inl rfl, ?_, rfl⟩
    split at c1
    · exact absurd c1 (by decide)
    · rename_i n1
      rw [if_neg (fun q => n1 q.1)]
  · split at c1
    · rename_i n1
      refine ⟨_, _, c_isWithin sc d _ _ _ _, ?_⟩
      refine ⟨fun c2 => ?_, fun c2 => ?_⟩
      · refine ⟨Or.inl rfl, ?_, rfl⟩
        split at c2
        · exact absurd c2 (by decide)
        · rename_i n2
          rw [if_neg (fun q => n2 q.2)]
      · refine ⟨Or.inr rfl, ?_, rfl⟩
        split at c2
        · rename_i n2
          rw [if_pos ⟨n1, n2⟩]
        · exact absurd rfl c2
    · exact absurd rfl c1
