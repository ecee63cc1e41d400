/-! THE CLASS'S BOX: raw contracts of the methods without loops -/
theorem c_startOver (sc : Nat × (Nat → Int32)) (d : Nat) (H : tH) (r : tR) (c : tR) (P : tP) (w : tW) (B : tB) (M : tM) (N : tN) (O : tO) (i : Int32) (hi : vp_in i 8 ∨ 8 ≤ i) : pm_D sc (d + 1) mX0_startOver [.ref 22, .int i] (hp H r c P w B M N O) none (hp H r c P w (if 8 ≤ i then B else (B.1, B.2.1, B.2.2.1, B.2.2.2.1, B.2.2.2.2.1, B.2.2.2.2.2.1, upd B.2.2.2.2.2.2.1 i.toNatClampNeg 0, upd B.2.2.2.2.2.2.2.1 i.toNatClampNeg 0, B.2.2.2.2.2.2.2.2)) M N O) := by
  refine pm_in (pm_go [] 20 ?_)
  refine ⟨fun c1 => ?_, fun c1 => ?_⟩
  · rw [if_pos c1]
    exact ⟨rfl, rfl⟩
  · rw [if_neg c1]
    rcases hi with hi | hi
    · exact ⟨hi, hi, rfl, rfl⟩
    · exact absurd hi c1
theorem c_hasPlace (sc : Nat × (Nat → Int32)) (d : Nat) (H : tH) (r : tR) (c : tR) (P : tP) (w : tW) (B : tB) (M : tM) (N : tN) (O : tO) (i : Int32) (hi : vp_in i 8) : pm_D sc (d + 1) mX0_hasPlace [.ref 22, .int i] (hp H r c P w B M N O) (some (.int (if B.2.2.2.2.2.2.1 i.toNatClampNeg + B.2.2.2.2.2.1 i.toNatClampNeg ≤ B.1 ∧ B.2.2.2.2.2.2.2.1 i.toNatClampNeg + B.2.2.2.2.2.1 i.toNatClampNeg ≤ B.2.1 then 1 else 0))) (hp H r c P w B M N O) := by
  refine pm_in (pm_go [] 40 ?_)
  refine ⟨hi, hi, fun c1 => ?_, fun c1 => ?_⟩
  · rw [if_neg (fun q => absurd q.1 (Int32.not_le.mpr c1))]
    exact ⟨Or.inl rfl, rfl, rfl⟩
  · refine ⟨hi, hi, fun c2 => ?_, fun c2 => ?_⟩
    · rw [if_neg (fun q => absurd q.2 (Int32.not_le.mpr c2))]
      exact ⟨Or.inl rfl, rfl, rfl⟩
    · rw [if_pos ⟨Int32.not_lt.mp c1, Int32.not_lt.mp c2⟩]
      exact ⟨Or.inr rfl, rfl, rfl⟩
theorem c_goOn (sc : Nat × (Nat → Int32)) (d : Nat) (H : tH) (r : tR) (c : tR) (P : tP) (w : tW) (B : tB) (M : tM) (N : tN) (O : tO) (i : Int32) (hi : vp_in i 8) : pm_D sc (d + 1) mX0_goOn [.ref 22, .int i] (hp H r c P w B M N O) none (hp H r c P w (if B.2.2.2.2.2.2.1 i.toNatClampNeg + 1 + B.2.2.2.2.2.1 i.toNatClampNeg ≤ B.1 then (B.1, B.2.1, B.2.2.1, B.2.2.2.1, B.2.2.2.2.1, B.2.2.2.2.2.1, upd B.2.2.2.2.2.2.1 i.toNatClampNeg (B.2.2.2.2.2.2.1 i.toNatClampNeg + 1), B.2.2.2.2.2.2.2) else (B.1, B.2.1, B.2.2.1, B.2.2.2.1, B.2.2.2.2.1, B.2.2.2.2.2.1, upd B.2.2.2.2.2.2.1 i.toNatClampNeg 0, upd B.2.2.2.2.2.2.2.1 i.toNatClampNeg (B.2.2.2.2.2.2.2.1 i.toNatClampNeg + 1), B.2.2.2.2.2.2.2.2)) M N O) := by
  refine pm_in (pm_go [] 40 ?_)
  refine ⟨hi, hi, hi, hi, fun c1 => ?_, fun c1 => ?_⟩
  · rw [nu_updS] at c1
    have c1 : B.2.2.2.2.2.2.1 i.toNatClampNeg + 1 + B.2.2.2.2.2.1 i.toNatClampNeg ≤ B.1 := c1
    rw [if_pos c1]
    exact ⟨rfl, rfl⟩
  · rw [nu_updS] at c1
    have c1 : ¬ B.2.2.2.2.2.2.1 i.toNatClampNeg + 1 + B.2.2.2.2.2.1 i.toNatClampNeg ≤ B.1 := c1
    rw [if_neg c1]
    refine ⟨hi, hi, hi, rfl, ?_⟩
    rw [← nu_uu B.2.2.2.2.2.2.1 i.toNatClampNeg (B.2.2.2.2.2.2.1 i.toNatClampNeg + 1) 0]
    rfl
theorem c_breadthOf (sc : Nat × (Nat → Int32)) (d : Nat) (H : tH) (r : tR) (c : tR) (P : tP) (w : tW) (B : tB) (M : tM) (N : tN) (O : tO) (i : Int32) (hi : vp_in i 8) : pm_D sc (d + 1) mX0_breadthOf [.ref 22, .int i] (hp H r c P w B M N O) (some (.int ((1 <<< (B.2.2.2.2.2.1 i.toNatClampNeg &&& 31) - 1) <<< (B.2.2.2.2.2.2.1 i.toNatClampNeg &&& 31)))) (hp H r c P w B M N O) := by
  refine pm_in (pm_go [] 40 ?_)
  exact ⟨hi, hi, rfl, rfl⟩
theorem c_boxClear (sc : Nat × (Nat → Int32)) (d : Nat) (H : tH) (r : tR) (c : tR) (P : tP) (w : tW) (B : tB) (M : tM) (N : tN) (O : tO) (x y : Int32) : pm_D sc (d + 1) mX0_clear [.ref 22, .int x, .int y] (hp H r c P w B M N O) none (hp H r c P w ((x, y, 0, B.2.2.2.1, 0, B.2.2.2.2.2)) M N O) := by
  refine pm_in (pm_go [] 40 ?_)
  exact ⟨Or.inl rfl, rfl, rfl⟩
theorem c_append (sc : Nat × (Nat → Int32)) (d : Nat) (H : tH) (r : tR) (c : tR) (P : tP) (w : tW) (B : tB) (M : tM) (N : tN) (O : tO) (x : Int32) (hi : vp_in B.2.2.1 8) : pm_D sc (d + 1) mX0_append [.ref 22, .int x] (hp H r c P w B M N O) (some (.int B.2.2.1)) (hp H r c P w ((B.1, B.2.1, B.2.2.1 + 1, B.2.2.2.1, 0, upd B.2.2.2.2.2.1 B.2.2.1.toNatClampNeg x, B.2.2.2.2.2.2)) M N O) := by
  refine pm_in (pm_go [] 40 ?_)
  exact ⟨Or.inl rfl, hi, rfl, rfl⟩
theorem c_removeLast (sc : Nat × (Nat → Int32)) (d : Nat) (H : tH) (r : tR) (c : tR) (P : tP) (w : tW) (B : tB) (M : tM) (N : tN) (O : tO) : pm_D sc (d + 1) mX0_removeLast [.ref 22] (hp H r c P w B M N O) (some (.int (B.2.2.1 - 1))) (hp H r c P w ((B.1, B.2.1, B.2.2.1 - 1, B.2.2.2.1, 0, B.2.2.2.2.2)) M N O) := by
  refine pm_in (pm_go [] 40 ?_)
  exact ⟨Or.inl rfl, rfl, rfl⟩
