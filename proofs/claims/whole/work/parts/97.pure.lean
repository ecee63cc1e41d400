abbrev pl_h (ho hg : tA) (r c : tR) (O : tO) : pm_H := hp (nI 1, nI 1, 0, ho, hg) r c (.null, .null, z0, z0, z0, z0) (.null, .null, 0, fun _ => 0) (1, 1, 0, 0, 0, z0, z0, z0, z0) (1, 1, z0, z0, 0, z0, z0, z0, 0) (1, 1, 0, z0, z0, z0, 0, 0) O
abbrev pl_g (ho hg : tA) (r c : tR) : pm_H := hpx (.inr (5, [.ref 2, .ref 22])) (nI 1, nI 1, 0, ho, hg) r c (.null, .null, z0, z0, z0, z0) (.null, .null, 0, fun _ => 0) [.inr (0, [.int 1, .int 1, .int 0, .int 0, .int 0, .ref 23, .ref 24, .ref 25, .ref 26]), aI 8 z0, aI 8 z0, aI 8 z0, aI 12 z0]
theorem pl_ha (ho hg : tA) (r c : tR) (g2 : ∀ k, k < 64 → ho k = 1) (g3 : ∀ k, k < 64 → hg k = 0) (g4 : HR 1 1 (fun _ => true) (fun _ => false) r c) : HaI (nI 1, nI 1, 0, ho, hg) r c (1, 1, z0, z0, 0, z0, z0, z0, 0) :=
  ⟨1, 1, fun _ => true, fun _ => false, by decide, by decide, fun k z => (by cases z), ⟨rfl, rfl, g2, g3, g4⟩, ⟨rfl, rfl, fun _ _ => rfl, fun _ _ => rfl, Or.inl rfl⟩, rfl⟩
theorem pl_bx : BxI (1, 1, 0, 0, 0, z0, z0, z0, z0) (1, 1, 0, z0, z0, z0, 0, 0) :=
  ⟨1, 1, 0, 0, fun _ => 1, fun _ => 0, fun _ => 0, false, by decide, fun k hk => absurd hk (by omega), ⟨rfl, rfl, rfl, rfl, rfl, fun k hk => absurd hk (by omega), fun z => (by cases z)⟩, ⟨rfl, rfl, rfl, rfl, rfl, fun k hk => absurd hk (by omega), fun z => (by cases z)⟩⟩
theorem pl_sz (H : tH) (r c : tR) (P : tP) (w : tW) (B : tB) (M : tM) (N : tN) (O : tO) : (hp H r c P w B M N O).length = 40 ∧ pm_sz (hp H r c P w B M N O) ≤ 7302250 := by
  refine ⟨rfl, ?_⟩
  unfold pm_sz hp
  simp [pm_sz1, aI, aZ, aL]
theorem pl_2 (sc : Nat × (Nat → Int32)) (F : Option Value → pm_H → Prop) (ho hg : tA) (r c : tR) (O : tO) (o1 : pm_D sc 20 mX6_init [.ref 27] (hpB gP (nI 1, nI 1, 0, ho, hg) r c (.null, .null, z0, z0, z0, z0) (.null, .null, 0, fun _ => 0) (1, 1, 0, 0, 0, z0, z0, z0, z0) [.inr (6, pm_df 6)]) none (pl_h ho hg r c O)) (loop : pm_Go sc 20 (pm_cd mL_law) (10, [some (.ref 0), some (.ref 1), some (.ref 27), some (.int 0)], [], pl_h ho hg r c O) F) : pm_Go sc 20 (pm_cd mL_law) (4, [some (.ref 0), some (.ref 1), none, none], [], pl_g ho hg r c) F := by
  generalize pl_h ho hg r c O = hz at *
  exact pm_go1 [10] 10 ⟨_, _, o1, loop⟩
theorem pl_1 (sc : Nat × (Nat → Int32)) (F : Option Value → pm_H → Prop) (hz : pm_H) (g1 : pm_D sc 20 mX5_init [.ref 1] [.inr (5, [.null, .null])] none hz) (s2 : pm_Go sc 20 (pm_cd mL_law) (4, [some (.ref 0), some (.ref 1), none, none], [], hz) F) : pm_Go sc 20 (pm_cd mL_law) (0, pm_ent [.ref 0] 4, [], []) F :=
  pm_go1 [4] 10 ⟨_, _, g1, s2⟩
/-- THE LAW, over the pure machine: on every script of at most 2048 ints it comes to its end with 1, in its room -/
theorem pure_law (sc : Nat × (Nat → Int32)) (hL : sc.1 ≤ 2048) : ∃ d n h', d ≤ 1000 ∧ pm_ev sc (pm_D sc d) (pm_cd mL_law) n (0, pm_ent [.ref 0] 4, [], []) (some (.int 1)) h' ∧ h'.length ≤ 600000 ∧ pm_sz h' ≤ 7302250 := by
  obtain ⟨ho, hg, r, c, g1, g2, g3, g4⟩ := i_guardPacks sc 14
  obtain ⟨O, o1, o2⟩ := i_model sc 19 (nI 1, nI 1, 0, ho, hg) r c (.null, .null, z0, z0, z0, z0) (.null, .null, 0, fun _ => 0) (1, 1, 0, 0, 0, z0, z0, z0, z0)
  have loop := l_loop sc 0 hL 513 0 (pl_h ho hg r c O) (by omega) (by omega) ⟨_, _, _, _, _, _, _, _, _, rfl, pl_ha ho hg r c g2 g3 g4, pl_bx, o2⟩
  have s2 := pl_2 sc (fun r2 h2 => r2 = some (.int 1) ∧ LwI h2) ho hg r c O o1 loop
  have s1 := pl_1 sc _ _ g1 s2
  obtain ⟨n, r2, h2, ev, e1, H, r', c', P, w, B, M, N, O', e2, _⟩ := s1
  subst e1
  have sz := pl_sz H r' c' P w B M N O'
  rw [← e2] at sz
  exact ⟨20, n, h2, by omega, ev, by omega, sz.2⟩
