/-! THE REFERENCE'S CONSTRUCTOR: the row of bit numbers -/
def pc (k : Nat) : Nat := ct (fun i => k.testBit i) 8
theorem pc_half (k : Nat) (hk : k < 256) : pc k = pc (k / 2) + k % 2 := by
  unfold pc
  have e1 := ct_add (fun i => k.testBit i) 1 7
  have e2 : ct (fun i => (k / 2).testBit i) 8 = ct (fun i => (k / 2).testBit i) 7 := by
    have : (k / 2).testBit 7 = false := Nat.testBit_lt_two_pow (by omega)
    show ct _ 7 + (if (k / 2).testBit 7 = true then 1 else 0) = _
    rw [this]; rfl
  have e3 : ct (fun i => k.testBit (1 + i)) 7 = ct (fun i => (k / 2).testBit i) 7 := ct_congr 7 (fun i _ => by rw [Nat.add_comm]; exact Nat.testBit_succ ..)
  have e4 : ct (fun i => k.testBit i) 1 = k % 2 := by
    show 0 + (if k.testBit 0 = true then 1 else 0) = _
    rw [Nat.testBit_zero]
    rcases Nat.mod_two_eq_zero_or_one k with h | h <;> rw [h] <;> simp
  rw [show (8 : Nat) = 1 + 7 from rfl, e1, e3, e4]
  rw [show (1 + 7 : Nat) = 8 from rfl, e2]
  omega
theorem pc_le (k : Nat) : pc k ≤ 8 := ct_le _ _
/-- what the reference's rows hold for good -/
def OI (O : tO) : Prop := ∀ k, k < 256 → O.1 k = nI (pc k)
def hpB (G : pm_E) (H : tH) (r c : tR) (P : tP) (w : tW) (B : tB) (Tl : pm_H) : pm_H :=
  hpx G H r c P w (.inr (0, [.int B.1, .int B.2.1, .int B.2.2.1, .int B.2.2.2.1, .int B.2.2.2.2.1, .ref 23, .ref 24, .ref 25, .ref 26]) :: aI 8 B.2.2.2.2.2.1 :: aI 8 B.2.2.2.2.2.2.1 :: aI 8 B.2.2.2.2.2.2.2.1 :: aI 12 B.2.2.2.2.2.2.2.2 :: Tl)
abbrev gP : pm_E := .inr (5, [.ref 2, .ref 22])
abbrev z6 (x1 x2 : Int32) (a1 a2 a3 a4 a5 : Value) (y1 y2 : Int32) (b1 b2 b3 b4 c1 c2 c3 c4 : Value) : pm_E := .inr (6, [.int x1, .int x2, a1, a2, .int 0, a3, a4, a5, .int 0, .int y1, .int y2, .int 0, b1, b2, b3, .int 0, .int 0, b4, c1, c2, c3, c4])
theorem i_half {k : Nat} (hk : k < 256) : nI k / 2 = nI (k / 2) ∧ nI k - nI k / 2 * 2 = nI (k % 2) := by
  have h : ∀ k : Fin 256, nI k.1 / 2 = nI (k.1 / 2) ∧ nI k.1 - nI k.1 / 2 * 2 = nI (k.1 % 2) := by decide +kernel
  exact h ⟨k, hk⟩
theorem i_bits (sc : Nat × (Nat → Int32)) (d : Nat) (H : tH) (r c : tR) (P : tP) (w : tW) (B : tB) (M : tM) (N : tN) (O2 : (Nat → Int64) × tA × tA × tA) : ∀ (m k : Nat) (f : tA), k + m = 256 → 1 ≤ k → (∀ j, j < k → f j = nI (pc j)) → pm_Go sc d (pm_cd mX6_init) (68, [some (.ref 27), some (.int (nI k))], [], hp H r c P w B M N (f, O2)) (fun r2 h2 => r2 = none ∧ ∃ f', h2 = hp H r c P w B M N (f', O2) ∧ OI (f', O2)) := by
  intro m
  induction m with
  | zero =>
    intro k f hk h1 hf
    refine pm_go [] 10 ⟨fun q => ⟨rfl, f, rfl, fun j hj => hf j (by omega)⟩, fun q => absurd ?_ q⟩
    rw [nu_256, nu_le (by omega) (by omega)]; omega
  | succ m ih =>
    intro k f hk h1 hf
    obtain ⟨e1, e2⟩ := i_half (k := k) (by omega)
    have i1 : vp_in (nI k / 2) 256 := by rw [e1]; exact nu_in (by omega) (by omega)
    refine pm_go1 [68] 30 ⟨fun q => absurd q ?_, fun q => ⟨by decide, i1, by decide, nu_in (by omega) (by omega), ?_⟩⟩
    · rw [nu_256, nu_le (by omega) (by omega)]; omega
    · have st := ih (k + 1) (upd f k (pm_ib 0 (f (nI k / 2).toNatClampNeg) (nI k - nI k / 2 * 2))) (by omega) (by omega) (fun j hj => by
        rw [nu_upd, pib0, e2, e1, nu_cl (by omega), hf _ (by omega), nI_add]
        split
        · rename_i h; rw [h, pc_half k (by omega)]
        · exact hf j (by omega))
      rw [← nI_1] at st
      have ek : (nI k).toNatClampNeg = k := nu_cl (by omega)
      rw [ek]
      exact st
theorem i_model (sc : Nat × (Nat → Int32)) (d : Nat) (H : tH) (r c : tR) (P : tP) (w : tW) (B : tB) : ∃ O : tO, pm_D sc (d + 1) mX6_init [.ref 27] (hpB gP H r c P w B [.inr (6, pm_df 6)]) none (hp H r c P w B (1, 1, z0, z0, 0, z0, z0, z0, 0) (1, 1, 0, z0, z0, z0, 0, 0) O) ∧ OI O := by
  have s3 : pm_Go sc d (pm_cd mX6_init) (68, [some (.ref 27), some (.int (nI 1))], [], hp H r c P w B (1, 1, z0, z0, 0, z0, z0, z0, 0) (1, 1, 0, z0, z0, z0, 0, 0) (z0, fun _ => 0, z0, z0, z0)) (fun r2 h2 => r2 = none ∧ ∃ f', h2 = hp H r c P w B (1, 1, z0, z0, 0, z0, z0, z0, 0) (1, 1, 0, z0, z0, z0, 0, 0) (f', fun _ => 0, z0, z0, z0) ∧ OI (f', fun _ => 0, z0, z0, z0)) :=
    i_bits sc d H r c P w B _ _ _ 255 1 z0 rfl (by omega) (fun j hj => by rw [show j = 0 by omega]; decide)
  have s2 : pm_Go sc d (pm_cd mX6_init) (50, [some (.ref 27), none], [], hpB gP H r c P w B [z6 1 1 (.ref 28) (.ref 29) (.ref 30) (.ref 31) (.ref 32) 1 1 (.ref 33) (.ref 34) (.ref 35) (.ref 36) .null .null .null .null, aZ 64 z0, aZ 64 z0, aI 128 z0, aI 2 z0, aI 64 z0, aI 8 z0, aI 8 z0, aI 8 z0, aI 256 z0]) (fun r2 h2 => r2 = none ∧ ∃ f', h2 = hp H r c P w B (1, 1, z0, z0, 0, z0, z0, z0, 0) (1, 1, 0, z0, z0, z0, 0, 0) (f', fun _ => 0, z0, z0, z0) ∧ OI (f', fun _ => 0, z0, z0, z0)) := pm_go [68] 30 s3
  have s1 : pm_Go sc d (pm_cd mX6_init) (28, [some (.ref 27), none], [], hpB gP H r c P w B [z6 1 1 (.ref 28) (.ref 29) (.ref 30) (.ref 31) (.ref 32) 0 0 .null .null .null .null .null .null .null .null, aZ 64 z0, aZ 64 z0, aI 128 z0, aI 2 z0, aI 64 z0]) (fun r2 h2 => r2 = none ∧ ∃ f', h2 = hp H r c P w B (1, 1, z0, z0, 0, z0, z0, z0, 0) (1, 1, 0, z0, z0, z0, 0, 0) (f', fun _ => 0, z0, z0, z0) ∧ OI (f', fun _ => 0, z0, z0, z0)) := pm_go [50] 30 s2
  have s0 := pm_inE (mi := mX6_init) (av := [.ref 27]) (h := hpB gP H r c P w B [.inr (6, pm_df 6)]) (pm_go [28] 30 s1)
  obtain ⟨r2, h2, t1, rfl, f', rfl, t3⟩ := s0
  exact ⟨_, t1, t3⟩
