/-! HALLS: wall, guard, leave, runs, run, seen, missed -/
theorem k_wall (sc : Nat × (Nat → Int32)) (d : Nat) (hw : Int32) (hh : Int32) (hc : Int32) (ho : tA) (hg : tA) (r : tR) (c : tR) (P : tP) (w : tW) (B : tB) (mw : Int32) (mh : Int32) (ms : tA) (mg : tA) (mc : Int32) (mo : tA) (mm : tA) (mz : tA) (mp : Int32) (N : tN) (O : tO) (x y : Int32) (b : Bool) (hI : HaI (hw, hh, hc, ho, hg) r c (mw, mh, ms, mg, mc, mo, mm, mz, mp)) : HaK sc (d + 20) mX5_wall mX6_wall [.int x, .int y, .int (bI b)] (hw, hh, hc, ho, hg) r c P w B (mw, mh, ms, mg, mc, mo, mm, mz, mp) N O := by
  have hI0 := hI
  obtain ⟨W, Hh, op, gd, bW, bH, hgo, ⟨i1, i2, i3, i4, i5⟩, ⟨j1, j2, j3, j4, j5⟩, hcc⟩ := hI
  dsimp only at i1 i2 i3 i4 j1 j2 j3 j4 j5 hcc
  have bHW := bHW_of bW bH
  have h1 := c_holdsB sc (d + 17) hw hh hc ho hg r c P w B (mw, mh, ms, mg, mc, mo, mm, mz, mp) N O W Hh i1 i2 bW bH x y
  have v1 := r_isCell sc (d + 17) (hw, hh, hc, ho, hg) r c P w B mw mh ms mg mc mo mm mz mp N O W Hh j1 j2 bW bH x y
  by_cases hin : (0 ≤ x.toInt ∧ x.toInt < W) ∧ (0 ≤ y.toInt ∧ y.toInt < Hh)
  · rw [decide_eq_true hin] at h1 v1
    obtain ⟨x', y', rfl, rfl, hx, hy, hn⟩ := in_cell bW bH hin
    have h2 := c_numberOf sc (d + 18) hw hh hc ho hg r c P w B (mw, mh, ms, mg, mc, mo, mm, mz, mp) N O W x' y' i1
    have ec : nI y' * mw + nI x' = nI (y' * W + x') := by rw [j1, pk_mul, nI_add]
    generalize y' * W + x' = n at *
    have iC : vp_in (nI n) 64 := nu_in (by omega) (by omega)
    have cC : (nI n).toNatClampNeg = n := nu_cl (by omega)
    have iN : vp_in (nI y' * mw + nI x') 64 := by rw [ec]; exact iC
    have cN : (nI y' * mw + nI x').toNatClampNeg = n := by rw [ec]; exact cC
    have eg1 : hg (nI n).toNatClampNeg = bI (gd n) := by rw [cC]; exact i4 n (by omega)
    have eg2 : mg (nI y' * mw + nI x').toNatClampNeg = bI (gd n) := by rw [cN]; exact j4 n (by omega)
    have es : ms (nI y' * mw + nI x').toNatClampNeg = bI (!op n) := by rw [cN]; exact j3 n (by omega)
    cases hG : gd n with
    | true =>
      have eg1 : ¬ hg (nI n).toNatClampNeg = 0 := by rw [eg1, hG]; decide
      have eg2 : ¬ mg (nI y' * mw + nI x').toNatClampNeg = 0 := by rw [eg2, hG]; decide
      have m1 : pm_Go sc (d + 19) (pm_cd mX5_wall) (8, [some (.ref 1), some (.int (nI x')), some (.int (nI y')), some (.int (bI b)), none], [], (hp (hw, hh, hc, ho, hg) r c P w B (mw, mh, ms, mg, mc, mo, mm, mz, mp) N O)) (fun r2 h2 => r2 = some (.int (-3)) ∧ h2 = (hp (hw, hh, hc, ho, hg) r c P w B (mw, mh, ms, mg, mc, mo, mm, mz, mp) N O)) := pm_go [] 30 ⟨_, _, h2, iC, fun q => absurd q eg1, fun q => ⟨rfl, rfl⟩⟩
      have m2 : pm_Go sc (d + 19) (pm_cd mX6_wall) (7, [some (.ref 27), some (.int (nI x')), some (.int (nI y')), some (.int (bI b)), none, none], [], (hp (hw, hh, hc, ho, hg) r c P w B (mw, mh, ms, mg, mc, mo, mm, mz, mp) N O)) (fun r2 h2 => r2 = some (.int (-3)) ∧ h2 = (hp (hw, hh, hc, ho, hg) r c P w B (mw, mh, ms, mg, mc, mo, mm, mz, mp) N O)) := pm_go [] 30 ⟨iN, fun q => absurd q eg2, fun q => ⟨rfl, rfl⟩⟩
      exact ⟨-3, _, r, c, _, pm_in (pm_go [8] 20 ⟨_, _, h1, fun q => m1, fun q => absurd q (by decide)⟩), pm_in (pm_go [7] 20 ⟨_, _, v1, fun q => m2, fun q => absurd q (by decide)⟩), hI0⟩
    | false =>
      have eg1 : hg (nI n).toNatClampNeg = 0 := by rw [eg1, hG]; decide
      have eg2 : mg (nI y' * mw + nI x').toNatClampNeg = 0 := by rw [eg2, hG]; decide
      obtain ⟨ho', r', c', g1, g2, g3⟩ := c_changeWall sc (d + 15) hw hh hc ho hg r c P w B (mw, mh, ms, mg, mc, mo, mm, mz, mp) N O W Hh n op gd b i1 i2 bW bH (by omega) i3 i4 i5
      have m1 : pm_Go sc (d + 19) (pm_cd mX5_wall) (22, [some (.ref 1), some (.int (nI x')), some (.int (nI y')), some (.int (bI b)), some (.int (nI n))], [], (hp (hw, hh, hc, ho, hg) r c P w B (mw, mh, ms, mg, mc, mo, mm, mz, mp) N O)) (fun r2 h2 => r2 = some (.int (bI (op n != b))) ∧ h2 = (hp (hw, hh, hc, ho', hg) (r') (c') P w B (mw, mh, ms, mg, mc, mo, mm, mz, mp) N O)) := by
        cases hz : (op n != b) with
        | true => rw [hz] at g1; exact pm_go [] 30 ⟨_, _, g1, fun q => absurd q (by decide), fun q => ⟨rfl, rfl⟩⟩
        | false => rw [hz] at g1; exact pm_go [] 30 ⟨_, _, g1, fun q => ⟨rfl, rfl⟩, fun q => absurd rfl q⟩
      have m0 : pm_Go sc (d + 19) (pm_cd mX5_wall) (8, [some (.ref 1), some (.int (nI x')), some (.int (nI y')), some (.int (bI b)), none], [], (hp (hw, hh, hc, ho, hg) r c P w B (mw, mh, ms, mg, mc, mo, mm, mz, mp) N O)) (fun r2 h2 => r2 = some (.int (bI (op n != b))) ∧ h2 = (hp (hw, hh, hc, ho', hg) (r') (c') P w B (mw, mh, ms, mg, mc, mo, mm, mz, mp) N O)) := pm_go [22] 30 ⟨_, _, h2, iC, fun q => m1, fun q => absurd eg1 q⟩
      have v1 := r_isCell sc (d + 17) (hw, hh, hc, ho', hg) r' c' P w B mw mh ms mg mc mo mm mz mp N O W Hh j1 j2 bW bH (nI x') (nI y')
      rw [decide_eq_true hin] at v1
      have t3 : ∀ z : Int32, pm_Go sc (d + 19) (pm_cd mX6_wall) (31, [some (.ref 27), some (.int (nI x')), some (.int (nI y')), some (.int (bI b)), some (.int (nI y' * mw + nI x')), some (.int z)], [], (hp (hw, hh, hc, ho', hg) (r') (c') P w B (mw, mh, ms, mg, mc, mo, mm, mz, mp) N O)) (fun r2 h2 => r2 = some (.int z) ∧ h2 = (hp (hw, hh, hc, ho', hg) (r') (c') P w B (mw, mh, upd ms n (bI (!b)), mg, mc, mo, mm, mz, 0) N O)) := by
        intro z
        rw [← cN]
        cases b with
        | true => exact pm_go [] 30 ⟨fun q => ⟨iN, Or.inl rfl, Or.inl rfl, rfl, rfl⟩, fun q => absurd q (by decide)⟩
        | false => exact pm_go [] 30 ⟨fun q => absurd rfl q, fun q => ⟨iN, Or.inr rfl, Or.inl rfl, rfl, rfl⟩⟩
      have t2 : pm_Go sc (d + 19) (pm_cd mX6_wall) (7, [some (.ref 27), some (.int (nI x')), some (.int (nI y')), some (.int (bI b)), none, none], [], (hp (hw, hh, hc, ho', hg) (r') (c') P w B (mw, mh, ms, mg, mc, mo, mm, mz, mp) N O)) (fun r2 h2 => r2 = some (.int (bI (op n != b))) ∧ h2 = (hp (hw, hh, hc, ho', hg) (r') (c') P w B (mw, mh, upd ms n (bI (!b)), mg, mc, mo, mm, mz, 0) N O)) := by
        by_cases hz : op n = b
        · have hne : ¬ ms (nI y' * mw + nI x').toNatClampNeg = bI b := by
            rw [es, hz]
            cases b <;> decide
          have : (op n != b) = false := by simpa using hz
          rw [this]
          exact pm_go [31] 40 ⟨iN, fun q => ⟨iN, fun q => t3 0, fun q => absurd q hne⟩, fun q => absurd eg2 q⟩
        · have heq : ms (nI y' * mw + nI x').toNatClampNeg = bI b := by
            rw [es]
            cases hop1 : op n <;> cases b <;> simp [hop1] at hz <;> rfl
          have : (op n != b) = true := by simpa using hz
          rw [this]
          exact pm_go [31] 40 ⟨iN, fun q => ⟨iN, fun q => absurd heq q, fun q => t3 1⟩, fun q => absurd eg2 q⟩
      refine ⟨bI (op n != b), (hw, hh, hc, ho', hg), r', c', (mw, mh, upd ms n (bI (!b)), mg, mc, mo, mm, mz, 0), pm_in (pm_go [8] 20 ⟨_, _, h1, fun q => m0, fun q => absurd q (by decide)⟩), pm_in (pm_go [7] 20 ⟨_, _, v1, fun q => t2, fun q => absurd q (by decide)⟩), ?_⟩
      refine ⟨W, Hh, gdU op n b, gd, bW, bH, fun k hk => ?_, ⟨i1, i2, g2, i4, g3⟩, ⟨j1, j2, fun k hk => ?_, j4, Or.inl rfl⟩, hcc⟩
      · unfold gdU
        by_cases hkn : k = n
        · rw [hkn, hG] at hk; cases hk
        · rw [if_neg hkn]; exact hgo k hk
      · show upd ms n (bI (!b)) k = _
        rw [nu_upd]
        unfold gdU
        split
        · rfl
        · exact j3 k hk
  · rw [decide_eq_false hin] at h1 v1
    exact ⟨-2, _, r, c, _, pm_in (pm_go [] 20 ⟨_, _, h1, fun q => absurd rfl q, fun q => ⟨rfl, rfl⟩⟩), pm_in (pm_go [] 20 ⟨_, _, v1, fun q => absurd rfl q, fun q => ⟨rfl, rfl⟩⟩), hI0⟩
theorem MP_gd {W Hh : Nat} {op : Nat → Bool} {mo mm mz : tA} {mp : Int32} (h : mp = 0 ∨ (mp = 1 ∧ MP W Hh op mo mm mz)) : mp = 0 ∨ (mp = 1 ∧ MP W Hh op mo mm mz) := h
theorem k_guard (sc : Nat × (Nat → Int32)) (d : Nat) (hw : Int32) (hh : Int32) (hc : Int32) (ho : tA) (hg : tA) (r : tR) (c : tR) (P : tP) (w : tW) (B : tB) (mw : Int32) (mh : Int32) (ms : tA) (mg : tA) (mc : Int32) (mo : tA) (mm : tA) (mz : tA) (mp : Int32) (N : tN) (O : tO) (x y : Int32) (hI : HaI (hw, hh, hc, ho, hg) r c (mw, mh, ms, mg, mc, mo, mm, mz, mp)) : HaK sc (d + 20) mX5_guard mX6_guard [.int x, .int y] (hw, hh, hc, ho, hg) r c P w B (mw, mh, ms, mg, mc, mo, mm, mz, mp) N O := by
  have hI0 := hI
  obtain ⟨W, Hh, op, gd, bW, bH, hgo, ⟨i1, i2, i3, i4, i5⟩, ⟨j1, j2, j3, j4, j5⟩, hcc⟩ := hI
  dsimp only at i1 i2 i3 i4 j1 j2 j3 j4 j5 hcc
  have bHW := bHW_of bW bH
  have h1 := c_holdsB sc (d + 17) hw hh hc ho hg r c P w B (mw, mh, ms, mg, mc, mo, mm, mz, mp) N O W Hh i1 i2 bW bH x y
  have v1 := r_isCell sc (d + 17) (hw, hh, hc, ho, hg) r c P w B mw mh ms mg mc mo mm mz mp N O W Hh j1 j2 bW bH x y
  by_cases hin : (0 ≤ x.toInt ∧ x.toInt < W) ∧ (0 ≤ y.toInt ∧ y.toInt < Hh)
  · rw [decide_eq_true hin] at h1 v1
    obtain ⟨x', y', rfl, rfl, hx, hy, hn⟩ := in_cell bW bH hin
    have h2 := c_numberOf sc (d + 18) hw hh hc ho hg r c P w B (mw, mh, ms, mg, mc, mo, mm, mz, mp) N O W x' y' i1
    have ec : nI y' * mw + nI x' = nI (y' * W + x') := by rw [j1, pk_mul, nI_add]
    generalize y' * W + x' = n at *
    have iC : vp_in (nI n) 64 := nu_in (by omega) (by omega)
    have cC : (nI n).toNatClampNeg = n := nu_cl (by omega)
    have iN : vp_in (nI y' * mw + nI x') 64 := by rw [ec]; exact iC
    have cN : (nI y' * mw + nI x').toNatClampNeg = n := by rw [ec]; exact cC
    have eo1 : ho (nI n).toNatClampNeg = bI (op n) := by rw [cC]; exact i3 n (by omega)
    have eg1 : hg (nI n).toNatClampNeg = bI (gd n) := by rw [cC]; exact i4 n (by omega)
    have eg2 : mg (nI y' * mw + nI x').toNatClampNeg = bI (gd n) := by rw [cN]; exact j4 n (by omega)
    have es : ms (nI y' * mw + nI x').toNatClampNeg = bI (!op n) := by rw [cN]; exact j3 n (by omega)
    by_cases hz : op n = true ∧ gd n = false
    · obtain ⟨hO, hG⟩ := hz
      have eo1 : ¬ ho (nI n).toNatClampNeg = 0 := by rw [eo1, hO]; decide
      have es : ms (nI y' * mw + nI x').toNatClampNeg = 0 := by rw [es, hO]; decide
      have eg1 : hg (nI n).toNatClampNeg = 0 := by rw [eg1, hG]; decide
      have eg2 : mg (nI y' * mw + nI x').toNatClampNeg = 0 := by rw [eg2, hG]; decide
      obtain ⟨hg', r', c', g1, g2, g3⟩ := c_changeGuard sc (d + 17) hw hh hc ho hg r c P w B (mw, mh, ms, mg, mc, mo, mm, mz, mp) N O W Hh n op gd true bHW hn hO hG i4 i5
      have g1 : pm_D sc (d + 19) mX1_changeGuard [.ref 2, .int (nI n), .int 1] (hp (hw, hh, hc, ho, hg) r c P w B (mw, mh, ms, mg, mc, mo, mm, mz, mp) N O) (some (.int (hc + 1))) (hp (hw, hh, hc + 1, ho, hg') (r') (c') P w B (mw, mh, ms, mg, mc, mo, mm, mz, mp) N O) := g1
      have m1 : pm_Go sc (d + 19) (pm_cd mX5_guard) (8, [some (.ref 1), some (.int (nI x')), some (.int (nI y')), none], [], (hp (hw, hh, hc, ho, hg) r c P w B (mw, mh, ms, mg, mc, mo, mm, mz, mp) N O)) (fun r2 h2 => r2 = some (.int (hc + 1)) ∧ h2 = (hp (hw, hh, hc + 1, ho, hg') (r') (c') P w B (mw, mh, ms, mg, mc, mo, mm, mz, mp) N O)) := pm_go [] 40 ⟨_, _, h2, iC, fun q => absurd q eo1, fun q => ⟨iC, fun q => ⟨_, _, g1, rfl, rfl⟩, fun q => absurd eg1 q⟩⟩
      have v1 := r_isCell sc (d + 17) (hw, hh, hc + 1, ho, hg') r' c' P w B mw mh ms mg mc mo mm mz mp N O W Hh j1 j2 bW bH (nI x') (nI y')
      rw [decide_eq_true hin] at v1
      have m2 : pm_Go sc (d + 19) (pm_cd mX6_guard) (7, [some (.ref 27), some (.int (nI x')), some (.int (nI y')), none], [], (hp (hw, hh, hc + 1, ho, hg') (r') (c') P w B (mw, mh, ms, mg, mc, mo, mm, mz, mp) N O)) (fun r2 h2 => r2 = some (.int (mc + 1)) ∧ h2 = (hp (hw, hh, hc + 1, ho, hg') (r') (c') P w B (mw, mh, ms, upd mg n 1, mc + 1, mo, mm, mz, mp) N O)) := by
        rw [← cN]
        exact pm_go [] 50 ⟨iN, fun q => absurd es q, fun q => ⟨iN, fun q => ⟨iN, Or.inr rfl, rfl, rfl⟩, fun q => absurd eg2 q⟩⟩
      rw [← hcc] at m2
      refine ⟨hc + 1, (hw, hh, hc + 1, ho, hg'), r', c', (mw, mh, ms, upd mg n 1, hc + 1, mo, mm, mz, mp), pm_in (pm_go [8] 20 ⟨_, _, h1, fun q => m1, fun q => absurd q (by decide)⟩), pm_in (pm_go [7] 20 ⟨_, _, v1, fun q => ?_, fun q => absurd q (by decide)⟩), ?_⟩
      · rw [← hcc]; exact m2
      · refine ⟨W, Hh, op, gdU gd n true, bW, bH, fun k hk => ?_, ⟨i1, i2, i3, g2, g3⟩, ⟨j1, j2, j3, fun k hk => ?_, j5⟩, rfl⟩
        · unfold gdU at hk
          by_cases hkn : k = n
          · rw [hkn]; exact hO
          · rw [if_neg hkn] at hk; exact hgo k hk
        · show upd mg n 1 k = _
          rw [nu_upd]
          unfold gdU
          split
          · rfl
          · exact j4 k hk
    · have m1 : pm_Go sc (d + 19) (pm_cd mX5_guard) (8, [some (.ref 1), some (.int (nI x')), some (.int (nI y')), none], [], (hp (hw, hh, hc, ho, hg) r c P w B (mw, mh, ms, mg, mc, mo, mm, mz, mp) N O)) (fun r2 h2 => r2 = some (.int (-3)) ∧ h2 = (hp (hw, hh, hc, ho, hg) r c P w B (mw, mh, ms, mg, mc, mo, mm, mz, mp) N O)) := by
        cases hO : op n with
        | false =>
          rw [hO] at eo1
          exact pm_go [] 40 ⟨_, _, h2, iC, fun q => ⟨rfl, rfl⟩, fun q => absurd eo1 q⟩
        | true =>
          have eo1 : ¬ ho (nI n).toNatClampNeg = 0 := by rw [eo1, hO]; decide
          have hG : gd n = true := by
            cases hG : gd n with
            | true => rfl
            | false => exact absurd ⟨hO, hG⟩ hz
          have eg1 : ¬ hg (nI n).toNatClampNeg = 0 := by rw [eg1, hG]; decide
          exact pm_go [] 40 ⟨_, _, h2, iC, fun q => absurd q eo1, fun q => ⟨iC, fun q => absurd q eg1, fun q => ⟨rfl, rfl⟩⟩⟩
      have m2 : pm_Go sc (d + 19) (pm_cd mX6_guard) (7, [some (.ref 27), some (.int (nI x')), some (.int (nI y')), none], [], (hp (hw, hh, hc, ho, hg) r c P w B (mw, mh, ms, mg, mc, mo, mm, mz, mp) N O)) (fun r2 h2 => r2 = some (.int (-3)) ∧ h2 = (hp (hw, hh, hc, ho, hg) r c P w B (mw, mh, ms, mg, mc, mo, mm, mz, mp) N O)) := by
        cases hO : op n with
        | false =>
          have es : ¬ ms (nI y' * mw + nI x').toNatClampNeg = 0 := by rw [es, hO]; decide
          exact pm_go [] 50 ⟨iN, fun q => ⟨rfl, rfl⟩, fun q => absurd q es⟩
        | true =>
          have es : ms (nI y' * mw + nI x').toNatClampNeg = 0 := by rw [es, hO]; decide
          have hG : gd n = true := by
            cases hG : gd n with
            | true => rfl
            | false => exact absurd ⟨hO, hG⟩ hz
          have eg2 : ¬ mg (nI y' * mw + nI x').toNatClampNeg = 0 := by rw [eg2, hG]; decide
          exact pm_go [] 50 ⟨iN, fun q => absurd es q, fun q => ⟨iN, fun q => absurd q eg2, fun q => ⟨rfl, rfl⟩⟩⟩
      exact ⟨-3, _, r, c, _, pm_in (pm_go [8] 20 ⟨_, _, h1, fun q => m1, fun q => absurd q (by decide)⟩), pm_in (pm_go [7] 20 ⟨_, _, v1, fun q => m2, fun q => absurd q (by decide)⟩), hI0⟩
  · rw [decide_eq_false hin] at h1 v1
    exact ⟨-2, _, r, c, _, pm_in (pm_go [] 20 ⟨_, _, h1, fun q => absurd rfl q, fun q => ⟨rfl, rfl⟩⟩), pm_in (pm_go [] 20 ⟨_, _, v1, fun q => absurd rfl q, fun q => ⟨rfl, rfl⟩⟩), hI0⟩
theorem k_leave (sc : Nat × (Nat → Int32)) (d : Nat) (hw : Int32) (hh : Int32) (hc : Int32) (ho : tA) (hg : tA) (r : tR) (c : tR) (P : tP) (w : tW) (B : tB) (mw : Int32) (mh : Int32) (ms : tA) (mg : tA) (mc : Int32) (mo : tA) (mm : tA) (mz : tA) (mp : Int32) (N : tN) (O : tO) (x y : Int32) (hI : HaI (hw, hh, hc, ho, hg) r c (mw, mh, ms, mg, mc, mo, mm, mz, mp)) : HaK sc (d + 20) mX5_leave mX6_leave [.int x, .int y] (hw, hh, hc, ho, hg) r c P w B (mw, mh, ms, mg, mc, mo, mm, mz, mp) N O := by
  have hI0 := hI
  obtain ⟨W, Hh, op, gd, bW, bH, hgo, ⟨i1, i2, i3, i4, i5⟩, ⟨j1, j2, j3, j4, j5⟩, hcc⟩ := hI
  dsimp only at i1 i2 i3 i4 j1 j2 j3 j4 j5 hcc
  have bHW := bHW_of bW bH
  have h1 := c_holdsB sc (d + 17) hw hh hc ho hg r c P w B (mw, mh, ms, mg, mc, mo, mm, mz, mp) N O W Hh i1 i2 bW bH x y
  have v1 := r_isCell sc (d + 17) (hw, hh, hc, ho, hg) r c P w B mw mh ms mg mc mo mm mz mp N O W Hh j1 j2 bW bH x y
  by_cases hin : (0 ≤ x.toInt ∧ x.toInt < W) ∧ (0 ≤ y.toInt ∧ y.toInt < Hh)
  · rw [decide_eq_true hin] at h1 v1
    obtain ⟨x', y', rfl, rfl, hx, hy, hn⟩ := in_cell bW bH hin
    have h2 := c_numberOf sc (d + 18) hw hh hc ho hg r c P w B (mw, mh, ms, mg, mc, mo, mm, mz, mp) N O W x' y' i1
    have ec : nI y' * mw + nI x' = nI (y' * W + x') := by rw [j1, pk_mul, nI_add]
    generalize y' * W + x' = n at *
    have iC : vp_in (nI n) 64 := nu_in (by omega) (by omega)
    have cC : (nI n).toNatClampNeg = n := nu_cl (by omega)
    have iN : vp_in (nI y' * mw + nI x') 64 := by rw [ec]; exact iC
    have cN : (nI y' * mw + nI x').toNatClampNeg = n := by rw [ec]; exact cC
    have eg1 : hg (nI n).toNatClampNeg = bI (gd n) := by rw [cC]; exact i4 n (by omega)
    have eg2 : mg (nI y' * mw + nI x').toNatClampNeg = bI (gd n) := by rw [cN]; exact j4 n (by omega)
    cases hG : gd n with
    | true =>
      have hO := hgo n hG
      have eg1 : ¬ hg (nI n).toNatClampNeg = 0 := by rw [eg1, hG]; decide
      have eg2 : ¬ mg (nI y' * mw + nI x').toNatClampNeg = 0 := by rw [eg2, hG]; decide
      obtain ⟨hg', r', c', g1, g2, g3⟩ := c_changeGuard sc (d + 17) hw hh hc ho hg r c P w B (mw, mh, ms, mg, mc, mo, mm, mz, mp) N O W Hh n op gd false bHW hn hO hG i4 i5
      rw [if_neg Bool.false_ne_true] at g1
      have ehc : hc + -1 = hc - 1 := by
        apply Int32.toBitVec_inj.1
        show hc.toBitVec + (-1 : Int32).toBitVec = hc.toBitVec - (1 : Int32).toBitVec
        rw [BitVec.sub_eq_add_neg]
        rfl
      rw [ehc] at g1
      have g1 : pm_D sc (d + 19) mX1_changeGuard [.ref 2, .int (nI n), .int 0] (hp (hw, hh, hc, ho, hg) r c P w B (mw, mh, ms, mg, mc, mo, mm, mz, mp) N O) (some (.int (hc - 1))) (hp (hw, hh, hc - 1, ho, hg') (r') (c') P w B (mw, mh, ms, mg, mc, mo, mm, mz, mp) N O) := g1
      have m1 : pm_Go sc (d + 19) (pm_cd mX5_leave) (8, [some (.ref 1), some (.int (nI x')), some (.int (nI y')), none], [], (hp (hw, hh, hc, ho, hg) r c P w B (mw, mh, ms, mg, mc, mo, mm, mz, mp) N O)) (fun r2 h2 => r2 = some (.int (hc - 1)) ∧ h2 = (hp (hw, hh, hc - 1, ho, hg') (r') (c') P w B (mw, mh, ms, mg, mc, mo, mm, mz, mp) N O)) := pm_go [] 40 ⟨_, _, h2, iC, fun q => ⟨_, _, g1, rfl, rfl⟩, fun q => absurd q eg1⟩
      have v1 := r_isCell sc (d + 17) (hw, hh, hc - 1, ho, hg') r' c' P w B mw mh ms mg mc mo mm mz mp N O W Hh j1 j2 bW bH (nI x') (nI y')
      rw [decide_eq_true hin] at v1
      have m2 : pm_Go sc (d + 19) (pm_cd mX6_leave) (7, [some (.ref 27), some (.int (nI x')), some (.int (nI y')), none], [], (hp (hw, hh, hc - 1, ho, hg') (r') (c') P w B (mw, mh, ms, mg, mc, mo, mm, mz, mp) N O)) (fun r2 h2 => r2 = some (.int (mc - 1)) ∧ h2 = (hp (hw, hh, hc - 1, ho, hg') (r') (c') P w B (mw, mh, ms, upd mg n 0, mc - 1, mo, mm, mz, mp) N O)) := by
        rw [← cN]
        exact pm_go [] 50 ⟨iN, fun q => ⟨iN, Or.inl rfl, rfl, rfl⟩, fun q => absurd q eg2⟩
      rw [← hcc] at m2
      refine ⟨hc - 1, (hw, hh, hc - 1, ho, hg'), r', c', (mw, mh, ms, upd mg n 0, hc - 1, mo, mm, mz, mp), pm_in (pm_go [8] 20 ⟨_, _, h1, fun q => m1, fun q => absurd q (by decide)⟩), pm_in (pm_go [7] 20 ⟨_, _, v1, fun q => ?_, fun q => absurd q (by decide)⟩), ?_⟩
      · rw [← hcc]; exact m2
      · refine ⟨W, Hh, op, gdU gd n false, bW, bH, fun k hk => ?_, ⟨i1, i2, i3, g2, g3⟩, ⟨j1, j2, j3, fun k hk => ?_, j5⟩, rfl⟩
        · unfold gdU at hk
          by_cases hkn : k = n
          · rw [if_pos hkn] at hk; cases hk
          · rw [if_neg hkn] at hk; exact hgo k hk
        · show upd mg n 0 k = _
          rw [nu_upd]
          unfold gdU
          split
          · rfl
          · exact j4 k hk
    | false =>
      have eg1 : hg (nI n).toNatClampNeg = 0 := by rw [eg1, hG]; decide
      have eg2 : mg (nI y' * mw + nI x').toNatClampNeg = 0 := by rw [eg2, hG]; decide
      have m1 : pm_Go sc (d + 19) (pm_cd mX5_leave) (8, [some (.ref 1), some (.int (nI x')), some (.int (nI y')), none], [], (hp (hw, hh, hc, ho, hg) r c P w B (mw, mh, ms, mg, mc, mo, mm, mz, mp) N O)) (fun r2 h2 => r2 = some (.int (-3)) ∧ h2 = (hp (hw, hh, hc, ho, hg) r c P w B (mw, mh, ms, mg, mc, mo, mm, mz, mp) N O)) := pm_go [] 40 ⟨_, _, h2, iC, fun q => absurd eg1 q, fun q => ⟨rfl, rfl⟩⟩
      have m2 : pm_Go sc (d + 19) (pm_cd mX6_leave) (7, [some (.ref 27), some (.int (nI x')), some (.int (nI y')), none], [], (hp (hw, hh, hc, ho, hg) r c P w B (mw, mh, ms, mg, mc, mo, mm, mz, mp) N O)) (fun r2 h2 => r2 = some (.int (-3)) ∧ h2 = (hp (hw, hh, hc, ho, hg) r c P w B (mw, mh, ms, mg, mc, mo, mm, mz, mp) N O)) := pm_go [] 50 ⟨iN, fun q => absurd eg2 q, fun q => ⟨rfl, rfl⟩⟩
      exact ⟨-3, _, r, c, _, pm_in (pm_go [8] 20 ⟨_, _, h1, fun q => m1, fun q => absurd q (by decide)⟩), pm_in (pm_go [7] 20 ⟨_, _, v1, fun q => m2, fun q => absurd q (by decide)⟩), hI0⟩
  · rw [decide_eq_false hin] at h1 v1
    exact ⟨-2, _, r, c, _, pm_in (pm_go [] 20 ⟨_, _, h1, fun q => absurd rfl q, fun q => ⟨rfl, rfl⟩⟩), pm_in (pm_go [] 20 ⟨_, _, v1, fun q => absurd rfl q, fun q => ⟨rfl, rfl⟩⟩), hI0⟩
