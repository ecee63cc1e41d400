/-! HALLS: class and reference answer alike -/
def HaI (H : tH) (r c : tR) (M : tM) : Prop := ∃ (W Hh : Nat) (op gd : Nat → Bool), (1 ≤ W ∧ W ≤ 8) ∧ (1 ≤ Hh ∧ Hh ≤ 8) ∧ (∀ k, gd k = true → op k = true) ∧
  (H.1 = nI W ∧ H.2.1 = nI Hh ∧ (∀ k, k < 64 → H.2.2.2.1 k = bI (op k)) ∧ (∀ k, k < 64 → H.2.2.2.2 k = bI (gd k)) ∧ HR W Hh op gd r c) ∧
  (M.1 = nI W ∧ M.2.1 = nI Hh ∧ (∀ k, k < 64 → M.2.2.1 k = bI (!op k)) ∧ (∀ k, k < 64 → M.2.2.2.1 k = bI (gd k)) ∧ (M.2.2.2.2.2.2.2.2 = 0 ∨ (M.2.2.2.2.2.2.2.2 = 1 ∧ MP W Hh op M.2.2.2.2.2.1 M.2.2.2.2.2.2.1 M.2.2.2.2.2.2.2.1))) ∧ H.2.2.1 = M.2.2.2.2.1
def HaK (sc : Nat × (Nat → Int32)) (d mC mR : Nat) (av : List Value) (H : tH) (r c : tR) (P : tP) (w : tW) (B : tB) (M : tM) (N : tN) (O : tO) : Prop :=
  ∃ (x : Int32) (H' : tH) (r' c' : tR) (M' : tM), pm_D sc d mC (.ref 1 :: av) (hp H r c P w B M N O) (some (.int x)) (hp H' r' c' P w B M N O) ∧ pm_D sc d mR (.ref 27 :: av) (hp H' r' c' P w B M N O) (some (.int x)) (hp H' r' c' P w B M' N O) ∧ HaI H' r' c' M'
theorem c_holdsB (sc : Nat × (Nat → Int32)) (d : Nat) (hw : Int32) (hh : Int32) (hc : Int32) (ho : tA) (hg : tA) (r : tR) (c : tR) (P : tP) (w : tW) (B : tB) (M : tM) (N : tN) (O : tO) (W Hh : Nat) (hW : hw = nI W) (hH : hh = nI Hh) (bW : 1 ≤ W ∧ W ≤ 8) (bH : 1 ≤ Hh ∧ Hh ≤ 8) (x y : Int32) : pm_D sc (d + 2) mX1_holds [.ref 2, .int x, .int y] (hp (hw, hh, hc, ho, hg) r c P w B M N O) (some (.int (bI (decide ((0 ≤ x.toInt ∧ x.toInt < W) ∧ (0 ≤ y.toInt ∧ y.toInt < Hh)))))) (hp (hw, hh, hc, ho, hg) r c P w B M N O) := by
  have w1 := c_isWithin sc d (hp (hw, hh, hc, ho, hg) r c P w B M N O) x 0 (hw - 1)
  have w2 := c_isWithin sc d (hp (hw, hh, hc, ho, hg) r c P w B M N O) y 0 (hh - 1)
  have t1 : (hw - 1).toInt = (W : Int) - 1 := by
    rw [hW, nu_sub (by rw [nu_ti (by omega)]; show _ ≤ _ - (1 : Int); omega) (by rw [nu_ti (by omega)]; show _ - (1 : Int) < _; omega), nu_ti (by omega)]; rfl
  have t2 : (hh - 1).toInt = (Hh : Int) - 1 := by
    rw [hH, nu_sub (by rw [nu_ti (by omega)]; show _ ≤ _ - (1 : Int); omega) (by rw [nu_ti (by omega)]; show _ - (1 : Int) < _; omega), nu_ti (by omega)]; rfl
  have e1 : (0 ≤ x ∧ x ≤ hw - 1) ↔ (0 ≤ x.toInt ∧ x.toInt < W) := by
    rw [Int32.le_iff_toInt_le, Int32.le_iff_toInt_le, t1]
    show (0 : Int) ≤ _ ∧ _ ↔ _
    omega
  have e2 : (0 ≤ y ∧ y ≤ hh - 1) ↔ (0 ≤ y.toInt ∧ y.toInt < Hh) := by
    rw [Int32.le_iff_toInt_le, Int32.le_iff_toInt_le, t2]
    show (0 : Int) ≤ _ ∧ _ ↔ _
    omega
  by_cases q1 : 0 ≤ x.toInt ∧ x.toInt < W
  · rw [if_pos (e1.mpr q1)] at w1
    by_cases q2 : 0 ≤ y.toInt ∧ y.toInt < Hh
    · rw [if_pos (e2.mpr q2)] at w2
      rw [decide_eq_true ⟨q1, q2⟩]
      exact pm_in (pm_go [] 30 ⟨_, _, w1, fun q => absurd q (by decide), fun q => ⟨_, _, w2, fun q => absurd q (by decide), fun q => ⟨Or.inr rfl, rfl, rfl⟩⟩⟩)
    · rw [if_neg (fun z => q2 (e2.mp z))] at w2
      rw [decide_eq_false (fun z => q2 z.2)]
      exact pm_in (pm_go [] 30 ⟨_, _, w1, fun q => absurd q (by decide), fun q => ⟨_, _, w2, fun q => ⟨Or.inl rfl, rfl, rfl⟩, fun q => absurd rfl q⟩⟩)
  · rw [if_neg (fun z => q1 (e1.mp z))] at w1
    rw [decide_eq_false (fun z => q1 z.1)]
    exact pm_in (pm_go [] 30 ⟨_, _, w1, fun q => ⟨Or.inl rfl, rfl, rfl⟩, fun q => absurd rfl q⟩)
theorem in_cell {W Hh : Nat} (bW : 1 ≤ W ∧ W ≤ 8) (bH : 1 ≤ Hh ∧ Hh ≤ 8) {x y : Int32} (h : (0 ≤ x.toInt ∧ x.toInt < W) ∧ (0 ≤ y.toInt ∧ y.toInt < Hh)) : ∃ x' y' : Nat, x = nI x' ∧ y = nI y' ∧ x' < W ∧ y' < Hh ∧ y' * W + x' < Hh * W := by
  obtain ⟨x', hx, ex⟩ := nu_of (x := x) (n := W) h.1.1 h.1.2
  obtain ⟨y', hy, ey⟩ := nu_of (x := y) (n := Hh) h.2.1 h.2.2
  refine ⟨x', y', ex, ey, hx, hy, ?_⟩
  have : (y' + 1) * W ≤ Hh * W := Nat.mul_le_mul_right W (by omega)
  rw [Nat.add_mul] at this
  omega
theorem bHW_of {W Hh : Nat} (bW : 1 ≤ W ∧ W ≤ 8) (bH : 1 ≤ Hh ∧ Hh ≤ 8) : Hh * W ≤ 64 := Nat.mul_le_mul bH.2 bW.2
theorem k_cell (sc : Nat × (Nat → Int32)) (d : Nat) (hw : Int32) (hh : Int32) (hc : Int32) (ho : tA) (hg : tA) (r : tR) (c : tR) (P : tP) (w : tW) (B : tB) (mw : Int32) (mh : Int32) (ms : tA) (mg : tA) (mc : Int32) (mo : tA) (mm : tA) (mz : tA) (mp : Int32) (N : tN) (O : tO) (x y : Int32) (hI : HaI (hw, hh, hc, ho, hg) r c (mw, mh, ms, mg, mc, mo, mm, mz, mp)) : HaK sc (d + 20) mX5_cell mX6_cell [.int x, .int y] (hw, hh, hc, ho, hg) r c P w B (mw, mh, ms, mg, mc, mo, mm, mz, mp) N O := by
  have hI0 := hI
  obtain ⟨W, Hh, op, gd, bW, bH, hgo, ⟨i1, i2, i3, i4, i5⟩, ⟨j1, j2, j3, j4, j5⟩, hcc⟩ := hI
  dsimp only at i1 i2 i3 i4 j1 j2 j3 j4 j5 hcc
  have bHW := bHW_of bW bH
  have h1 := c_holdsB sc (d + 17) hw hh hc ho hg r c P w B (mw, mh, ms, mg, mc, mo, mm, mz, mp) N O W Hh i1 i2 bW bH x y
  have v1 := r_isCell sc (d + 17) (hw, hh, hc, ho, hg) r c P w B mw mh ms mg mc mo mm mz mp N O W Hh j1 j2 bW bH x y
  by_cases hin : (0 ≤ x.toInt ∧ x.toInt < W) ∧ (0 ≤ y.toInt ∧ y.toInt < Hh)
  · rw [decide_eq_true hin] at h1 v1
    obtain ⟨x', y', rfl, rfl, hx, hy, hn⟩ := in_cell bW bH hin
    have h2 := c_numberOf sc (d + 18) hw hh hc ho hg r c P w B (mw, mh, ms, mg, mc, mo, mm, mz, mp) N O W x' y' i1
    have h3 := c_kindOf sc (d + 16) hw hh hc ho hg r c P w B (mw, mh, ms, mg, mc, mo, mm, mz, mp) N O W Hh _ op gd bHW hn i3 i4 i5
    obtain ⟨mo', mm', mz', v2, hMP⟩ := r_part sc (d + 14) (hw, hh, hc, ho, hg) r c P w B mw mh ms mg mc mo mm mz mp N O W Hh op j1 j2 bW bH j3 j5
    have v3 := r_isSeen sc (d + 17) (hw, hh, hc, ho, hg) r c P w B mw mh ms mg mc mo' mm' mz' 1 N O W Hh _ op gd j1 j2 bHW hn j3 j4 hMP
    have ec : nI y' * mw + nI x' = nI (y' * W + x') := by rw [j1, pk_mul, nI_add]
    generalize y' * W + x' = n at *
    have iN : vp_in (nI y' * mw + nI x') 64 := by rw [ec]; exact nu_in (by omega) (by omega)
    have cN : (nI y' * mw + nI x').toNatClampNeg = n := by rw [ec]; exact nu_cl (by omega)
    have es : ms (nI y' * mw + nI x').toNatClampNeg = bI (!op n) := by rw [cN]; exact j3 n (by omega)
    have eg : mg (nI y' * mw + nI x').toNatClampNeg = bI (gd n) := by rw [cN]; exact j4 n (by omega)
    rw [← ec] at v3
    have fin : pm_Go sc (d + 19) (pm_cd mX6_cell) (9, [some (.ref 27), some (.int (nI x')), some (.int (nI y')), none], [], (hp (hw, hh, hc, ho, hg) r c P w B (mw, mh, ms, mg, mc, mo', mm', mz', 1) N O)) (fun r2 h2 => r2 = some (.int (kN W Hh op gd n)) ∧ h2 = (hp (hw, hh, hc, ho, hg) r c P w B (mw, mh, ms, mg, mc, mo', mm', mz', 1) N O)) := by
      unfold kN
      cases hO : op n with
      | false =>
        have es : ¬ ms (nI y' * mw + nI x').toNatClampNeg = 0 := by rw [es, hO]; decide
        exact pm_go [] 40 ⟨iN, fun q => absurd q es, fun q => ⟨rfl, rfl⟩⟩
      | true =>
        have es : ms (nI y' * mw + nI x').toNatClampNeg = 0 := by rw [es, hO]; decide
        cases hG : gd n with
        | true =>
          have eg : ¬ mg (nI y' * mw + nI x').toNatClampNeg = 0 := by rw [eg, hG]; decide
          exact pm_go [] 40 ⟨iN, fun q => ⟨iN, fun q => absurd q eg, fun q => ⟨rfl, rfl⟩⟩, fun q => absurd es q⟩
        | false =>
          have eg : mg (nI y' * mw + nI x').toNatClampNeg = 0 := by rw [eg, hG]; decide
          have last : pm_Go sc (d + 19) (pm_cd mX6_cell) (30, [some (.ref 27), some (.int (nI x')), some (.int (nI y')), some (.int (nI y' * mw + nI x'))], [], (hp (hw, hh, hc, ho, hg) r c P w B (mw, mh, ms, mg, mc, mo', mm', mz', 1) N O)) (fun r2 h2 => r2 = some (.int (if (true : Bool) = true then if (false : Bool) = true then 3 else if sE W Hh op gd n = true then 2 else 1 else 0)) ∧ h2 = (hp (hw, hh, hc, ho, hg) r c P w B (mw, mh, ms, mg, mc, mo', mm', mz', 1) N O)) := by
            cases hS : sE W Hh op gd n with
            | true =>
              rw [hS] at v3
              exact pm_go [] 20 ⟨_, _, v3, fun q => absurd q (by decide), fun q => ⟨rfl, rfl⟩⟩
            | false =>
              rw [hS] at v3
              exact pm_go [] 20 ⟨_, _, v3, fun q => ⟨rfl, rfl⟩, fun q => absurd rfl q⟩
          exact pm_go [30] 40 ⟨iN, fun q => ⟨iN, fun q => last, fun q => absurd eg q⟩, fun q => absurd es q⟩
    have mid : pm_Go sc (d + 19) (pm_cd mX5_cell) (8, [some (.ref 1), some (.int (nI x')), some (.int (nI y'))], [], (hp (hw, hh, hc, ho, hg) r c P w B (mw, mh, ms, mg, mc, mo, mm, mz, mp) N O)) (fun r2 h2 => r2 = some (.int (kN W Hh op gd n)) ∧ h2 = (hp (hw, hh, hc, ho, hg) r c P w B (mw, mh, ms, mg, mc, mo, mm, mz, mp) N O)) := pm_go [] 20 ⟨_, _, h2, _, _, h3, rfl, rfl⟩
    refine ⟨kN W Hh op gd n, (hw, hh, hc, ho, hg), r, c, (mw, mh, ms, mg, mc, mo', mm', mz', 1), pm_in (pm_go [8] 20 ⟨_, _, h1, fun q => mid, fun q => absurd q (by decide)⟩), pm_in (pm_go [9] 20 ⟨_, _, v1, fun q => ⟨_, _, v2, fin⟩, fun q => absurd q (by decide)⟩), ?_⟩
    exact ⟨W, Hh, op, gd, bW, bH, hgo, ⟨i1, i2, i3, i4, i5⟩, ⟨j1, j2, j3, j4, Or.inr ⟨rfl, hMP⟩⟩, hcc⟩
  · rw [decide_eq_false hin] at h1 v1
    exact ⟨-2, _, r, c, _, pm_in (pm_go [] 20 ⟨_, _, h1, fun q => absurd rfl q, fun q => ⟨rfl, rfl⟩⟩), pm_in (pm_go [] 20 ⟨_, _, v1, fun q => absurd rfl q, fun q => ⟨rfl, rfl⟩⟩), hI0⟩
theorem k_sees (sc : Nat × (Nat → Int32)) (d : Nat) (hw : Int32) (hh : Int32) (hc : Int32) (ho : tA) (hg : tA) (r : tR) (c : tR) (P : tP) (w : tW) (B : tB) (mw : Int32) (mh : Int32) (ms : tA) (mg : tA) (mc : Int32) (mo : tA) (mm : tA) (mz : tA) (mp : Int32) (N : tN) (O : tO) (x y : Int32) (hI : HaI (hw, hh, hc, ho, hg) r c (mw, mh, ms, mg, mc, mo, mm, mz, mp)) : HaK sc (d + 20) mX5_sees mX6_sees [.int x, .int y] (hw, hh, hc, ho, hg) r c P w B (mw, mh, ms, mg, mc, mo, mm, mz, mp) N O := by
  have hI0 := hI
  obtain ⟨W, Hh, op, gd, bW, bH, hgo, ⟨i1, i2, i3, i4, i5⟩, ⟨j1, j2, j3, j4, j5⟩, hcc⟩ := hI
  dsimp only at i1 i2 i3 i4 j1 j2 j3 j4 j5 hcc
  have bHW := bHW_of bW bH
  have h1 := c_holdsB sc (d + 17) hw hh hc ho hg r c P w B (mw, mh, ms, mg, mc, mo, mm, mz, mp) N O W Hh i1 i2 bW bH x y
  have v1 := r_isCell sc (d + 17) (hw, hh, hc, ho, hg) r c P w B mw mh ms mg mc mo mm mz mp N O W Hh j1 j2 bW bH x y
  by_cases hin : (0 ≤ x.toInt ∧ x.toInt < W) ∧ (0 ≤ y.toInt ∧ y.toInt < Hh)
  · rw [decide_eq_true hin] at h1 v1
    obtain ⟨x', y', rfl, rfl, hx, hy, hn⟩ := in_cell bW bH hin
    have h2 := c_numberOf sc (d + 18) hw hh hc ho hg r c P w B (mw, mh, ms, mg, mc, mo, mm, mz, mp) N O W x' y' i1
    have h3 := c_sightFrom sc (d + 17) hw hh hc ho hg r c P w B (mw, mh, ms, mg, mc, mo, mm, mz, mp) N O W Hh _ op gd bHW hn i3 i5
    obtain ⟨mo', mm', mz', v2, hMP⟩ := r_part sc (d + 14) (hw, hh, hc, ho, hg) r c P w B mw mh ms mg mc mo mm mz mp N O W Hh op j1 j2 bW bH j3 j5
    have ec : nI y' * mw + nI x' = nI (y' * W + x') := by rw [j1, pk_mul, nI_add]
    generalize y' * W + x' = n at *
    have iN : vp_in (nI y' * mw + nI x') 64 := by rw [ec]; exact nu_in (by omega) (by omega)
    have iN2 : vp_in (nI y' * mw + nI x') 128 := by rw [ec]; exact nu_in (by omega) (by omega)
    have cN : (nI y' * mw + nI x').toNatClampNeg = n := by rw [ec]; exact nu_cl (by omega)
    have es : ms (nI y' * mw + nI x').toNatClampNeg = bI (!op n) := by rw [cN]; exact j3 n (by omega)
    have fin : pm_Go sc (d + 19) (pm_cd mX6_sees) (9, [some (.ref 27), some (.int (nI x')), some (.int (nI y')), none], [], (hp (hw, hh, hc, ho, hg) r c P w B (mw, mh, ms, mg, mc, mo', mm', mz', 1) N O)) (fun r2 h2 => r2 = some (.int (sN W Hh op n)) ∧ h2 = (hp (hw, hh, hc, ho, hg) r c P w B (mw, mh, ms, mg, mc, mo', mm', mz', 1) N O)) := by
      cases hO : op n with
      | false =>
        have es : ¬ ms (nI y' * mw + nI x').toNatClampNeg = 0 := by rw [es, hO]; decide
        have : rO op 1 (egR W) (Hh * W) n = none := (rO_op _ n hn).mpr hO
        unfold sN
        rw [this]
        exact pm_go [] 40 ⟨iN, fun q => absurd q es, fun q => ⟨rfl, rfl⟩⟩
      | true =>
        have es : ms (nI y' * mw + nI x').toNatClampNeg = 0 := by rw [es, hO]; decide
        obtain ⟨q1, hq1⟩ := rO_some (st := 1) (eg := egR W) hn hO
        obtain ⟨q2, hq2⟩ := rO_some (st := W) (eg := egC W) hn hO
        have l1 := rO_lt _ _ _ hq1
        have l2 := rO_lt _ _ _ hq2
        have b1 := r32R (op := op) bW bH
        have b2 := r32C (op := op) bW bH
        have e1 : mo' (nI y' * mw + nI x').toNatClampNeg = nI q1 := by
          have := hMP.1.2.1 n hn
          rw [hq1, Nat.mul_zero, Nat.zero_add] at this
          rw [cN, this]; rfl
        have e64 : pm_ib 0 64 (nI y' * mw + nI x') = nI (64 * 1 + n) := by rw [pib0, ec, nu_64, nI_add]
        have i64 : vp_in (pm_ib 0 64 (nI y' * mw + nI x')) 128 := by rw [e64]; exact nu_in (by omega) (by omega)
        have e2 : mo' (pm_ib 0 64 (nI y' * mw + nI x')).toNatClampNeg = nI q2 := by
          have := hMP.2.2.1 n hn
          rw [hq2] at this
          rw [e64, nu_cl (by omega), this]
          rfl
        have ia : vp_in (mo' (nI y' * mw + nI x').toNatClampNeg) 64 := by rw [e1]; exact nu_in (by omega) (by omega)
        have ib0 : pm_ib 0 32 (mo' (pm_ib 0 64 (nI y' * mw + nI x')).toNatClampNeg) = nI (32 * 1 + q2) := by rw [e2, pib0, nu_32, nI_add]
        have ib : vp_in (pm_ib 0 32 (mo' (pm_ib 0 64 (nI y' * mw + nI x')).toNatClampNeg)) 64 := by rw [ib0]; exact nu_in (by omega) (by omega)
        have va : mz' (mo' (nI y' * mw + nI x').toNatClampNeg).toNatClampNeg = nI (rN op 1 (egR W) (Hh * W) q1) := by
          rw [e1, nu_cl (by omega)]
          have := hMP.1.2.2 q1 (by omega)
          rw [Nat.mul_zero, Nat.zero_add] at this
          exact this
        have vb : mz' (pm_ib 0 32 (mo' (pm_ib 0 64 (nI y' * mw + nI x')).toNatClampNeg)).toNatClampNeg = nI (rN op W (egC W) (Hh * W) q2) := by
          rw [ib0, nu_cl (by omega)]
          exact hMP.2.2.2 q2 (by omega)
        unfold sN
        rw [hq1, hq2]
        dsimp only
        rw [← va, ← vb]
        have last : pm_Go sc (d + 19) (pm_cd mX6_sees) (23, [some (.ref 27), some (.int (nI x')), some (.int (nI y')), some (.int (nI y' * mw + nI x'))], [], (hp (hw, hh, hc, ho, hg) r c P w B (mw, mh, ms, mg, mc, mo', mm', mz', 1) N O)) (fun r2 h2 => r2 = some (.int (mz' (mo' (nI y' * mw + nI x').toNatClampNeg).toNatClampNeg + mz' (pm_ib 0 32 (mo' (pm_ib 0 64 (nI y' * mw + nI x')).toNatClampNeg)).toNatClampNeg - 1)) ∧ h2 = (hp (hw, hh, hc, ho, hg) r c P w B (mw, mh, ms, mg, mc, mo', mm', mz', 1) N O)) :=
          pm_go [] 40 ⟨iN2, ia, i64, ib, rfl, rfl⟩
        exact pm_go [23] 40 ⟨iN, fun q => last, fun q => absurd es q⟩
    have mid : pm_Go sc (d + 19) (pm_cd mX5_sees) (8, [some (.ref 1), some (.int (nI x')), some (.int (nI y'))], [], (hp (hw, hh, hc, ho, hg) r c P w B (mw, mh, ms, mg, mc, mo, mm, mz, mp) N O)) (fun r2 h2 => r2 = some (.int (sN W Hh op n)) ∧ h2 = (hp (hw, hh, hc, ho, hg) r c P w B (mw, mh, ms, mg, mc, mo, mm, mz, mp) N O)) := pm_go [] 20 ⟨_, _, h2, _, _, h3, rfl, rfl⟩
    refine ⟨sN W Hh op n, (hw, hh, hc, ho, hg), r, c, (mw, mh, ms, mg, mc, mo', mm', mz', 1), pm_in (pm_go [8] 20 ⟨_, _, h1, fun q => mid, fun q => absurd q (by decide)⟩), pm_in (pm_go [9] 20 ⟨_, _, v1, fun q => ⟨_, _, v2, fin⟩, fun q => absurd q (by decide)⟩), ?_⟩
    exact ⟨W, Hh, op, gd, bW, bH, hgo, ⟨i1, i2, i3, i4, i5⟩, ⟨j1, j2, j3, j4, Or.inr ⟨rfl, hMP⟩⟩, hcc⟩
  · rw [decide_eq_false hin] at h1 v1
    exact ⟨-2, _, r, c, _, pm_in (pm_go [] 20 ⟨_, _, h1, fun q => absurd rfl q, fun q => ⟨rfl, rfl⟩⟩), pm_in (pm_go [] 20 ⟨_, _, v1, fun q => absurd rfl q, fun q => ⟨rfl, rfl⟩⟩), hI0⟩
theorem k_hall (sc : Nat × (Nat → Int32)) (d : Nat) (hw : Int32) (hh : Int32) (hc : Int32) (ho : tA) (hg : tA) (r : tR) (c : tR) (P : tP) (w : tW) (B : tB) (mw : Int32) (mh : Int32) (ms : tA) (mg : tA) (mc : Int32) (mo : tA) (mm : tA) (mz : tA) (mp : Int32) (N : tN) (O : tO) (x y : Int32) (hI : HaI (hw, hh, hc, ho, hg) r c (mw, mh, ms, mg, mc, mo, mm, mz, mp)) : HaK sc (d + 20) mX5_hall mX6_hall [.int x, .int y] (hw, hh, hc, ho, hg) r c P w B (mw, mh, ms, mg, mc, mo, mm, mz, mp) N O := by
  have w1 := c_isWithin sc (d + 18) (hp (hw, hh, hc, ho, hg) r c P w B (mw, mh, ms, mg, mc, mo, mm, mz, mp) N O) x 1 8
  have w2 := c_isWithin sc (d + 18) (hp (hw, hh, hc, ho, hg) r c P w B (mw, mh, ms, mg, mc, mo, mm, mz, mp) N O) y 1 8
  have v1 := r_within sc (d + 18) (hp (hw, hh, hc, ho, hg) r c P w B (mw, mh, ms, mg, mc, mo, mm, mz, mp) N O) x 1 8
  have v2 := r_within sc (d + 18) (hp (hw, hh, hc, ho, hg) r c P w B (mw, mh, ms, mg, mc, mo, mm, mz, mp) N O) y 1 8
  by_cases q1 : 1 ≤ x ∧ x ≤ 8
  · by_cases q2 : 1 ≤ y ∧ y ≤ 8
    · obtain ⟨W, hA1, rfl⟩ := nu_of (x := x) (n := 9) (by have := q1.1; rw [Int32.le_iff_toInt_le] at this; exact Int.le_trans (by decide) this) (by have := q1.2; rw [Int32.le_iff_toInt_le] at this; exact Int.lt_of_le_of_lt this (by decide))
      obtain ⟨Hh, hB1, rfl⟩ := nu_of (x := y) (n := 9) (by have := q2.1; rw [Int32.le_iff_toInt_le] at this; exact Int.le_trans (by decide) this) (by have := q2.2; rw [Int32.le_iff_toInt_le] at this; exact Int.lt_of_le_of_lt this (by decide))
      have hA0 : 1 ≤ W := by have := q1.1; rw [nu_1, nu_le (by omega) (by omega)] at this; exact this
      have hB0 : 1 ≤ Hh := by have := q2.1; rw [nu_1, nu_le (by omega) (by omega)] at this; exact this
      rw [if_pos q1] at w1
      rw [if_pos q2] at w2
      obtain ⟨ho', hg', r', c', g1, g2, g3, g4⟩ := c_hallClear sc (d + 15) hw hh hc ho hg r c P w B (mw, mh, ms, mg, mc, mo, mm, mz, mp) N O W Hh ⟨hA0, by omega⟩ ⟨hB0, by omega⟩
      have v1 := r_within sc (d + 18) (hp ((nI W, nI Hh, 0, ho', hg')) (r') (c') P w B (mw, mh, ms, mg, mc, mo, mm, mz, mp) N O) (nI W) 1 8
      have v2 := r_within sc (d + 18) (hp ((nI W, nI Hh, 0, ho', hg')) (r') (c') P w B (mw, mh, ms, mg, mc, mo, mm, mz, mp) N O) (nI Hh) 1 8
      rw [if_pos q1] at v1
      rw [if_pos q2] at v2
      have loop : ∀ (m k : Nat) (z : Int32) (f g : tA), k + m = 64 → z = nI k → (∀ i, i < k → f i = 0 ∧ g i = 0) → ∃ (f' g' : tA), pm_Go sc (d + 19) (pm_cd mX6_hall) (23, [some (.ref 27), some (.int (nI W)), some (.int (nI Hh)), some (.int z)], [], (hp ((nI W, nI Hh, 0, ho', hg')) (r') (c') P w B (nI W, nI Hh, f, g, 0, mo, mm, mz, mp) N O)) (fun r2 h2 => r2 = some (.int (nI W * nI Hh)) ∧ h2 = (hp ((nI W, nI Hh, 0, ho', hg')) (r') (c') P w B (nI W, nI Hh, f', g', 0, mo, mm, mz, 0) N O)) ∧ ∀ i, i < 64 → f' i = 0 ∧ g' i = 0 := by
        intro m
        induction m with
        | zero =>
          intro k z f g hk hz hf
          subst hz
          have : k = 64 := by omega
          subst this
          exact ⟨f, g, pm_go [] 20 ⟨fun q => ⟨Or.inl rfl, rfl, rfl⟩, fun q => absurd (by decide) q⟩, hf⟩
        | succ m ih =>
          intro k z f g hk hz hf
          subst hz
          have hin : vp_in (nI k) 64 := nu_in (by omega) (by omega)
          obtain ⟨f', g', t1, t2⟩ := ih (k + 1) (nI k + 1) (upd f (nI k).toNatClampNeg 0) (upd g (nI k).toNatClampNeg 0) (by omega) (nI_1 k) (fun i hi => by
            rw [nu_cl (by omega), nu_upd, nu_upd]
            by_cases hik : i = k
            · rw [if_pos hik, if_pos hik]; exact ⟨rfl, rfl⟩
            · rw [if_neg hik, if_neg hik]; exact hf i (by omega))
          exact ⟨f', g', pm_go1 [23] 30 ⟨fun q => absurd ((nu_le (a := 64) (b := k) (by omega) (by omega)).mp (by rw [← nu_64]; exact q)) (by omega), fun q => ⟨hin, Or.inl rfl, hin, Or.inl rfl, t1⟩⟩, t2⟩
      obtain ⟨f', g', t1, t2⟩ := loop 64 0 0 ms mg (by omega) nu_0 (fun i hi => absurd hi (by omega))
      refine ⟨nI W * nI Hh, (nI W, nI Hh, 0, ho', hg'), r', c', (nI W, nI Hh, f', g', 0, mo, mm, mz, 0), pm_in (pm_go [] 30 ⟨_, _, w1, fun q => absurd q (by decide), fun q => ⟨_, _, w2, fun q => ⟨_, _, g1, rfl, rfl⟩, fun q => absurd q (by decide)⟩⟩), pm_in (pm_go [23] 40 ⟨_, _, v1, fun q => absurd q (by decide), fun q => ⟨_, _, v2, fun q => t1, fun q => absurd q (by decide)⟩⟩), ?_⟩
      exact ⟨W, Hh, fun _ => true, fun _ => false, ⟨hA0, by omega⟩, ⟨hB0, by omega⟩, (fun _ h => by cases h), ⟨rfl, rfl, g2, g3, g4⟩, ⟨rfl, rfl, fun k hk => (t2 k hk).1, fun k hk => (t2 k hk).2, Or.inl rfl⟩, rfl⟩
    · rw [if_pos q1] at w1 v1
      rw [if_neg q2] at w2 v2
      exact ⟨-2, _, r, c, _, pm_in (pm_go [] 30 ⟨_, _, w1, fun q => absurd q (by decide), fun q => ⟨_, _, w2, fun q => absurd rfl q, fun q => ⟨rfl, rfl⟩⟩⟩), pm_in (pm_go [] 30 ⟨_, _, v1, fun q => absurd q (by decide), fun q => ⟨_, _, v2, fun q => absurd rfl q, fun q => ⟨rfl, rfl⟩⟩⟩), hI⟩
  · rw [if_neg q1] at w1 v1
    exact ⟨-2, _, r, c, _, pm_in (pm_go [] 30 ⟨_, _, w1, fun q => ⟨rfl, rfl⟩, fun q => absurd rfl q⟩), pm_in (pm_go [] 30 ⟨_, _, v1, fun q => ⟨rfl, rfl⟩, fun q => absurd rfl q⟩), hI⟩
