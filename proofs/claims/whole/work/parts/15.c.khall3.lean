/-! HALLS: runs, run, seen, missed -/
theorem c_along0 (sc : Nat × (Nat → Int32)) (d : Nat) (H : tH) (r : tR) (c : tR) (P : tP) (w : tW) (B : tB) (M : tM) (N : tN) (O : tO) : pm_D sc (d + 1) mX1_along [.ref 2, .int 0] (hp H r c P w B M N O) (some (.ref 5)) (hp H r c P w B M N O) :=
  pm_in (pm_go [] 20 ⟨fun q => absurd rfl q, fun q => ⟨rfl, rfl⟩⟩)
theorem c_along1 (sc : Nat × (Nat → Int32)) (d : Nat) (H : tH) (r : tR) (c : tR) (P : tP) (w : tW) (B : tB) (M : tM) (N : tN) (O : tO) : pm_D sc (d + 1) mX1_along [.ref 2, .int 1] (hp H r c P w B M N O) (some (.ref 10)) (hp H r c P w B M N O) :=
  pm_in (pm_go [] 20 ⟨fun q => ⟨rfl, rfl⟩, fun q => absurd q (by decide)⟩)
theorem dir01 {x : Int32} (h : 0 ≤ x ∧ x ≤ 1) : x = 0 ∨ x = 1 := by
  have h1 := h.1
  have h2 := h.2
  rw [Int32.le_iff_toInt_le] at h1 h2
  have h1 : (0 : Int) ≤ x.toInt := h1
  have h2 : x.toInt ≤ (1 : Int) := h2
  by_cases q : x.toInt = 0
  · left; exact Int32.toInt_inj.mp q
  · right; exact Int32.toInt_inj.mp (by show x.toInt = 1; omega)
theorem k_runs (sc : Nat × (Nat → Int32)) (d : Nat) (hw : Int32) (hh : Int32) (hc : Int32) (ho : tA) (hg : tA) (r : tR) (c : tR) (P : tP) (w : tW) (B : tB) (mw : Int32) (mh : Int32) (ms : tA) (mg : tA) (mc : Int32) (mo : tA) (mm : tA) (mz : tA) (mp : Int32) (N : tN) (O : tO) (x : Int32) (hI : HaI (hw, hh, hc, ho, hg) r c (mw, mh, ms, mg, mc, mo, mm, mz, mp)) : HaK sc (d + 20) mX5_runs mX6_runs [.int x] (hw, hh, hc, ho, hg) r c P w B (mw, mh, ms, mg, mc, mo, mm, mz, mp) N O := by
  have hI0 := hI
  obtain ⟨W, Hh, op, gd, bW, bH, hgo, ⟨i1, i2, i3, i4, i5⟩, ⟨j1, j2, j3, j4, j5⟩, hcc⟩ := hI
  dsimp only at i1 i2 i3 i4 j1 j2 j3 j4 j5 hcc
  have w1 := c_isWithin sc (d + 18) (hp (hw, hh, hc, ho, hg) r c P w B (mw, mh, ms, mg, mc, mo, mm, mz, mp) N O) x 0 1
  have v1 := r_within sc (d + 18) (hp (hw, hh, hc, ho, hg) r c P w B (mw, mh, ms, mg, mc, mo, mm, mz, mp) N O) x 0 1
  by_cases q1 : 0 ≤ x ∧ x ≤ 1
  · rw [if_pos q1] at w1 v1
    obtain ⟨mo', mm', mz', v2, hMP⟩ := r_part sc (d + 14) (hw, hh, hc, ho, hg) r c P w B mw mh ms mg mc mo mm mz mp N O W Hh op j1 j2 bW bH j3 j5
    have hI2 : HaI (hw, hh, hc, ho, hg) r c (mw, mh, ms, mg, mc, mo', mm', mz', 1) := ⟨W, Hh, op, gd, bW, bH, hgo, ⟨i1, i2, i3, i4, i5⟩, ⟨j1, j2, j3, j4, Or.inr ⟨rfl, hMP⟩⟩, hcc⟩
    rcases dir01 q1 with rfl | rfl
    · have a1 := c_along0 sc (d + 18) (hw, hh, hc, ho, hg) r c P w B (mw, mh, ms, mg, mc, mo, mm, mz, mp) N O
      have i0 : vp_in (0 : Int32) 2 := by rw [nu_0]; exact nu_in (by omega) (by omega)
      have e : r.1 = mm' 0 := by rw [i5.1.1, hMP.1.1]
      refine ⟨r.1, _, r, c, _, pm_in (pm_go [] 20 ⟨_, _, w1, fun q => ⟨_, _, a1, rfl, rfl⟩, fun q => absurd q (by decide)⟩), pm_in (pm_go [] 20 ⟨_, _, v1, fun q => ⟨_, _, v2, i0, ?_, rfl⟩, fun q => absurd q (by decide)⟩), hI2⟩
      rw [e]; rfl
    · have a1 := c_along1 sc (d + 18) (hw, hh, hc, ho, hg) r c P w B (mw, mh, ms, mg, mc, mo, mm, mz, mp) N O
      have i0 : vp_in (1 : Int32) 2 := by rw [nu_1]; exact nu_in (by omega) (by omega)
      have e : c.1 = mm' 1 := by rw [i5.2.1, hMP.2.1]
      refine ⟨c.1, _, r, c, _, pm_in (pm_go [] 20 ⟨_, _, w1, fun q => ⟨_, _, a1, rfl, rfl⟩, fun q => absurd q (by decide)⟩), pm_in (pm_go [] 20 ⟨_, _, v1, fun q => ⟨_, _, v2, i0, ?_, rfl⟩, fun q => absurd q (by decide)⟩), hI2⟩
      rw [e]; rfl
  · rw [if_neg q1] at w1 v1
    exact ⟨-2, _, r, c, _, pm_in (pm_go [] 20 ⟨_, _, w1, fun q => absurd rfl q, fun q => ⟨rfl, rfl⟩⟩), pm_in (pm_go [] 20 ⟨_, _, v1, fun q => absurd rfl q, fun q => ⟨rfl, rfl⟩⟩), hI0⟩
theorem k_run (sc : Nat × (Nat → Int32)) (d : Nat) (hw : Int32) (hh : Int32) (hc : Int32) (ho : tA) (hg : tA) (r : tR) (c : tR) (P : tP) (w : tW) (B : tB) (mw : Int32) (mh : Int32) (ms : tA) (mg : tA) (mc : Int32) (mo : tA) (mm : tA) (mz : tA) (mp : Int32) (N : tN) (O : tO) (x y z : Int32) (hI : HaI (hw, hh, hc, ho, hg) r c (mw, mh, ms, mg, mc, mo, mm, mz, mp)) : HaK sc (d + 20) mX5_run mX6_run [.int x, .int y, .int z] (hw, hh, hc, ho, hg) r c P w B (mw, mh, ms, mg, mc, mo, mm, mz, mp) N O := by
  have hI0 := hI
  obtain ⟨W, Hh, op, gd, bW, bH, hgo, ⟨i1, i2, i3, i4, i5⟩, ⟨j1, j2, j3, j4, j5⟩, hcc⟩ := hI
  dsimp only at i1 i2 i3 i4 j1 j2 j3 j4 j5 hcc
  have bHW := bHW_of bW bH
  have h1 := c_holdsB sc (d + 17) hw hh hc ho hg r c P w B (mw, mh, ms, mg, mc, mo, mm, mz, mp) N O W Hh i1 i2 bW bH x y
  have v1 := r_isCell sc (d + 17) (hw, hh, hc, ho, hg) r c P w B mw mh ms mg mc mo mm mz mp N O W Hh j1 j2 bW bH x y
  have w2 := c_isWithin sc (d + 18) (hp (hw, hh, hc, ho, hg) r c P w B (mw, mh, ms, mg, mc, mo, mm, mz, mp) N O) z 0 1
  have v2 := r_within sc (d + 18) (hp (hw, hh, hc, ho, hg) r c P w B (mw, mh, ms, mg, mc, mo, mm, mz, mp) N O) z 0 1
  by_cases hin : (0 ≤ x.toInt ∧ x.toInt < W) ∧ (0 ≤ y.toInt ∧ y.toInt < Hh)
  · rw [decide_eq_true hin] at h1 v1
    by_cases q1 : 0 ≤ z ∧ z ≤ 1
    · rw [if_pos q1] at w2 v2
      obtain ⟨x', y', rfl, rfl, hx, hy, hn⟩ := in_cell bW bH hin
      have h2 := c_numberOf sc (d + 18) hw hh hc ho hg r c P w B (mw, mh, ms, mg, mc, mo, mm, mz, mp) N O W x' y' i1
      obtain ⟨mo', mm', mz', v3, hMP⟩ := r_part sc (d + 14) (hw, hh, hc, ho, hg) r c P w B mw mh ms mg mc mo mm mz mp N O W Hh op j1 j2 bW bH j3 j5
      have hI2 : HaI (hw, hh, hc, ho, hg) r c (mw, mh, ms, mg, mc, mo', mm', mz', 1) := ⟨W, Hh, op, gd, bW, bH, hgo, ⟨i1, i2, i3, i4, i5⟩, ⟨j1, j2, j3, j4, Or.inr ⟨rfl, hMP⟩⟩, hcc⟩
      have hyx : ∀ dd : Nat, nI (64 * dd) + nI y' * mw + nI x' = nI (64 * dd + (y' * W + x')) := fun dd => by rw [j1, pk_mul, nI_add, nI_add, Nat.add_assoc]
      generalize y' * W + x' = n at *
      have iC : vp_in (nI n) 64 := nu_in (by omega) (by omega)
      have cC : (nI n).toNatClampNeg = n := nu_cl (by omega)
      rcases dir01 q1 with rfl | rfl
      · have a1 := c_along0 sc (d + 18) (hw, hh, hc, ho, hg) r c P w B (mw, mh, ms, mg, mc, mo, mm, mz, mp) N O
        have e64 : pm_ib 0 (pm_ib 0 (pm_ib 2 64 0) (nI y' * mw)) (nI x') = nI (64 * 0 + n) := by
          rw [pib0, pib0, pib2, show ((64 : Int32) * 0) = nI (64 * 0) by decide]
          exact hyx 0
        have i64 : vp_in (pm_ib 0 (pm_ib 0 (pm_ib 2 64 0) (nI y' * mw)) (nI x')) 128 := by rw [e64]; exact nu_in (by omega) (by omega)
        have e : r.2.2.1 (nI n).toNatClampNeg = mo' (pm_ib 0 (pm_ib 0 (pm_ib 2 64 0) (nI y' * mw)) (nI x')).toNatClampNeg := by
          rw [cC, e64, nu_cl (by omega), i5.1.2.2.1 n hn, hMP.1.2.1 n hn]
        have m1 : pm_Go sc (d + 19) (pm_cd mX5_run) (13, [some (.ref 1), some (.int (nI x')), some (.int (nI y')), some (.int 0)], [], (hp (hw, hh, hc, ho, hg) r c P w B (mw, mh, ms, mg, mc, mo, mm, mz, mp) N O)) (fun r2 h2 => r2 = some (.int (r.2.2.1 (nI n).toNatClampNeg)) ∧ h2 = (hp (hw, hh, hc, ho, hg) r c P w B (mw, mh, ms, mg, mc, mo, mm, mz, mp) N O)) := pm_go [] 30 ⟨_, _, a1, _, _, h2, iC, rfl, rfl⟩
        have m2 : pm_Go sc (d + 19) (pm_cd mX6_run) (14, [some (.ref 27), some (.int (nI x')), some (.int (nI y')), some (.int 0)], [], (hp (hw, hh, hc, ho, hg) r c P w B (mw, mh, ms, mg, mc, mo', mm', mz', 1) N O)) (fun r2 h2 => r2 = some (.int (r.2.2.1 (nI n).toNatClampNeg)) ∧ h2 = (hp (hw, hh, hc, ho, hg) r c P w B (mw, mh, ms, mg, mc, mo', mm', mz', 1) N O)) := by
          rw [e]
          exact pm_go [] 30 ⟨i64, rfl, rfl⟩
        exact ⟨r.2.2.1 (nI n).toNatClampNeg, _, r, c, _, pm_in (pm_go [13] 20 ⟨_, _, h1, fun q => absurd q (by decide), fun q => ⟨_, _, w2, fun q => m1, fun q => absurd q (by decide)⟩⟩), pm_in (pm_go [14] 20 ⟨_, _, v1, fun q => absurd q (by decide), fun q => ⟨_, _, v2, fun q => ⟨_, _, v3, m2⟩, fun q => absurd q (by decide)⟩⟩), hI2⟩
      · have a1 := c_along1 sc (d + 18) (hw, hh, hc, ho, hg) r c P w B (mw, mh, ms, mg, mc, mo, mm, mz, mp) N O
        have e64 : pm_ib 0 (pm_ib 0 (pm_ib 2 64 1) (nI y' * mw)) (nI x') = nI (64 * 1 + n) := by
          rw [pib0, pib0, pib2, show ((64 : Int32) * 1) = nI (64 * 1) by decide]
          exact hyx 1
        have i64 : vp_in (pm_ib 0 (pm_ib 0 (pm_ib 2 64 1) (nI y' * mw)) (nI x')) 128 := by rw [e64]; exact nu_in (by omega) (by omega)
        have e : c.2.2.1 (nI n).toNatClampNeg = mo' (pm_ib 0 (pm_ib 0 (pm_ib 2 64 1) (nI y' * mw)) (nI x')).toNatClampNeg := by
          rw [cC, e64, nu_cl (by omega), i5.2.2.2.1 n hn, hMP.2.2.1 n hn]
        have m1 : pm_Go sc (d + 19) (pm_cd mX5_run) (13, [some (.ref 1), some (.int (nI x')), some (.int (nI y')), some (.int 1)], [], (hp (hw, hh, hc, ho, hg) r c P w B (mw, mh, ms, mg, mc, mo, mm, mz, mp) N O)) (fun r2 h2 => r2 = some (.int (c.2.2.1 (nI n).toNatClampNeg)) ∧ h2 = (hp (hw, hh, hc, ho, hg) r c P w B (mw, mh, ms, mg, mc, mo, mm, mz, mp) N O)) := pm_go [] 30 ⟨_, _, a1, _, _, h2, iC, rfl, rfl⟩
        have m2 : pm_Go sc (d + 19) (pm_cd mX6_run) (14, [some (.ref 27), some (.int (nI x')), some (.int (nI y')), some (.int 1)], [], (hp (hw, hh, hc, ho, hg) r c P w B (mw, mh, ms, mg, mc, mo', mm', mz', 1) N O)) (fun r2 h2 => r2 = some (.int (c.2.2.1 (nI n).toNatClampNeg)) ∧ h2 = (hp (hw, hh, hc, ho, hg) r c P w B (mw, mh, ms, mg, mc, mo', mm', mz', 1) N O)) := by
          rw [e]
          exact pm_go [] 30 ⟨i64, rfl, rfl⟩
        exact ⟨c.2.2.1 (nI n).toNatClampNeg, _, r, c, _, pm_in (pm_go [13] 20 ⟨_, _, h1, fun q => absurd q (by decide), fun q => ⟨_, _, w2, fun q => m1, fun q => absurd q (by decide)⟩⟩), pm_in (pm_go [14] 20 ⟨_, _, v1, fun q => absurd q (by decide), fun q => ⟨_, _, v2, fun q => ⟨_, _, v3, m2⟩, fun q => absurd q (by decide)⟩⟩), hI2⟩
    · rw [if_neg q1] at w2 v2
      exact ⟨-2, _, r, c, _, pm_in (pm_go [] 20 ⟨_, _, h1, fun q => absurd q (by decide), fun q => ⟨_, _, w2, fun q => absurd rfl q, fun q => ⟨rfl, rfl⟩⟩⟩), pm_in (pm_go [] 20 ⟨_, _, v1, fun q => absurd q (by decide), fun q => ⟨_, _, v2, fun q => absurd rfl q, fun q => ⟨rfl, rfl⟩⟩⟩), hI0⟩
  · rw [decide_eq_false hin] at h1 v1
    exact ⟨-2, _, r, c, _, pm_in (pm_go [] 20 ⟨_, _, h1, fun q => ⟨rfl, rfl⟩, fun q => absurd rfl q⟩), pm_in (pm_go [] 20 ⟨_, _, v1, fun q => ⟨rfl, rfl⟩, fun q => absurd rfl q⟩), hI0⟩
theorem k_seen (sc : Nat × (Nat → Int32)) (d : Nat) (hw : Int32) (hh : Int32) (hc : Int32) (ho : tA) (hg : tA) (r : tR) (c : tR) (P : tP) (w : tW) (B : tB) (mw : Int32) (mh : Int32) (ms : tA) (mg : tA) (mc : Int32) (mo : tA) (mm : tA) (mz : tA) (mp : Int32) (N : tN) (O : tO) (hI : HaI (hw, hh, hc, ho, hg) r c (mw, mh, ms, mg, mc, mo, mm, mz, mp)) : HaK sc (d + 20) mX5_seen mX6_seen [] (hw, hh, hc, ho, hg) r c P w B (mw, mh, ms, mg, mc, mo, mm, mz, mp) N O := by
  obtain ⟨W, Hh, op, gd, bW, bH, hgo, ⟨i1, i2, i3, i4, i5⟩, ⟨j1, j2, j3, j4, j5⟩, hcc⟩ := hI
  dsimp only at i1 i2 i3 i4 j1 j2 j3 j4 j5 hcc
  have bHW := bHW_of bW bH
  have h1 := c_countSeen sc (d + 16) hw hh hc ho hg r c P w B (mw, mh, ms, mg, mc, mo, mm, mz, mp) N O W Hh op gd i1 i2 bHW i5
  obtain ⟨mo', mm', mz', v2, hMP⟩ := r_part sc (d + 14) (hw, hh, hc, ho, hg) r c P w B mw mh ms mg mc mo mm mz mp N O W Hh op j1 j2 bW bH j3 j5
  have hI2 : HaI (hw, hh, hc, ho, hg) r c (mw, mh, ms, mg, mc, mo', mm', mz', 1) := ⟨W, Hh, op, gd, bW, bH, hgo, ⟨i1, i2, i3, i4, i5⟩, ⟨j1, j2, j3, j4, Or.inr ⟨rfl, hMP⟩⟩, hcc⟩
  have hm : mw * mh = nI (Hh * W) := hw_mul j1 j2
  have loop : ∀ (m k : Nat) (x y : Int32), k + m = Hh * W → x = nI (ct (sE W Hh op gd) k) → y = nI k → pm_Go sc (d + 19) (pm_cd mX6_seen) (6, [some (.ref 27), some (.int x), some (.int y)], [], (hp (hw, hh, hc, ho, hg) r c P w B (mw, mh, ms, mg, mc, mo', mm', mz', 1) N O)) (fun r2 h2 => r2 = some (.int (nI (ct (sE W Hh op gd) (Hh * W)))) ∧ h2 = (hp (hw, hh, hc, ho, hg) r c P w B (mw, mh, ms, mg, mc, mo', mm', mz', 1) N O)) := by
    intro m
    induction m with
    | zero =>
      intro k x y hk hx hy
      subst hy
      subst hx
      have : k = Hh * W := by omega
      subst this
      exact pm_go [] 20 ⟨fun q => ⟨rfl, rfl⟩, fun q => absurd (show mw * mh ≤ nI (Hh * W) by rw [hm, nu_le (by omega) (by omega)]; exact Nat.le_refl _) q⟩
    | succ m ih =>
      intro k x y hk hx hy
      subst hy
      subst hx
      have hn : ¬ mw * mh ≤ nI k := by rw [hm, nu_le (by omega) (by omega)]; omega
      have v3 := r_isSeen sc (d + 17) (hw, hh, hc, ho, hg) r c P w B mw mh ms mg mc mo' mm' mz' 1 N O W Hh k op gd j1 j2 bHW (by omega) j3 j4 hMP
      cases hS : sE W Hh op gd k with
      | true =>
        rw [hS] at v3
        refine pm_go1 [6] 30 ⟨fun q => absurd q hn, fun q => ⟨_, _, v3, fun q => absurd q (by decide), fun q => ?_⟩⟩
        exact ih (k + 1) _ _ (by omega) (by show nI (ct (sE W Hh op gd) k) + 1 = nI (ct (sE W Hh op gd) k + if sE W Hh op gd k then 1 else 0); rw [hS]; exact nI_1 _) (nI_1 k)
      | false =>
        rw [hS] at v3
        refine pm_go1 [6] 30 ⟨fun q => absurd q hn, fun q => ⟨_, _, v3, fun q => ?_, fun q => absurd rfl q⟩⟩
        exact ih (k + 1) _ _ (by omega) (by show nI (ct (sE W Hh op gd) k) + 0 = nI (ct (sE W Hh op gd) k + if sE W Hh op gd k then 1 else 0); rw [hS, nu_0, nI_add]; rfl) (nI_1 k)
  exact ⟨nI (ct (sE W Hh op gd) (Hh * W)), _, r, c, _, pm_in (pm_go [] 20 ⟨_, _, h1, rfl, rfl⟩), pm_in (pm_go [6] 20 ⟨_, _, v2, loop (Hh * W) 0 0 0 (by omega) nu_0 nu_0⟩), hI2⟩
theorem k_missed (sc : Nat × (Nat → Int32)) (d : Nat) (hw : Int32) (hh : Int32) (hc : Int32) (ho : tA) (hg : tA) (r : tR) (c : tR) (P : tP) (w : tW) (B : tB) (mw : Int32) (mh : Int32) (ms : tA) (mg : tA) (mc : Int32) (mo : tA) (mm : tA) (mz : tA) (mp : Int32) (N : tN) (O : tO) (i : Int32) (hI : HaI (hw, hh, hc, ho, hg) r c (mw, mh, ms, mg, mc, mo, mm, mz, mp)) : HaK sc (d + 20) mX5_missed mX6_missed [.int i] (hw, hh, hc, ho, hg) r c P w B (mw, mh, ms, mg, mc, mo, mm, mz, mp) N O := by
  obtain ⟨W, Hh, op, gd, bW, bH, hgo, ⟨i1, i2, i3, i4, i5⟩, ⟨j1, j2, j3, j4, j5⟩, hcc⟩ := hI
  dsimp only at i1 i2 i3 i4 j1 j2 j3 j4 j5 hcc
  have bHW := bHW_of bW bH
  have h1 := c_findMissed sc (d + 16) hw hh hc ho hg r c P w B (mw, mh, ms, mg, mc, mo, mm, mz, mp) N O W Hh op gd i i1 i2 bHW i3 i5
  obtain ⟨mo', mm', mz', v2, hMP⟩ := r_part sc (d + 14) (hw, hh, hc, ho, hg) r c P w B mw mh ms mg mc mo mm mz mp N O W Hh op j1 j2 bW bH j3 j5
  have hI2 : HaI (hw, hh, hc, ho, hg) r c (mw, mh, ms, mg, mc, mo', mm', mz', 1) := ⟨W, Hh, op, gd, bW, bH, hgo, ⟨i1, i2, i3, i4, i5⟩, ⟨j1, j2, j3, j4, Or.inr ⟨rfl, hMP⟩⟩, hcc⟩
  have hm : mw * mh = nI (Hh * W) := hw_mul j1 j2
  have loop : ∀ (m k a : Nat) (x y : Int32), k + m = Hh * W → x = nI a → y = nI k → pm_Go sc (d + 19) (pm_cd mX6_missed) (6, [some (.ref 27), some (.int i), some (.int x), some (.int y)], [], (hp (hw, hh, hc, ho, hg) r c P w B (mw, mh, ms, mg, mc, mo', mm', mz', 1) N O)) (fun r2 h2 => r2 = some (.int (mN W Hh op gd i m k a)) ∧ h2 = (hp (hw, hh, hc, ho, hg) r c P w B (mw, mh, ms, mg, mc, mo', mm', mz', 1) N O)) := by
    intro m
    induction m with
    | zero =>
      intro k a x y hk hx hy
      subst hy
      subst hx
      have : k = Hh * W := by omega
      subst this
      exact pm_go [] 20 ⟨fun q => ⟨rfl, rfl⟩, fun q => absurd (show mw * mh ≤ nI (Hh * W) by rw [hm, nu_le (by omega) (by omega)]; exact Nat.le_refl _) q⟩
    | succ m ih =>
      intro k a x y hk hx hy
      subst hy
      subst hx
      have hn : ¬ mw * mh ≤ nI k := by rw [hm, nu_le (by omega) (by omega)]; omega
      have hin : vp_in (nI k) 64 := nu_in (by omega) (by omega)
      have es : ms (nI k).toNatClampNeg = bI (!op k) := by rw [nu_cl (by omega)]; exact j3 k (by omega)
      have v3 := r_isSeen sc (d + 17) (hw, hh, hc, ho, hg) r c P w B mw mh ms mg mc mo' mm' mz' 1 N O W Hh k op gd j1 j2 bHW (by omega) j3 j4 hMP
      have skip := ih (k + 1) a (nI a) (nI k + 1) (by omega) rfl (nI_1 k)
      have go1 := ih (k + 1) (a + 1) (nI a + 1) (nI k + 1) (by omega) (nI_1 a) (nI_1 k)
      unfold mN
      cases hO : op k with
      | false =>
        have es : ¬ ms (nI k).toNatClampNeg = 0 := by rw [es, hO]; decide
        rw [if_neg (by simp)]
        exact pm_go1 [6] 40 ⟨fun q => absurd q hn, fun q => ⟨hin, fun q => skip, fun q => absurd q es⟩⟩
      | true =>
        have es : ms (nI k).toNatClampNeg = 0 := by rw [es, hO]; decide
        cases hS : sE W Hh op gd k with
        | true =>
          rw [hS] at v3
          rw [if_neg (by simp)]
          exact pm_go1 [6] 40 ⟨fun q => absurd q hn, fun q => ⟨hin, fun q => absurd es q, fun q => ⟨_, _, v3, fun q => skip, fun q => absurd q (by decide)⟩⟩⟩
        | false =>
          rw [hS] at v3
          rw [if_pos ⟨rfl, rfl⟩]
          by_cases hai : nI a = i
          · rw [if_pos hai]
            exact pm_go1 [6] 40 ⟨fun q => absurd q hn, fun q => ⟨hin, fun q => absurd es q, fun q => ⟨_, _, v3, fun q => absurd rfl q, fun q => ⟨fun q => absurd hai q, fun q => ⟨rfl, rfl⟩⟩⟩⟩⟩
          · rw [if_neg hai]
            exact pm_go1 [6] 40 ⟨fun q => absurd q hn, fun q => ⟨hin, fun q => absurd es q, fun q => ⟨_, _, v3, fun q => absurd rfl q, fun q => ⟨fun q => go1, fun q => absurd q hai⟩⟩⟩⟩
  exact ⟨mN W Hh op gd i (Hh * W) 0 0, _, r, c, _, pm_in (pm_go [] 20 ⟨_, _, h1, rfl, rfl⟩), pm_in (pm_go [6] 20 ⟨_, _, v2, loop (Hh * W) 0 0 0 0 (by omega) nu_0 nu_0⟩), hI2⟩
