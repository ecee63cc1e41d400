/-! THE REFERENCE'S hall: parting into runs -/
theorem nu_128 : (128 : Int32) = nI 128 := by decide
/-- what the reference's rows hold of a direction, with the cells below n taken -/
def RD (op : Nat → Bool) (st : Nat) (eg : Nat → Bool) (n dd : Nat) (mo mm mz : tA) : Prop :=
  mm dd = nI (rC op st eg n) ∧ (∀ k, k < n → mo (64 * dd + k) = en (rO op st eg n k)) ∧ ∀ q, q < 32 → mz (32 * dd + q) = nI (rN op st eg n q)
theorem RD_congr {op : Nat → Bool} {st : Nat} {eg : Nat → Bool} {n dd : Nat} {mo mm mz mo' mm' mz' : tA} (h : RD op st eg n dd mo mm mz) (hn : n ≤ 64) (h1 : mm' dd = mm dd) (h2 : ∀ k, k < 64 → mo' (64 * dd + k) = mo (64 * dd + k)) (h3 : ∀ q, q < 32 → mz' (32 * dd + q) = mz (32 * dd + q)) : RD op st eg n dd mo' mm' mz' := by
  obtain ⟨a1, a2, a3⟩ := h
  exact ⟨by rw [h1]; exact a1, fun k hk => by rw [h2 k (by omega)]; exact a2 k hk, fun q hq => by rw [h3 q hq]; exact a3 q hq⟩
theorem r_isCell (sc : Nat × (Nat → Int32)) (d : Nat) (H : tH) (r : tR) (c : tR) (P : tP) (w : tW) (B : tB) (mw : Int32) (mh : Int32) (ms : tA) (mg : tA) (mc : Int32) (mo : tA) (mm : tA) (mz : tA) (mp : Int32) (N : tN) (O : tO) (W Hh : Nat) (hW : mw = nI W) (hH : mh = nI Hh) (bW : 1 ≤ W ∧ W ≤ 8) (bH : 1 ≤ Hh ∧ Hh ≤ 8) (x y : Int32) : pm_D sc (d + 2) mX6_isCell [.ref 27, .int x, .int y] (hp H r c P w B (mw, mh, ms, mg, mc, mo, mm, mz, mp) N O) (some (.int (bI (decide ((0 ≤ x.toInt ∧ x.toInt < W) ∧ (0 ≤ y.toInt ∧ y.toInt < Hh)))))) (hp H r c P w B (mw, mh, ms, mg, mc, mo, mm, mz, mp) N O) := by
  have w1 := r_within sc d (hp H r c P w B (mw, mh, ms, mg, mc, mo, mm, mz, mp) N O) x 0 (mw - 1)
  have w2 := r_within sc d (hp H r c P w B (mw, mh, ms, mg, mc, mo, mm, mz, mp) N O) y 0 (mh - 1)
  have t1 : (mw - 1).toInt = (W : Int) - 1 := by
    rw [hW, nu_sub (by rw [nu_ti (by omega)]; show _ ≤ _ - (1 : Int); omega) (by rw [nu_ti (by omega)]; show _ - (1 : Int) < _; omega), nu_ti (by omega)]; rfl
  have t2 : (mh - 1).toInt = (Hh : Int) - 1 := by
    rw [hH, nu_sub (by rw [nu_ti (by omega)]; show _ ≤ _ - (1 : Int); omega) (by rw [nu_ti (by omega)]; show _ - (1 : Int) < _; omega), nu_ti (by omega)]; rfl
  have e1 : (0 ≤ x ∧ x ≤ mw - 1) ↔ (0 ≤ x.toInt ∧ x.toInt < W) := by
    rw [Int32.le_iff_toInt_le, Int32.le_iff_toInt_le, t1]
    show (0 : Int) ≤ _ ∧ _ ↔ _
    omega
  have e2 : (0 ≤ y ∧ y ≤ mh - 1) ↔ (0 ≤ y.toInt ∧ y.toInt < Hh) := by
    rw [Int32.le_iff_toInt_le, Int32.le_iff_toInt_le, t2]
    show (0 : Int) ≤ _ ∧ _ ↔ _
    omega
  by_cases q1 : 0 ≤ x.toInt ∧ x.toInt < W
  · rw [if_pos (e1.mpr q1)] at w1
    by_cases q2 : 0 ≤ y.toInt ∧ y.toInt < Hh
    · rw [if_pos (e2.mpr q2)] at w2
      rw [decide_eq_true ⟨q1, q2⟩]
      exact pm_in (pm_go [] 30 ⟨_, _, w1, fun q => absurd q (by decide), fun q => ⟨_, _, w2, fun q => absurd q (by decide), fun q => ⟨Or.inr rfl, rfl, rfl⟩⟩⟩)
    · rw [if_neg (fun z => q2 (e2.mp z))] at w2
      rw [decide_eq_false (fun z => q2 z.2)]
      exact pm_in (pm_go [] 30 ⟨_, _, w1, fun q => absurd q (by decide), fun q => ⟨_, _, w2, fun q => ⟨Or.inl rfl, rfl, rfl⟩, fun q => absurd rfl q⟩⟩)
  · rw [if_neg (fun z => q1 (e1.mp z))] at w1
    rw [decide_eq_false (fun z => q1 z.1)]
    exact pm_in (pm_go [] 30 ⟨_, _, w1, fun q => ⟨Or.inl rfl, rfl, rfl⟩, fun q => absurd rfl q⟩)
theorem bI_not (b : Bool) : bI (!b) = 0 ↔ b = true := by cases b <;> decide
/-- isOpen at a cell that is there, or beside the hall -/
theorem r_isOpen (sc : Nat × (Nat → Int32)) (d : Nat) (H : tH) (r : tR) (c : tR) (P : tP) (w : tW) (B : tB) (mw : Int32) (mh : Int32) (ms : tA) (mg : tA) (mc : Int32) (mo : tA) (mm : tA) (mz : tA) (mp : Int32) (N : tN) (O : tO) (W Hh : Nat) (op : Nat → Bool) (hW : mw = nI W) (hH : mh = nI Hh) (bW : 1 ≤ W ∧ W ≤ 8) (bH : 1 ≤ Hh ∧ Hh ≤ 8) (hop : ∀ k, k < 64 → ms k = bI (!op k)) (x y : Int32) (b : Bool) (hb : (¬ ((0 ≤ x.toInt ∧ x.toInt < W) ∧ (0 ≤ y.toInt ∧ y.toInt < Hh)) ∧ b = false) ∨ (∃ x' y' : Nat, x = nI x' ∧ y = nI y' ∧ x' < W ∧ y' < Hh ∧ b = op (y' * W + x'))) : pm_D sc (d + 3) mX6_isOpen [.ref 27, .int x, .int y] (hp H r c P w B (mw, mh, ms, mg, mc, mo, mm, mz, mp) N O) (some (.int (bI b))) (hp H r c P w B (mw, mh, ms, mg, mc, mo, mm, mz, mp) N O) := by
  have h1 := r_isCell sc d H r c P w B mw mh ms mg mc mo mm mz mp N O W Hh hW hH bW bH x y
  rcases hb with ⟨hn, rfl⟩ | ⟨x', y', rfl, rfl, hx, hy, rfl⟩
  · rw [decide_eq_false hn] at h1
    exact pm_in (pm_go [] 40 ⟨_, _, h1, fun q => ⟨Or.inl rfl, rfl, rfl⟩, fun q => absurd rfl q⟩)
  · rw [decide_eq_true (by rw [nu_ti (by omega), nu_ti (by omega)]; omega)] at h1
    have hn : y' * W + x' < 64 := by
      have : (y' + 1) * W ≤ Hh * W := Nat.mul_le_mul_right W (by omega)
      have h2 : Hh * W ≤ 8 * 8 := Nat.mul_le_mul bH.2 bW.2
      rw [Nat.add_mul] at this
      omega
    have e1 : nI y' * mw + nI x' = nI (y' * W + x') := by rw [hW, pk_mul, nI_add]
    have hin : vp_in (nI y' * mw + nI x') 64 := by rw [e1]; exact nu_in hn (by omega)
    have e2 : ms (nI y' * mw + nI x').toNatClampNeg = bI (!op (y' * W + x')) := by rw [e1, nu_cl (by omega)]; exact hop _ hn
    cases hO : op (y' * W + x') with
    | true =>
      rw [hO] at e2
      exact pm_in (pm_go [] 40 ⟨_, _, h1, fun q => absurd q (by decide), fun q => ⟨hin, fun q => absurd e2 q, fun q => ⟨Or.inr rfl, rfl, rfl⟩⟩⟩)
    | false =>
      have e2 : ¬ ms (nI y' * mw + nI x').toNatClampNeg = 0 := by rw [e2, hO]; decide
      exact pm_in (pm_go [] 40 ⟨_, _, h1, fun q => absurd q (by decide), fun q => ⟨hin, fun q => ⟨Or.inl rfl, rfl, rfl⟩, fun q => absurd q e2⟩⟩)
theorem r_partCell0 (sc : Nat × (Nat → Int32)) (d : Nat) (H : tH) (r : tR) (c : tR) (P : tP) (w : tW) (B : tB) (mw : Int32) (mh : Int32) (ms : tA) (mg : tA) (mc : Int32) (mo : tA) (mm : tA) (mz : tA) (mp : Int32) (N : tN) (O : tO) (W Hh x y : Nat) (op : Nat → Bool) (dd : Int32) (hdd : dd = nI 0) (hW : mw = nI W) (hH : mh = nI Hh) (bW : 1 ≤ W ∧ W ≤ 8) (bH : 1 ≤ Hh ∧ Hh ≤ 8) (hx : x < W) (hy : y < Hh) (hop : ∀ k, k < 64 → ms k = bI (!op k)) (b32 : rC op 1 (egR W) (y * W + x + 1) ≤ 32) (hR : RD op 1 (egR W) (y * W + x) 0 mo mm mz) :
    ∃ mo' mm' mz' : tA, pm_D sc (d + 4) mX6_partCell [.ref 27, .int (nI x), .int (nI y), .int dd] (hp H r c P w B (mw, mh, ms, mg, mc, mo, mm, mz, mp) N O) none (hp H r c P w B (mw, mh, ms, mg, mc, mo', mm', mz', mp) N O) ∧ RD op 1 (egR W) (y * W + x + 1) 0 mo' mm' mz' ∧ mm' 1 = mm 1 ∧ (∀ k, k < 64 → mo' (64 * 1 + k) = mo (64 * 1 + k)) ∧ (∀ q, q < 32 → mz' (32 * 1 + q) = mz (32 * 1 + q)) := by
  have hn : y * W + x < 64 := by
    have : (y + 1) * W ≤ Hh * W := Nat.mul_le_mul_right W (by omega)
    have h2 : Hh * W ≤ 8 * 8 := Nat.mul_le_mul bH.2 bW.2
    rw [Nat.add_mul] at this
    omega
  have e1 : (y * W + x) % W = x := by rw [Nat.mul_comm, Nat.mul_add_mod, Nat.mod_eq_of_lt hx]
  have e2 : y * W + x < W ↔ y = 0 := by
    constructor
    · intro h
      cases y with
      | zero => rfl
      | succ y => rw [Nat.add_mul] at h; omega
    · intro h; subst h; omega
  have ec : nI y * mw + nI x = nI (y * W + x) := by rw [hW, pk_mul, nI_add]
  -- whether the run goes on
  have hgo : ∃ b : Bool, (b = true ↔ ∃ q, rA 1 (egR W) (rO op 1 (egR W) (y * W + x)) (y * W + x) = some q) ∧ (0 = 0 → pm_D sc (d + 3) mX6_isOpen [.ref 27, .int (nI x - 1), .int (nI y)] (hp H r c P w B (mw, mh, ms, mg, mc, mo, mm, mz, mp) N O) (some (.int (bI b))) (hp H r c P w B (mw, mh, ms, mg, mc, mo, mm, mz, mp) N O)) ∧ (0 = 1 → pm_D sc (d + 3) mX6_isOpen [.ref 27, .int (nI x), .int (nI y - 1)] (hp H r c P w B (mw, mh, ms, mg, mc, mo, mm, mz, mp) N O) (some (.int (bI b))) (hp H r c P w B (mw, mh, ms, mg, mc, mo, mm, mz, mp) N O)) := by
    unfold rA
    by_cases h0 : egR W (y * W + x) = true
    · refine ⟨false, by rw [h0]; simp, fun hD => ?_, fun hD => ?_⟩
      · refine r_isOpen sc d H r c P w B mw mh ms mg mc mo mm mz mp N O W Hh op hW hH bW bH hop _ _ false (Or.inl ⟨fun z => ?_, rfl⟩)
        have hx0 : x = 0 := by
          first
          | (have h0 : ((y * W + x) % W == 0) = true := h0
             rw [e1] at h0
             simpa using h0)
          | (exact absurd hD (by decide))
        subst hx0
        have := z.1.1
        rw [show (nI 0 - 1 : Int32).toInt = -1 by decide] at this
        omega
      · refine r_isOpen sc d H r c P w B mw mh ms mg mc mo mm mz mp N O W Hh op hW hH bW bH hop _ _ false (Or.inl ⟨fun z => ?_, rfl⟩)
        have hy0 : y = 0 := by
          first
          | (exact absurd hD (by decide))
          | (have h0 : decide (y * W + x < W) = true := h0
             exact e2.mp (of_decide_eq_true h0))
        subst hy0
        have := z.2.1
        rw [show (nI 0 - 1 : Int32).toInt = -1 by decide] at this
        omega
    · have h0' : egR W (y * W + x) = false := by simpa using h0
      refine ⟨op (y * W + x - 1), ?_, fun hD => ?_, fun hD => ?_⟩
      · rw [h0', if_neg (by simp)]
        have hlt : 1 ≤ y * W + x := by
          first
          | exact egC_st _ h0'
          | exact egR_st _ h0'
        have hop2 := rO_op (op := op) (st := 1) (eg := egR W) (y * W + x) (y * W + x - 1) (by omega)
        cases hz : rO op 1 (egR W) (y * W + x) (y * W + x - 1) with
        | none => rw [hop2.mp hz]; simp
        | some q =>
          cases ho : op (y * W + x - 1) with
          | true => simp
          | false => rw [hop2.mpr ho] at hz; cases hz
      · refine r_isOpen sc d H r c P w B mw mh ms mg mc mo mm mz mp N O W Hh op hW hH bW bH hop _ _ _ (Or.inr ⟨x - 1, y, ?_, rfl, by omega, hy, ?_⟩)
        · first
          | (have hx0 : x ≠ 0 := by
               intro hx0
               have h0' : ((y * W + x) % W == 0) = false := h0'
               rw [e1, hx0] at h0'
               cases h0'
             rw [nu_1]
             exact pk_sub (by omega))
          | (exact absurd hD (by decide))
        · first
          | (have hx0 : x ≠ 0 := by
               intro hx0
               have h0' : ((y * W + x) % W == 0) = false := h0'
               rw [e1, hx0] at h0'
               cases h0'
             congr 1
             omega)
          | (exact absurd hD (by decide))
      · first
        | (exact absurd hD (by decide))
        | (have hy0 : y ≠ 0 := fun hy0 => by
             have h0' : decide (y * W + x < W) = false := h0'
             exact of_decide_eq_false h0' (e2.mpr hy0)
           obtain ⟨y', rfl⟩ : ∃ y', y = y' + 1 := ⟨y - 1, by omega⟩
           refine r_isOpen sc d H r c P w B mw mh ms mg mc mo mm mz mp N O W Hh op hW hH bW bH hop _ _ _ (Or.inr ⟨x, y', rfl, nI_pred y', hx, by omega, ?_⟩)
           congr 1
           rw [Nat.add_mul]
           omega)
  obtain ⟨g, hgi, hg0, hg1⟩ := hgo
  generalize y * W + x = n at *
  obtain ⟨a1, a2, a3⟩ := hR
  have hin : vp_in (nI n) 64 := nu_in hn (by omega)
  have hcl : (nI n).toNatClampNeg = n := nu_cl (by omega)
  have inc : vp_in (nI y * mw + nI x) 64 := by rw [ec]; exact hin
  have es : ms (nI y * mw + nI x).toNatClampNeg = bI (!op n) := by rw [ec, hcl]; exact hop n hn
  have e64 : 64 * dd + (nI y * mw + nI x) = nI (64 * 0 + n) := by rw [hdd, ec, nu_64, pk_mul, nI_add]
  have i64 : vp_in (64 * dd + (nI y * mw + nI x)) 128 := by rw [e64]; exact nu_in (by omega) (by omega)
  have c64 : (64 * dd + (nI y * mw + nI x)).toNatClampNeg = 64 * 0 + n := by rw [e64]; exact nu_cl (by omega)
  have hfin : ∀ (v : Int32) (mm' mz' : tA) (g6 : Option Value), pm_Go sc (d + 3) (pm_cd mX6_partCell) (76, [some (.ref 27), some (.int (nI x)), some (.int (nI y)), some (.int dd), some (.int (nI y * mw + nI x)), some (.int v), g6], [], (hp H r c P w B (mw, mh, ms, mg, mc, mo, mm', mz', mp) N O)) (fun r2 h2 => r2 = none ∧ h2 = (hp H r c P w B (mw, mh, ms, mg, mc, upd mo (64 * 0 + n) v, mm', mz', mp) N O)) := by
    intro v mm' mz' g6
    refine pm_go [] 30 ⟨i64, rfl, ?_⟩
    rw [← c64]
    rfl
  cases hO : op n with
  | false =>
    have es : ¬ ms (nI y * mw + nI x).toNatClampNeg = 0 := by rw [es, hO]; decide
    refine ⟨upd mo (64 * 0 + n) (-1), mm, mz, pm_in (pm_go [76] 40 ⟨inc, fun q => hfin (-1) mm mz none, fun q => absurd q es⟩), ⟨by rw [rC_shut hO]; exact a1, fun k hk => ?_, fun q hq => ?_⟩, rfl, fun k hk => ?_, fun q hq => rfl⟩
    · rw [nu_upd, rO_shut hO]
      by_cases hkn : k = n
      · rw [hkn, if_pos rfl, rO_out n n (Nat.le_refl _)]; rfl
      · rw [if_neg (by omega)]; exact a2 k (by omega)
    · have e3 : rN op 1 (egR W) (n + 1) q = rN op 1 (egR W) n q := by rw [rN_step, rO_shut hO, rO_out n n (Nat.le_refl _), if_neg (by simp)]; rfl
      rw [e3]; exact a3 q hq
    · rw [nu_upd, if_neg (by omega)]
  | true =>
    have es : ms (nI y * mw + nI x).toNatClampNeg = 0 := by rw [es, hO]; decide
    have hdb : dd = 0 ↔ 0 = 0 := by rw [hdd]; decide
    cases ha : rA 1 (egR W) (rO op 1 (egR W) n) n with
    | none =>
      have hgf : g = false := by
        cases hg : g with
        | false => rfl
        | true => obtain ⟨q, hq⟩ := hgi.mp hg; rw [ha] at hq; cases hq
      rw [rC_new hO ha] at b32
      have i2 : vp_in dd 2 := by rw [hdd]; exact nu_in (by omega) (by omega)
      have c2 : dd.toNatClampNeg = 0 := by rw [hdd]; exact nu_cl (by omega)
      have e32 : 32 * dd + mm dd.toNatClampNeg = nI (32 * 0 + rC op 1 (egR W) n) := by rw [c2, a1, hdd, nu_32, pk_mul, nI_add]
      have i32 : vp_in (32 * dd + mm dd.toNatClampNeg) 64 := by rw [e32]; exact nu_in (by omega) (by omega)
      have c32 : (32 * dd + mm dd.toNatClampNeg).toNatClampNeg = 32 * 0 + rC op 1 (egR W) n := by rw [e32]; exact nu_cl (by omega)
      have mid : pm_Go sc (d + 3) (pm_cd mX6_partCell) (29, [some (.ref 27), some (.int (nI x)), some (.int (nI y)), some (.int dd), some (.int (nI y * mw + nI x)), some (.int (-1)), none], [.int (bI false)], (hp H r c P w B (mw, mh, ms, mg, mc, mo, mm, mz, mp) N O)) (fun r2 h2 => r2 = none ∧ h2 = (hp H r c P w B (mw, mh, ms, mg, mc, upd mo (64 * 0 + n) (nI (rC op 1 (egR W) n)), upd mm 0 (nI (rC op 1 (egR W) n) + 1), upd mz (32 * 0 + rC op 1 (egR W) n) (mz (32 * 0 + rC op 1 (egR W) n) + 1), mp) N O)) := by
        refine pm_go [76] 60 ⟨fun q => ⟨i2, i2, i2, i32, i32, ?_⟩, fun q => absurd rfl q⟩
        have h := hfin (mm dd.toNatClampNeg) (upd mm dd.toNatClampNeg (mm dd.toNatClampNeg + 1)) (upd mz (32 * dd + mm dd.toNatClampNeg).toNatClampNeg (mz (32 * dd + mm dd.toNatClampNeg).toNatClampNeg + 1)) (some (.int (bI false)))
        rw [← a1]
        rw [← c32, ← c2]
        rw [c2] at h ⊢
        exact h
      rw [hgf] at hg0 hg1
      refine ⟨upd mo (64 * 0 + n) (nI (rC op 1 (egR W) n)), upd mm 0 (nI (rC op 1 (egR W) n) + 1), upd mz (32 * 0 + rC op 1 (egR W) n) (mz (32 * 0 + rC op 1 (egR W) n) + 1), pm_in (pm_go [29] 40 ⟨inc, fun q => absurd es q, fun q => ⟨fun q => ⟨_, _, hg1 ?_, mid⟩, fun q => ⟨_, _, hg0 ?_, mid⟩⟩⟩), ⟨?_, fun k hk => ?_, fun q hq => ?_⟩, ?_, fun k hk => ?_, fun q hq => ?_⟩
      · first | rfl | exact absurd (hdb.mpr rfl) q
      · first | rfl | exact absurd (hdb.mp q) (by decide)
      · rw [nu_updS, rC_new hO ha, nI_1]
      · rw [nu_upd, rO_new hO ha]
        by_cases hkn : k = n
        · rw [hkn, if_pos rfl, if_pos rfl]; rfl
        · rw [if_neg (by omega), if_neg hkn]; exact a2 k (by omega)
      · rw [nu_upd, rN_step, rO_new hO ha, if_pos rfl]
        by_cases hqc : q = rC op 1 (egR W) n
        · rw [hqc, if_pos rfl, if_pos rfl, a3 _ (by omega), nI_1]
        · rw [if_neg (by omega), if_neg (fun z => hqc (Option.some.inj z).symm)]; exact a3 q hq
      · rw [nu_updN (by decide)]
      · rw [nu_upd, if_neg (by omega)]
      · rw [nu_upd, if_neg (by omega)]
    | some q0 =>
      have hgt : g = true := hgi.mpr ⟨q0, ha⟩
      rw [rC_on hO ha] at b32
      have ha0 := ha
      unfold rA at ha
      split at ha
      · cases ha
      · rename_i hne
        have hq0 := rO_lt n _ _ ha
        have hge : 1 ≤ n := by
          first
          | exact egC_st _ (by simpa using hne)
          | exact egR_st _ (by simpa using hne)
        have mv : mo (64 * 0 + (n - 1)) = nI q0 := by rw [a2 _ (by omega), ha]; rfl
        have e32 : 32 * dd + nI q0 = nI (32 * 0 + q0) := by rw [hdd, nu_32, pk_mul, nI_add]
        have i32 : vp_in (32 * dd + nI q0) 64 := by rw [e32]; exact nu_in (by omega) (by omega)
        have c32 : (32 * dd + nI q0).toNatClampNeg = 32 * 0 + q0 := by rw [e32]; exact nu_cl (by omega)
        have last : pm_Go sc (d + 3) (pm_cd mX6_partCell) (64, [some (.ref 27), some (.int (nI x)), some (.int (nI y)), some (.int dd), some (.int (nI y * mw + nI x)), some (.int (nI q0)), some (.int (bI true))], [], (hp H r c P w B (mw, mh, ms, mg, mc, mo, mm, mz, mp) N O)) (fun r2 h2 => r2 = none ∧ h2 = (hp H r c P w B (mw, mh, ms, mg, mc, upd mo (64 * 0 + n) (nI q0), mm, upd mz (32 * 0 + q0) (mz (32 * 0 + q0) + 1), mp) N O)) := by
          refine pm_go [76] 60 ⟨i32, i32, ?_⟩
          have h := hfin (nI q0) mm (upd mz (32 * dd + nI q0).toNatClampNeg (mz (32 * dd + nI q0).toNatClampNeg + 1)) (some (.int (bI true)))
          rw [← c32]
          exact h
        have mid : pm_Go sc (d + 3) (pm_cd mX6_partCell) (29, [some (.ref 27), some (.int (nI x)), some (.int (nI y)), some (.int dd), some (.int (nI y * mw + nI x)), some (.int (-1)), none], [.int (bI true)], (hp H r c P w B (mw, mh, ms, mg, mc, mo, mm, mz, mp) N O)) (fun r2 h2 => r2 = none ∧ h2 = (hp H r c P w B (mw, mh, ms, mg, mc, upd mo (64 * 0 + n) (nI q0), mm, upd mz (32 * 0 + q0) (mz (32 * 0 + q0) + 1), mp) N O)) := by
          refine pm_go [64] 60 ⟨fun q => absurd q (by decide), fun q => ⟨fun q => ?_, fun q => ?_⟩⟩
          · first
            | (exact absurd (hdb.mpr rfl) q)
            | (have e5 : 64 * dd + ((nI y * mw + nI x) - mw) = nI (64 * 0 + (n - 1)) := by rw [hdd, ec, hW, pk_sub hge, nu_64, pk_mul, nI_add]
               have i5 : vp_in (64 * dd + ((nI y * mw + nI x) - mw)) 128 := by rw [e5]; exact nu_in (by omega) (by omega)
               have c5 : mo (64 * dd + ((nI y * mw + nI x) - mw)).toNatClampNeg = nI q0 := by rw [e5, nu_cl (by omega)]; exact mv
               refine ⟨i5, ?_⟩
               rw [← c5] at last
               rw [← c5]
               exact last)
          · first
            | (exact absurd (hdb.mp q) (by decide))
            | (have e5 : 64 * dd + ((nI y * mw + nI x) - 1) = nI (64 * 0 + (n - 1)) := by rw [hdd, ec, nu_1, pk_sub hge, nu_64, pk_mul, nI_add]
               have i5 : vp_in (64 * dd + ((nI y * mw + nI x) - 1)) 128 := by rw [e5]; exact nu_in (by omega) (by omega)
               have c5 : mo (64 * dd + ((nI y * mw + nI x) - 1)).toNatClampNeg = nI q0 := by rw [e5, nu_cl (by omega)]; exact mv
               refine ⟨i5, ?_⟩
               rw [← c5] at last
               rw [← c5]
               exact last)
        rw [hgt] at hg0 hg1
        refine ⟨upd mo (64 * 0 + n) (nI q0), mm, upd mz (32 * 0 + q0) (mz (32 * 0 + q0) + 1), pm_in (pm_go [29] 40 ⟨inc, fun q => absurd es q, fun q => ⟨fun q => ⟨_, _, hg1 ?_, mid⟩, fun q => ⟨_, _, hg0 ?_, mid⟩⟩⟩), ⟨by rw [rC_on hO ha0]; exact a1, fun k hk => ?_, fun q hq => ?_⟩, rfl, fun k hk => ?_, fun q hq => ?_⟩
        · first | rfl | exact absurd (hdb.mpr rfl) q
        · first | rfl | exact absurd (hdb.mp q) (by decide)
        · rw [nu_upd, rO_on hO ha0]
          by_cases hkn : k = n
          · rw [hkn, if_pos rfl, if_pos rfl]; rfl
          · rw [if_neg (by omega), if_neg hkn]; exact a2 k (by omega)
        · rw [nu_upd, rN_step, rO_on hO ha0, if_pos rfl]
          by_cases hqc : q = q0
          · rw [hqc, if_pos rfl, if_pos rfl, a3 _ (by omega), nI_1]
          · rw [if_neg (by omega), if_neg (fun z => hqc (Option.some.inj z).symm)]; exact a3 q hq
        · rw [nu_upd, if_neg (by omega)]
        · rw [nu_upd, if_neg (by omega)]
theorem r_partCell1 (sc : Nat × (Nat → Int32)) (d : Nat) (H : tH) (r : tR) (c : tR) (P : tP) (w : tW) (B : tB) (mw : Int32) (mh : Int32) (ms : tA) (mg : tA) (mc : Int32) (mo : tA) (mm : tA) (mz : tA) (mp : Int32) (N : tN) (O : tO) (W Hh x y : Nat) (op : Nat → Bool) (dd : Int32) (hdd : dd = nI 1) (hW : mw = nI W) (hH : mh = nI Hh) (bW : 1 ≤ W ∧ W ≤ 8) (bH : 1 ≤ Hh ∧ Hh ≤ 8) (hx : x < W) (hy : y < Hh) (hop : ∀ k, k < 64 → ms k = bI (!op k)) (b32 : rC op W (egC W) (y * W + x + 1) ≤ 32) (hR : RD op W (egC W) (y * W + x) 1 mo mm mz) :
    ∃ mo' mm' mz' : tA, pm_D sc (d + 4) mX6_partCell [.ref 27, .int (nI x), .int (nI y), .int dd] (hp H r c P w B (mw, mh, ms, mg, mc, mo, mm, mz, mp) N O) none (hp H r c P w B (mw, mh, ms, mg, mc, mo', mm', mz', mp) N O) ∧ RD op W (egC W) (y * W + x + 1) 1 mo' mm' mz' ∧ mm' 0 = mm 0 ∧ (∀ k, k < 64 → mo' (64 * 0 + k) = mo (64 * 0 + k)) ∧ (∀ q, q < 32 → mz' (32 * 0 + q) = mz (32 * 0 + q)) := by
  have hn : y * W + x < 64 := by
    have : (y + 1) * W ≤ Hh * W := Nat.mul_le_mul_right W (by omega)
    have h2 : Hh * W ≤ 8 * 8 := Nat.mul_le_mul bH.2 bW.2
    rw [Nat.add_mul] at this
    omega
  have e1 : (y * W + x) % W = x := by rw [Nat.mul_comm, Nat.mul_add_mod, Nat.mod_eq_of_lt hx]
  have e2 : y * W + x < W ↔ y = 0 := by
    constructor
    · intro h
      cases y with
      | zero => rfl
      | succ y => rw [Nat.add_mul] at h; omega
    · intro h; subst h; omega
  have ec : nI y * mw + nI x = nI (y * W + x) := by rw [hW, pk_mul, nI_add]
  -- whether the run goes on
  have hgo : ∃ b : Bool, (b = true ↔ ∃ q, rA W (egC W) (rO op W (egC W) (y * W + x)) (y * W + x) = some q) ∧ (1 = 0 → pm_D sc (d + 3) mX6_isOpen [.ref 27, .int (nI x - 1), .int (nI y)] (hp H r c P w B (mw, mh, ms, mg, mc, mo, mm, mz, mp) N O) (some (.int (bI b))) (hp H r c P w B (mw, mh, ms, mg, mc, mo, mm, mz, mp) N O)) ∧ (1 = 1 → pm_D sc (d + 3) mX6_isOpen [.ref 27, .int (nI x), .int (nI y - 1)] (hp H r c P w B (mw, mh, ms, mg, mc, mo, mm, mz, mp) N O) (some (.int (bI b))) (hp H r c P w B (mw, mh, ms, mg, mc, mo, mm, mz, mp) N O)) := by
    unfold rA
    by_cases h0 : egC W (y * W + x) = true
    · refine ⟨false, by rw [h0]; simp, fun hD => ?_, fun hD => ?_⟩
      · refine r_isOpen sc d H r c P w B mw mh ms mg mc mo mm mz mp N O W Hh op hW hH bW bH hop _ _ false (Or.inl ⟨fun z => ?_, rfl⟩)
        have hx0 : x = 0 := by
          first
          | (have h0 : ((y * W + x) % W == 0) = true := h0
             rw [e1] at h0
             simpa using h0)
          | (exact absurd hD (by decide))
        subst hx0
        have := z.1.1
        rw [show (nI 0 - 1 : Int32).toInt = -1 by decide] at this
        omega
      · refine r_isOpen sc d H r c P w B mw mh ms mg mc mo mm mz mp N O W Hh op hW hH bW bH hop _ _ false (Or.inl ⟨fun z => ?_, rfl⟩)
        have hy0 : y = 0 := by
          first
          | (exact absurd hD (by decide))
          | (have h0 : decide (y * W + x < W) = true := h0
             exact e2.mp (of_decide_eq_true h0))
        subst hy0
        have := z.2.1
        rw [show (nI 0 - 1 : Int32).toInt = -1 by decide] at this
        omega
    · have h0' : egC W (y * W + x) = false := by simpa using h0
      refine ⟨op (y * W + x - W), ?_, fun hD => ?_, fun hD => ?_⟩
      · rw [h0', if_neg (by simp)]
        have hlt : W ≤ y * W + x := by
          first
          | exact egC_st _ h0'
          | exact egR_st _ h0'
        have hop2 := rO_op (op := op) (st := W) (eg := egC W) (y * W + x) (y * W + x - W) (by omega)
        cases hz : rO op W (egC W) (y * W + x) (y * W + x - W) with
        | none => rw [hop2.mp hz]; simp
        | some q =>
          cases ho : op (y * W + x - W) with
          | true => simp
          | false => rw [hop2.mpr ho] at hz; cases hz
      · refine r_isOpen sc d H r c P w B mw mh ms mg mc mo mm mz mp N O W Hh op hW hH bW bH hop _ _ _ (Or.inr ⟨x - 1, y, ?_, rfl, by omega, hy, ?_⟩)
        · first
          | (have hx0 : x ≠ 0 := by
               intro hx0
               have h0' : ((y * W + x) % W == 0) = false := h0'
               rw [e1, hx0] at h0'
               cases h0'
             rw [nu_1]
             exact pk_sub (by omega))
          | (exact absurd hD (by decide))
        · first
          | (have hx0 : x ≠ 0 := by
               intro hx0
               have h0' : ((y * W + x) % W == 0) = false := h0'
               rw [e1, hx0] at h0'
               cases h0'
             congr 1
             omega)
          | (exact absurd hD (by decide))
      · first
        | (exact absurd hD (by decide))
        | (have hy0 : y ≠ 0 := fun hy0 => by
             have h0' : decide (y * W + x < W) = false := h0'
             exact of_decide_eq_false h0' (e2.mpr hy0)
           obtain ⟨y', rfl⟩ : ∃ y', y = y' + 1 := ⟨y - 1, by omega⟩
           refine r_isOpen sc d H r c P w B mw mh ms mg mc mo mm mz mp N O W Hh op hW hH bW bH hop _ _ _ (Or.inr ⟨x, y', rfl, nI_pred y', hx, by omega, ?_⟩)
           congr 1
           rw [Nat.add_mul]
           omega)
  obtain ⟨g, hgi, hg0, hg1⟩ := hgo
  generalize y * W + x = n at *
  obtain ⟨a1, a2, a3⟩ := hR
  have hin : vp_in (nI n) 64 := nu_in hn (by omega)
  have hcl : (nI n).toNatClampNeg = n := nu_cl (by omega)
  have inc : vp_in (nI y * mw + nI x) 64 := by rw [ec]; exact hin
  have es : ms (nI y * mw + nI x).toNatClampNeg = bI (!op n) := by rw [ec, hcl]; exact hop n hn
  have e64 : 64 * dd + (nI y * mw + nI x) = nI (64 * 1 + n) := by rw [hdd, ec, nu_64, pk_mul, nI_add]
  have i64 : vp_in (64 * dd + (nI y * mw + nI x)) 128 := by rw [e64]; exact nu_in (by omega) (by omega)
  have c64 : (64 * dd + (nI y * mw + nI x)).toNatClampNeg = 64 * 1 + n := by rw [e64]; exact nu_cl (by omega)
  have hfin : ∀ (v : Int32) (mm' mz' : tA) (g6 : Option Value), pm_Go sc (d + 3) (pm_cd mX6_partCell) (76, [some (.ref 27), some (.int (nI x)), some (.int (nI y)), some (.int dd), some (.int (nI y * mw + nI x)), some (.int v), g6], [], (hp H r c P w B (mw, mh, ms, mg, mc, mo, mm', mz', mp) N O)) (fun r2 h2 => r2 = none ∧ h2 = (hp H r c P w B (mw, mh, ms, mg, mc, upd mo (64 * 1 + n) v, mm', mz', mp) N O)) := by
    intro v mm' mz' g6
    refine pm_go [] 30 ⟨i64, rfl, ?_⟩
    rw [← c64]
    rfl
  cases hO : op n with
  | false =>
    have es : ¬ ms (nI y * mw + nI x).toNatClampNeg = 0 := by rw [es, hO]; decide
    refine ⟨upd mo (64 * 1 + n) (-1), mm, mz, pm_in (pm_go [76] 40 ⟨inc, fun q => hfin (-1) mm mz none, fun q => absurd q es⟩), ⟨by rw [rC_shut hO]; exact a1, fun k hk => ?_, fun q hq => ?_⟩, rfl, fun k hk => ?_, fun q hq => rfl⟩
    · rw [nu_upd, rO_shut hO]
      by_cases hkn : k = n
      · rw [hkn, if_pos rfl, rO_out n n (Nat.le_refl _)]; rfl
      · rw [if_neg (by omega)]; exact a2 k (by omega)
    · have e3 : rN op W (egC W) (n + 1) q = rN op W (egC W) n q := by rw [rN_step, rO_shut hO, rO_out n n (Nat.le_refl _), if_neg (by simp)]; rfl
      rw [e3]; exact a3 q hq
    · rw [nu_upd, if_neg (by omega)]
  | true =>
    have es : ms (nI y * mw + nI x).toNatClampNeg = 0 := by rw [es, hO]; decide
    have hdb : dd = 0 ↔ 1 = 0 := by rw [hdd]; decide
    cases ha : rA W (egC W) (rO op W (egC W) n) n with
    | none =>
      have hgf : g = false := by
        cases hg : g with
        | false => rfl
        | true => obtain ⟨q, hq⟩ := hgi.mp hg; rw [ha] at hq; cases hq
      rw [rC_new hO ha] at b32
      have i2 : vp_in dd 2 := by rw [hdd]; exact nu_in (by omega) (by omega)
      have c2 : dd.toNatClampNeg = 1 := by rw [hdd]; exact nu_cl (by omega)
      have e32 : 32 * dd + mm dd.toNatClampNeg = nI (32 * 1 + rC op W (egC W) n) := by rw [c2, a1, hdd, nu_32, pk_mul, nI_add]
      have i32 : vp_in (32 * dd + mm dd.toNatClampNeg) 64 := by rw [e32]; exact nu_in (by omega) (by omega)
      have c32 : (32 * dd + mm dd.toNatClampNeg).toNatClampNeg = 32 * 1 + rC op W (egC W) n := by rw [e32]; exact nu_cl (by omega)
      have mid : pm_Go sc (d + 3) (pm_cd mX6_partCell) (29, [some (.ref 27), some (.int (nI x)), some (.int (nI y)), some (.int dd), some (.int (nI y * mw + nI x)), some (.int (-1)), none], [.int (bI false)], (hp H r c P w B (mw, mh, ms, mg, mc, mo, mm, mz, mp) N O)) (fun r2 h2 => r2 = none ∧ h2 = (hp H r c P w B (mw, mh, ms, mg, mc, upd mo (64 * 1 + n) (nI (rC op W (egC W) n)), upd mm 1 (nI (rC op W (egC W) n) + 1), upd mz (32 * 1 + rC op W (egC W) n) (mz (32 * 1 + rC op W (egC W) n) + 1), mp) N O)) := by
        refine pm_go [76] 60 ⟨fun q => ⟨i2, i2, i2, i32, i32, ?_⟩, fun q => absurd rfl q⟩
        have h := hfin (mm dd.toNatClampNeg) (upd mm dd.toNatClampNeg (mm dd.toNatClampNeg + 1)) (upd mz (32 * dd + mm dd.toNatClampNeg).toNatClampNeg (mz (32 * dd + mm dd.toNatClampNeg).toNatClampNeg + 1)) (some (.int (bI false)))
        rw [← a1]
        rw [← c32, ← c2]
        rw [c2] at h ⊢
        exact h
      rw [hgf] at hg0 hg1
      refine ⟨upd mo (64 * 1 + n) (nI (rC op W (egC W) n)), upd mm 1 (nI (rC op W (egC W) n) + 1), upd mz (32 * 1 + rC op W (egC W) n) (mz (32 * 1 + rC op W (egC W) n) + 1), pm_in (pm_go [29] 40 ⟨inc, fun q => absurd es q, fun q => ⟨fun q => ⟨_, _, hg1 ?_, mid⟩, fun q => ⟨_, _, hg0 ?_, mid⟩⟩⟩), ⟨?_, fun k hk => ?_, fun q hq => ?_⟩, ?_, fun k hk => ?_, fun q hq => ?_⟩
      · first | rfl | exact absurd (hdb.mpr rfl) q
      · first | rfl | exact absurd (hdb.mp q) (by decide)
      · rw [nu_updS, rC_new hO ha, nI_1]
      · rw [nu_upd, rO_new hO ha]
        by_cases hkn : k = n
        · rw [hkn, if_pos rfl, if_pos rfl]; rfl
        · rw [if_neg (by omega), if_neg hkn]; exact a2 k (by omega)
      · rw [nu_upd, rN_step, rO_new hO ha, if_pos rfl]
        by_cases hqc : q = rC op W (egC W) n
        · rw [hqc, if_pos rfl, if_pos rfl, a3 _ (by omega), nI_1]
        · rw [if_neg (by omega), if_neg (fun z => hqc (Option.some.inj z).symm)]; exact a3 q hq
      · rw [nu_updN (by decide)]
      · rw [nu_upd, if_neg (by omega)]
      · rw [nu_upd, if_neg (by omega)]
    | some q0 =>
      have hgt : g = true := hgi.mpr ⟨q0, ha⟩
      rw [rC_on hO ha] at b32
      have ha0 := ha
      unfold rA at ha
      split at ha
      · cases ha
      · rename_i hne
        have hq0 := rO_lt n _ _ ha
        have hge : W ≤ n := by
          first
          | exact egC_st _ (by simpa using hne)
          | exact egR_st _ (by simpa using hne)
        have mv : mo (64 * 1 + (n - W)) = nI q0 := by rw [a2 _ (by omega), ha]; rfl
        have e32 : 32 * dd + nI q0 = nI (32 * 1 + q0) := by rw [hdd, nu_32, pk_mul, nI_add]
        have i32 : vp_in (32 * dd + nI q0) 64 := by rw [e32]; exact nu_in (by omega) (by omega)
        have c32 : (32 * dd + nI q0).toNatClampNeg = 32 * 1 + q0 := by rw [e32]; exact nu_cl (by omega)
        have last : pm_Go sc (d + 3) (pm_cd mX6_partCell) (64, [some (.ref 27), some (.int (nI x)), some (.int (nI y)), some (.int dd), some (.int (nI y * mw + nI x)), some (.int (nI q0)), some (.int (bI true))], [], (hp H r c P w B (mw, mh, ms, mg, mc, mo, mm, mz, mp) N O)) (fun r2 h2 => r2 = none ∧ h2 = (hp H r c P w B (mw, mh, ms, mg, mc, upd mo (64 * 1 + n) (nI q0), mm, upd mz (32 * 1 + q0) (mz (32 * 1 + q0) + 1), mp) N O)) := by
          refine pm_go [76] 60 ⟨i32, i32, ?_⟩
          have h := hfin (nI q0) mm (upd mz (32 * dd + nI q0).toNatClampNeg (mz (32 * dd + nI q0).toNatClampNeg + 1)) (some (.int (bI true)))
          rw [← c32]
          exact h
        have mid : pm_Go sc (d + 3) (pm_cd mX6_partCell) (29, [some (.ref 27), some (.int (nI x)), some (.int (nI y)), some (.int dd), some (.int (nI y * mw + nI x)), some (.int (-1)), none], [.int (bI true)], (hp H r c P w B (mw, mh, ms, mg, mc, mo, mm, mz, mp) N O)) (fun r2 h2 => r2 = none ∧ h2 = (hp H r c P w B (mw, mh, ms, mg, mc, upd mo (64 * 1 + n) (nI q0), mm, upd mz (32 * 1 + q0) (mz (32 * 1 + q0) + 1), mp) N O)) := by
          refine pm_go [64] 60 ⟨fun q => absurd q (by decide), fun q => ⟨fun q => ?_, fun q => ?_⟩⟩
          · first
            | (exact absurd (hdb.mpr rfl) q)
            | (have e5 : 64 * dd + ((nI y * mw + nI x) - mw) = nI (64 * 1 + (n - W)) := by rw [hdd, ec, hW, pk_sub hge, nu_64, pk_mul, nI_add]
               have i5 : vp_in (64 * dd + ((nI y * mw + nI x) - mw)) 128 := by rw [e5]; exact nu_in (by omega) (by omega)
               have c5 : mo (64 * dd + ((nI y * mw + nI x) - mw)).toNatClampNeg = nI q0 := by rw [e5, nu_cl (by omega)]; exact mv
               refine ⟨i5, ?_⟩
               rw [← c5] at last
               rw [← c5]
               exact last)
          · first
            | (exact absurd (hdb.mp q) (by decide))
            | (have e5 : 64 * dd + ((nI y * mw + nI x) - 1) = nI (64 * 1 + (n - W)) := by rw [hdd, ec, nu_1, pk_sub hge, nu_64, pk_mul, nI_add]
               have i5 : vp_in (64 * dd + ((nI y * mw + nI x) - 1)) 128 := by rw [e5]; exact nu_in (by omega) (by omega)
               have c5 : mo (64 * dd + ((nI y * mw + nI x) - 1)).toNatClampNeg = nI q0 := by rw [e5, nu_cl (by omega)]; exact mv
               refine ⟨i5, ?_⟩
               rw [← c5] at last
               rw [← c5]
               exact last)
        rw [hgt] at hg0 hg1
        refine ⟨upd mo (64 * 1 + n) (nI q0), mm, upd mz (32 * 1 + q0) (mz (32 * 1 + q0) + 1), pm_in (pm_go [29] 40 ⟨inc, fun q => absurd es q, fun q => ⟨fun q => ⟨_, _, hg1 ?_, mid⟩, fun q => ⟨_, _, hg0 ?_, mid⟩⟩⟩), ⟨by rw [rC_on hO ha0]; exact a1, fun k hk => ?_, fun q hq => ?_⟩, rfl, fun k hk => ?_, fun q hq => ?_⟩
        · first | rfl | exact absurd (hdb.mpr rfl) q
        · first | rfl | exact absurd (hdb.mp q) (by decide)
        · rw [nu_upd, rO_on hO ha0]
          by_cases hkn : k = n
          · rw [hkn, if_pos rfl, if_pos rfl]; rfl
          · rw [if_neg (by omega), if_neg hkn]; exact a2 k (by omega)
        · rw [nu_upd, rN_step, rO_on hO ha0, if_pos rfl]
          by_cases hqc : q = q0
          · rw [hqc, if_pos rfl, if_pos rfl, a3 _ (by omega), nI_1]
          · rw [if_neg (by omega), if_neg (fun z => hqc (Option.some.inj z).symm)]; exact a3 q hq
        · rw [nu_upd, if_neg (by omega)]
        · rw [nu_upd, if_neg (by omega)]
