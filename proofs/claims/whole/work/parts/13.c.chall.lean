/-! THE CLASS'S Hall: numbering -/
abbrev egR (W : Nat) : Nat → Bool := fun k => k % W == 0
abbrev egC (W : Nat) : Nat → Bool := fun k => decide (k < W)
/-- guards of a run -/
def rG (op : Nat → Bool) (st : Nat) (eg : Nat → Bool) (gd : Nat → Bool) (n q : Nat) : Nat := ct (fun k => (rO op st eg n k == some q) && gd k) n
theorem RC_G {op : Nat → Bool} {st : Nat} {eg : Nat → Bool} {n : Nat} {G G' : Nat → Nat} {R : tR} (h : RC op st eg n G R) (hg : ∀ q, q < rC op st eg n → G q = G' q) : RC op st eg n G' R := by
  obtain ⟨h1, h2, h3, h4⟩ := h
  exact ⟨h1, h2, h3, fun q hq => by rw [← hg q hq]; exact h4 q hq⟩
theorem rG_step (op : Nat → Bool) (st : Nat) (eg gd : Nat → Bool) (n q : Nat) : rG op st eg gd (n + 1) q = rG op st eg gd n q + (if rO op st eg (n + 1) n = some q ∧ gd n = true then 1 else 0) := by
  unfold rG
  show ct _ n + _ = _
  rw [ct_congr (q := fun k => (rO op st eg n k == some q) && gd k) n (fun i hi => by rw [rO_old hi])]
  congr 1
  by_cases h : rO op st eg (n + 1) n = some q ∧ gd n = true
  · simp [h.1, h.2]
  · rw [if_neg h]
    by_cases h1 : rO op st eg (n + 1) n = some q
    · have : gd n = false := by cases hg : gd n with
        | false => rfl
        | true => exact absurd ⟨h1, hg⟩ h
      simp [this]
    · simp [h1]
theorem rG_new (op : Nat → Bool) (st : Nat) (eg gd : Nat → Bool) (n : Nat) : rG op st eg gd n (rC op st eg n) = 0 := by
  unfold rG
  apply ct_none
  intro i _
  cases h : rO op st eg n i with
  | none => rfl
  | some q =>
    have := rO_lt n i q h
    have h2 : (some q == some (rC op st eg n)) = false := by simp; omega
    rw [h2]; rfl
theorem rG_le (op : Nat → Bool) (st : Nat) (eg gd : Nat → Bool) (n q : Nat) : rG op st eg gd n q ≤ n := ct_le _ _
theorem egR_st {W : Nat} : ∀ k, egR W k = false → 1 ≤ k := fun k h => by
  cases k with
  | zero => simp [egR] at h
  | succ k => omega
theorem egC_st {W : Nat} : ∀ k, egC W k = false → W ≤ k := fun k h => by
  have := of_decide_eq_false h
  omega
theorem c_numberOf (sc : Nat × (Nat → Int32)) (d : Nat) (hw : Int32) (hh : Int32) (hc : Int32) (ho : tA) (hg : tA) (r : tR) (c : tR) (P : tP) (w : tW) (B : tB) (M : tM) (N : tN) (O : tO) (W x y : Nat) (hW : hw = nI W) : pm_D sc (d + 1) mX1_numberOf [.ref 2, .int (nI x), .int (nI y)] (hp (hw, hh, hc, ho, hg) r c P w B M N O) (some (.int (nI (y * W + x)))) (hp (hw, hh, hc, ho, hg) r c P w B M N O) := by
  refine pm_in (pm_go [] 20 ⟨?_, rfl⟩)
  rw [hW, ← nI_add, ← pk_mul]
  rfl
theorem c_numberCell (sc : Nat × (Nat → Int32)) (d : Nat) (hw : Int32) (hh : Int32) (hc : Int32) (ho : tA) (hg : tA) (r : tR) (c : tR) (P : tP) (w : tW) (B : tB) (M : tM) (N : tN) (O : tO) (W x y : Nat) (op gd : Nat → Bool) (hW : hw = nI W) (bW : 1 ≤ W ∧ W ≤ 8) (hx : x < W) (hn : y * W + x < 64) (hop : ∀ k, k < 64 → ho k = bI (op k)) (hgd : ∀ k, k < 64 → hg k = bI (gd k))
    (R1 : RC op 1 (egR W) (y * W + x) (rG op 1 (egR W) gd (y * W + x)) r) (R2 : RC op W (egC W) (y * W + x) (rG op W (egC W) gd (y * W + x)) c) :
    ∃ r' c' : tR, pm_D sc (d + 2) mX1_numberCell [.ref 2, .int (nI x), .int (nI y)] (hp (hw, hh, hc, ho, hg) r c P w B M N O) none (hp (hw, hh, hc, ho, hg) (r') (c') P w B M N O) ∧ RC op 1 (egR W) (y * W + x + 1) (rG op 1 (egR W) gd (y * W + x + 1)) r' ∧ RC op W (egC W) (y * W + x + 1) (rG op W (egC W) gd (y * W + x + 1)) c' := by
  have hno := c_numberOf sc d hw hh hc ho hg r c P w B M N O W x y hW
  have hx8 : x < 8 := by omega
  have hy : y < 64 := by
    have : y * 1 ≤ y * W := Nat.mul_le_mul_left y bW.1
    omega
  have e1 : (y * W + x) % W = x := by rw [Nat.mul_comm, Nat.mul_add_mod, Nat.mod_eq_of_lt hx]
  have e2 : y * W + x < W ↔ y = 0 := by
    constructor
    · intro h
      cases y with
      | zero => rfl
      | succ y => rw [Nat.add_mul] at h; omega
    · intro h; subst h; omega
  generalize y * W + x = n at *
  have hin : vp_in (nI n) 64 := nu_in hn (by omega)
  have hcl : (nI n).toNatClampNeg = n := nu_cl (by omega)
  have eo : ho (nI n).toNatClampNeg = bI (op n) := by rw [hcl, hop n hn]
  have eg : hg (nI n).toNatClampNeg = bI (gd n) := by rw [hcl, hgd n hn]
  cases hO : op n with
  | false =>
    obtain ⟨r1, t1, s1⟩ := c_takeShut_r sc d (hw, hh, hc, ho, hg) r c P w B M N O op 1 (egR W) n _ hn hO R1
    obtain ⟨c1, t2, s2⟩ := c_takeShut_c sc d (hw, hh, hc, ho, hg) r1 c P w B M N O op W (egC W) n _ hn hO R2
    have z1 : ∀ q, rG op 1 (egR W) gd n q = rG op 1 (egR W) gd (n + 1) q := fun q => by
      rw [rG_step, rO_shut hO, rO_out n n (Nat.le_refl _), if_neg (by simp)]; rfl
    have z2 : ∀ q, rG op W (egC W) gd n q = rG op W (egC W) gd (n + 1) q := fun q => by
      rw [rG_step, rO_shut hO, rO_out n n (Nat.le_refl _), if_neg (by simp)]; rfl
    refine ⟨r1, c1, pm_in (pm_go [] 40 ⟨_, _, hno, hin, fun q => ?_, fun q => ⟨_, _, t1, _, _, t2, rfl, rfl⟩⟩), RC_G s1 (fun q _ => z1 q), RC_G s2 (fun q _ => z2 q)⟩
    exact absurd (show ho (nI n).toNatClampNeg = 0 by rw [eo, hO]; rfl) q
  | true =>
    have hx1 : (egR W n = true ∧ (if x = 0 then (1 : Int32) else 0) = 1) ∨ (egR W n = false ∧ (if x = 0 then (1 : Int32) else 0) = 0) := by
      unfold egR
      rw [e1]
      by_cases h0 : x = 0
      · left; rw [if_pos h0]; simp [h0]
      · right; rw [if_neg h0]; simp [h0]
    have hy1 : (egC W n = true ∧ (if y = 0 then (1 : Int32) else 0) = 1) ∨ (egC W n = false ∧ (if y = 0 then (1 : Int32) else 0) = 0) := by
      unfold egC
      by_cases h0 : y = 0
      · left; rw [if_pos h0]; exact ⟨decide_eq_true (e2.mpr h0), rfl⟩
      · right; rw [if_neg h0]; exact ⟨decide_eq_false (fun z => h0 (e2.mp z)), rfl⟩
    obtain ⟨r1, t1, s1⟩ := c_takeOpen_r sc d (hw, hh, hc, ho, hg) r c P w B M N O op 1 (egR W) n _ _ hn (by omega) (by omega) egR_st hO hx1 R1
    obtain ⟨c1, t2, s2⟩ := c_takeOpen_c sc d (hw, hh, hc, ho, hg) r1 c P w B M N O op W (egC W) n _ _ hn (by omega) (by omega) egC_st hO hy1 R2
    have hne : ¬ ho (nI n).toNatClampNeg = 0 := by rw [eo, hO]; decide
    -- the runs of the cell
    obtain ⟨q1, hq1⟩ : ∃ q, rO op 1 (egR W) (n + 1) n = some q := by
      cases h : rO op 1 (egR W) (n + 1) n with
      | none => rw [rO_op (n + 1) n (by omega), hO] at h; cases h
      | some q => exact ⟨q, rfl⟩
    obtain ⟨q2, hq2⟩ : ∃ q, rO op W (egC W) (n + 1) n = some q := by
      cases h : rO op W (egC W) (n + 1) n with
      | none => rw [rO_op (n + 1) n (by omega), hO] at h; cases h
      | some q => exact ⟨q, rfl⟩
    -- guards but this cell's
    have z1 : ∀ q, (if rS op 1 (egR W) n = true ∧ q = rC op 1 (egR W) n then 0 else rG op 1 (egR W) gd n q) = rG op 1 (egR W) gd n q := fun q => by
      split
      · rename_i h; rw [h.2, rG_new]
      · rfl
    have z2 : ∀ q, (if rS op W (egC W) n = true ∧ q = rC op W (egC W) n then 0 else rG op W (egC W) gd n q) = rG op W (egC W) gd n q := fun q => by
      split
      · rename_i h; rw [h.2, rG_new]
      · rfl
    have s1 := RC_G s1 (G' := rG op 1 (egR W) gd n) (fun q _ => z1 q)
    have s2 := RC_G s2 (G' := rG op W (egC W) gd n) (fun q _ => z2 q)
    have bx : nI x = 0 ↔ x = 0 := by rw [nu_0, nu_eq (by omega) (by omega)]
    have by' : nI y = 0 ↔ y = 0 := by rw [nu_0, nu_eq (by omega) (by omega)]
    cases hG : gd n with
    | false =>
      have g0 : hg (nI n).toNatClampNeg = 0 := by rw [eg, hG]; decide
      have y1 : ∀ q, rG op 1 (egR W) gd n q = rG op 1 (egR W) gd (n + 1) q := fun q => by
        rw [rG_step, if_neg (by rw [hG]; simp)]; rfl
      have y2 : ∀ q, rG op W (egC W) gd n q = rG op W (egC W) gd (n + 1) q := fun q => by
        rw [rG_step, if_neg (by rw [hG]; simp)]; rfl
      have last : pm_Go sc (d + 1) (pm_cd mX1_numberCell) (37, [some (.ref 2), some (.int (nI x)), some (.int (nI y)), some (.int (nI n))], [], (hp (hw, hh, hc, ho, hg) (r1) (c1) P w B M N O)) (fun r2 h2 => r2 = none ∧ h2 = (hp (hw, hh, hc, ho, hg) (r1) (c1) P w B M N O)) :=
        pm_go [] 30 ⟨hin, fun q => ⟨rfl, rfl⟩, fun q => absurd g0 q⟩
      have mid : pm_Go sc (d + 1) (pm_cd mX1_numberCell) (28, [some (.ref 2), some (.int (nI x)), some (.int (nI y)), some (.int (nI n))], [], (hp (hw, hh, hc, ho, hg) (r1) c P w B M N O)) (fun r2 h2 => r2 = none ∧ h2 = (hp (hw, hh, hc, ho, hg) (r1) (c1) P w B M N O)) := by
        refine pm_go [37] 30 ⟨fun q => ?_, fun q => ?_⟩
        · have q0 : ¬ y = 0 := fun z => q (by'.mpr z)
          rw [if_neg q0] at t2
          exact ⟨_, _, t2, last⟩
        · rw [if_pos (by'.mp q)] at t2
          exact ⟨_, _, t2, last⟩
      refine ⟨r1, c1, pm_in (pm_go [28] 60 ⟨_, _, hno, hin, fun q => ⟨fun q => ?_, fun q => ?_⟩, fun q => absurd q hne⟩), RC_G s1 (fun q _ => y1 q), RC_G s2 (fun q _ => y2 q)⟩
      · have q0 : ¬ x = 0 := fun z => q (bx.mpr z)
        rw [if_neg q0] at t1
        exact ⟨_, _, t1, mid⟩
      · rw [if_pos (bx.mp q)] at t1
        exact ⟨_, _, t1, mid⟩
    | true =>
      have g0 : ¬ hg (nI n).toNatClampNeg = 0 := by rw [eg, hG]; decide
      obtain ⟨r3, t3, s3⟩ := c_addGuards_r sc d (hw, hh, hc, ho, hg) r1 c1 P w B M N O op 1 (egR W) (n + 1) n q1 (rG op 1 (egR W) gd n q1 + 1) (rG op 1 (egR W) gd n) 1 (by omega) (by omega) hq1 (nI_1 _) s1
      obtain ⟨c3, t4, s4⟩ := c_addGuards_c sc d (hw, hh, hc, ho, hg) r3 c1 P w B M N O op W (egC W) (n + 1) n q2 (rG op W (egC W) gd n q2 + 1) (rG op W (egC W) gd n) 1 (by omega) (by omega) hq2 (nI_1 _) s2
      have y1 : ∀ q, upN (rG op 1 (egR W) gd n) q1 (rG op 1 (egR W) gd n q1 + 1) q = rG op 1 (egR W) gd (n + 1) q := fun q => by
        rw [rG_step, hq1]
        unfold upN
        by_cases hqq : q = q1
        · subst hqq; rw [if_pos rfl, if_pos ⟨rfl, hG⟩]
        · rw [if_neg hqq, if_neg (fun z => hqq (Option.some.inj z.1).symm)]; rfl
      have y2 : ∀ q, upN (rG op W (egC W) gd n) q2 (rG op W (egC W) gd n q2 + 1) q = rG op W (egC W) gd (n + 1) q := fun q => by
        rw [rG_step, hq2]
        unfold upN
        by_cases hqq : q = q2
        · subst hqq; rw [if_pos rfl, if_pos ⟨rfl, hG⟩]
        · rw [if_neg hqq, if_neg (fun z => hqq (Option.some.inj z.1).symm)]; rfl
      have last : pm_Go sc (d + 1) (pm_cd mX1_numberCell) (37, [some (.ref 2), some (.int (nI x)), some (.int (nI y)), some (.int (nI n))], [], (hp (hw, hh, hc, ho, hg) (r1) (c1) P w B M N O)) (fun r2 h2 => r2 = none ∧ h2 = (hp (hw, hh, hc, ho, hg) (r3) (c3) P w B M N O)) :=
        pm_go [] 30 ⟨hin, fun q => absurd q g0, fun q => ⟨_, _, t3, _, _, t4, rfl, rfl⟩⟩
      have mid : pm_Go sc (d + 1) (pm_cd mX1_numberCell) (28, [some (.ref 2), some (.int (nI x)), some (.int (nI y)), some (.int (nI n))], [], (hp (hw, hh, hc, ho, hg) (r1) c P w B M N O)) (fun r2 h2 => r2 = none ∧ h2 = (hp (hw, hh, hc, ho, hg) (r3) (c3) P w B M N O)) := by
        refine pm_go [37] 30 ⟨fun q => ?_, fun q => ?_⟩
        · have q0 : ¬ y = 0 := fun z => q (by'.mpr z)
          rw [if_neg q0] at t2
          exact ⟨_, _, t2, last⟩
        · rw [if_pos (by'.mp q)] at t2
          exact ⟨_, _, t2, last⟩
      refine ⟨r3, c3, pm_in (pm_go [28] 60 ⟨_, _, hno, hin, fun q => ⟨fun q => ?_, fun q => ?_⟩, fun q => absurd q hne⟩), RC_G s3 (fun q _ => y1 q), RC_G s4 (fun q _ => y2 q)⟩
      · have q0 : ¬ x = 0 := fun z => q (bx.mpr z)
        rw [if_neg q0] at t1
        exact ⟨_, _, t1, mid⟩
      · rw [if_pos (bx.mp q)] at t1
        exact ⟨_, _, t1, mid⟩
/-- what rows and columns hold in a hall -/
def HR (W Hh : Nat) (op gd : Nat → Bool) (r c : tR) : Prop := RC op 1 (egR W) (Hh * W) (rG op 1 (egR W) gd (Hh * W)) r ∧ RC op W (egC W) (Hh * W) (rG op W (egC W) gd (Hh * W)) c
theorem c_numberRuns (sc : Nat × (Nat → Int32)) (d : Nat) (hw : Int32) (hh : Int32) (hc : Int32) (ho : tA) (hg : tA) (r : tR) (c : tR) (P : tP) (w : tW) (B : tB) (M : tM) (N : tN) (O : tO) (W Hh : Nat) (op gd : Nat → Bool) (hW : hw = nI W) (hH : hh = nI Hh) (bW : 1 ≤ W ∧ W ≤ 8) (bH : 1 ≤ Hh ∧ Hh ≤ 8) (hop : ∀ k, k < 64 → ho k = bI (op k)) (hgd : ∀ k, k < 64 → hg k = bI (gd k)) :
    ∃ r' c' : tR, pm_D sc (d + 3) mX1_numberRuns [.ref 2] (hp (hw, hh, hc, ho, hg) r c P w B M N O) none (hp (hw, hh, hc, ho, hg) (r') (c') P w B M N O) ∧ HR W Hh op gd r' c' := by
  have bHW : Hh * W ≤ 64 := Nat.mul_le_mul bH.2 bW.2
  have outer : ∀ (m y : Nat) (yy : Int32) (lo : Option Value) (r c : tR), y + m = Hh → yy = nI y → RC op 1 (egR W) (y * W) (rG op 1 (egR W) gd (y * W)) r → RC op W (egC W) (y * W) (rG op W (egC W) gd (y * W)) c →
      ∃ r' c' : tR, pm_Go sc (d + 2) (pm_cd mX1_numberRuns) (11, [some (.ref 2), some (.int yy), lo], [], (hp (hw, hh, hc, ho, hg) r c P w B M N O)) (fun r2 h2 => r2 = none ∧ h2 = (hp (hw, hh, hc, ho, hg) (r') (c') P w B M N O)) ∧ HR W Hh op gd r' c' := by
    intro m
    induction m with
    | zero =>
      intro y yy lo r c hy hyy R1 R2
      subst hyy
      have : y = Hh := by omega
      subst this
      exact ⟨r, c, pm_go [] 20 ⟨fun q => ⟨rfl, rfl⟩, fun q => absurd (show hh ≤ nI y by rw [hH, nu_le (by omega) (by omega)]; exact Nat.le_refl _) q⟩, R1, R2⟩
    | succ m ih =>
      intro y yy lo r c hy hyy R1 R2
      subst hyy
      have hyW : (y + 1) * W ≤ Hh * W := Nat.mul_le_mul_right W (by omega)
      rw [Nat.add_mul, Nat.one_mul] at hyW
      have inner : ∀ (k x : Nat) (xx : Int32) (r c : tR), x + k = W → xx = nI x → RC op 1 (egR W) (y * W + x) (rG op 1 (egR W) gd (y * W + x)) r → RC op W (egC W) (y * W + x) (rG op W (egC W) gd (y * W + x)) c →
          ∃ r' c' : tR, pm_Go sc (d + 2) (pm_cd mX1_numberRuns) (17, [some (.ref 2), some (.int (nI y)), some (.int xx)], [], (hp (hw, hh, hc, ho, hg) r c P w B M N O)) (fun r2 h2 => r2 = none ∧ h2 = (hp (hw, hh, hc, ho, hg) (r') (c') P w B M N O)) ∧ HR W Hh op gd r' c' := by
        intro k
        induction k with
        | zero =>
          intro x xx r c hx hxx R1 R2
          subst hxx
          have : x = W := by omega
          subst this
          obtain ⟨r', c', g1, g2⟩ := ih (y + 1) (nI y + 1) (some (.int (nI x))) r c (by omega) (nI_1 y) (by rw [Nat.add_mul, Nat.one_mul]; exact R1) (by rw [Nat.add_mul, Nat.one_mul]; exact R2)
          exact ⟨r', c', pm_go1 [11] 20 ⟨fun q => g1, fun q => absurd (show hw ≤ nI x by rw [hW, nu_le (by omega) (by omega)]; exact Nat.le_refl _) q⟩, g2⟩
        | succ k ihk =>
          intro x xx r c hx hxx R1 R2
          subst hxx
          obtain ⟨r1, c1, t1, s1, s2⟩ := c_numberCell sc d hw hh hc ho hg r c P w B M N O W x y op gd hW bW (by omega) (by omega) hop hgd R1 R2
          obtain ⟨r', c', g1, g2⟩ := ihk (x + 1) (nI x + 1) r1 c1 (by omega) (nI_1 x) s1 s2
          exact ⟨r', c', pm_go1 [17] 20 ⟨fun q => absurd ((nu_le (a := W) (b := x) (by omega) (by omega)).mp (by rw [← hW]; exact q)) (by omega), fun q => ⟨_, _, t1, g1⟩⟩, g2⟩
      obtain ⟨r', c', g1, g2⟩ := inner W 0 0 r c (by omega) nu_0 R1 R2
      exact ⟨r', c', pm_go1 [17] 20 ⟨fun q => absurd ((nu_le (a := Hh) (b := y) (by omega) (by omega)).mp (by rw [← hH]; exact q)) (by omega), fun q => g1⟩, g2⟩
  have hz1 : RC op 1 (egR W) (0 * W) (rG op 1 (egR W) gd (0 * W)) (0, 1, r.2.2) := by
    rw [Nat.zero_mul]
    exact ⟨nu_0, nu_1, fun k hk => absurd hk (by omega), fun q hq => absurd hq (Nat.not_lt_zero q)⟩
  have hz2 : RC op W (egC W) (0 * W) (rG op W (egC W) gd (0 * W)) (0, hw, c.2.2) := by
    rw [Nat.zero_mul]
    exact ⟨nu_0, hW, fun k hk => absurd hk (by omega), fun q hq => absurd hq (Nat.not_lt_zero q)⟩
  obtain ⟨r', c', g1, g2⟩ := outer Hh 0 0 none (0, 1, r.2.2) (0, hw, c.2.2) (by omega) nu_0 hz1 hz2
  have k1 := c_runsClear_r sc (d + 1) (hw, hh, hc, ho, hg) r c P w B M N O 1
  have k2 := c_runsClear_c sc (d + 1) (hw, hh, hc, ho, hg) (0, 1, r.2.2) c P w B M N O hw
  exact ⟨r', c', pm_in (pm_go [11] 30 ⟨_, _, k1, _, _, k2, g1⟩), g2⟩
theorem c_hallClear (sc : Nat × (Nat → Int32)) (d : Nat) (hw : Int32) (hh : Int32) (hc : Int32) (ho : tA) (hg : tA) (r : tR) (c : tR) (P : tP) (w : tW) (B : tB) (M : tM) (N : tN) (O : tO) (W Hh : Nat) (bW : 1 ≤ W ∧ W ≤ 8) (bH : 1 ≤ Hh ∧ Hh ≤ 8) :
    ∃ (ho' hg' : tA) (r' c' : tR), pm_D sc (d + 4) mX1_clear [.ref 2, .int (nI W), .int (nI Hh)] (hp (hw, hh, hc, ho, hg) r c P w B M N O) none (hp ((nI W, nI Hh, 0, ho', hg')) (r') (c') P w B M N O) ∧ (∀ k, k < 64 → ho' k = 1) ∧ (∀ k, k < 64 → hg' k = 0) ∧ HR W Hh (fun _ => true) (fun _ => false) r' c' := by
  have loop : ∀ (m k : Nat) (x : Int32) (f g : tA), k + m = 64 → x = nI k → (∀ i, i < k → f i = 1 ∧ g i = 0) → ∃ (ho' hg' : tA) (r' c' : tR), pm_Go sc (d + 3) (pm_cd mX1_clear) (11, [some (.ref 2), some (.int (nI W)), some (.int (nI Hh)), some (.int x)], [], (hp ((nI W, nI Hh, 0, f, g)) r c P w B M N O)) (fun r2 h2 => r2 = none ∧ h2 = (hp ((nI W, nI Hh, 0, ho', hg')) (r') (c') P w B M N O)) ∧ (∀ k, k < 64 → ho' k = 1) ∧ (∀ k, k < 64 → hg' k = 0) ∧ HR W Hh (fun _ => true) (fun _ => false) r' c' := by
    intro m
    induction m with
    | zero =>
      intro k x f g hk hx hf
      subst hx
      have : k = 64 := by omega
      subst this
      obtain ⟨r', c', g1, g2⟩ := c_numberRuns sc d (nI W) (nI Hh) 0 f g r c P w B M N O W Hh (fun _ => true) (fun _ => false) rfl rfl bW bH (fun k hk => (hf k hk).1) (fun k hk => (hf k hk).2)
      exact ⟨f, g, r', c', pm_go [] 20 ⟨fun q => ⟨_, _, g1, rfl, rfl⟩, fun q => absurd (by decide) q⟩, fun k hk => (hf k hk).1, fun k hk => (hf k hk).2, g2⟩
    | succ m ih =>
      intro k x f g hk hx hf
      subst hx
      have hin : vp_in (nI k) 64 := nu_in (by omega) (by omega)
      obtain ⟨ho', hg', r', c', g1, g2⟩ := ih (k + 1) (nI k + 1) (upd f (nI k).toNatClampNeg 1) (upd g (nI k).toNatClampNeg 0) (by omega) (nI_1 k) (fun i hi => by
        rw [nu_cl (by omega), nu_upd, nu_upd]
        by_cases hik : i = k
        · rw [if_pos hik, if_pos hik]; exact ⟨rfl, rfl⟩
        · rw [if_neg hik, if_neg hik]; exact hf i (by omega))
      exact ⟨ho', hg', r', c', pm_go1 [11] 30 ⟨fun q => absurd ((nu_le (a := 64) (b := k) (by omega) (by omega)).mp (by rw [← nu_64]; exact q)) (by omega), fun q => ⟨hin, Or.inr rfl, hin, Or.inl rfl, g1⟩⟩, g2⟩
  obtain ⟨ho', hg', r', c', g1, g2⟩ := loop 64 0 0 ho hg (by omega) nu_0 (fun i hi => absurd hi (by omega))
  exact ⟨ho', hg', r', c', pm_in (pm_go [11] 20 g1), g2⟩
