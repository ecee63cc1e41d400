/-! THE CLASS'S BOX: loops. px, py, sd: places and sides as naturals -/
theorem nb_min {a : Nat} (ha : a < 1000) : (if (12 : Int32) < nI a then 12 else nI a) = nI (min a 12) := by
  rw [nu_12]
  by_cases h : 12 < a
  · rw [if_pos ((nu_lt (by omega) (by omega)).mpr h), Nat.min_eq_right (by omega)]
  · rw [if_neg (fun q => h ((nu_lt (by omega) (by omega)).mp q)), Nat.min_eq_left (by omega)]
theorem nx_and (a b : Nat) : nI a &&& nI b = nI (a &&& b) := by
  apply Int32.toBitVec_inj.1
  show BitVec.ofNat 32 a &&& BitVec.ofNat 32 b = BitVec.ofNat 32 (a &&& b)
  apply BitVec.eq_of_getLsbD_eq
  intro i hi
  simp [hi]
theorem nx_xor (a b : Nat) : nI a ^^^ nI b = nI (a ^^^ b) := by
  apply Int32.toBitVec_inj.1
  show BitVec.ofNat 32 a ^^^ BitVec.ofNat 32 b = BitVec.ofNat 32 (a ^^^ b)
  apply BitVec.eq_of_getLsbD_eq
  intro i hi
  simp [hi]
/-- the bits of a square's row -/
def bx_br (s x : Nat) : Nat := (2 ^ s - 1) * 2 ^ x
theorem bx_br_ok : ∀ s, s < 13 → ∀ x, x < 13 → ((1 : Int32) <<< (nI s &&& 31) - 1) <<< (nI x &&& 31) = nI (bx_br s x) := by decide +kernel
/-- emptyBox: taken is all 0 -/
theorem c_emptyBox (sc : Nat × (Nat → Int32)) (d : Nat) (H : tH) (r : tR) (c : tR) (P : tP) (w : tW) (bw : Int32) (bh : Int32) (bc : Int32) (bt : Int32) (bp : Int32) (si : tA) (ax : tA) (ay : tA) (tk : tA) (M : tM) (N : tN) (O : tO) : ∃ tk' : tA, (∀ y, y < 12 → tk' y = 0) ∧ pm_D sc (d + 2) mX0_emptyBox [.ref 22] (hp H r c P w (bw, bh, bc, bt, bp, si, ax, ay, tk) M N O) none (hp H r c P w (bw, bh, bc, bt, bp, si, upd ax 0 0, upd ay 0 0, tk') M N O) := by
  have loop : ∀ (n k : Nat) (x : Int32) (f : tA), k + n = 12 → x = nI k → (∀ y, y < k → f y = 0) → ∃ tk' : tA, (∀ y, y < 12 → tk' y = 0) ∧ pm_Go sc (d + 1) (pm_cd mX0_emptyBox) (2, [some (.ref 22), some (.int x)], [], (hp H r c P w (bw, bh, bc, bt, bp, si, ax, ay, f) M N O)) (fun r2 h2 => r2 = none ∧ h2 = (hp H r c P w (bw, bh, bc, bt, bp, si, upd ax 0 0, upd ay 0 0, tk') M N O)) := by
    intro n
    induction n with
    | zero =>
      intro k x f hk hx hf
      refine ⟨f, fun y hy => hf y (by omega), pm_go [] 8 ?_⟩
      subst hx
      refine ⟨fun c1 => ?_, fun c1 => ?_⟩
      · refine ⟨_, _, c_startOver sc d H r c P w _ M N O 0 (Or.inl (by rw [nu_0]; exact nu_in (by omega) (by omega))), ?_⟩
        exact ⟨rfl, rfl⟩
      · exact absurd (show (12 : Int32) ≤ nI k by rw [nu_12, nu_le (by omega) (by omega)]; omega) c1
    | succ n ih =>
      intro k x f hk hx hf
      subst hx
      obtain ⟨tk', h1, h2⟩ := ih (k + 1) (nI k + 1) (upd f k 0) (by omega) (by rw [nI_1]) (fun y hy => by
        rw [nu_upd]
        split
        · rfl
        · exact hf y (by omega))
      refine ⟨tk', h1, pm_go1 [2] 20 ?_⟩
      refine ⟨fun c1 => ?_, fun c1 => ?_⟩
      · exact absurd ((nu_le (a := 12) (b := k) (by omega) (by omega)).mp (by rw [← nu_12]; exact c1)) (by omega)
      · refine ⟨nu_in (by omega) (by omega), ?_⟩
        rw [nu_cl (by omega)]
        exact h2
  obtain ⟨tk', h1, h2⟩ := loop 12 0 0 tk rfl nu_0 (fun y hy => absurd hy (by omega))
  exact ⟨tk', h1, pm_in (pm_go [2] 3 h2)⟩
/-- isFree -/
theorem c_isFree (sc : Nat × (Nat → Int32)) (d : Nat) (H : tH) (r : tR) (c : tR) (P : tP) (w : tW) (bw : Int32) (bh : Int32) (bc : Int32) (bt : Int32) (bp : Int32) (si : tA) (ax : tA) (ay : tA) (tk : tA) (M : tM) (N : tN) (O : tO) (s sd x y0 : Nat) (t : Nat → Nat) (hs : s < 8) (h1 : si s = nI sd) (h2 : ax s = nI x) (h3 : ay s = nI y0) (hx : x + sd ≤ 12) (hy : y0 + sd ≤ 12) (ht : ∀ y, y < 12 → tk y = nI (t y) ∧ t y < 4096) :
    ∃ v : Int32, pm_D sc (d + 2) mX0_isFree [.ref 22, .int (nI s)] (hp H r c P w (bw, bh, bc, bt, bp, si, ax, ay, tk) M N O) (some (.int v)) (hp H r c P w (bw, bh, bc, bt, bp, si, ax, ay, tk) M N O) ∧ ((v = 1 ∧ ∀ y, y0 ≤ y → y < y0 + sd → t y &&& bx_br sd x = 0) ∨ (v = 0 ∧ ∃ y, y0 ≤ y ∧ y < y0 + sd ∧ t y &&& bx_br sd x ≠ 0)) := by
  have loop : ∀ (n y : Nat) (yy : Int32), y + n = y0 + sd → y0 ≤ y → yy = nI y → (∀ z, y0 ≤ z → z < y → t z &&& bx_br sd x = 0) → ∃ v : Int32, pm_Go sc (d + 1) (pm_cd mX0_isFree) (21, [some (.ref 22), some (.int (nI s)), some (.int (nI (bx_br sd x))), some (.int (nI (y0 + sd))), some (.int yy)], [], (hp H r c P w (bw, bh, bc, bt, bp, si, ax, ay, tk) M N O)) (fun r2 h2 => r2 = some (.int v) ∧ h2 = (hp H r c P w (bw, bh, bc, bt, bp, si, ax, ay, tk) M N O)) ∧ ((v = 1 ∧ ∀ y, y0 ≤ y → y < y0 + sd → t y &&& bx_br sd x = 0) ∨ (v = 0 ∧ ∃ y, y0 ≤ y ∧ y < y0 + sd ∧ t y &&& bx_br sd x ≠ 0)) := by
    intro n
    induction n with
    | zero =>
      intro y yy hyn hy0 hyy hz
      subst hyy
      refine ⟨1, pm_go [] 8 ⟨fun c1 => ⟨Or.inr rfl, rfl, rfl⟩, fun c1 => ?_⟩, Or.inl ⟨rfl, fun z h1 h2 => hz z h1 (by omega)⟩⟩
      exact absurd ((nu_le (by omega) (by omega)).mpr (by omega)) c1
    | succ n ih =>
      intro y yy hyn hy0 hyy hz
      subst hyy
      have hin : vp_in (nI y) 12 := nu_in (by omega) (by omega)
      have hv : tk (nI y).toNatClampNeg &&& nI (bx_br sd x) = nI (t y &&& bx_br sd x) := by
        rw [nu_cl (by omega), (ht y (by omega)).1, nx_and]
      have hlt : t y &&& bx_br sd x < 1000000 := Nat.lt_of_le_of_lt Nat.and_le_left (by have := (ht y (by omega)).2; omega)
      by_cases h0 : t y &&& bx_br sd x = 0
      · obtain ⟨v, g1, g2⟩ := ih (y + 1) (nI y + 1) (by omega) (by omega) (by rw [nI_1]) (fun z h1 h2 => by
          by_cases hzy : z = y
          · subst hzy; exact h0
          · exact hz z h1 (by omega))
        refine ⟨v, pm_go1 [21] 20 ⟨fun c1 => ?_, fun c1 => ⟨hin, fun c2 => g1, fun c2 => ?_⟩⟩, g2⟩
        · exact absurd ((nu_le (by omega) (by omega)).mp c1) (by omega)
        · exact absurd (show tk (nI y).toNatClampNeg &&& nI (bx_br sd x) = 0 by rw [hv, h0]; rfl) c2
      · refine ⟨0, pm_go1 [21] 20 ⟨fun c1 => ?_, fun c1 => ⟨hin, fun c2 => ?_, fun c2 => ⟨Or.inl rfl, rfl, rfl⟩⟩⟩, Or.inr ⟨rfl, y, hy0, by omega, h0⟩⟩
        · exact absurd ((nu_le (by omega) (by omega)).mp c1) (by omega)
        · have c2 : tk (nI y).toNatClampNeg &&& nI (bx_br sd x) = 0 := c2
          rw [hv, nu_0, nu_eq hlt (by omega)] at c2
          exact absurd c2 h0
  have hin : vp_in (nI s) 8 := nu_in hs (by omega)
  have hb := c_breadthOf sc d H r c P w (bw, bh, bc, bt, bp, si, ax, ay, tk) M N O (nI s) hin
  dsimp only at hb
  rw [nu_cl (by omega), h1, h2, bx_br_ok sd (by omega) x (by omega)] at hb
  obtain ⟨v, g1, g2⟩ := loop sd y0 (nI y0) rfl (Nat.le_refl _) rfl (fun z h1 h2 => absurd h1 (by omega))
  refine ⟨v, pm_in (pm_go [21] 30 ⟨_, _, hb, hin, hin, hin, ?_⟩), g2⟩
  have e1 : (if (12 : Int32) < pm_ib 0 (ay (nI s).toNatClampNeg) (si (nI s).toNatClampNeg) then 12 else pm_ib 0 (ay (nI s).toNatClampNeg) (si (nI s).toNatClampNeg)) = nI (y0 + sd) := by
    rw [nu_cl (by omega), h1, h3]
    show (if (12 : Int32) < nI y0 + nI sd then 12 else nI y0 + nI sd) = nI (y0 + sd)
    rw [nI_add, nb_min (by omega), Nat.min_eq_left hy]
  have e2 : ay (nI s).toNatClampNeg = nI y0 := by rw [nu_cl (by omega), h3]
  rw [← e2, ← e1] at g1
  exact g1
/-- layOrLift -/
theorem c_layOrLift (sc : Nat × (Nat → Int32)) (d : Nat) (H : tH) (r : tR) (c : tR) (P : tP) (w : tW) (bw : Int32) (bh : Int32) (bc : Int32) (bt : Int32) (bp : Int32) (si : tA) (ax : tA) (ay : tA) (tk : tA) (M : tM) (N : tN) (O : tO) (s sd x y0 : Nat) (t : Nat → Nat) (hs : s < 8) (h1 : si s = nI sd) (h2 : ax s = nI x) (h3 : ay s = nI y0) (hx : x + sd ≤ 12) (hy : y0 + sd ≤ 12) (ht : ∀ y, y < 12 → tk y = nI (t y)) :
    ∃ tk' : tA, pm_D sc (d + 2) mX0_layOrLift [.ref 22, .int (nI s)] (hp H r c P w (bw, bh, bc, bt, bp, si, ax, ay, tk) M N O) none (hp H r c P w (bw, bh, bc, bt, bp, si, ax, ay, tk') M N O) ∧ ∀ y, y < 12 → tk' y = nI (if y0 ≤ y ∧ y < y0 + sd then t y ^^^ bx_br sd x else t y) := by
  have loop : ∀ (n y : Nat) (yy : Int32) (f : tA), y + n = y0 + sd → y0 ≤ y → yy = nI y → (∀ z, z < 12 → f z = nI (if y0 ≤ z ∧ z < y then t z ^^^ bx_br sd x else t z)) → ∃ tk' : tA, pm_Go sc (d + 1) (pm_cd mX0_layOrLift) (21, [some (.ref 22), some (.int (nI s)), some (.int (nI (bx_br sd x))), some (.int (nI (y0 + sd))), some (.int yy)], [], (hp H r c P w (bw, bh, bc, bt, bp, si, ax, ay, f) M N O)) (fun r2 h2 => r2 = none ∧ h2 = (hp H r c P w (bw, bh, bc, bt, bp, si, ax, ay, tk') M N O)) ∧ ∀ y, y < 12 → tk' y = nI (if y0 ≤ y ∧ y < y0 + sd then t y ^^^ bx_br sd x else t y) := by
    intro n
    induction n with
    | zero =>
      intro y yy f hyn hy0 hyy hz
      subst hyy
      have e : y = y0 + sd := by omega
      subst e
      refine ⟨f, pm_go [] 8 ⟨fun c1 => ⟨rfl, rfl⟩, fun c1 => ?_⟩, hz⟩
      exact absurd ((nu_le (by omega) (by omega)).mpr (by omega)) c1
    | succ n ih =>
      intro y yy f hyn hy0 hyy hz
      subst hyy
      have hin : vp_in (nI y) 12 := nu_in (by omega) (by omega)
      obtain ⟨tk', g1, g2⟩ := ih (y + 1) (nI y + 1) (upd f y (nI (t y ^^^ bx_br sd x))) (by omega) (by omega) (by rw [nI_1]) (fun z h1 => by
        rw [nu_upd]
        by_cases hzy : z = y
        · subst hzy
          rw [if_pos rfl, if_pos (by omega)]
        · rw [if_neg hzy, hz z h1]
          by_cases hr : y0 ≤ z ∧ z < y
          · rw [if_pos hr, if_pos (by omega)]
          · rw [if_neg hr, if_neg (by omega)])
      refine ⟨tk', pm_go1 [21] 20 ⟨fun c1 => ?_, fun c1 => ⟨hin, hin, ?_⟩⟩, g2⟩
      · exact absurd ((nu_le (by omega) (by omega)).mp c1) (by omega)
      · have e1 : pm_ib 5 (f (nI y).toNatClampNeg) (nI (bx_br sd x)) = nI (t y ^^^ bx_br sd x) := by
          rw [nu_cl (by omega), hz y (by omega), if_neg (by omega)]
          exact nx_xor _ _
        rw [← e1] at g1
        have e2 : (nI y).toNatClampNeg = y := nu_cl (by omega)
        rw [e2] at g1 ⊢
        exact g1
  have hin : vp_in (nI s) 8 := nu_in hs (by omega)
  have hb := c_breadthOf sc d H r c P w (bw, bh, bc, bt, bp, si, ax, ay, tk) M N O (nI s) hin
  dsimp only at hb
  rw [nu_cl (by omega), h1, h2, bx_br_ok sd (by omega) x (by omega)] at hb
  obtain ⟨tk', g1, g2⟩ := loop sd y0 (nI y0) tk rfl (Nat.le_refl _) rfl (fun z h1 => by rw [ht z h1, if_neg (by omega)])
  refine ⟨tk', pm_in (pm_go [21] 30 ⟨_, _, hb, hin, hin, hin, ?_⟩), g2⟩
  have e1 : (if (12 : Int32) < pm_ib 0 (ay (nI s).toNatClampNeg) (si (nI s).toNatClampNeg) then 12 else pm_ib 0 (ay (nI s).toNatClampNeg) (si (nI s).toNatClampNeg)) = nI (y0 + sd) := by
    rw [nu_cl (by omega), h1, h3]
    show (if (12 : Int32) < nI y0 + nI sd then 12 else nI y0 + nI sd) = nI (y0 + sd)
    rw [nI_add, nb_min (by omega), Nat.min_eq_left hy]
  have e2 : ay (nI s).toNatClampNeg = nI y0 := by rw [nu_cl (by omega), h3]
  rw [← e2, ← e1] at g1
  exact g1
