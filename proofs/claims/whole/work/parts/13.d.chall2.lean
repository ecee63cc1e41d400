/-! THE CLASS'S Hall: the rest -/
theorem ct_flip {p p' : Nat → Bool} {k : Nat} (h1 : p k = false) (h2 : p' k = true) : ∀ n, k < n → (∀ i, i < n → i ≠ k → p' i = p i) → ct p' n = ct p n + 1
  | 0, h, _ => absurd h (by omega)
  | n + 1, h, ho => by
    unfold ct
    by_cases hk : k = n
    · subst hk
      rw [h1, h2, ct_congr k (fun i hi => ho i (by omega) (by omega))]
      simp
    · rw [ct_flip h1 h2 n (by omega) (fun i hi hne => ho i (by omega) hne), ho n (by omega) (fun z => hk z.symm)]
      omega
def gdU (gd : Nat → Bool) (k : Nat) (b : Bool) : Nat → Bool := fun j => if j = k then b else gd j
theorem rG_come {op : Nat → Bool} {st : Nat} {eg gd : Nat → Bool} {n k q0 : Nat} (hk : k < n) (hq : rO op st eg n k = some q0) (hg : gd k = false) (q : Nat) : rG op st eg (gdU gd k true) n q = upN (rG op st eg gd n) q0 (rG op st eg gd n q0 + 1) q := by
  unfold upN
  by_cases hqq : q = q0
  · subst hqq
    rw [if_pos rfl]
    unfold rG
    refine ct_flip (k := k) ?_ ?_ n hk (fun i hi hne => ?_)
    · simp [hg]
    · simp [hq, gdU]
    · simp [gdU, hne]
  · rw [if_neg hqq]
    unfold rG
    refine ct_congr n (fun i hi => ?_)
    by_cases hik : i = k
    · subst hik
      have : (some q0 == some q) = false := by simpa using Ne.symm hqq
      rw [hq, this]; rfl
    · simp [gdU, hik]
theorem rG_go {op : Nat → Bool} {st : Nat} {eg gd : Nat → Bool} {n k q0 : Nat} (hk : k < n) (hq : rO op st eg n k = some q0) (hg : gd k = true) (q : Nat) : rG op st eg (gdU gd k false) n q = upN (rG op st eg gd n) q0 (rG op st eg gd n q0 - 1) q := by
  unfold upN
  by_cases hqq : q = q0
  · subst hqq
    rw [if_pos rfl]
    have h := ct_flip (p := fun j => (rO op st eg n j == some q) && gdU gd k false j) (p' := fun j => (rO op st eg n j == some q) && gd j) (k := k) (by simp [gdU]) (by simp [hq, hg]) n hk (fun i hi hne => by simp [gdU, hne])
    unfold rG
    omega
  · rw [if_neg hqq]
    unfold rG
    refine ct_congr n (fun i hi => ?_)
    by_cases hik : i = k
    · subst hik
      have : (some q0 == some q) = false := by simpa using Ne.symm hqq
      rw [hq, this]; rfl
    · simp [gdU, hik]
theorem rG_pos {op : Nat → Bool} {st : Nat} {eg gd : Nat → Bool} {n k q0 : Nat} (hk : k < n) (hq : rO op st eg n k = some q0) (hg : gd k = true) : 0 < rG op st eg gd n q0 := by
  unfold rG
  exact ct_pos n k hk (by simp [hq, hg])
/-- seen -/
def sE (W Hh : Nat) (op gd : Nat → Bool) (k : Nat) : Bool := rW (rG op 1 (egR W) gd (Hh * W)) (rO op 1 (egR W) (Hh * W) k) || rW (rG op W (egC W) gd (Hh * W)) (rO op W (egC W) (Hh * W) k)
/-- an open cell's run -/
theorem rO_some {op : Nat → Bool} {st : Nat} {eg : Nat → Bool} {n k : Nat} (hk : k < n) (ho : op k = true) : ∃ q, rO op st eg n k = some q := by
  cases h : rO op st eg n k with
  | none => rw [rO_op n k hk, ho] at h; cases h
  | some q => exact ⟨q, rfl⟩
theorem c_isSeen (sc : Nat × (Nat → Int32)) (d : Nat) (H : tH) (r : tR) (c : tR) (P : tP) (w : tW) (B : tB) (M : tM) (N : tN) (O : tO) (W Hh k : Nat) (op gd : Nat → Bool) (bHW : Hh * W ≤ 64) (hk : k < Hh * W) (hR : HR W Hh op gd r c) : pm_D sc (d + 2) mX1_isSeen [.ref 2, .int (nI k)] (hp H r c P w B M N O) (some (.int (bI (sE W Hh op gd k)))) (hp H r c P w B M N O) := by
  have h1 := c_isWatched_r sc d H r c P w B M N O op 1 (egR W) (Hh * W) k _ bHW hk (fun q => Nat.le_trans (rG_le _ _ _ _ _ _) bHW) hR.1
  have h2 := c_isWatched_c sc d H r c P w B M N O op W (egC W) (Hh * W) k _ bHW hk (fun q => Nat.le_trans (rG_le _ _ _ _ _ _) bHW) hR.2
  unfold sE
  generalize rW (rG op 1 (egR W) gd (Hh * W)) (rO op 1 (egR W) (Hh * W) k) = b1 at h1 ⊢
  generalize rW (rG op W (egC W) gd (Hh * W)) (rO op W (egC W) (Hh * W) k) = b2 at h2 ⊢
  cases b1 with
  | true => exact pm_in (pm_go [] 30 ⟨_, _, h1, fun q => ⟨Or.inr rfl, rfl, rfl⟩, fun q => absurd q (by decide)⟩)
  | false =>
    cases b2 with
    | true => exact pm_in (pm_go [] 30 ⟨_, _, h1, fun q => absurd rfl q, fun q => ⟨_, _, h2, fun q => absurd q (by decide), fun q => ⟨Or.inr rfl, rfl, rfl⟩⟩⟩)
    | false => exact pm_in (pm_go [] 30 ⟨_, _, h1, fun q => absurd rfl q, fun q => ⟨_, _, h2, fun q => ⟨Or.inl rfl, rfl, rfl⟩, fun q => absurd rfl q⟩⟩)
/-- what a cell is -/
def kN (W Hh : Nat) (op gd : Nat → Bool) (k : Nat) : Int32 := if op k then (if gd k then 3 else if sE W Hh op gd k then 2 else 1) else 0
theorem c_kindOf (sc : Nat × (Nat → Int32)) (d : Nat) (hw : Int32) (hh : Int32) (hc : Int32) (ho : tA) (hg : tA) (r : tR) (c : tR) (P : tP) (w : tW) (B : tB) (M : tM) (N : tN) (O : tO) (W Hh k : Nat) (op gd : Nat → Bool) (bHW : Hh * W ≤ 64) (hk : k < Hh * W) (hop : ∀ k, k < 64 → ho k = bI (op k)) (hgd : ∀ k, k < 64 → hg k = bI (gd k)) (hR : HR W Hh op gd r c) : pm_D sc (d + 3) mX1_kindOf [.ref 2, .int (nI k)] (hp (hw, hh, hc, ho, hg) r c P w B M N O) (some (.int (kN W Hh op gd k))) (hp (hw, hh, hc, ho, hg) r c P w B M N O) := by
  have hin : vp_in (nI k) 64 := nu_in (by omega) (by omega)
  have e1 : ho (nI k).toNatClampNeg = bI (op k) := by rw [nu_cl (by omega)]; exact hop k (by omega)
  have e2 : hg (nI k).toNatClampNeg = bI (gd k) := by rw [nu_cl (by omega)]; exact hgd k (by omega)
  have h1 := c_isSeen sc d (hw, hh, hc, ho, hg) r c P w B M N O W Hh k op gd bHW hk hR
  unfold kN
  cases hO : op k with
  | false =>
    rw [hO] at e1
    exact pm_in (pm_go [] 30 ⟨hin, fun q => absurd e1 q, fun q => ⟨rfl, rfl⟩⟩)
  | true =>
    have e1 : ¬ ho (nI k).toNatClampNeg = 0 := by rw [e1, hO]; decide
    cases hG : gd k with
    | true =>
      have e2 : ¬ hg (nI k).toNatClampNeg = 0 := by rw [e2, hG]; decide
      exact pm_in (pm_go [] 30 ⟨hin, fun q => ⟨hin, fun q => absurd q e2, fun q => ⟨rfl, rfl⟩⟩, fun q => absurd q e1⟩)
    | false =>
      have e2 : hg (nI k).toNatClampNeg = 0 := by rw [e2, hG]; decide
      cases hS : sE W Hh op gd k with
      | true =>
        rw [hS] at h1
        exact pm_in (pm_go [] 40 ⟨hin, fun q => ⟨hin, fun q => ⟨_, _, h1, fun q => absurd q (by decide), fun q => ⟨rfl, rfl⟩⟩, fun q => absurd e2 q⟩, fun q => absurd q e1⟩)
      | false =>
        rw [hS] at h1
        exact pm_in (pm_go [] 40 ⟨hin, fun q => ⟨hin, fun q => ⟨_, _, h1, fun q => ⟨rfl, rfl⟩, fun q => absurd rfl q⟩, fun q => absurd e2 q⟩, fun q => absurd q e1⟩)
/-- how many cells are seen from a cell -/
def sN (W Hh : Nat) (op : Nat → Bool) (k : Nat) : Int32 := match rO op 1 (egR W) (Hh * W) k, rO op W (egC W) (Hh * W) k with
  | some q1, some q2 => nI (rN op 1 (egR W) (Hh * W) q1) + nI (rN op W (egC W) (Hh * W) q2) - 1
  | _, _ => 0
theorem c_sightFrom (sc : Nat × (Nat → Int32)) (d : Nat) (hw : Int32) (hh : Int32) (hc : Int32) (ho : tA) (hg : tA) (r : tR) (c : tR) (P : tP) (w : tW) (B : tB) (M : tM) (N : tN) (O : tO) (W Hh k : Nat) (op gd : Nat → Bool) (bHW : Hh * W ≤ 64) (hk : k < Hh * W) (hop : ∀ k, k < 64 → ho k = bI (op k)) (hR : HR W Hh op gd r c) : pm_D sc (d + 2) mX1_sightFrom [.ref 2, .int (nI k)] (hp (hw, hh, hc, ho, hg) r c P w B M N O) (some (.int (sN W Hh op k))) (hp (hw, hh, hc, ho, hg) r c P w B M N O) := by
  have hin : vp_in (nI k) 64 := nu_in (by omega) (by omega)
  have e1 : ho (nI k).toNatClampNeg = bI (op k) := by rw [nu_cl (by omega)]; exact hop k (by omega)
  cases hO : op k with
  | false =>
    rw [hO] at e1
    have : rO op 1 (egR W) (Hh * W) k = none := (rO_op _ k hk).mpr hO
    unfold sN
    rw [this]
    exact pm_in (pm_go [] 30 ⟨hin, fun q => ⟨rfl, rfl⟩, fun q => absurd e1 q⟩)
  | true =>
    have e1 : ¬ ho (nI k).toNatClampNeg = 0 := by rw [e1, hO]; decide
    obtain ⟨q1, hq1⟩ := rO_some (st := 1) (eg := egR W) hk hO
    obtain ⟨q2, hq2⟩ := rO_some (st := W) (eg := egC W) hk hO
    have h1 := c_lengthAt_r sc d (hw, hh, hc, ho, hg) r c P w B M N O op 1 (egR W) (Hh * W) k q1 _ bHW hk hq1 hR.1
    have h2 := c_lengthAt_c sc d (hw, hh, hc, ho, hg) r c P w B M N O op W (egC W) (Hh * W) k q2 _ bHW hk hq2 hR.2
    unfold sN
    rw [hq1, hq2]
    exact pm_in (pm_go [] 30 ⟨hin, fun q => absurd q e1, fun q => ⟨_, _, h1, _, _, h2, rfl, rfl⟩⟩)
theorem hw_mul {hw hh : Int32} {W Hh : Nat} (hW : hw = nI W) (hH : hh = nI Hh) : hw * hh = nI (Hh * W) := by rw [hW, hH, pk_mul, Nat.mul_comm]
theorem c_countSeen (sc : Nat × (Nat → Int32)) (d : Nat) (hw : Int32) (hh : Int32) (hc : Int32) (ho : tA) (hg : tA) (r : tR) (c : tR) (P : tP) (w : tW) (B : tB) (M : tM) (N : tN) (O : tO) (W Hh : Nat) (op gd : Nat → Bool) (hW : hw = nI W) (hH : hh = nI Hh) (bHW : Hh * W ≤ 64) (hR : HR W Hh op gd r c) : pm_D sc (d + 3) mX1_countSeen [.ref 2] (hp (hw, hh, hc, ho, hg) r c P w B M N O) (some (.int (nI (ct (sE W Hh op gd) (Hh * W))))) (hp (hw, hh, hc, ho, hg) r c P w B M N O) := by
  have hm : hw * hh = nI (Hh * W) := hw_mul hW hH
  have loop : ∀ (m k : Nat) (x y : Int32), k + m = Hh * W → x = nI (ct (sE W Hh op gd) k) → y = nI k → pm_Go sc (d + 2) (pm_cd mX1_countSeen) (4, [some (.ref 2), some (.int x), some (.int y)], [], (hp (hw, hh, hc, ho, hg) r c P w B M N O)) (fun r2 h2 => r2 = some (.int (nI (ct (sE W Hh op gd) (Hh * W)))) ∧ h2 = (hp (hw, hh, hc, ho, hg) r c P w B M N O)) := by
    intro m
    induction m with
    | zero =>
      intro k x y hk hx hy
      subst hy
      subst hx
      have : k = Hh * W := by omega
      subst this
      exact pm_go [] 20 ⟨fun q => ⟨rfl, rfl⟩, fun q => absurd (show hw * hh ≤ nI (Hh * W) by rw [hm, nu_le (by omega) (by omega)]; exact Nat.le_refl _) q⟩
    | succ m ih =>
      intro k x y hk hx hy
      subst hy
      subst hx
      have hn : ¬ hw * hh ≤ nI k := by rw [hm, nu_le (by omega) (by omega)]; omega
      have h1 := c_isSeen sc d (hw, hh, hc, ho, hg) r c P w B M N O W Hh k op gd bHW (by omega) hR
      cases hS : sE W Hh op gd k with
      | true =>
        rw [hS] at h1
        refine pm_go1 [4] 30 ⟨fun q => absurd q hn, fun q => ⟨_, _, h1, fun q => absurd q (by decide), fun q => ?_⟩⟩
        exact ih (k + 1) _ _ (by omega) (by show nI (ct (sE W Hh op gd) k) + 1 = nI (ct (sE W Hh op gd) k + if sE W Hh op gd k then 1 else 0); rw [hS]; exact nI_1 _) (nI_1 k)
      | false =>
        rw [hS] at h1
        refine pm_go1 [4] 30 ⟨fun q => absurd q hn, fun q => ⟨_, _, h1, fun q => ?_, fun q => absurd rfl q⟩⟩
        exact ih (k + 1) _ _ (by omega) (by show nI (ct (sE W Hh op gd) k) = nI (ct (sE W Hh op gd) k + if sE W Hh op gd k then 1 else 0); rw [hS]; rfl) (nI_1 k)
  exact pm_in (pm_go [4] 20 (loop (Hh * W) 0 0 0 (by omega) nu_0 nu_0))
/-- the i-th cell that is open and not seen -/
def mN (W Hh : Nat) (op gd : Nat → Bool) (i : Int32) : Nat → Nat → Nat → Int32
  | 0, _, _ => -1
  | m + 1, k, a => if op k = true ∧ sE W Hh op gd k = false then (if nI a = i then nI k else mN W Hh op gd i m (k + 1) (a + 1)) else mN W Hh op gd i m (k + 1) a
theorem c_findMissed (sc : Nat × (Nat → Int32)) (d : Nat) (hw : Int32) (hh : Int32) (hc : Int32) (ho : tA) (hg : tA) (r : tR) (c : tR) (P : tP) (w : tW) (B : tB) (M : tM) (N : tN) (O : tO) (W Hh : Nat) (op gd : Nat → Bool) (i : Int32) (hW : hw = nI W) (hH : hh = nI Hh) (bHW : Hh * W ≤ 64) (hop : ∀ k, k < 64 → ho k = bI (op k)) (hR : HR W Hh op gd r c) : pm_D sc (d + 3) mX1_findMissed [.ref 2, .int i] (hp (hw, hh, hc, ho, hg) r c P w B M N O) (some (.int (mN W Hh op gd i (Hh * W) 0 0))) (hp (hw, hh, hc, ho, hg) r c P w B M N O) := by
  have hm : hw * hh = nI (Hh * W) := hw_mul hW hH
  have loop : ∀ (m k a : Nat) (x y : Int32), k + m = Hh * W → x = nI a → y = nI k → pm_Go sc (d + 2) (pm_cd mX1_findMissed) (4, [some (.ref 2), some (.int i), some (.int x), some (.int y)], [], (hp (hw, hh, hc, ho, hg) r c P w B M N O)) (fun r2 h2 => r2 = some (.int (mN W Hh op gd i m k a)) ∧ h2 = (hp (hw, hh, hc, ho, hg) r c P w B M N O)) := by
    intro m
    induction m with
    | zero =>
      intro k a x y hk hx hy
      subst hy
      subst hx
      have : k = Hh * W := by omega
      subst this
      exact pm_go [] 20 ⟨fun q => ⟨rfl, rfl⟩, fun q => absurd (show hw * hh ≤ nI (Hh * W) by rw [hm, nu_le (by omega) (by omega)]; exact Nat.le_refl _) q⟩
    | succ m ih =>
      intro k a x y hk hx hy
      subst hy
      subst hx
      have hn : ¬ hw * hh ≤ nI k := by rw [hm, nu_le (by omega) (by omega)]; omega
      have hin : vp_in (nI k) 64 := nu_in (by omega) (by omega)
      have e1 : ho (nI k).toNatClampNeg = bI (op k) := by rw [nu_cl (by omega)]; exact hop k (by omega)
      have h1 := c_isSeen sc d (hw, hh, hc, ho, hg) r c P w B M N O W Hh k op gd bHW (by omega) hR
      have skip := ih (k + 1) a (nI a) (nI k + 1) (by omega) rfl (nI_1 k)
      have go1 := ih (k + 1) (a + 1) (nI a + 1) (nI k + 1) (by omega) (nI_1 a) (nI_1 k)
      unfold mN
      cases hO : op k with
      | false =>
        rw [hO] at e1
        rw [if_neg (by simp)]
        exact pm_go1 [4] 40 ⟨fun q => absurd q hn, fun q => ⟨hin, fun q => skip, fun q => absurd e1 q⟩⟩
      | true =>
        have e1 : ¬ ho (nI k).toNatClampNeg = 0 := by rw [e1, hO]; decide
        cases hS : sE W Hh op gd k with
        | true =>
          rw [hS] at h1
          rw [if_neg (by simp)]
          exact pm_go1 [4] 40 ⟨fun q => absurd q hn, fun q => ⟨hin, fun q => absurd q e1, fun q => ⟨_, _, h1, fun q => skip, fun q => absurd q (by decide)⟩⟩⟩
        | false =>
          rw [hS] at h1
          rw [if_pos ⟨rfl, rfl⟩]
          by_cases hai : nI a = i
          · rw [if_pos hai]
            exact pm_go1 [4] 40 ⟨fun q => absurd q hn, fun q => ⟨hin, fun q => absurd q e1, fun q => ⟨_, _, h1, fun q => absurd rfl q, fun q => ⟨fun q => absurd hai q, fun q => ⟨rfl, rfl⟩⟩⟩⟩⟩
          · rw [if_neg hai]
            exact pm_go1 [4] 40 ⟨fun q => absurd q hn, fun q => ⟨hin, fun q => absurd q e1, fun q => ⟨_, _, h1, fun q => absurd rfl q, fun q => ⟨fun q => go1, fun q => absurd q hai⟩⟩⟩⟩
  exact pm_in (pm_go [4] 20 (loop (Hh * W) 0 0 0 0 (by omega) nu_0 nu_0))
theorem c_changeWall (sc : Nat × (Nat → Int32)) (d : Nat) (hw : Int32) (hh : Int32) (hc : Int32) (ho : tA) (hg : tA) (r : tR) (c : tR) (P : tP) (w : tW) (B : tB) (M : tM) (N : tN) (O : tO) (W Hh k : Nat) (op gd : Nat → Bool) (b : Bool) (hW : hw = nI W) (hH : hh = nI Hh) (bW : 1 ≤ W ∧ W ≤ 8) (bH : 1 ≤ Hh ∧ Hh ≤ 8) (hk : k < 64) (hop : ∀ k, k < 64 → ho k = bI (op k)) (hgd : ∀ k, k < 64 → hg k = bI (gd k)) (hR : HR W Hh op gd r c) :
    ∃ (ho' : tA) (r' c' : tR), pm_D sc (d + 4) mX1_changeWall [.ref 2, .int (nI k), .int (bI b)] (hp (hw, hh, hc, ho, hg) r c P w B M N O) (some (.int (bI (op k != b)))) (hp (hw, hh, hc, ho', hg) (r') (c') P w B M N O) ∧ (∀ j, j < 64 → ho' j = bI (gdU op k b j)) ∧ HR W Hh (gdU op k b) gd r' c' := by
  have hin : vp_in (nI k) 64 := nu_in (by omega) (by omega)
  have hcl : (nI k).toNatClampNeg = k := nu_cl (by omega)
  have e1 : ho (nI k).toNatClampNeg = bI (op k) := by rw [hcl]; exact hop k (by omega)
  by_cases hs : op k = b
  · have hse : gdU op k b = op := by
      funext j
      unfold gdU
      split
      · rename_i hj; rw [hj, hs]
      · rfl
    rw [hse]
    refine ⟨ho, r, c, pm_in (pm_go [] 30 ⟨hin, fun q => absurd (show ho (nI k).toNatClampNeg = bI b by rw [e1, hs]) q, fun q => ⟨Or.inl rfl, ?_, rfl⟩⟩), hop, hR⟩
    rw [hs]; simp [bI]
  · have hne : ¬ ho (nI k).toNatClampNeg = bI b := by
      rw [e1]
      cases hop1 : op k <;> cases b <;> simp [hop1] at hs <;> decide
    have hop' : ∀ j, j < 64 → upd ho (nI k).toNatClampNeg (bI b) j = bI (gdU op k b j) := fun j hj => by
      rw [hcl, nu_upd]
      unfold gdU
      split
      · rfl
      · exact hop j hj
    obtain ⟨r', c', g1, g2⟩ := c_numberRuns sc d hw hh hc (upd ho (nI k).toNatClampNeg (bI b)) hg r c P w B M N O W Hh (gdU op k b) gd hW hH bW bH hop' hgd
    refine ⟨_, r', c', pm_in (pm_go [] 30 ⟨hin, fun q => ⟨hin, bI_01 b, _, _, g1, Or.inr rfl, ?_, rfl⟩, fun q => absurd q hne⟩), hop', g2⟩
    have : (op k != b) = true := by simpa using hs
    rw [this]; rfl
theorem c_changeGuard (sc : Nat × (Nat → Int32)) (d : Nat) (hw : Int32) (hh : Int32) (hc : Int32) (ho : tA) (hg : tA) (r : tR) (c : tR) (P : tP) (w : tW) (B : tB) (M : tM) (N : tN) (O : tO) (W Hh k : Nat) (op gd : Nat → Bool) (b : Bool) (bHW : Hh * W ≤ 64) (hk : k < Hh * W) (ho1 : op k = true) (hg1 : gd k = !b) (hgd : ∀ k, k < 64 → hg k = bI (gd k)) (hR : HR W Hh op gd r c) :
    ∃ (hg' : tA) (r' c' : tR), pm_D sc (d + 2) mX1_changeGuard [.ref 2, .int (nI k), .int (bI b)] (hp (hw, hh, hc, ho, hg) r c P w B M N O) (some (.int (hc + (if b then 1 else -1)))) (hp (hw, hh, hc + (if b then 1 else -1), ho, hg') (r') (c') P w B M N O) ∧ (∀ j, j < 64 → hg' j = bI (gdU gd k b j)) ∧ HR W Hh op (gdU gd k b) r' c' := by
  have hin : vp_in (nI k) 64 := nu_in (by omega) (by omega)
  have hcl : (nI k).toNatClampNeg = k := nu_cl (by omega)
  obtain ⟨q1, hq1⟩ := rO_some (st := 1) (eg := egR W) hk ho1
  obtain ⟨q2, hq2⟩ := rO_some (st := W) (eg := egC W) hk ho1
  have hg' : ∀ j, j < 64 → upd hg (nI k).toNatClampNeg (bI b) j = bI (gdU gd k b j) := fun j hj => by
    rw [hcl, nu_upd]
    unfold gdU
    split
    · rfl
    · exact hgd j hj
  cases b with
  | true =>
    have hg1 : gd k = false := hg1
    obtain ⟨r1, t1, s1⟩ := c_addGuards_r sc d (hw, hh, hc, ho, upd hg (nI k).toNatClampNeg (bI true)) r c P w B M N O op 1 (egR W) (Hh * W) k q1 (rG op 1 (egR W) gd (Hh * W) q1 + 1) _ 1 bHW hk hq1 (nI_1 _) hR.1
    obtain ⟨c1, t2, s2⟩ := c_addGuards_c sc d (hw, hh, hc, ho, upd hg (nI k).toNatClampNeg (bI true)) r1 c P w B M N O op W (egC W) (Hh * W) k q2 (rG op W (egC W) gd (Hh * W) q2 + 1) _ 1 bHW hk hq2 (nI_1 _) hR.2
    exact ⟨_, r1, c1, pm_in (pm_go [] 40 ⟨fun q => absurd q (by decide), fun q => ⟨hin, Or.inr rfl, _, _, t1, _, _, t2, rfl, rfl⟩⟩), hg', RC_G s1 (fun q _ => (rG_come hk hq1 hg1 q).symm), RC_G s2 (fun q _ => (rG_come hk hq2 hg1 q).symm)⟩
  | false =>
    rw [if_neg Bool.false_ne_true]
    have key : ∀ x : Int32, pm_ib 0 hc x = hc + x := fun _ => rfl
    have hg1 : gd k = true := hg1
    have p1 := rG_pos hk hq1 hg1
    have p2 := rG_pos hk hq2 hg1
    obtain ⟨r1, t1, s1⟩ := c_addGuards_r sc d (hw, hh, hc, ho, upd hg (nI k).toNatClampNeg (bI false)) r c P w B M N O op 1 (egR W) (Hh * W) k q1 (rG op 1 (egR W) gd (Hh * W) q1 - 1) _ (-1) bHW hk hq1 (sb_m1 p1) hR.1
    obtain ⟨c1, t2, s2⟩ := c_addGuards_c sc d (hw, hh, hc, ho, upd hg (nI k).toNatClampNeg (bI false)) r1 c P w B M N O op W (egC W) (Hh * W) k q2 (rG op W (egC W) gd (Hh * W) q2 - 1) _ (-1) bHW hk hq2 (sb_m1 p2) hR.2
    refine ⟨upd hg (nI k).toNatClampNeg (bI false), r1, c1, pm_in (pm_go [] 40 ⟨fun q => ⟨hin, Or.inl rfl, _, _, t1, _, _, t2, ?_, ?_⟩, fun q => absurd rfl q⟩), hg', RC_G s1 (fun q _ => (rG_go hk hq1 hg1 q).symm), RC_G s2 (fun q _ => (rG_go hk hq2 hg1 q).symm)⟩
    · exact congrArg (fun z => some (Value.int z)) (key (-1))
    · rw [← key (-1)]
      rfl
