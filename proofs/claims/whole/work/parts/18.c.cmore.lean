/-! HOW FEW MORE, the class -/
theorem ct_cut {p : Nat → Bool} {a n : Nat} (h : ∀ i, p i = true → i < a) (ha : a ≤ n) : ct p n = ct p a := by
  obtain ⟨k, rfl⟩ : ∃ k, n = a + k := ⟨n - a, by omega⟩
  rw [ct_add, ct_none (p := fun i => p (a + i)) k (fun i _ => ?_), Nat.add_zero]
  cases e : p (a + i) with
  | false => rfl
  | true => have := h _ e; omega
theorem ul_at (f : Nat → Int64) (k : Nat) (x : Int64) (j : Nat) : vp_updL f k x j = if j = k then x else f j := rfl
theorem nI_subN {a b : Nat} (h : b ≤ a) : nI a - nI b = nI (a - b) := by
  have e : nI a = nI (a - b) + nI b := by rw [nI_add, Nat.sub_add_cancel h]
  rw [e, Int32.add_sub_cancel]
theorem j_bitCount (sc : Nat × (Nat → Int32)) (d : Nat) (h : pm_H) (x : Int64) : pm_D sc (d + 1) mJ13_bitCount_95d88 [.long x] h (some (.int (nI (ct (bS x) 64)))) h := by
  have g6 : ∀ g : Int64, pm_Go sc d (pm_cd mJ13_bitCount_95d88) (44, [some (.long g), none], [], h) (fun r2 h2 => r2 = some (.int (pm_ib 3 g.toInt32 127)) ∧ h2 = h) := fun g => pm_go1 [] 10 ⟨rfl, rfl⟩
  have g5 : ∀ g : Int64, pm_Go sc d (pm_cd mJ13_bitCount_95d88) (26, [some (.long g), none], [], h) (fun r2 h2 => r2 = some (.int (let e := pm_lb 0 g (pm_ls 2 g 8); let f := pm_lb 0 e (pm_ls 2 e 16); let k := pm_lb 0 f (pm_ls 2 f 32); pm_ib 3 k.toInt32 127)) ∧ h2 = h) := fun g => pm_go1 [44] 30 (g6 _)
  have g4 : ∀ g : Int64, pm_Go sc d (pm_cd mJ13_bitCount_95d88) (18, [some (.long g), none], [], h) (fun r2 h2 => r2 = some (.int (let c := pm_lb 3 (pm_lb 0 g (pm_ls 2 g 4)) 1085102592571150095; let e := pm_lb 0 c (pm_ls 2 c 8); let f := pm_lb 0 e (pm_ls 2 e 16); let k := pm_lb 0 f (pm_ls 2 f 32); pm_ib 3 k.toInt32 127)) ∧ h2 = h) := fun g => pm_go1 [26] 30 (g5 _)
  have g3 : ∀ g : Int64, pm_Go sc d (pm_cd mJ13_bitCount_95d88) (8, [some (.long g), none], [], h) (fun r2 h2 => r2 = some (.int (let b := pm_lb 0 (pm_lb 3 g 3689348814741910323) (pm_lb 3 (pm_ls 2 g 2) 3689348814741910323); let c := pm_lb 3 (pm_lb 0 b (pm_ls 2 b 4)) 1085102592571150095; let e := pm_lb 0 c (pm_ls 2 c 8); let f := pm_lb 0 e (pm_ls 2 e 16); let k := pm_lb 0 f (pm_ls 2 f 32); pm_ib 3 k.toInt32 127)) ∧ h2 = h) := fun g => pm_go1 [18] 30 (g4 _)
  rw [← swar_eq]
  exact pm_in (pm_go [8] 30 (g3 _))
theorem c_unseen_r (sc : Nat × (Nat → Int32)) (d : Nat) (H : tH) (r : tR) (c : tR) (P : tP) (w1 : Value) (w2 : Value) (wb : Int32) (wu : Nat → Int64) (B : tB) (M : tM) (N : tN) (O : tO) (op : Nat → Bool) (st1 : Nat) (eg1 : Nat → Bool) (st2 : Nat) (eg2 : Nat → Bool) (nn : Nat) (G1 G2 : Nat → Nat) (hn : nn ≤ 64) (hst : 1 ≤ st1) (heg : ∀ z, eg1 z = false → st1 ≤ z) (R1 : RC op st1 eg1 nn G1 r) (R2 : RC op st2 eg2 nn G2 c) (g1 : ∀ k, G1 k ≤ 64) (g2 : ∀ k, G2 k ≤ 64) (q : Nat) (hq : q < rC op st1 eg1 nn) :
    ∃ x : Int64, pm_D sc (d + 2) mX4_findUnseenFar [.ref 20, .int (nI q)] (hp H r c P (.ref 5, .ref 10, wb, wu) B M N O) (some (.long x)) (hp H r c P (.ref 5, .ref 10, wb, wu) B M N O) ∧ ∀ v, bS x v = true ↔ (G1 q = 0 ∧ G2 v = 0 ∧ Ed op st1 eg1 st2 eg2 nn q v) := by
  have a64 := rC_le op st1 eg1 nn
  have b64 := rC_le op st2 eg2 nn
  have hG1 := g1 q
  have hcells := r_cells (op := op) (st := st1) (eg := eg1) hst heg nn q hq
  have hN : rN op st1 eg1 nn q ≤ nn := ct_le _ _
  have iw : vp_in (nI q) 64 := nu_in (by omega) (by omega)
  have el : r.2.2.2.2.1 (nI q).toNatClampNeg = nI (rN op st1 eg1 nn q) := by rw [nu_cl (by omega)]; exact (R1.2.2.2 _ hq).2.1
  have eg : r.2.2.2.2.2 (nI q).toNatClampNeg = nI (G1 q) := by rw [nu_cl (by omega)]; exact (R1.2.2.2 _ hq).2.2
  by_cases hz : G1 q = 0
  · have loop : ∀ (t i : Nat) (x : Int64) (l5 : Option Value), i + t = rN op st1 eg1 nn q → (∀ v, bS x v = true ↔ (G2 v = 0 ∧ ∃ i', i' < i ∧ rO op st2 eg2 nn (rL op st1 eg1 nn q + i' * st1) = some v)) →
        pm_Go sc (d + 1) (pm_cd mX4_findUnseenFar) (12, [some (.ref 20), some (.int (nI q)), some (.long x), none, some (.int (nI i)), l5], [], (hp H r c P (.ref 5, .ref 10, wb, wu) B M N O)) (fun r2 h2 => ∃ x : Int64, r2 = some (.long x) ∧ h2 = (hp H r c P (.ref 5, .ref 10, wb, wu) B M N O) ∧ ∀ v, bS x v = true ↔ (G1 q = 0 ∧ G2 v = 0 ∧ Ed op st1 eg1 st2 eg2 nn q v)) := by
      intro t
      induction t with
      | zero =>
        intro i x l5 hit hx
        refine pm_go1 [12] 20 ⟨iw, fun _ => ⟨x, rfl, rfl, fun v => ?_⟩, fun z => absurd ?_ z⟩
        · rw [hx v]
          constructor
          · rintro ⟨h1, i', h2, h3⟩
            obtain ⟨cz, co⟩ := hcells.2.1 i' (by omega)
            exact ⟨hz, h1, _, cz, co, h3⟩
          · rintro ⟨_, h1, z, z1, z2, z3⟩
            obtain ⟨i2, y1, y2⟩ := hcells.2.2 z z2
            rw [y2] at z3
            exact ⟨h1, i2, by omega, z3⟩
        · rw [el, nu_le (by omega) (by omega)]; omega
      | succ t ih =>
        intro i x l5 hit hx
        have c1 : ¬ r.2.2.2.2.1 (nI q).toNatClampNeg ≤ nI i := by rw [el, nu_le (by omega) (by omega)]; omega
        obtain ⟨cz, co⟩ := hcells.2.1 i (by omega)
        have hop : op (rL op st1 eg1 nn q + i * st1) = true := by
          cases ho : op (rL op st1 eg1 nn q + i * st1) with
          | true => rfl
          | false => rw [(rO_op nn _ cz).mpr ho] at co; cases co
        obtain ⟨v, hv⟩ := rO_some (st := st2) (eg := eg2) cz hop
        have hvb := rO_lt _ _ _ hv
        have hG2 := g2 v
        have call := c_cellOf_r sc d H r c P (.ref 5, .ref 10, wb, wu) B M N O op st1 eg1 nn q i G1 hn hq R1
        have iz : vp_in (nI (rL op st1 eg1 nn q + i * st1)) 64 := nu_in (by omega) (by omega)
        have ev : c.2.2.1 (nI (rL op st1 eg1 nn q + i * st1)).toNatClampNeg = nI v := by rw [nu_cl (by omega), R2.2.2.1 _ cz, hv]; rfl
        have mid : ∀ y : Int32, y = nI v → pm_Go sc (d + 1) (pm_cd mX4_findUnseenFar) (29, [some (.ref 20), some (.int (nI q)), some (.long x), none, some (.int (nI i)), some (.int y)], [], (hp H r c P (.ref 5, .ref 10, wb, wu) B M N O)) (fun r2 h2 => ∃ x : Int64, r2 = some (.long x) ∧ h2 = (hp H r c P (.ref 5, .ref 10, wb, wu) B M N O) ∧ ∀ v, bS x v = true ↔ (G1 q = 0 ∧ G2 v = 0 ∧ Ed op st1 eg1 st2 eg2 nn q v)) := by
          intro y hy
          subst hy
          have c2 : ¬ nI v = -1 := en_ne (q := v) (by omega)
          have iv : vp_in (nI v) 64 := nu_in (by omega) (by omega)
          have e2 : c.2.2.2.2.2 (nI v).toNatClampNeg = nI (G2 v) := by rw [nu_cl (by omega)]; exact (R2.2.2.2 _ hvb).2.2
          by_cases hz2 : G2 v = 0
          · have c3 : c.2.2.2.2.2 (nI v).toNatClampNeg = 0 := by rw [e2, hz2]; rfl
            have nxt := ih (i + 1) (pm_lb 4 x (pm_ls 0 1 (nI v))) (some (.int (nI v))) (by omega) (fun u => by
              rw [bS_add x (by omega), Bool.or_eq_true, decide_eq_true_eq, hx u]
              constructor
              · rintro (⟨h1, i', h2, h3⟩ | h)
                · exact ⟨h1, i', by omega, h3⟩
                · rw [h]; exact ⟨hz2, i, by omega, hv⟩
              · rintro ⟨h1, i', h2, h3⟩
                by_cases e : i' = i
                · rw [e, hv] at h3
                  cases h3
                  exact Or.inr rfl
                · exact Or.inl ⟨h1, i', by omega, h3⟩)
            rw [← nI_1] at nxt
            exact pm_go1 [12] 30 ⟨fun z => absurd z c2, fun _ => ⟨iv, fun z => absurd c3 z, fun _ => nxt⟩⟩
          · have c3 : ¬ c.2.2.2.2.2 (nI v).toNatClampNeg = 0 := by rw [e2, nu_0, nu_eq (by omega) (by omega)]; exact hz2
            have nxt := ih (i + 1) x (some (.int (nI v))) (by omega) (fun u => by
              rw [hx u]
              constructor
              · rintro ⟨h1, i', h2, h3⟩
                exact ⟨h1, i', by omega, h3⟩
              · rintro ⟨h1, i', h2, h3⟩
                by_cases e : i' = i
                · rw [e, hv] at h3
                  cases h3
                  exact absurd h1 hz2
                · exact ⟨h1, i', by omega, h3⟩)
            rw [← nI_1] at nxt
            exact pm_go1 [12] 30 ⟨fun z => absurd z c2, fun _ => ⟨iv, fun _ => nxt, fun z => absurd z c3⟩⟩
        exact pm_go1 [29] 30 ⟨iw, fun z => absurd z c1, fun _ => ⟨_, _, call, iz, mid _ ev⟩⟩
    have out := loop (rN op st1 eg1 nn q) 0 0 none (by omega) (fun v => by
      rw [bS_0]
      exact ⟨fun z => (by cases z), fun ⟨_, i', h, _⟩ => absurd h (by omega)⟩)
    have c0 : r.2.2.2.2.2 (nI q).toNatClampNeg ≤ 0 := by rw [eg, hz]; decide
    obtain ⟨r2, h2, t1, x, rfl, rfl, t2⟩ := pm_inE (mi := mX4_findUnseenFar) (av := [.ref 20, .int (nI q)]) (h := (hp H r c P (.ref 5, .ref 10, wb, wu) B M N O)) (pm_go [12] 20 ⟨iw, fun _ => out, fun z => absurd c0 z⟩)
    exact ⟨x, t1, t2⟩
  · have c0 : ¬ r.2.2.2.2.2 (nI q).toNatClampNeg ≤ 0 := by rw [eg, nu_0, nu_le (by omega) (by omega)]; omega
    refine ⟨0, pm_in (pm_go [12] 20 ⟨iw, fun z => absurd z c0, fun _ => ⟨rfl, rfl⟩⟩), fun v => ?_⟩
    rw [bS_0]
    exact ⟨fun z => (by cases z), fun z => absurd z.1 hz⟩
theorem c_unseen_c (sc : Nat × (Nat → Int32)) (d : Nat) (H : tH) (r : tR) (c : tR) (P : tP) (w1 : Value) (w2 : Value) (wb : Int32) (wu : Nat → Int64) (B : tB) (M : tM) (N : tN) (O : tO) (op : Nat → Bool) (st1 : Nat) (eg1 : Nat → Bool) (st2 : Nat) (eg2 : Nat → Bool) (nn : Nat) (G1 G2 : Nat → Nat) (hn : nn ≤ 64) (hst : 1 ≤ st1) (heg : ∀ z, eg1 z = false → st1 ≤ z) (R1 : RC op st1 eg1 nn G1 c) (R2 : RC op st2 eg2 nn G2 r) (g1 : ∀ k, G1 k ≤ 64) (g2 : ∀ k, G2 k ≤ 64) (q : Nat) (hq : q < rC op st1 eg1 nn) :
    ∃ x : Int64, pm_D sc (d + 2) mX4_findUnseenFar [.ref 20, .int (nI q)] (hp H r c P (.ref 10, .ref 5, wb, wu) B M N O) (some (.long x)) (hp H r c P (.ref 10, .ref 5, wb, wu) B M N O) ∧ ∀ v, bS x v = true ↔ (G1 q = 0 ∧ G2 v = 0 ∧ Ed op st1 eg1 st2 eg2 nn q v) := by
  have a64 := rC_le op st1 eg1 nn
  have b64 := rC_le op st2 eg2 nn
  have hG1 := g1 q
  have hcells := r_cells (op := op) (st := st1) (eg := eg1) hst heg nn q hq
  have hN : rN op st1 eg1 nn q ≤ nn := ct_le _ _
  have iw : vp_in (nI q) 64 := nu_in (by omega) (by omega)
  have el : c.2.2.2.2.1 (nI q).toNatClampNeg = nI (rN op st1 eg1 nn q) := by rw [nu_cl (by omega)]; exact (R1.2.2.2 _ hq).2.1
  have eg : c.2.2.2.2.2 (nI q).toNatClampNeg = nI (G1 q) := by rw [nu_cl (by omega)]; exact (R1.2.2.2 _ hq).2.2
  by_cases hz : G1 q = 0
  · have loop : ∀ (t i : Nat) (x : Int64) (l5 : Option Value), i + t = rN op st1 eg1 nn q → (∀ v, bS x v = true ↔ (G2 v = 0 ∧ ∃ i', i' < i ∧ rO op st2 eg2 nn (rL op st1 eg1 nn q + i' * st1) = some v)) →
        pm_Go sc (d + 1) (pm_cd mX4_findUnseenFar) (12, [some (.ref 20), some (.int (nI q)), some (.long x), none, some (.int (nI i)), l5], [], (hp H r c P (.ref 10, .ref 5, wb, wu) B M N O)) (fun r2 h2 => ∃ x : Int64, r2 = some (.long x) ∧ h2 = (hp H r c P (.ref 10, .ref 5, wb, wu) B M N O) ∧ ∀ v, bS x v = true ↔ (G1 q = 0 ∧ G2 v = 0 ∧ Ed op st1 eg1 st2 eg2 nn q v)) := by
      intro t
      induction t with
      | zero =>
        intro i x l5 hit hx
        refine pm_go1 [12] 20 ⟨iw, fun _ => ⟨x, rfl, rfl, fun v => ?_⟩, fun z => absurd ?_ z⟩
        · rw [hx v]
          constructor
          · rintro ⟨h1, i', h2, h3⟩
            obtain ⟨cz, co⟩ := hcells.2.1 i' (by omega)
            exact ⟨hz, h1, _, cz, co, h3⟩
          · rintro ⟨_, h1, z, z1, z2, z3⟩
            obtain ⟨i2, y1, y2⟩ := hcells.2.2 z z2
            rw [y2] at z3
            exact ⟨h1, i2, by omega, z3⟩
        · rw [el, nu_le (by omega) (by omega)]; omega
      | succ t ih =>
        intro i x l5 hit hx
        have c1 : ¬ c.2.2.2.2.1 (nI q).toNatClampNeg ≤ nI i := by rw [el, nu_le (by omega) (by omega)]; omega
        obtain ⟨cz, co⟩ := hcells.2.1 i (by omega)
        have hop : op (rL op st1 eg1 nn q + i * st1) = true := by
          cases ho : op (rL op st1 eg1 nn q + i * st1) with
          | true => rfl
          | false => rw [(rO_op nn _ cz).mpr ho] at co; cases co
        obtain ⟨v, hv⟩ := rO_some (st := st2) (eg := eg2) cz hop
        have hvb := rO_lt _ _ _ hv
        have hG2 := g2 v
        have call := c_cellOf_c sc d H r c P (.ref 10, .ref 5, wb, wu) B M N O op st1 eg1 nn q i G1 hn hq R1
        have iz : vp_in (nI (rL op st1 eg1 nn q + i * st1)) 64 := nu_in (by omega) (by omega)
        have ev : r.2.2.1 (nI (rL op st1 eg1 nn q + i * st1)).toNatClampNeg = nI v := by rw [nu_cl (by omega), R2.2.2.1 _ cz, hv]; rfl
        have mid : ∀ y : Int32, y = nI v → pm_Go sc (d + 1) (pm_cd mX4_findUnseenFar) (29, [some (.ref 20), some (.int (nI q)), some (.long x), none, some (.int (nI i)), some (.int y)], [], (hp H r c P (.ref 10, .ref 5, wb, wu) B M N O)) (fun r2 h2 => ∃ x : Int64, r2 = some (.long x) ∧ h2 = (hp H r c P (.ref 10, .ref 5, wb, wu) B M N O) ∧ ∀ v, bS x v = true ↔ (G1 q = 0 ∧ G2 v = 0 ∧ Ed op st1 eg1 st2 eg2 nn q v)) := by
          intro y hy
          subst hy
          have c2 : ¬ nI v = -1 := en_ne (q := v) (by omega)
          have iv : vp_in (nI v) 64 := nu_in (by omega) (by omega)
          have e2 : r.2.2.2.2.2 (nI v).toNatClampNeg = nI (G2 v) := by rw [nu_cl (by omega)]; exact (R2.2.2.2 _ hvb).2.2
          by_cases hz2 : G2 v = 0
          · have c3 : r.2.2.2.2.2 (nI v).toNatClampNeg = 0 := by rw [e2, hz2]; rfl
            have nxt := ih (i + 1) (pm_lb 4 x (pm_ls 0 1 (nI v))) (some (.int (nI v))) (by omega) (fun u => by
              rw [bS_add x (by omega), Bool.or_eq_true, decide_eq_true_eq, hx u]
              constructor
              · rintro (⟨h1, i', h2, h3⟩ | h)
                · exact ⟨h1, i', by omega, h3⟩
                · rw [h]; exact ⟨hz2, i, by omega, hv⟩
              · rintro ⟨h1, i', h2, h3⟩
                by_cases e : i' = i
                · rw [e, hv] at h3
                  cases h3
                  exact Or.inr rfl
                · exact Or.inl ⟨h1, i', by omega, h3⟩)
            rw [← nI_1] at nxt
            exact pm_go1 [12] 30 ⟨fun z => absurd z c2, fun _ => ⟨iv, fun z => absurd c3 z, fun _ => nxt⟩⟩
          · have c3 : ¬ r.2.2.2.2.2 (nI v).toNatClampNeg = 0 := by rw [e2, nu_0, nu_eq (by omega) (by omega)]; exact hz2
            have nxt := ih (i + 1) x (some (.int (nI v))) (by omega) (fun u => by
              rw [hx u]
              constructor
              · rintro ⟨h1, i', h2, h3⟩
                exact ⟨h1, i', by omega, h3⟩
              · rintro ⟨h1, i', h2, h3⟩
                by_cases e : i' = i
                · rw [e, hv] at h3
                  cases h3
                  exact absurd h1 hz2
                · exact ⟨h1, i', by omega, h3⟩)
            rw [← nI_1] at nxt
            exact pm_go1 [12] 30 ⟨fun z => absurd z c2, fun _ => ⟨iv, fun _ => nxt, fun z => absurd z c3⟩⟩
        exact pm_go1 [29] 30 ⟨iw, fun z => absurd z c1, fun _ => ⟨_, _, call, iz, mid _ ev⟩⟩
    have out := loop (rN op st1 eg1 nn q) 0 0 none (by omega) (fun v => by
      rw [bS_0]
      exact ⟨fun z => (by cases z), fun ⟨_, i', h, _⟩ => absurd h (by omega)⟩)
    have c0 : c.2.2.2.2.2 (nI q).toNatClampNeg ≤ 0 := by rw [eg, hz]; decide
    obtain ⟨r2, h2, t1, x, rfl, rfl, t2⟩ := pm_inE (mi := mX4_findUnseenFar) (av := [.ref 20, .int (nI q)]) (h := (hp H r c P (.ref 10, .ref 5, wb, wu) B M N O)) (pm_go [12] 20 ⟨iw, fun _ => out, fun z => absurd c0 z⟩)
    exact ⟨x, t1, t2⟩
  · have c0 : ¬ c.2.2.2.2.2 (nI q).toNatClampNeg ≤ 0 := by rw [eg, nu_0, nu_le (by omega) (by omega)]; omega
    refine ⟨0, pm_in (pm_go [12] 20 ⟨iw, fun z => absurd z c0, fun _ => ⟨rfl, rfl⟩⟩), fun v => ?_⟩
    rw [bS_0]
    exact ⟨fun z => (by cases z), fun z => absurd z.1 hz⟩
