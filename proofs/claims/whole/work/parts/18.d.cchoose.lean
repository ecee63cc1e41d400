/-! the class's search over the near runs -/
theorem c_choose_r (sc : Nat × (Nat → Int32)) (d : Nat) (H : tH) (r : tR) (c : tR) (p1 : Value) (p2 : Value) (pf : tA) (pn : tA) (pr : tA) (pw : tA) (w1 : Value) (w2 : Value) (wb : Int32) (wu : Nat → Int64) (B : tB) (M : tM) (N : tN) (O : tO) (op : Nat → Bool) (st1 : Nat) (eg1 : Nat → Bool) (st2 : Nat) (eg2 : Nat → Bool) (nn : Nat) (G1 G2 : Nat → Nat) (hn : nn ≤ 64) (hst : 1 ≤ st1) (heg : ∀ z, eg1 z = false → st1 ≤ z) (R1 : RC op st1 eg1 nn G1 r) (R2 : RC op st2 eg2 nn G2 c) (U V : Nat → Bool) (uf : Nat → Nat → Bool) (huf : ∀ i v, uf i v = true ↔ (U i = true ∧ V v = true ∧ Ed op st1 eg1 st2 eg2 nn i v)) (hwu : ∀ i v, i < rC op st1 eg1 nn → bS (wu i) v = uf i v) (a12 : rC op st1 eg1 nn ≤ 12) :
    ∀ (t run best : Nat) (Cx Yx : Int64) (P : tP), run + t = rC op st1 eg1 nn → best ≤ 64 → (∀ i, bS Cx i = true → i < run) → (∀ v, bS Yx v = true → v < rC op st2 eg2 nn) → (∀ i v, i < run → bS Cx i = false → uf i v = true → bS Yx v = true) →
      ∃ (best' : Nat) (P' : tP), pm_D sc (d + t + 4) mX4_choose [.ref 20, .int (nI run), .long Cx, .long Yx] (hp H r c (P) (.ref 5, .ref 10, nI best, wu) B M N O) none (hp H r c (P') (.ref 5, .ref 10, nI best', wu) B M N O) ∧ ChS (rC op st1 eg1 nn) (rC op st2 eg2 nn) (Ed op st1 eg1 st2 eg2 nn) U V uf run (bS Cx) (bS Yx) best best' := by
  have a64 := rC_le op st1 eg1 nn
  have b64 := rC_le op st2 eg2 nn
  have e1 := R1.1
  intro t
  induction t with
  | zero =>
    intro run best Cx Yx P hrt hb hC hY hu
    obtain ⟨p1, p2, pf, pn, pr, pw⟩ := P
    have kC : ct (bS Cx) 64 = ct (bS Cx) (rC op st1 eg1 nn) := ct_cut (fun i hi => by have := hC i hi; omega) (by omega)
    have kY : ct (bS Yx) 64 = ct (bS Yx) (rC op st2 eg2 nn) := ct_cut hY (by omega)
    have lC := ct_le (bS Cx) (rC op st1 eg1 nn)
    have lY := ct_le (bS Yx) (rC op st2 eg2 nn)
    have j1 := j_bitCount sc (d + 2) (hp H r c (p1, p2, pf, pn, pr, pw) (.ref 5, .ref 10, nI best, wu) B M N O) Cx
    have j2 := j_bitCount sc (d + 2) (hp H r c (p1, p2, pf, pn, pr, pw) (.ref 5, .ref 10, nI best, wu) B M N O) Yx
    rw [kC] at j1
    rw [kY] at j2
    by_cases p1' : best ≤ ct (bS Cx) (rC op st1 eg1 nn)
    · refine ⟨best, _, pm_in (pm_go [] 40 ⟨_, _, j1, _, _, j2, fun _ => ⟨rfl, rfl⟩, fun z => absurd ?_ z⟩), Ch_prune hC (Or.inl p1')⟩
      rw [nu_le (by omega) (by omega)]; exact p1'
    · have b1 : ¬ nI best ≤ nI (ct (bS Cx) (rC op st1 eg1 nn)) := by rw [nu_le (by omega) (by omega)]; exact p1'
      by_cases p2' : best ≤ ct (bS Yx) (rC op st2 eg2 nn)
      · have b2 : ¬ nI (ct (bS Yx) (rC op st2 eg2 nn)) < nI best := by rw [nu_lt (by omega) (by omega)]; omega
        exact ⟨best, _, pm_in (pm_go [] 40 ⟨_, _, j1, _, _, j2, fun z => absurd z b1, fun _ => ⟨fun z => absurd z b2, fun _ => ⟨rfl, rfl⟩⟩⟩), Ch_prune hC (Or.inr p2')⟩
      · have b2 : nI (ct (bS Yx) (rC op st2 eg2 nn)) < nI best := by rw [nu_lt (by omega) (by omega)]; omega
        have b3 : r.1 ≤ nI run := by rw [e1, nu_le (by omega) (by omega)]; omega
        obtain ⟨m, pf', pn', pr', pw', t1, n1⟩ := c_most_r sc d H r c p1 p2 pf pn pr pw (.ref 5, .ref 10, nI best, wu) B M N O op st1 eg1 st2 eg2 nn G1 G2 hn hst heg R1 R2 Cx Yx
        have lm := nu_leX n1
        have ek : nI (ct (bS Cx) (rC op st1 eg1 nn)) + nI (ct (bS Yx) (rC op st2 eg2 nn)) - nI m = nI (ct (bS Cx) (rC op st1 eg1 nn) + ct (bS Yx) (rC op st2 eg2 nn) - m) := by rw [nI_add, nI_subN (by omega)]
        have mid : ∀ g : Int32, g = nI (ct (bS Cx) (rC op st1 eg1 nn) + ct (bS Yx) (rC op st2 eg2 nn) - m) → ∃ best', pm_Go sc (d + 3) (pm_cd mX4_choose) (36, [some (.ref 20), some (.int (nI run)), some (.long Cx), none, some (.long Yx), none, some (.int (nI (ct (bS Cx) (rC op st1 eg1 nn)))), some (.int (nI (ct (bS Yx) (rC op st2 eg2 nn)))), none, none], [.int g], (hp H r c (.ref 5, .ref 10, pf', pn', pr', pw') (.ref 5, .ref 10, nI best, wu) B M N O)) (fun r2 h2 => r2 = none ∧ h2 = (hp H r c (.ref 5, .ref 10, pf', pn', pr', pw') (.ref 5, .ref 10, nI best', wu) B M N O)) ∧ ((best' = best ∧ best + m ≤ ct (bS Cx) (rC op st1 eg1 nn) + ct (bS Yx) (rC op st2 eg2 nn)) ∨ (best' ≤ best ∧ best' + m = ct (bS Cx) (rC op st1 eg1 nn) + ct (bS Yx) (rC op st2 eg2 nn))) := by
          intro g hg
          subst hg
          generalize hg : ct (bS Cx) (rC op st1 eg1 nn) + ct (bS Yx) (rC op st2 eg2 nn) - m = g
          obtain ⟨best', e3, e4⟩ : ∃ best' : Nat, (if nI g < nI best then nI g else nI best) = nI best' ∧ ((best' = best ∧ best + m ≤ ct (bS Cx) (rC op st1 eg1 nn) + ct (bS Yx) (rC op st2 eg2 nn)) ∨ (best' ≤ best ∧ best' + m = ct (bS Cx) (rC op st1 eg1 nn) + ct (bS Yx) (rC op st2 eg2 nn))) := by
            by_cases hlt : g < best
            · exact ⟨g, if_pos (by rw [nu_lt (by omega) (by omega)]; exact hlt), Or.inr ⟨by omega, by omega⟩⟩
            · exact ⟨best, if_neg (by rw [nu_lt (by omega) (by omega)]; exact hlt), Or.inl ⟨rfl, by omega⟩⟩
          refine ⟨best', ?_, e4⟩
          rw [← e3]
          exact pm_go1 [] 20 ⟨rfl, rfl⟩
        obtain ⟨best', m1, m2⟩ := mid _ ek
        exact ⟨best', _, pm_in (pm_go [36] 60 ⟨_, _, j1, _, _, j2, fun z => absurd z b1, fun _ => ⟨fun _ => ⟨fun _ => ⟨_, _, t1, m1⟩, fun z => absurd b3 z⟩, fun z => absurd b2 z⟩⟩), Ch_leaf (fun i v => Ed_lt) huf hu (by omega) n1 m2⟩
  | succ t ih =>
    intro run best Cx Yx P hrt hb hC hY hu
    have kC : ct (bS Cx) 64 = ct (bS Cx) (rC op st1 eg1 nn) := ct_cut (fun i hi => by have := hC i hi; omega) (by omega)
    have kY : ct (bS Yx) 64 = ct (bS Yx) (rC op st2 eg2 nn) := ct_cut hY (by omega)
    have lC := ct_le (bS Cx) (rC op st1 eg1 nn)
    have lY := ct_le (bS Yx) (rC op st2 eg2 nn)
    have j1 := j_bitCount sc (d + t + 3) (hp H r c (P) (.ref 5, .ref 10, nI best, wu) B M N O) Cx
    have j2 := j_bitCount sc (d + t + 3) (hp H r c (P) (.ref 5, .ref 10, nI best, wu) B M N O) Yx
    rw [kC] at j1
    rw [kY] at j2
    by_cases p1' : best ≤ ct (bS Cx) (rC op st1 eg1 nn)
    · refine ⟨best, _, pm_in (pm_go [] 40 ⟨_, _, j1, _, _, j2, fun _ => ⟨rfl, rfl⟩, fun z => absurd ?_ z⟩), Ch_prune hC (Or.inl p1')⟩
      rw [nu_le (by omega) (by omega)]; exact p1'
    · have b1 : ¬ nI best ≤ nI (ct (bS Cx) (rC op st1 eg1 nn)) := by rw [nu_le (by omega) (by omega)]; exact p1'
      by_cases p2' : best ≤ ct (bS Yx) (rC op st2 eg2 nn)
      · have b2 : ¬ nI (ct (bS Yx) (rC op st2 eg2 nn)) < nI best := by rw [nu_lt (by omega) (by omega)]; omega
        exact ⟨best, _, pm_in (pm_go [] 40 ⟨_, _, j1, _, _, j2, fun z => absurd z b1, fun _ => ⟨fun z => absurd z b2, fun _ => ⟨rfl, rfl⟩⟩⟩), Ch_prune hC (Or.inr p2')⟩
      · have b2 : nI (ct (bS Yx) (rC op st2 eg2 nn)) < nI best := by rw [nu_lt (by omega) (by omega)]; omega
        have b3 : ¬ r.1 ≤ nI run := by rw [e1, nu_le (by omega) (by omega)]; omega
        have b4 : nI run < 12 := by rw [nu_12, nu_lt (by omega) (by omega)]; omega
        have ir : vp_in (nI run) 12 := nu_in (by omega) (by omega)
        have cr : (nI run).toNatClampNeg = run := nu_cl (by omega)
        have gr : ∀ v, bS (pm_lb 4 Yx (wu run)) v = true ↔ (bS Yx v = true ∨ uf run v = true) := fun v => by rw [bS_or, Bool.or_eq_true, hwu run v (by omega)]
        obtain ⟨q1, P1, s1, s2⟩ := ih (run + 1) best Cx (pm_lb 4 Yx (wu run)) P (by omega) hb (fun i hi => by have := hC i hi; omega) (fun v hv => by
          rcases (gr v).mp hv with z | z
          · exact hY v z
          · exact (Ed_lt ((huf run v).mp z).2.2).2) (fun i v hi hc hf => (gr v).mpr (by
          by_cases e : i = run
          · rw [e] at hf; exact Or.inr hf
          · exact Or.inl (hu i v (by omega) hc hf)))
        have hq1 := s2.1
        rw [← nI_1] at s1
        by_cases eg : pm_lb 4 Yx (wu run) = Yx
        · have tst := lc_xy.mpr eg
          have last : pm_Go sc (d + t + 4) (pm_cd mX4_choose) (44, [some (.ref 20), some (.int (nI run)), some (.long Cx), none, some (.long Yx), none, some (.int (nI (ct (bS Cx) (rC op st1 eg1 nn)))), some (.int (nI (ct (bS Yx) (rC op st2 eg2 nn)))), none, none], [], (hp H r c (P) (.ref 5, .ref 10, nI best, wu) B M N O)) (fun r2 h2 => r2 = none ∧ h2 = (hp H r c (P1) (.ref 5, .ref 10, nI q1, wu) B M N O)) := by
            refine pm_go1 [] 40 ⟨ir, ?_⟩
            rw [cr]
            exact ⟨_, _, s1, fun _ => ⟨rfl, rfl⟩, fun z => absurd tst z⟩
          refine ⟨q1, P1, pm_in (pm_go [44] 40 ⟨_, _, j1, _, _, j2, fun z => absurd z b1, fun _ => ⟨fun _ => ⟨fun z => absurd z b3, fun _ => ⟨fun _ => last, fun z => absurd b4 z⟩⟩, fun z => absurd b2 z⟩⟩), Ch_two (C1 := fun i => bS Cx i || decide (i = run)) (by omega) hC (fun i => by simp) gr s2 (Or.inr ⟨rfl, fun v hv => ?_⟩)⟩
          rw [← eg]; exact (gr v).mpr (Or.inr hv)
        · have tst : ¬ lg_cmp (pm_lb 4 Yx (wu run)) Yx = 0 := fun z => eg (lc_xy.mp z)
          have cg : ∀ i, bS (pm_lb 4 Cx (pm_ls 0 1 (nI run))) i = true ↔ (bS Cx i = true ∨ i = run) := fun i => by rw [bS_add Cx (by omega), Bool.or_eq_true, decide_eq_true_eq]
          obtain ⟨q2, P2, s3, s4⟩ := ih (run + 1) q1 (pm_lb 4 Cx (pm_ls 0 1 (nI run))) Yx P1 (by omega) (by omega) (fun i hi => by
            rcases (cg i).mp hi with z | z
            · have := hC i z; omega
            · omega) hY (fun i v hi hc hf => by
            have hne : i ≠ run := fun e => by rw [(cg i).mpr (Or.inr e)] at hc; cases hc
            refine hu i v (by omega) ?_ hf
            cases e : bS Cx i with
            | false => rfl
            | true => rw [(cg i).mpr (Or.inl e)] at hc; cases hc)
          rw [← nI_1] at s3
          have last : pm_Go sc (d + t + 4) (pm_cd mX4_choose) (44, [some (.ref 20), some (.int (nI run)), some (.long Cx), none, some (.long Yx), none, some (.int (nI (ct (bS Cx) (rC op st1 eg1 nn)))), some (.int (nI (ct (bS Yx) (rC op st2 eg2 nn)))), none, none], [], (hp H r c (P) (.ref 5, .ref 10, nI best, wu) B M N O)) (fun r2 h2 => r2 = none ∧ h2 = (hp H r c (P2) (.ref 5, .ref 10, nI q2, wu) B M N O)) := by
            refine pm_go1 [] 40 ⟨ir, ?_⟩
            rw [cr]
            exact ⟨_, _, s1, fun z => absurd z tst, fun _ => ⟨_, _, s3, rfl, rfl⟩⟩
          exact ⟨q2, P2, pm_in (pm_go [44] 40 ⟨_, _, j1, _, _, j2, fun z => absurd z b1, fun _ => ⟨fun _ => ⟨fun z => absurd z b3, fun _ => ⟨fun _ => last, fun z => absurd b4 z⟩⟩, fun z => absurd b2 z⟩⟩), Ch_two (by omega) hC cg gr s2 (Or.inl s4)⟩
theorem c_least_r (sc : Nat × (Nat → Int32)) (d : Nat) (H : tH) (r : tR) (c : tR) (p1 : Value) (p2 : Value) (pf : tA) (pn : tA) (pr : tA) (pw : tA) (w1 : Value) (w2 : Value) (wb : Int32) (wu : Nat → Int64) (B : tB) (M : tM) (N : tN) (O : tO) (op : Nat → Bool) (st1 : Nat) (eg1 : Nat → Bool) (st2 : Nat) (eg2 : Nat → Bool) (nn : Nat) (G1 G2 : Nat → Nat) (hn : nn ≤ 64) (hst : 1 ≤ st1) (heg : ∀ z, eg1 z = false → st1 ≤ z) (R1 : RC op st1 eg1 nn G1 r) (R2 : RC op st2 eg2 nn G2 c) (g1 : ∀ k, G1 k ≤ 64) (g2 : ∀ k, G2 k ≤ 64) (a12 : rC op st1 eg1 nn ≤ 12) :
    ∃ (m : Nat) (P' : tP) (w' : tW), pm_D sc (d + 17) mX4_leastGuards [.ref 20, .ref 5, .ref 10] (hp H r c (p1, p2, pf, pn, pr, pw) (w1, w2, wb, wu) B M N O) (some (.int (nI m))) (hp H r c (P') (w') B M N O) ∧ moN (rC op st1 eg1 nn) (rC op st2 eg2 nn) (Ed op st1 eg1 st2 eg2 nn) (fun k => decide (G1 k = 0)) (fun k => decide (G2 k = 0)) m := by
  have a64 := rC_le op st1 eg1 nn
  have b64 := rC_le op st2 eg2 nn
  have e1 := R1.1
  obtain ⟨D, hD⟩ := set_of (fun k => ∃ v, G1 k = 0 ∧ G2 v = 0 ∧ Ed op st1 eg1 st2 eg2 nn k v)
  have loop : ∀ (t run : Nat) (wu : Nat → Int64), run + t = rC op st1 eg1 nn → (∀ i v, i < run → (bS (wu i) v = true ↔ (G1 i = 0 ∧ G2 v = 0 ∧ Ed op st1 eg1 st2 eg2 nn i v))) →
      pm_Go sc (d + 16) (pm_cd mX4_leastGuards) (11, [some (.ref 20), some (.ref 5), some (.ref 10), some (.int (nI run))], [], (hp H r c (p1, p2, pf, pn, pr, pw) (.ref 5, .ref 10, nI (ct D run), wu) B M N O)) (fun r2 h2 => ∃ (m : Nat) (P' : tP) (w' : tW), r2 = some (.int (nI m)) ∧ h2 = (hp H r c (P') (w') B M N O) ∧ moN (rC op st1 eg1 nn) (rC op st2 eg2 nn) (Ed op st1 eg1 st2 eg2 nn) (fun k => decide (G1 k = 0)) (fun k => decide (G2 k = 0)) m) := by
    intro t
    induction t with
    | zero =>
      intro run wu hrt hw
      have er : run = rC op st1 eg1 nn := by omega
      have huf : ∀ i v, (decide (i < rC op st1 eg1 nn) && bS (wu i) v) = true ↔ (decide (G1 i = 0) = true ∧ decide (G2 v = 0) = true ∧ Ed op st1 eg1 st2 eg2 nn i v) := fun i v => by
        rw [Bool.and_eq_true, decide_eq_true_eq, decide_eq_true_eq, decide_eq_true_eq]
        constructor
        · rintro ⟨h1, h2⟩; exact (hw i v (by omega)).mp h2
        · intro h
          have h1 := (Ed_lt h.2.2).1
          exact ⟨h1, (hw i v (by omega)).mpr h⟩
      have lD := ct_le D (rC op st1 eg1 nn)
      obtain ⟨m, P', s1, s2⟩ := c_choose_r sc (d + (12 - rC op st1 eg1 nn)) H r c p1 p2 pf pn pr pw w1 w2 wb wu B M N O op st1 eg1 st2 eg2 nn G1 G2 hn hst heg R1 R2 (fun k => decide (G1 k = 0)) (fun k => decide (G2 k = 0)) (fun i v => decide (i < rC op st1 eg1 nn) && bS (wu i) v) huf (fun i v hi => by simp [hi]) a12 (rC op st1 eg1 nn) 0 (ct D (rC op st1 eg1 nn)) 0 0 (p1, p2, pf, pn, pr, pw) (by omega) (by omega) (fun i hi => by rw [bS_0] at hi; cases hi) (fun i hi => by rw [bS_0] at hi; cases hi) (fun i v hi => absurd hi (by omega))
      rw [show d + (12 - rC op st1 eg1 nn) + rC op st1 eg1 nn + 4 = d + 16 by omega] at s1
      have ez : bS 0 = fun _ => false := funext (fun k => bS_0 k)
      rw [ez] at s2
      have hm := Ch_mo (fun i v => Ed_lt) huf D (fun i hi => by
        rw [hD i]
        constructor
        · rintro ⟨v, h⟩; exact ⟨v, by rw [Bool.and_eq_true]; exact ⟨decide_eq_true hi, (hw i v (by omega)).mpr h⟩⟩
        · rintro ⟨v, h⟩
          rw [Bool.and_eq_true] at h
          exact ⟨v, (hw i v (by omega)).mp h.2⟩) rfl s2
      have c1 : r.1 ≤ nI run := by rw [e1, nu_le (by omega) (by omega)]; omega
      rw [er]
      rw [er] at c1
      exact pm_go1 [11] 40 ⟨fun _ => ⟨_, _, s1, m, P', _, rfl, rfl, hm⟩, fun z => absurd c1 z⟩
    | succ t ih =>
      intro run wu hrt hw
      have c1 : ¬ r.1 ≤ nI run := by rw [e1, nu_le (by omega) (by omega)]; omega
      have c2 : ¬ 12 ≤ nI run := by rw [nu_12, nu_le (by omega) (by omega)]; omega
      have ir : vp_in (nI run) 12 := nu_in (by omega) (by omega)
      have cr : (nI run).toNatClampNeg = run := nu_cl (by omega)
      obtain ⟨x, s1, s2⟩ := c_unseen_r sc (d + 14) H r c (p1, p2, pf, pn, pr, pw) w1 w2 (nI (ct D run)) wu B M N O op st1 eg1 st2 eg2 nn G1 G2 hn hst heg R1 R2 g1 g2 run (by omega)
      obtain ⟨wv, wv1, wv2, wv3⟩ : ∃ f : Nat → Int64, f = vp_updL wu run x ∧ f run = x ∧ ∀ j, j ≠ run → f j = wu j := ⟨_, rfl, if_pos rfl, fun j hj => if_neg hj⟩
      have hw' : ∀ i v, i < run + 1 → (bS (wv i) v = true ↔ (G1 i = 0 ∧ G2 v = 0 ∧ Ed op st1 eg1 st2 eg2 nn i v)) := fun i v hi => by
        by_cases e : i = run
        · rw [e, wv2]; exact s2 v
        · rw [wv3 i e]; exact hw i v (by omega)
      have nxt := ih (run + 1) wv (by omega) hw'
      rw [show ct D (run + 1) = ct D run + (if D run then 1 else 0) from rfl, ← nI_1 run] at nxt
      have dr : D run = true ↔ x ≠ 0 := by
        rw [hD run]
        constructor
        · rintro ⟨v, h⟩ e
          rw [← s2 v, e, bS_0] at h; cases h
        · intro h
          refine Classical.byContradiction (fun z => h (bS_ext (fun k _ => ?_)))
          rw [bS_0]
          cases e : bS x k with
          | false => rfl
          | true => exact absurd ⟨k, (s2 k).mp e⟩ z
      have rest : pm_Go sc (d + 16) (pm_cd mX4_leastGuards) (26, [some (.ref 20), some (.ref 5), some (.ref 10), some (.int (nI run))], [], (hp H r c (p1, p2, pf, pn, pr, pw) (.ref 5, .ref 10, nI (ct D run), wv) B M N O)) (fun r2 h2 => ∃ (m : Nat) (P' : tP) (w' : tW), r2 = some (.int (nI m)) ∧ h2 = (hp H r c (P') (w') B M N O) ∧ moN (rC op st1 eg1 nn) (rC op st2 eg2 nn) (Ed op st1 eg1 st2 eg2 nn) (fun k => decide (G1 k = 0)) (fun k => decide (G2 k = 0)) m) := by
        by_cases hx : x = 0
        · have df : D run = false := by
            cases e : D run with
            | false => rfl
            | true => exact absurd hx (dr.mp e)
          have tst : lg_cmp (wv (nI run).toNatClampNeg) 0 = 0 := by rw [cr, wv2]; exact lc_eq.mpr hx
          rw [df] at nxt
          exact pm_go1 [11] 30 ⟨ir, fun _ => nxt, fun z => absurd tst z⟩
        · have df : D run = true := dr.mpr hx
          have tst : ¬ lg_cmp (wv (nI run).toNatClampNeg) 0 = 0 := by rw [cr, wv2]; exact fun z => hx (lc_eq.mp z)
          rw [df, if_pos rfl, ← nI_1] at nxt
          exact pm_go1 [11] 30 ⟨ir, fun z => absurd z tst, fun _ => nxt⟩
      refine pm_go1 [26] 30 ⟨fun z => absurd z c1, fun _ => ⟨fun z => absurd z c2, fun _ => ⟨_, _, s1, ir, ?_⟩⟩⟩
      rw [cr, ← wv1]
      exact rest
  have out := loop (rC op st1 eg1 nn) 0 wu (by omega) (fun i v hi => absurd hi (by omega))
  obtain ⟨r2, h2, t1, m, P', w', rfl, rfl, t2⟩ := pm_inE (mi := mX4_leastGuards) (av := [.ref 20, .ref 5, .ref 10]) (h := (hp H r c (p1, p2, pf, pn, pr, pw) (w1, w2, wb, wu) B M N O)) (pm_go [11] 20 out)
  exact ⟨m, P', w', t1, t2⟩
theorem c_choose_c (sc : Nat × (Nat → Int32)) (d : Nat) (H : tH) (r : tR) (c : tR) (p1 : Value) (p2 : Value) (pf : tA) (pn : tA) (pr : tA) (pw : tA) (w1 : Value) (w2 : Value) (wb : Int32) (wu : Nat → Int64) (B : tB) (M : tM) (N : tN) (O : tO) (op : Nat → Bool) (st1 : Nat) (eg1 : Nat → Bool) (st2 : Nat) (eg2 : Nat → Bool) (nn : Nat) (G1 G2 : Nat → Nat) (hn : nn ≤ 64) (hst : 1 ≤ st1) (heg : ∀ z, eg1 z = false → st1 ≤ z) (R1 : RC op st1 eg1 nn G1 c) (R2 : RC op st2 eg2 nn G2 r) (U V : Nat → Bool) (uf : Nat → Nat → Bool) (huf : ∀ i v, uf i v = true ↔ (U i = true ∧ V v = true ∧ Ed op st1 eg1 st2 eg2 nn i v)) (hwu : ∀ i v, i < rC op st1 eg1 nn → bS (wu i) v = uf i v) (a12 : rC op st1 eg1 nn ≤ 12) :
    ∀ (t run best : Nat) (Cx Yx : Int64) (P : tP), run + t = rC op st1 eg1 nn → best ≤ 64 → (∀ i, bS Cx i = true → i < run) → (∀ v, bS Yx v = true → v < rC op st2 eg2 nn) → (∀ i v, i < run → bS Cx i = false → uf i v = true → bS Yx v = true) →
      ∃ (best' : Nat) (P' : tP), pm_D sc (d + t + 4) mX4_choose [.ref 20, .int (nI run), .long Cx, .long Yx] (hp H r c (P) (.ref 10, .ref 5, nI best, wu) B M N O) none (hp H r c (P') (.ref 10, .ref 5, nI best', wu) B M N O) ∧ ChS (rC op st1 eg1 nn) (rC op st2 eg2 nn) (Ed op st1 eg1 st2 eg2 nn) U V uf run (bS Cx) (bS Yx) best best' := by
  have a64 := rC_le op st1 eg1 nn
  have b64 := rC_le op st2 eg2 nn
  have e1 := R1.1
  intro t
  induction t with
  | zero =>
    intro run best Cx Yx P hrt hb hC hY hu
    obtain ⟨p1, p2, pf, pn, pr, pw⟩ := P
    have kC : ct (bS Cx) 64 = ct (bS Cx) (rC op st1 eg1 nn) := ct_cut (fun i hi => by have := hC i hi; omega) (by omega)
    have kY : ct (bS Yx) 64 = ct (bS Yx) (rC op st2 eg2 nn) := ct_cut hY (by omega)
    have lC := ct_le (bS Cx) (rC op st1 eg1 nn)
    have lY := ct_le (bS Yx) (rC op st2 eg2 nn)
    have j1 := j_bitCount sc (d + 2) (hp H r c (p1, p2, pf, pn, pr, pw) (.ref 10, .ref 5, nI best, wu) B M N O) Cx
    have j2 := j_bitCount sc (d + 2) (hp H r c (p1, p2, pf, pn, pr, pw) (.ref 10, .ref 5, nI best, wu) B M N O) Yx
    rw [kC] at j1
    rw [kY] at j2
    by_cases p1' : best ≤ ct (bS Cx) (rC op st1 eg1 nn)
    · refine ⟨best, _, pm_in (pm_go [] 40 ⟨_, _, j1, _, _, j2, fun _ => ⟨rfl, rfl⟩, fun z => absurd ?_ z⟩), Ch_prune hC (Or.inl p1')⟩
      rw [nu_le (by omega) (by omega)]; exact p1'
    · have b1 : ¬ nI best ≤ nI (ct (bS Cx) (rC op st1 eg1 nn)) := by rw [nu_le (by omega) (by omega)]; exact p1'
      by_cases p2' : best ≤ ct (bS Yx) (rC op st2 eg2 nn)
      · have b2 : ¬ nI (ct (bS Yx) (rC op st2 eg2 nn)) < nI best := by rw [nu_lt (by omega) (by omega)]; omega
        exact ⟨best, _, pm_in (pm_go [] 40 ⟨_, _, j1, _, _, j2, fun z => absurd z b1, fun _ => ⟨fun z => absurd z b2, fun _ => ⟨rfl, rfl⟩⟩⟩), Ch_prune hC (Or.inr p2')⟩
      · have b2 : nI (ct (bS Yx) (rC op st2 eg2 nn)) < nI best := by rw [nu_lt (by omega) (by omega)]; omega
        have b3 : c.1 ≤ nI run := by rw [e1, nu_le (by omega) (by omega)]; omega
        obtain ⟨m, pf', pn', pr', pw', t1, n1⟩ := c_most_c sc d H r c p1 p2 pf pn pr pw (.ref 10, .ref 5, nI best, wu) B M N O op st1 eg1 st2 eg2 nn G1 G2 hn hst heg R1 R2 Cx Yx
        have lm := nu_leX n1
        have ek : nI (ct (bS Cx) (rC op st1 eg1 nn)) + nI (ct (bS Yx) (rC op st2 eg2 nn)) - nI m = nI (ct (bS Cx) (rC op st1 eg1 nn) + ct (bS Yx) (rC op st2 eg2 nn) - m) := by rw [nI_add, nI_subN (by omega)]
        have mid : ∀ g : Int32, g = nI (ct (bS Cx) (rC op st1 eg1 nn) + ct (bS Yx) (rC op st2 eg2 nn) - m) → ∃ best', pm_Go sc (d + 3) (pm_cd mX4_choose) (36, [some (.ref 20), some (.int (nI run)), some (.long Cx), none, some (.long Yx), none, some (.int (nI (ct (bS Cx) (rC op st1 eg1 nn)))), some (.int (nI (ct (bS Yx) (rC op st2 eg2 nn)))), none, none], [.int g], (hp H r c (.ref 10, .ref 5, pf', pn', pr', pw') (.ref 10, .ref 5, nI best, wu) B M N O)) (fun r2 h2 => r2 = none ∧ h2 = (hp H r c (.ref 10, .ref 5, pf', pn', pr', pw') (.ref 10, .ref 5, nI best', wu) B M N O)) ∧ ((best' = best ∧ best + m ≤ ct (bS Cx) (rC op st1 eg1 nn) + ct (bS Yx) (rC op st2 eg2 nn)) ∨ (best' ≤ best ∧ best' + m = ct (bS Cx) (rC op st1 eg1 nn) + ct (bS Yx) (rC op st2 eg2 nn))) := by
          intro g hg
          subst hg
          generalize hg : ct (bS Cx) (rC op st1 eg1 nn) + ct (bS Yx) (rC op st2 eg2 nn) - m = g
          obtain ⟨best', e3, e4⟩ : ∃ best' : Nat, (if nI g < nI best then nI g else nI best) = nI best' ∧ ((best' = best ∧ best + m ≤ ct (bS Cx) (rC op st1 eg1 nn) + ct (bS Yx) (rC op st2 eg2 nn)) ∨ (best' ≤ best ∧ best' + m = ct (bS Cx) (rC op st1 eg1 nn) + ct (bS Yx) (rC op st2 eg2 nn))) := by
            by_cases hlt : g < best
            · exact ⟨g, if_pos (by rw [nu_lt (by omega) (by omega)]; exact hlt), Or.inr ⟨by omega, by omega⟩⟩
            · exact ⟨best, if_neg (by rw [nu_lt (by omega) (by omega)]; exact hlt), Or.inl ⟨rfl, by omega⟩⟩
          refine ⟨best', ?_, e4⟩
          rw [← e3]
          exact pm_go1 [] 20 ⟨rfl, rfl⟩
        obtain ⟨best', m1, m2⟩ := mid _ ek
        exact ⟨best', _, pm_in (pm_go [36] 60 ⟨_, _, j1, _, _, j2, fun z => absurd z b1, fun _ => ⟨fun _ => ⟨fun _ => ⟨_, _, t1, m1⟩, fun z => absurd b3 z⟩, fun z => absurd b2 z⟩⟩), Ch_leaf (fun i v => Ed_lt) huf hu (by omega) n1 m2⟩
  | succ t ih =>
    intro run best Cx Yx P hrt hb hC hY hu
    have kC : ct (bS Cx) 64 = ct (bS Cx) (rC op st1 eg1 nn) := ct_cut (fun i hi => by have := hC i hi; omega) (by omega)
    have kY : ct (bS Yx) 64 = ct (bS Yx) (rC op st2 eg2 nn) := ct_cut hY (by omega)
    have lC := ct_le (bS Cx) (rC op st1 eg1 nn)
    have lY := ct_le (bS Yx) (rC op st2 eg2 nn)
    have j1 := j_bitCount sc (d + t + 3) (hp H r c (P) (.ref 10, .ref 5, nI best, wu) B M N O) Cx
    have j2 := j_bitCount sc (d + t + 3) (hp H r c (P) (.ref 10, .ref 5, nI best, wu) B M N O) Yx
    rw [kC] at j1
    rw [kY] at j2
    by_cases p1' : best ≤ ct (bS Cx) (rC op st1 eg1 nn)
    · refine ⟨best, _, pm_in (pm_go [] 40 ⟨_, _, j1, _, _, j2, fun _ => ⟨rfl, rfl⟩, fun z => absurd ?_ z⟩), Ch_prune hC (Or.inl p1')⟩
      rw [nu_le (by omega) (by omega)]; exact p1'
    · have b1 : ¬ nI best ≤ nI (ct (bS Cx) (rC op st1 eg1 nn)) := by rw [nu_le (by omega) (by omega)]; exact p1'
      by_cases p2' : best ≤ ct (bS Yx) (rC op st2 eg2 nn)
      · have b2 : ¬ nI (ct (bS Yx) (rC op st2 eg2 nn)) < nI best := by rw [nu_lt (by omega) (by omega)]; omega
        exact ⟨best, _, pm_in (pm_go [] 40 ⟨_, _, j1, _, _, j2, fun z => absurd z b1, fun _ => ⟨fun z => absurd z b2, fun _ => ⟨rfl, rfl⟩⟩⟩), Ch_prune hC (Or.inr p2')⟩
      · have b2 : nI (ct (bS Yx) (rC op st2 eg2 nn)) < nI best := by rw [nu_lt (by omega) (by omega)]; omega
        have b3 : ¬ c.1 ≤ nI run := by rw [e1, nu_le (by omega) (by omega)]; omega
        have b4 : nI run < 12 := by rw [nu_12, nu_lt (by omega) (by omega)]; omega
        have ir : vp_in (nI run) 12 := nu_in (by omega) (by omega)
        have cr : (nI run).toNatClampNeg = run := nu_cl (by omega)
        have gr : ∀ v, bS (pm_lb 4 Yx (wu run)) v = true ↔ (bS Yx v = true ∨ uf run v = true) := fun v => by rw [bS_or, Bool.or_eq_true, hwu run v (by omega)]
        obtain ⟨q1, P1, s1, s2⟩ := ih (run + 1) best Cx (pm_lb 4 Yx (wu run)) P (by omega) hb (fun i hi => by have := hC i hi; omega) (fun v hv => by
          rcases (gr v).mp hv with z | z
          · exact hY v z
          · exact (Ed_lt ((huf run v).mp z).2.2).2) (fun i v hi hc hf => (gr v).mpr (by
          by_cases e : i = run
          · rw [e] at hf; exact Or.inr hf
          · exact Or.inl (hu i v (by omega) hc hf)))
        have hq1 := s2.1
        rw [← nI_1] at s1
        by_cases eg : pm_lb 4 Yx (wu run) = Yx
        · have tst := lc_xy.mpr eg
          have last : pm_Go sc (d + t + 4) (pm_cd mX4_choose) (44, [some (.ref 20), some (.int (nI run)), some (.long Cx), none, some (.long Yx), none, some (.int (nI (ct (bS Cx) (rC op st1 eg1 nn)))), some (.int (nI (ct (bS Yx) (rC op st2 eg2 nn)))), none, none], [], (hp H r c (P) (.ref 10, .ref 5, nI best, wu) B M N O)) (fun r2 h2 => r2 = none ∧ h2 = (hp H r c (P1) (.ref 10, .ref 5, nI q1, wu) B M N O)) := by
            refine pm_go1 [] 40 ⟨ir, ?_⟩
            rw [cr]
            exact ⟨_, _, s1, fun _ => ⟨rfl, rfl⟩, fun z => absurd tst z⟩
          refine ⟨q1, P1, pm_in (pm_go [44] 40 ⟨_, _, j1, _, _, j2, fun z => absurd z b1, fun _ => ⟨fun _ => ⟨fun z => absurd z b3, fun _ => ⟨fun _ => last, fun z => absurd b4 z⟩⟩, fun z => absurd b2 z⟩⟩), Ch_two (C1 := fun i => bS Cx i || decide (i = run)) (by omega) hC (fun i => by simp) gr s2 (Or.inr ⟨rfl, fun v hv => ?_⟩)⟩
          rw [← eg]; exact (gr v).mpr (Or.inr hv)
        · have tst : ¬ lg_cmp (pm_lb 4 Yx (wu run)) Yx = 0 := fun z => eg (lc_xy.mp z)
          have cg : ∀ i, bS (pm_lb 4 Cx (pm_ls 0 1 (nI run))) i = true ↔ (bS Cx i = true ∨ i = run) := fun i => by rw [bS_add Cx (by omega), Bool.or_eq_true, decide_eq_true_eq]
          obtain ⟨q2, P2, s3, s4⟩ := ih (run + 1) q1 (pm_lb 4 Cx (pm_ls 0 1 (nI run))) Yx P1 (by omega) (by omega) (fun i hi => by
            rcases (cg i).mp hi with z | z
            · have := hC i z; omega
            · omega) hY (fun i v hi hc hf => by
            have hne : i ≠ run := fun e => by rw [(cg i).mpr (Or.inr e)] at hc; cases hc
            refine hu i v (by omega) ?_ hf
            cases e : bS Cx i with
            | false => rfl
            | true => rw [(cg i).mpr (Or.inl e)] at hc; cases hc)
          rw [← nI_1] at s3
          have last : pm_Go sc (d + t + 4) (pm_cd mX4_choose) (44, [some (.ref 20), some (.int (nI run)), some (.long Cx), none, some (.long Yx), none, some (.int (nI (ct (bS Cx) (rC op st1 eg1 nn)))), some (.int (nI (ct (bS Yx) (rC op st2 eg2 nn)))), none, none], [], (hp H r c (P) (.ref 10, .ref 5, nI best, wu) B M N O)) (fun r2 h2 => r2 = none ∧ h2 = (hp H r c (P2) (.ref 10, .ref 5, nI q2, wu) B M N O)) := by
            refine pm_go1 [] 40 ⟨ir, ?_⟩
            rw [cr]
            exact ⟨_, _, s1, fun z => absurd z tst, fun _ => ⟨_, _, s3, rfl, rfl⟩⟩
          exact ⟨q2, P2, pm_in (pm_go [44] 40 ⟨_, _, j1, _, _, j2, fun z => absurd z b1, fun _ => ⟨fun _ => ⟨fun z => absurd z b3, fun _ => ⟨fun _ => last, fun z => absurd b4 z⟩⟩, fun z => absurd b2 z⟩⟩), Ch_two (by omega) hC cg gr s2 (Or.inl s4)⟩
theorem c_least_c (sc : Nat × (Nat → Int32)) (d : Nat) (H : tH) (r : tR) (c : tR) (p1 : Value) (p2 : Value) (pf : tA) (pn : tA) (pr : tA) (pw : tA) (w1 : Value) (w2 : Value) (wb : Int32) (wu : Nat → Int64) (B : tB) (M : tM) (N : tN) (O : tO) (op : Nat → Bool) (st1 : Nat) (eg1 : Nat → Bool) (st2 : Nat) (eg2 : Nat → Bool) (nn : Nat) (G1 G2 : Nat → Nat) (hn : nn ≤ 64) (hst : 1 ≤ st1) (heg : ∀ z, eg1 z = false → st1 ≤ z) (R1 : RC op st1 eg1 nn G1 c) (R2 : RC op st2 eg2 nn G2 r) (g1 : ∀ k, G1 k ≤ 64) (g2 : ∀ k, G2 k ≤ 64) (a12 : rC op st1 eg1 nn ≤ 12) :
    ∃ (m : Nat) (P' : tP) (w' : tW), pm_D sc (d + 17) mX4_leastGuards [.ref 20, .ref 10, .ref 5] (hp H r c (p1, p2, pf, pn, pr, pw) (w1, w2, wb, wu) B M N O) (some (.int (nI m))) (hp H r c (P') (w') B M N O) ∧ moN (rC op st1 eg1 nn) (rC op st2 eg2 nn) (Ed op st1 eg1 st2 eg2 nn) (fun k => decide (G1 k = 0)) (fun k => decide (G2 k = 0)) m := by
  have a64 := rC_le op st1 eg1 nn
  have b64 := rC_le op st2 eg2 nn
  have e1 := R1.1
  obtain ⟨D, hD⟩ := set_of (fun k => ∃ v, G1 k = 0 ∧ G2 v = 0 ∧ Ed op st1 eg1 st2 eg2 nn k v)
  have loop : ∀ (t run : Nat) (wu : Nat → Int64), run + t = rC op st1 eg1 nn → (∀ i v, i < run → (bS (wu i) v = true ↔ (G1 i = 0 ∧ G2 v = 0 ∧ Ed op st1 eg1 st2 eg2 nn i v))) →
      pm_Go sc (d + 16) (pm_cd mX4_leastGuards) (11, [some (.ref 20), some (.ref 10), some (.ref 5), some (.int (nI run))], [], (hp H r c (p1, p2, pf, pn, pr, pw) (.ref 10, .ref 5, nI (ct D run), wu) B M N O)) (fun r2 h2 => ∃ (m : Nat) (P' : tP) (w' : tW), r2 = some (.int (nI m)) ∧ h2 = (hp H r c (P') (w') B M N O) ∧ moN (rC op st1 eg1 nn) (rC op st2 eg2 nn) (Ed op st1 eg1 st2 eg2 nn) (fun k => decide (G1 k = 0)) (fun k => decide (G2 k = 0)) m) := by
    intro t
    induction t with
    | zero =>
      intro run wu hrt hw
      have er : run = rC op st1 eg1 nn := by omega
      have huf : ∀ i v, (decide (i < rC op st1 eg1 nn) && bS (wu i) v) = true ↔ (decide (G1 i = 0) = true ∧ decide (G2 v = 0) = true ∧ Ed op st1 eg1 st2 eg2 nn i v) := fun i v => by
        rw [Bool.and_eq_true, decide_eq_true_eq, decide_eq_true_eq, decide_eq_true_eq]
        constructor
        · rintro ⟨h1, h2⟩; exact (hw i v (by omega)).mp h2
        · intro h
          have h1 := (Ed_lt h.2.2).1
          exact ⟨h1, (hw i v (by omega)).mpr h⟩
      have lD := ct_le D (rC op st1 eg1 nn)
      obtain ⟨m, P', s1, s2⟩ := c_choose_c sc (d + (12 - rC op st1 eg1 nn)) H r c p1 p2 pf pn pr pw w1 w2 wb wu B M N O op st1 eg1 st2 eg2 nn G1 G2 hn hst heg R1 R2 (fun k => decide (G1 k = 0)) (fun k => decide (G2 k = 0)) (fun i v => decide (i < rC op st1 eg1 nn) && bS (wu i) v) huf (fun i v hi => by simp [hi]) a12 (rC op st1 eg1 nn) 0 (ct D (rC op st1 eg1 nn)) 0 0 (p1, p2, pf, pn, pr, pw) (by omega) (by omega) (fun i hi => by rw [bS_0] at hi; cases hi) (fun i hi => by rw [bS_0] at hi; cases hi) (fun i v hi => absurd hi (by omega))
      rw [show d + (12 - rC op st1 eg1 nn) + rC op st1 eg1 nn + 4 = d + 16 by omega] at s1
      have ez : bS 0 = fun _ => false := funext (fun k => bS_0 k)
      rw [ez] at s2
      have hm := Ch_mo (fun i v => Ed_lt) huf D (fun i hi => by
        rw [hD i]
        constructor
        · rintro ⟨v, h⟩; exact ⟨v, by rw [Bool.and_eq_true]; exact ⟨decide_eq_true hi, (hw i v (by omega)).mpr h⟩⟩
        · rintro ⟨v, h⟩
          rw [Bool.and_eq_true] at h
          exact ⟨v, (hw i v (by omega)).mp h.2⟩) rfl s2
      have c1 : c.1 ≤ nI run := by rw [e1, nu_le (by omega) (by omega)]; omega
      rw [er]
      rw [er] at c1
      exact pm_go1 [11] 40 ⟨fun _ => ⟨_, _, s1, m, P', _, rfl, rfl, hm⟩, fun z => absurd c1 z⟩
    | succ t ih =>
      intro run wu hrt hw
      have c1 : ¬ c.1 ≤ nI run := by rw [e1, nu_le (by omega) (by omega)]; omega
      have c2 : ¬ 12 ≤ nI run := by rw [nu_12, nu_le (by omega) (by omega)]; omega
      have ir : vp_in (nI run) 12 := nu_in (by omega) (by omega)
      have cr : (nI run).toNatClampNeg = run := nu_cl (by omega)
      obtain ⟨x, s1, s2⟩ := c_unseen_c sc (d + 14) H r c (p1, p2, pf, pn, pr, pw) w1 w2 (nI (ct D run)) wu B M N O op st1 eg1 st2 eg2 nn G1 G2 hn hst heg R1 R2 g1 g2 run (by omega)
      obtain ⟨wv, wv1, wv2, wv3⟩ : ∃ f : Nat → Int64, f = vp_updL wu run x ∧ f run = x ∧ ∀ j, j ≠ run → f j = wu j := ⟨_, rfl, if_pos rfl, fun j hj => if_neg hj⟩
      have hw' : ∀ i v, i < run + 1 → (bS (wv i) v = true ↔ (G1 i = 0 ∧ G2 v = 0 ∧ Ed op st1 eg1 st2 eg2 nn i v)) := fun i v hi => by
        by_cases e : i = run
        · rw [e, wv2]; exact s2 v
        · rw [wv3 i e]; exact hw i v (by omega)
      have nxt := ih (run + 1) wv (by omega) hw'
      rw [show ct D (run + 1) = ct D run + (if D run then 1 else 0) from rfl, ← nI_1 run] at nxt
      have dr : D run = true ↔ x ≠ 0 := by
        rw [hD run]
        constructor
        · rintro ⟨v, h⟩ e
          rw [← s2 v, e, bS_0] at h; cases h
        · intro h
          refine Classical.byContradiction (fun z => h (bS_ext (fun k _ => ?_)))
          rw [bS_0]
          cases e : bS x k with
          | false => rfl
          | true => exact absurd ⟨k, (s2 k).mp e⟩ z
      have rest : pm_Go sc (d + 16) (pm_cd mX4_leastGuards) (26, [some (.ref 20), some (.ref 10), some (.ref 5), some (.int (nI run))], [], (hp H r c (p1, p2, pf, pn, pr, pw) (.ref 10, .ref 5, nI (ct D run), wv) B M N O)) (fun r2 h2 => ∃ (m : Nat) (P' : tP) (w' : tW), r2 = some (.int (nI m)) ∧ h2 = (hp H r c (P') (w') B M N O) ∧ moN (rC op st1 eg1 nn) (rC op st2 eg2 nn) (Ed op st1 eg1 st2 eg2 nn) (fun k => decide (G1 k = 0)) (fun k => decide (G2 k = 0)) m) := by
        by_cases hx : x = 0
        · have df : D run = false := by
            cases e : D run with
            | false => rfl
            | true => exact absurd hx (dr.mp e)
          have tst : lg_cmp (wv (nI run).toNatClampNeg) 0 = 0 := by rw [cr, wv2]; exact lc_eq.mpr hx
          rw [df] at nxt
          exact pm_go1 [11] 30 ⟨ir, fun _ => nxt, fun z => absurd tst z⟩
        · have df : D run = true := dr.mpr hx
          have tst : ¬ lg_cmp (wv (nI run).toNatClampNeg) 0 = 0 := by rw [cr, wv2]; exact fun z => hx (lc_eq.mp z)
          rw [df, if_pos rfl, ← nI_1] at nxt
          exact pm_go1 [11] 30 ⟨ir, fun z => absurd z tst, fun _ => nxt⟩
      refine pm_go1 [26] 30 ⟨fun z => absurd z c1, fun _ => ⟨fun z => absurd z c2, fun _ => ⟨_, _, s1, ir, ?_⟩⟩⟩
      rw [cr, ← wv1]
      exact rest
  have out := loop (rC op st1 eg1 nn) 0 wu (by omega) (fun i v hi => absurd hi (by omega))
  obtain ⟨r2, h2, t1, m, P', w', rfl, rfl, t2⟩ := pm_inE (mi := mX4_leastGuards) (av := [.ref 20, .ref 10, .ref 5]) (h := (hp H r c (p1, p2, pf, pn, pr, pw) (w1, w2, wb, wu) B M N O)) (pm_go [11] 20 out)
  exact ⟨m, P', w', t1, t2⟩
