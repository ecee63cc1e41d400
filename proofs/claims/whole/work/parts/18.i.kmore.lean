theorem rG_64 (op : Nat → Bool) (st : Nat) (eg gd : Nat → Bool) {n : Nat} (hn : n ≤ 64) (q : Nat) : rG op st eg gd n q ≤ 64 := by
  have := ct_le (fun k => (rO op st eg n k == some q) && gd k) n
  unfold rG
  omega
theorem c_more (sc : Nat × (Nat → Int32)) (d : Nat) (hw : Int32) (hh : Int32) (hc : Int32) (ho : tA) (hg : tA) (r : tR) (c : tR) (p1 : Value) (p2 : Value) (pf : tA) (pn : tA) (pr : tA) (pw : tA) (w1 : Value) (w2 : Value) (wb : Int32) (wu : Nat → Int64) (B : tB) (mw : Int32) (mh : Int32) (ms : tA) (mg : tA) (mc : Int32) (mo : tA) (mm : tA) (mz : tA) (mp : Int32) (N : tN) (O : tO) (W Hh : Nat) (op gd : Nat → Bool) (bW : 1 ≤ W ∧ W ≤ 8) (bH : 1 ≤ Hh ∧ Hh ≤ 8) (hR : HR W Hh op gd r c) :
    ∃ (x : Int32) (P' : tP) (w' : tW), pm_D sc (d + 20) mX5_more [.ref 1] (hp (hw, hh, hc, ho, hg) r c (p1, p2, pf, pn, pr, pw) (w1, w2, wb, wu) B (mw, mh, ms, mg, mc, mo, mm, mz, mp) N O) (some (.int x)) (hp (hw, hh, hc, ho, hg) r c (P') (w') B (mw, mh, ms, mg, mc, mo, mm, mz, mp) N O) ∧
      ((12 < rC op 1 (egR W) (Hh * W) ∧ 12 < rC op W (egC W) (Hh * W) ∧ x = -5) ∨ ((rC op 1 (egR W) (Hh * W) ≤ 12 ∨ rC op W (egC W) (Hh * W) ≤ 12) ∧ ∃ m, x = nI m ∧ moN (rC op 1 (egR W) (Hh * W)) (rC op W (egC W) (Hh * W)) (EdR W Hh op) (fun k => decide (rG op 1 (egR W) gd (Hh * W) k = 0)) (fun k => decide (rG op W (egC W) gd (Hh * W) k = 0)) m)) := by
  have bHW := bHW_of bW bH
  have a32 := r32R (op := op) bW bH
  have b32 := r32C (op := op) bW bH
  have er := hR.1.1
  have ec := hR.2.1
  have wrap : ∀ (x : Int32) (P' : tP) (w' : tW), pm_D sc (d + 19) mX1_leastMore [.ref 2] (hp (hw, hh, hc, ho, hg) r c (p1, p2, pf, pn, pr, pw) (w1, w2, wb, wu) B (mw, mh, ms, mg, mc, mo, mm, mz, mp) N O) (some (.int x)) (hp (hw, hh, hc, ho, hg) r c (P') (w') B (mw, mh, ms, mg, mc, mo, mm, mz, mp) N O) → pm_D sc (d + 20) mX5_more [.ref 1] (hp (hw, hh, hc, ho, hg) r c (p1, p2, pf, pn, pr, pw) (w1, w2, wb, wu) B (mw, mh, ms, mg, mc, mo, mm, mz, mp) N O) (some (.int x)) (hp (hw, hh, hc, ho, hg) r c (P') (w') B (mw, mh, ms, mg, mc, mo, mm, mz, mp) N O) := fun x P' w' u => pm_in (pm_go [] 20 ⟨_, _, u, rfl, rfl⟩)
  by_cases h : rC op 1 (egR W) (Hh * W) ≤ rC op W (egC W) (Hh * W)
  · have c1 : ¬ c.1 < r.1 := by rw [er, ec, nu_lt (by omega) (by omega)]; omega
    by_cases h2 : rC op 1 (egR W) (Hh * W) ≤ 12
    · have c2 : r.1 ≤ 12 := by rw [er, nu_12, nu_le (by omega) (by omega)]; exact h2
      obtain ⟨m, P', w', t1, n1⟩ := c_least_r sc (d + 1) (hw, hh, hc, ho, hg) r c p1 p2 pf pn pr pw w1 w2 wb wu B (mw, mh, ms, mg, mc, mo, mm, mz, mp) N O op 1 (egR W) W (egC W) (Hh * W) _ _ bHW (Nat.le_refl _) egR_st hR.1 hR.2 (rG_64 op 1 (egR W) gd bHW) (rG_64 op W (egC W) gd bHW) h2
      exact ⟨_, P', w', wrap _ _ _ (pm_in (pm_go [] 60 ⟨fun z => absurd z c1, fun _ => ⟨fun z => absurd z (by decide), fun _ => ⟨fun z => absurd z (by decide), fun _ => ⟨fun _ => ⟨_, _, t1, rfl, rfl⟩, fun z => absurd c2 z⟩⟩⟩⟩)), Or.inr ⟨Or.inl h2, m, rfl, n1⟩⟩
    · have c2 : ¬ r.1 ≤ 12 := by rw [er, nu_12, nu_le (by omega) (by omega)]; exact h2
      exact ⟨_, _, _, wrap _ _ _ (pm_in (pm_go [] 60 ⟨fun z => absurd z c1, fun _ => ⟨fun z => absurd z (by decide), fun _ => ⟨fun z => absurd z (by decide), fun _ => ⟨fun z => absurd z c2, fun _ => ⟨rfl, rfl⟩⟩⟩⟩⟩)), Or.inl ⟨by omega, by omega, rfl⟩⟩
  · have c1 : c.1 < r.1 := by rw [er, ec, nu_lt (by omega) (by omega)]; omega
    by_cases h2 : rC op W (egC W) (Hh * W) ≤ 12
    · have c2 : c.1 ≤ 12 := by rw [ec, nu_12, nu_le (by omega) (by omega)]; exact h2
      obtain ⟨m, P', w', t1, n1⟩ := c_least_c sc (d + 1) (hw, hh, hc, ho, hg) r c p1 p2 pf pn pr pw w1 w2 wb wu B (mw, mh, ms, mg, mc, mo, mm, mz, mp) N O op W (egC W) 1 (egR W) (Hh * W) _ _ bHW bW.1 egC_st hR.2 hR.1 (rG_64 op W (egC W) gd bHW) (rG_64 op 1 (egR W) gd bHW) h2
      exact ⟨_, P', w', wrap _ _ _ (pm_in (pm_go [] 60 ⟨fun _ => ⟨fun _ => ⟨fun _ => ⟨fun _ => ⟨_, _, t1, rfl, rfl⟩, fun z => absurd c2 z⟩, fun z => absurd rfl z⟩, fun z => absurd rfl z⟩, fun z => absurd c1 z⟩)), Or.inr ⟨Or.inr h2, m, rfl, moN_turn n1⟩⟩
    · have c2 : ¬ c.1 ≤ 12 := by rw [ec, nu_12, nu_le (by omega) (by omega)]; exact h2
      exact ⟨_, _, _, wrap _ _ _ (pm_in (pm_go [] 60 ⟨fun _ => ⟨fun _ => ⟨fun _ => ⟨fun z => absurd z c2, fun _ => ⟨rfl, rfl⟩⟩, fun z => absurd rfl z⟩, fun z => absurd rfl z⟩, fun z => absurd c1 z⟩)), Or.inl ⟨by omega, by omega, rfl⟩⟩
theorem k_more (sc : Nat × (Nat → Int32)) (d : Nat) (hw : Int32) (hh : Int32) (hc : Int32) (ho : tA) (hg : tA) (r : tR) (c : tR) (p1 : Value) (p2 : Value) (pf : tA) (pn : tA) (pr : tA) (pw : tA) (w1 : Value) (w2 : Value) (wb : Int32) (wu : Nat → Int64) (B : tB) (mw : Int32) (mh : Int32) (ms : tA) (mg : tA) (mc : Int32) (mo : tA) (mm : tA) (mz : tA) (mp : Int32) (N : tN) (ob : tA) (oc : Nat → Int64) (oq : tA) (oz : tA) (ow : tA) (hI : HaI (hw, hh, hc, ho, hg) r c (mw, mh, ms, mg, mc, mo, mm, mz, mp)) (hO : OI (ob, oc, oq, oz, ow)) : HaK2 sc (d + 20) mX5_more mX6_more [] (hw, hh, hc, ho, hg) r c (p1, p2, pf, pn, pr, pw) (w1, w2, wb, wu) B (mw, mh, ms, mg, mc, mo, mm, mz, mp) N (ob, oc, oq, oz, ow) := by
  obtain ⟨W, Hh, op, gd, bW, bH, hgo, ⟨i1, i2, i3, i4, i5⟩, ⟨j1, j2, j3, j4, j5⟩, hcc⟩ := hI
  dsimp only at i1 i2 i3 i4 j1 j2 j3 j4 j5 hcc
  obtain ⟨x, P', w', t1, n1⟩ := c_more sc d hw hh hc ho hg r c p1 p2 pf pn pr pw w1 w2 wb wu B mw mh ms mg mc mo mm mz mp N (ob, oc, oq, oz, ow) W Hh op gd bW bH i5
  obtain ⟨y, mo', mm', mz', oc', t2, hMP, n2⟩ := r_more sc (d + 14) (hw, hh, hc, ho, hg) r c P' w' B mw mh ms mg mc mo mm mz mp N ob oc oq oz ow W Hh op gd j1 j2 bW bH j3 j4 hgo j5 hO
  have exy : x = y := by
    rcases n1 with ⟨u1, u2, u3⟩ | ⟨u1, m, u2, u3⟩
    · rcases n2 with ⟨v1, v2, v3⟩ | ⟨v1, m', v2, v3⟩
      · rw [u3, v3]
      · omega
    · rcases n2 with ⟨v1, v2, v3⟩ | ⟨v1, m', v2, v3⟩
      · omega
      · rw [u2, v2, mo_one u3 v3]
  subst exy
  exact ⟨x, P', w', _, _, t1, t2, ⟨W, Hh, op, gd, bW, bH, hgo, ⟨i1, i2, i3, i4, i5⟩, ⟨j1, j2, j3, j4, Or.inr ⟨rfl, hMP⟩⟩, hcc⟩, hO⟩
