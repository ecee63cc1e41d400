theorem nu_congr {a b : Nat} {E : Nat → Nat → Prop} {X Y X' Y' : Nat → Bool} {m : Nat} (h : ∀ k v, E k v → X k = X' k ∧ Y v = Y' v) (hn : nu a b E X Y m) : nu a b E X' Y' m := by
  have e : ∀ A B, cov E X Y A B ↔ cov E X' Y' A B := fun A B => by
    constructor
    · intro hc k v hk hv he
      exact hc k v (by rw [(h k v he).1]; exact hk) (by rw [(h k v he).2]; exact hv) he
    · intro hc k v hk hv he
      exact hc k v (by rw [← (h k v he).1]; exact hk) (by rw [← (h k v he).2]; exact hv) he
  obtain ⟨⟨A, B, g1, g2⟩, g3⟩ := hn
  exact ⟨⟨A, B, (e A B).mp g1, g2⟩, fun A B hc => g3 A B ((e A B).mpr hc)⟩
theorem r_peace (sc : Nat × (Nat → Int32)) (d : Nat) (H : tH) (r : tR) (c : tR) (P : tP) (w : tW) (B : tB) (mw : Int32) (mh : Int32) (ms : tA) (mg : tA) (mc : Int32) (mo : tA) (mm : tA) (mz : tA) (mp : Int32) (N : tN) (ob : tA) (oc : Nat → Int64) (oq : tA) (oz : tA) (ow : tA) (W Hh : Nat) (op : Nat → Bool) (hW : mw = nI W) (hH : mh = nI Hh) (bW : 1 ≤ W ∧ W ≤ 8) (bH : 1 ≤ Hh ∧ Hh ≤ 8) (hop : ∀ k, k < 64 → ms k = bI (!op k)) (hp0 : mp = 0 ∨ (mp = 1 ∧ MP W Hh op mo mm mz)) :
    ∃ (m : Nat) (mo' mm' mz' oq' oz' ow' : tA), pm_D sc (d + 6) mX6_peace [.ref 27] (hp H r c P w B (mw, mh, ms, mg, mc, mo, mm, mz, mp) N (ob, oc, oq, oz, ow)) (some (.int (nI m))) (hp H r c P w B (mw, mh, ms, mg, mc, mo', mm', mz', 1) N (ob, oc, oq', oz', ow')) ∧ MP W Hh op mo' mm' mz' ∧ nu (rC op 1 (egR W) (Hh * W)) (rC op W (egC W) (Hh * W)) (EdR W Hh op) aT aT m := by
  have bHW := bHW_of bW bH
  have a32 := r32R (op := op) bW bH
  have b32 := r32C (op := op) bW bH
  obtain ⟨mo', mm', mz', cp, hMP⟩ := r_part sc d H r c P w B mw mh ms mg mc mo mm mz mp N (ob, oc, oq, oz, ow) W Hh op hW hH bW bH hop hp0
  have i0 : vp_in (0 : Int32) 2 := nu_in (a := 0) (by omega) (by omega)
  have em : mm' (0 : Int32).toNatClampNeg = nI (rC op 1 (egR W) (Hh * W)) := hMP.1.1
  have main : ∀ (t h : Nat) (oq oz ow : tA) (Pc : Nat → Bool) (q fo : Nat → Option Nat), h + t = rC op 1 (egR W) (Hh * W) → Mt (rC op 1 (egR W) (Hh * W)) (rC op W (egC W) (Hh * W)) (EdR W Hh op) aT aT q fo → Ce (EdR W Hh op) aT aT h Pc q fo → (∀ j, j < 32 → oq j = en (q j)) →
      pm_Go sc (d + 5) (pm_cd mX6_peace) (18, [some (.ref 27), some (.int (nI (szq q (rC op W (egC W) (Hh * W))))), some (.int (nI h))], [], (hp H r c P w B (mw, mh, ms, mg, mc, mo', mm', mz', 1) N (ob, oc, oq, oz, ow))) (fun r2 h2 => ∃ (m : Nat) (oq' oz' ow' : tA), r2 = some (.int (nI m)) ∧ h2 = (hp H r c P w B (mw, mh, ms, mg, mc, mo', mm', mz', 1) N (ob, oc, oq', oz', ow')) ∧ nu (rC op 1 (egR W) (Hh * W)) (rC op W (egC W) (Hh * W)) (EdR W Hh op) aT aT m) := by
    intro t
    induction t with
    | zero =>
      intro h oq oz ow Pc q fo hht hM hC hoq
      have hh : h = rC op 1 (egR W) (Hh * W) := by omega
      rw [hh] at hC
      refine pm_go1 [18] 20 ⟨i0, fun _ => ⟨_, _, _, _, rfl, rfl, mt_nu hM hC⟩, fun z => absurd ?_ z⟩
      show mm' (0 : Int32).toNatClampNeg ≤ nI h
      rw [em, nu_le (by omega) (by omega)]; omega
    | succ t ih =>
      intro h oq oz ow Pc q fo hht hM hC hoq
      have c1 : ¬ mm' (0 : Int32).toNatClampNeg ≤ nI h := by rw [em, nu_le (by omega) (by omega)]; omega
      obtain ⟨rv, h2, t1, q', fo', oq', oz', ow', Pc', s, rfl, rfl, g1, g3, g4, g5⟩ := r_finds sc (d + 3) H r c P w B mw mh ms mg mc mo' mm' mz' 1 N ob oc oq oz ow W Hh op hW hH bW bH hMP Pc q fo h hM hC hoq (by omega)
      have nxt := ih (h + 1) oq' oz' ow' Pc' q' fo' (by omega) g3 g4 g1
      rw [g5, ← nI_1 h, ← nI_add] at nxt
      cases s with
      | false => exact pm_go1 [18] 40 ⟨i0, fun z => absurd z c1, fun _ => ⟨_, _, t1, fun _ => nxt, fun z => absurd rfl z⟩⟩
      | true => exact pm_go1 [18] 40 ⟨i0, fun z => absurd z c1, fun _ => ⟨_, _, t1, fun z => absurd z (by decide), fun _ => nxt⟩⟩
  have b0 : szq (fun _ => none) (rC op W (egC W) (Hh * W)) = 0 := ct_none _ (fun _ _ => rfl)
  have ini : ∀ (t k : Nat) (oq : tA), k + t = 32 → (∀ j, j < k → oq j = -1) → pm_Go sc (d + 5) (pm_cd mX6_peace) (4, [some (.ref 27), some (.int (nI k)), none], [], (hp H r c P w B (mw, mh, ms, mg, mc, mo', mm', mz', 1) N (ob, oc, oq, oz, ow))) (fun r2 h2 => ∃ (m : Nat) (oq' oz' ow' : tA), r2 = some (.int (nI m)) ∧ h2 = (hp H r c P w B (mw, mh, ms, mg, mc, mo', mm', mz', 1) N (ob, oc, oq', oz', ow')) ∧ nu (rC op 1 (egR W) (Hh * W)) (rC op W (egC W) (Hh * W)) (EdR W Hh op) aT aT m) := by
    intro t
    induction t with
    | zero =>
      intro k oq hk hoq
      have out := main (rC op 1 (egR W) (Hh * W)) 0 oq oz ow (fun _ => false) (fun _ => none) (fun _ => none) (by omega)
        ⟨fun v k z => (by cases z), fun v k => ⟨fun z => (by cases z), fun z => by cases z⟩⟩ ⟨fun k hk => absurd hk (by omega), fun k v z => (by cases z), fun _ _ => rfl⟩ (fun j hj => hoq j (by omega))
      rw [b0] at out
      refine pm_go1 [18] 30 ⟨fun _ => out, fun z => absurd ?_ z⟩
      rw [nu_32, nu_le (by omega) (by omega)]; omega
    | succ t ih =>
      intro k oq hk hoq
      have c1 : ¬ 32 ≤ nI k := by rw [nu_32, nu_le (by omega) (by omega)]; omega
      have ck : (nI k).toNatClampNeg = k := nu_cl (by omega)
      have nxt := ih (k + 1) (upd oq k (-1)) (by omega) (fun j hj => by rw [nu_upd]; split; rfl; exact hoq j (by omega))
      rw [← nI_1] at nxt
      refine pm_go1 [4] 30 ⟨fun z => absurd z c1, fun _ => ⟨nu_in (by omega) (by omega), ?_⟩⟩
      rw [ck]
      exact nxt
  obtain ⟨r2, h2, t1, m, oq', oz', ow', rfl, rfl, t2⟩ := pm_inE (mi := mX6_peace) (av := [.ref 27]) (h := (hp H r c P w B (mw, mh, ms, mg, mc, mo, mm, mz, mp) N (ob, oc, oq, oz, ow))) (pm_go [4] 10 ⟨_, _, cp, ini 32 0 oq (by omega) (fun j hj => absurd hj (by omega))⟩)
  exact ⟨m, mo', mm', mz', oq', oz', ow', t1, hMP, t2⟩
/-- class and reference answer alike, the class's and the reference's rows of pairs changing -/
def HaK2 (sc : Nat × (Nat → Int32)) (d mC mR : Nat) (av : List Value) (H : tH) (r c : tR) (P : tP) (w : tW) (B : tB) (M : tM) (N : tN) (O : tO) : Prop :=
  ∃ (x : Int32) (P' : tP) (w' : tW) (M' : tM) (O' : tO), pm_D sc d mC (.ref 1 :: av) (hp H r c P w B M N O) (some (.int x)) (hp H r c P' w' B M N O) ∧ pm_D sc d mR (.ref 27 :: av) (hp H r c P' w' B M N O) (some (.int x)) (hp H r c P' w' B M' N O') ∧ HaI H r c M' ∧ OI O'
theorem k_peace (sc : Nat × (Nat → Int32)) (d : Nat) (hw : Int32) (hh : Int32) (hc : Int32) (ho : tA) (hg : tA) (r : tR) (c : tR) (p1 : Value) (p2 : Value) (pf : tA) (pn : tA) (pr : tA) (pw : tA) (w : tW) (B : tB) (mw : Int32) (mh : Int32) (ms : tA) (mg : tA) (mc : Int32) (mo : tA) (mm : tA) (mz : tA) (mp : Int32) (N : tN) (ob : tA) (oc : Nat → Int64) (oq : tA) (oz : tA) (ow : tA) (hI : HaI (hw, hh, hc, ho, hg) r c (mw, mh, ms, mg, mc, mo, mm, mz, mp)) (hO : OI (ob, oc, oq, oz, ow)) : HaK2 sc (d + 20) mX5_peace mX6_peace [] (hw, hh, hc, ho, hg) r c (p1, p2, pf, pn, pr, pw) w B (mw, mh, ms, mg, mc, mo, mm, mz, mp) N (ob, oc, oq, oz, ow) := by
  obtain ⟨W, Hh, op, gd, bW, bH, hgo, ⟨i1, i2, i3, i4, i5⟩, ⟨j1, j2, j3, j4, j5⟩, hcc⟩ := hI
  dsimp only at i1 i2 i3 i4 j1 j2 j3 j4 j5 hcc
  have bHW := bHW_of bW bH
  obtain ⟨m, pf', pn', pr', pw', t1, n1⟩ := c_most_r sc (d + 15) (hw, hh, hc, ho, hg) r c p1 p2 pf pn pr pw w B (mw, mh, ms, mg, mc, mo, mm, mz, mp) N (ob, oc, oq, oz, ow) op 1 (egR W) W (egC W) (Hh * W) _ _ bHW (Nat.le_refl _) egR_st i5.1 i5.2 (-1) (-1)
  obtain ⟨m', mo', mm', mz', oq', oz', ow', t2, hMP, n2⟩ := r_peace sc (d + 14) (hw, hh, hc, ho, hg) r c (.ref 5, .ref 10, pf', pn', pr', pw') w B mw mh ms mg mc mo mm mz mp N ob oc oq oz ow W Hh op j1 j2 bW bH j3 j5
  have n1' := nu_congr (X' := aT) (Y' := aT) (fun k v he => by
    have := Ed_lt he
    have := rC_le op 1 (egR W) (Hh * W)
    have := rC_le op W (egC W) (Hh * W)
    exact ⟨bS_m1 (by omega), bS_m1 (by omega)⟩) n1
  have em := nu_one n1' n2
  subst em
  have u1 : pm_D sc (d + 19) mX1_mostPeaceful [.ref 2] (hp (hw, hh, hc, ho, hg) r c (p1, p2, pf, pn, pr, pw) w B (mw, mh, ms, mg, mc, mo, mm, mz, mp) N (ob, oc, oq, oz, ow)) (some (.int (nI m))) (hp (hw, hh, hc, ho, hg) r c (.ref 5, .ref 10, pf', pn', pr', pw') w B (mw, mh, ms, mg, mc, mo, mm, mz, mp) N (ob, oc, oq, oz, ow)) := pm_in (pm_go [] 20 ⟨_, _, t1, rfl, rfl⟩)
  have u2 : pm_D sc (d + 20) mX5_peace [.ref 1] (hp (hw, hh, hc, ho, hg) r c (p1, p2, pf, pn, pr, pw) w B (mw, mh, ms, mg, mc, mo, mm, mz, mp) N (ob, oc, oq, oz, ow)) (some (.int (nI m))) (hp (hw, hh, hc, ho, hg) r c (.ref 5, .ref 10, pf', pn', pr', pw') w B (mw, mh, ms, mg, mc, mo, mm, mz, mp) N (ob, oc, oq, oz, ow)) := pm_in (pm_go [] 20 ⟨_, _, u1, rfl, rfl⟩)
  exact ⟨_, _, _, _, _, u2, t2, ⟨W, Hh, op, gd, bW, bH, hgo, ⟨i1, i2, i3, i4, i5⟩, ⟨j1, j2, j3, j4, Or.inr ⟨rfl, hMP⟩⟩, hcc⟩, hO⟩
