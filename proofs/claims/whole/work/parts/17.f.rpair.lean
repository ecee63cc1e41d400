/-! THE REFERENCE'S PAIRS -/
theorem en_eq {o : Option Nat} {q : Nat} (ho : ∀ k, o = some k → k < 1000000) (hq : q < 1000000) : en o = nI q ↔ o = some q := by
  cases o with
  | none => exact ⟨fun z => absurd z.symm (en_ne hq), fun z => by cases z⟩
  | some k =>
    have := ho k rfl
    constructor
    · intro z
      have z : nI k = nI q := z
      rw [nu_eq (by omega) (by omega)] at z
      rw [z]
    · intro z; cases z; rfl
theorem rO_big {op : Nat → Bool} {st : Nat} {eg : Nat → Bool} {n z : Nat} (hn : n ≤ 64) : ∀ k, rO op st eg n z = some k → k < 1000000 := fun k h => by
  have := rO_lt _ _ _ h
  have := rC_le op st eg n
  omega
def dCp (W Hh : Nat) (op : Nat → Bool) (k v : Nat) : Nat → Bool := fun z => (rO op 1 (egR W) (Hh * W) z == some k) && (rO op W (egC W) (Hh * W) z == some v)
def dC (W Hh : Nat) (op : Nat → Bool) (k v : Nat) : Bool := decide (0 < ct (dCp W Hh op k v) (Hh * W))
abbrev EdR (W Hh : Nat) (op : Nat → Bool) : Nat → Nat → Prop := Ed op 1 (egR W) W (egC W) (Hh * W)
theorem dC_iff {W Hh : Nat} {op : Nat → Bool} {k v : Nat} : dC W Hh op k v = true ↔ EdR W Hh op k v := by
  unfold dC
  rw [decide_eq_true_iff]
  constructor
  · intro h
    obtain ⟨z, h1, h2⟩ := ct_ex _ h
    unfold dCp at h2
    rw [Bool.and_eq_true, beq_iff_eq, beq_iff_eq] at h2
    exact ⟨z, h1, h2.1, h2.2⟩
  · rintro ⟨z, h1, h2, h3⟩
    exact ct_pos _ z h1 (by unfold dCp; rw [h2, h3]; simp)
theorem r_doCross (sc : Nat × (Nat → Int32)) (d : Nat) (H : tH) (r : tR) (c : tR) (P : tP) (w : tW) (B : tB) (mw : Int32) (mh : Int32) (ms : tA) (mg : tA) (mc : Int32) (mo : tA) (mm : tA) (mz : tA) (mp : Int32) (N : tN) (O : tO) (W Hh k v : Nat) (op : Nat → Bool) (hW : mw = nI W) (hH : mh = nI Hh) (bHW : Hh * W ≤ 64) (hk : k < 1000) (hv : v < 1000) (hMP : MP W Hh op mo mm mz) : pm_D sc (d + 1) mX6_doCross [.ref 27, .int (nI k), .int (nI v)] (hp H r c P w B (mw, mh, ms, mg, mc, mo, mm, mz, mp) N O) (some (.int (bI (dC W Hh op k v)))) (hp H r c P w B (mw, mh, ms, mg, mc, mo, mm, mz, mp) N O) := by
  have hm : mw * mh = nI (Hh * W) := hw_mul hW hH
  have loop : ∀ (m z : Nat) (x : Int32), z + m = Hh * W → x = bI (decide (0 < ct (dCp W Hh op k v) z)) → pm_Go sc d (pm_cd mX6_doCross) (4, [some (.ref 27), some (.int (nI k)), some (.int (nI v)), some (.int x), some (.int (nI z))], [], (hp H r c P w B (mw, mh, ms, mg, mc, mo, mm, mz, mp) N O)) (fun r2 h2 => r2 = some (.int (bI (dC W Hh op k v))) ∧ h2 = (hp H r c P w B (mw, mh, ms, mg, mc, mo, mm, mz, mp) N O)) := by
    intro m
    induction m with
    | zero =>
      intro z x hz hx
      subst hx
      have : z = Hh * W := by omega
      subst this
      exact pm_go [] 20 ⟨fun q => ⟨bI_01 _, rfl, rfl⟩, fun q => absurd (show mw * mh ≤ nI (Hh * W) by rw [hm, nu_le (by omega) (by omega)]; exact Nat.le_refl _) q⟩
    | succ m ih =>
      intro z x hz hx
      have hn : ¬ mw * mh ≤ nI z := by rw [hm, nu_le (by omega) (by omega)]; omega
      have i1 : vp_in (nI z) 128 := nu_in (by omega) (by omega)
      have e64 : pm_ib 0 64 (nI z) = nI (64 * 1 + z) := by rw [pib0, nu_64, nI_add]
      have i2 : vp_in (pm_ib 0 64 (nI z)) 128 := by rw [e64]; exact nu_in (by omega) (by omega)
      have o1 : mo (nI z).toNatClampNeg = nI k ↔ rO op 1 (egR W) (Hh * W) z = some k := by
        have := hMP.1.2.1 z (by omega)
        rw [Nat.mul_zero, Nat.zero_add] at this
        rw [nu_cl (by omega), this, en_eq (rO_big bHW) (by omega)]
      have o2 : mo (pm_ib 0 64 (nI z)).toNatClampNeg = nI v ↔ rO op W (egC W) (Hh * W) z = some v := by
        rw [e64, nu_cl (by omega), hMP.2.2.1 z (by omega), en_eq (rO_big bHW) (by omega)]
      have hs : ∀ y : Bool, y = (decide (0 < ct (dCp W Hh op k v) z) || dCp W Hh op k v z) → pm_Go sc d (pm_cd mX6_doCross) (4, [some (.ref 27), some (.int (nI k)), some (.int (nI v)), some (.int (bI y)), some (.int (nI z + 1))], [], (hp H r c P w B (mw, mh, ms, mg, mc, mo, mm, mz, mp) N O)) (fun r2 h2 => r2 = some (.int (bI (dC W Hh op k v))) ∧ h2 = (hp H r c P w B (mw, mh, ms, mg, mc, mo, mm, mz, mp) N O)) := by
        intro y hy
        have nxt := ih (z + 1) (bI y) (by omega) (by rw [hy]; congr 1; exact (ct_or _ _).symm)
        rw [← nI_1] at nxt
        exact nxt
      subst hx
      cases hb : decide (0 < ct (dCp W Hh op k v) z) with
      | true => exact pm_go1 [4] 60 ⟨fun q => absurd q hn, fun q => ⟨fun q => hs true (by rw [hb]; rfl), fun q => absurd q (by decide)⟩⟩
      | false =>
        rw [hb] at hs
        by_cases h1 : rO op 1 (egR W) (Hh * W) z = some k
        · by_cases h2 : rO op W (egC W) (Hh * W) z = some v
          · exact pm_go1 [4] 60 ⟨fun q => absurd q hn, fun q => ⟨fun q => absurd rfl q, fun q => ⟨i1, fun q => absurd (o1.mpr h1) q, fun q => ⟨i2, fun q => absurd (o2.mpr h2) q, fun q => hs true (by unfold dCp; rw [h1, h2]; simp)⟩⟩⟩⟩
          · exact pm_go1 [4] 60 ⟨fun q => absurd q hn, fun q => ⟨fun q => absurd rfl q, fun q => ⟨i1, fun q => absurd (o1.mpr h1) q, fun q => ⟨i2, fun q => hs false (by unfold dCp; simp [h2]), fun q => absurd (o2.mp q) h2⟩⟩⟩⟩
        · exact pm_go1 [4] 60 ⟨fun q => absurd q hn, fun q => ⟨fun q => absurd rfl q, fun q => ⟨i1, fun q => hs false (by unfold dCp; simp [h1]), fun q => absurd (o1.mp q) h1⟩⟩⟩
  exact pm_in (pm_go [4] 20 (loop (Hh * W) 0 0 (by omega) rfl))
theorem en_up32 {f : tA} {g : Nat → Option Nat} {k : Nat} {x : Int32} {o : Option Nat} (h : ∀ j, j < 32 → f j = en (g j)) (hx : x = en o) : ∀ j, j < 32 → upd f k x j = en (upO g k o j) := by
  intro j hj
  rw [nu_upd]
  unfold upO
  split
  · exact hx
  · exact h j hj
theorem r_turnS (sc : Nat × (Nat → Int32)) (d : Nat) (H : tH) (r : tR) (c : tR) (P : tP) (w : tW) (B : tB) (mw : Int32) (mh : Int32) (ms : tA) (mg : tA) (mc : Int32) (mo : tA) (mm : tA) (mz : tA) (mp : Int32) (N : tN) (ob : tA) (oc : Nat → Int64) (oq : tA) (oz : tA) (ow : tA) (b kk : Nat) (i1 i2 i3 i4 : Int32) (q : Nat → Option Nat) (hb : b ≤ 32) (hk : kk < 1000) (hmm : mm 1 = nI b) (hq : ∀ u k, q u = some k → k < 1000) (hoq : ∀ j, j < 32 → oq j = en (q j)) (F : Option Value → pm_H → Prop)
    (nx : ∀ y : Int32, (∀ v', v' < b → (∀ u, q u = some kk ↔ u = v') → y = nI v') → pm_Go sc d (pm_cd mX6_turn) (33, [some (.ref 27), some (.int i1), some (.int i2), some (.int i3), some (.int i4), some (.int (nI kk)), some (.int y), some (.int (nI b))], [], (hp H r c P w B (mw, mh, ms, mg, mc, mo, mm, mz, mp) N (ob, oc, oq, oz, ow))) F) :
    ∀ (t u : Nat) (x : Int32), u + t = b → (∀ v', v' < u → (∀ u, q u = some kk ↔ u = v') → x = nI v') → pm_Go sc d (pm_cd mX6_turn) (15, [some (.ref 27), some (.int i1), some (.int i2), some (.int i3), some (.int i4), some (.int (nI kk)), some (.int x), some (.int (nI u))], [], (hp H r c P w B (mw, mh, ms, mg, mc, mo, mm, mz, mp) N (ob, oc, oq, oz, ow))) F := by
  have i1' : vp_in (1 : Int32) 2 := nu_in (a := 1) (by omega) (by omega)
  have em : mm (1 : Int32).toNatClampNeg = nI b := hmm
  intro t
  induction t with
  | zero =>
    intro u x hut hx
    have : u = b := by omega
    subst this
    refine pm_go1 [33] 20 ⟨i1', fun _ => nx x hx, fun z => absurd ?_ z⟩
    show mm (1 : Int32).toNatClampNeg ≤ nI u
    rw [em]
    exact (nu_le (by omega) (by omega)).mpr (Nat.le_refl _)
  | succ t ih =>
    intro u x hut hx
    have c1 : ¬ mm (1 : Int32).toNatClampNeg ≤ nI u := by rw [em, nu_le (by omega) (by omega)]; omega
    have iu : vp_in (nI u) 32 := nu_in (by omega) (by omega)
    have oe : oq (nI u).toNatClampNeg = nI kk ↔ q u = some kk := by
      rw [nu_cl (by omega), hoq u (by omega)]
      exact en_eq (fun k h => by have := hq u k h; omega) (by omega)
    by_cases hu : q u = some kk
    · have nxt := ih (u + 1) (nI u) (by omega) (fun v' hv' h => by rw [(h u).mp hu])
      rw [← nI_1] at nxt
      exact pm_go1 [15] 30 ⟨i1', fun z => absurd z c1, fun _ => ⟨iu, fun z => absurd (oe.mpr hu) z, fun _ => nxt⟩⟩
    · have nxt := ih (u + 1) x (by omega) (fun v' hv' h => by
        have : v' ≠ u := fun e => hu ((h u).mpr e.symm)
        exact hx v' (by omega) h)
      rw [← nI_1] at nxt
      exact pm_go1 [15] 30 ⟨i1', fun z => absurd z c1, fun _ => ⟨iu, fun _ => nxt, fun z => absurd (oe.mp z) hu⟩⟩
theorem r_turnL (sc : Nat × (Nat → Int32)) (d : Nat) (H : tH) (r : tR) (c : tR) (P : tP) (w : tW) (B : tB) (mw : Int32) (mh : Int32) (ms : tA) (mg : tA) (mc : Int32) (mo : tA) (mm : tA) (mz : tA) (mp : Int32) (N : tN) (ob : tA) (oc : Nat → Int64) (oq : tA) (oz : tA) (ow : tA) (a b : Nat) (E : Nat → Nat → Prop) (X Y Pc : Nat → Bool) (q0 fo0 : Nat → Option Nat) (wf : Nat → Nat) (n : Nat) (rc : Nat → Bool) (rf : Nat → Nat) (h m : Nat) (ha : a ≤ 32) (hb : b ≤ 32) (hmm : mm 1 = nI b) (hM0 : Mt a b E X Y q0 fo0) (hT : BT a b E X Y q0 fo0 wf n rc rf) (hw : wf 0 = h)
    (hC0 : ∀ k, k < h → X k = true → fo0 k = none → Pc k = true) (hC1 : ∀ k, h ≤ k → fo0 k = none) (hrf : ∀ u, rc u = true → oz u = nI (rf u)) (i1 : Int32) : ∀ (k : Nat) (q fo : Nat → Option Nat) (v : Nat) (oq : tA) (l5 l6 l7 : Option Value), k < n → (∀ u k, q u = some k → k < 1000) → FI a b E X Y Pc fo0 wf m q fo v k → oz v = nI (wf k) → (∀ j, j < 32 → oq j = en (q j)) →
    pm_Go sc d (pm_cd mX6_turn) (4, [some (.ref 27), some (.int i1), some (.int (nI h)), some (.int (nI v)), some (.int 1), l5, l6, l7], [], (hp H r c P w B (mw, mh, ms, mg, mc, mo, mm, mz, mp) N (ob, oc, oq, oz, ow))) (fun r2 h2 => r2 = none ∧ ∃ (q' fo' : Nat → Option Nat) (oq' : tA), h2 = (hp H r c P w B (mw, mh, ms, mg, mc, mo, mm, mz, mp) N (ob, oc, oq', oz, ow)) ∧ (∀ j, j < 32 → oq' j = en (q' j)) ∧ Mt a b E X Y q' fo' ∧ szq q' b = m + 1 ∧ Ce E X Y (h + 1) Pc q' fo') := by
  have hna := BT_size hT
  have t6 := hT.2.2.2.2.2
  have t5 := hT.2.2.2.2.1
  intro k
  induction k using Nat.strongRecOn with
  | _ k ih =>
    intro q fo v oq l5 l6 l7 hk hq1 hF hpv hoq
    have hvb : v < b := hF.1
    have hwk := (t6 k hk).1
    have iv : vp_in (nI v) 32 := nu_in (by omega) (by omega)
    have cv : (nI v).toNatClampNeg = v := nu_cl (by omega)
    have aN : ∀ j, j < 32 → upd oq v (nI (wf k)) j = en (upO q v (some (wf k)) j) := en_up32 hoq rfl
    have ezv : oz (nI v).toNatClampNeg = nI (wf k) := by rw [cv]; exact hpv
    have q1 : ∀ u j, upO q v (some (wf k)) u = some j → j < 1000 := fun u j hj => by
      unfold upO at hj
      split at hj
      · cases hj; omega
      · exact hq1 u j hj
    have scan := r_turnS sc d H r c P w B mw mh ms mg mc mo mm mz mp N ob oc oq oz ow b (wf k) i1 (nI h) (nI v) 1 q hb (by omega) hmm hq1 hoq (fun r2 h2 => r2 = none ∧ ∃ (q' fo' : Nat → Option Nat) (oq' : tA), h2 = (hp H r c P w B (mw, mh, ms, mg, mc, mo, mm, mz, mp) N (ob, oc, oq', oz, ow)) ∧ (∀ j, j < 32 → oq' j = en (q' j)) ∧ Mt a b E X Y q' fo' ∧ szq q' b = m + 1 ∧ Ce E X Y (h + 1) Pc q' fo') (fun y hy => by
      by_cases hk0 : k = 0
      · subst hk0
        have hend := FI_end hF hw hT.2.1 (by rw [← hw]; exact hwk) (by rw [← hw]; exact (t6 0 hk).2) hC0 hC1
        rw [hw] at aN ⊢
        exact pm_go1 [] 30 ⟨iv, fun _ => ⟨fun _ => ⟨rfl, _, _, upd oq (nI v).toNatClampNeg (nI h), rfl, (by rw [cv]; exact aN), hend.1, hend.2.1, hend.2.2⟩, fun z => absurd rfl z⟩, fun z => absurd rfl z⟩
      · obtain ⟨v', k', g1, g2, g3, g4, g5, g6, g7⟩ := FI_go hM0 hT hF (by omega) hk
        have ey := hy v' g3 g2
        subst ey
        have hne : ¬ nI (wf k) = nI h := by
          rw [nu_eq (by omega) (by have := (t6 0 (by omega)).1; omega), ← hw]
          intro e
          have := t5 k 0 hk (by omega) e
          omega
        have nxt := ih k' g4 _ _ v' (upd oq v (nI (wf k))) (some (.int (nI (wf k)))) (some (.int (nI v'))) (some (.int (nI b))) (by omega) q1 g7 (by rw [hrf v' g5, g6]) aN
        refine pm_go1 [4] 30 ⟨iv, fun z => absurd z hne, fun _ => ?_⟩
        rw [cv]
        exact nxt) b 0 (-1) (by omega) (fun v' hv' => absurd hv' (by omega))
    rw [← ezv] at scan
    exact pm_go1 [15] 20 ⟨fun z => absurd z (by decide), fun _ => ⟨iv, scan⟩⟩
theorem r_turn (sc : Nat × (Nat → Int32)) (d : Nat) (H : tH) (r : tR) (c : tR) (P : tP) (w : tW) (B : tB) (mw : Int32) (mh : Int32) (ms : tA) (mg : tA) (mc : Int32) (mo : tA) (mm : tA) (mz : tA) (mp : Int32) (N : tN) (ob : tA) (oc : Nat → Int64) (oq : tA) (oz : tA) (ow : tA) (a b : Nat) (E : Nat → Nat → Prop) (X Y Pc : Nat → Bool) (q0 fo0 : Nat → Option Nat) (wf : Nat → Nat) (n : Nat) (rc : Nat → Bool) (rf : Nat → Nat) (h k v : Nat) (ha : a ≤ 32) (hb : b ≤ 32) (hmm : mm 1 = nI b) (hM0 : Mt a b E X Y q0 fo0) (hT : BT a b E X Y q0 fo0 wf n rc rf) (hw : wf 0 = h)
    (hC : Ce E X Y h Pc q0 fo0) (hrf : ∀ u, rc u = true → oz u = nI (rf u)) (hk : k < n) (hY : Y v = true) (he : E (wf k) v) (hv : v < b) (hq : q0 v = none) (hpv : oz v = nI (wf k)) (hoq : ∀ j, j < 32 → oq j = en (q0 j)) :
    ∃ (q' fo' : Nat → Option Nat) (oq' : tA), pm_D sc (d + 1) mX6_turn [.ref 27, .int (nI v), .int (nI h)] (hp H r c P w B (mw, mh, ms, mg, mc, mo, mm, mz, mp) N (ob, oc, oq, oz, ow)) none (hp H r c P w B (mw, mh, ms, mg, mc, mo, mm, mz, mp) N (ob, oc, oq', oz, ow)) ∧ (∀ j, j < 32 → oq' j = en (q' j)) ∧ Mt a b E X Y q' fo' ∧ szq q' b = szq q0 b + 1 ∧ Ce E X Y (h + 1) Pc q' fo' := by
  have F0 := FI_new (w := wf) hM0 hC hY he hv hq
  have l0 := r_turnL sc d H r c P w B mw mh ms mg mc mo mm mz mp N ob oc oq oz ow a b E X Y Pc q0 fo0 wf n rc rf h (szq q0 b) ha hb hmm hM0 hT hw hC.1 hC.2.2 hrf (nI v) k q0 fo0 v oq none none none hk (fun u j hj => by have := (hM0.1 u j hj).2.1; omega) F0 hpv hoq
  obtain ⟨r2, h2, t1, rfl, q', fo', oq', rfl, t2⟩ := pm_inE (mi := mX6_turn) (av := [.ref 27, .int (nI v), .int (nI h)]) (h := (hp H r c P w B (mw, mh, ms, mg, mc, mo, mm, mz, mp) N (ob, oc, oq, oz, ow))) (pm_go [4] 10 l0)
  exact ⟨q', fo', oq', t1, t2⟩
