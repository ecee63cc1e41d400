def FS2 (a b : Nat) (E : Nat → Nat → Prop) (X Y : Nat → Bool) (q fo : Nat → Option Nat) (wf : Nat → Nat) (n : Nat) (rc : Nat → Bool) (rf : Nat → Nat) (oz ow : tA) : Prop :=
  BT a b E X Y q fo wf n rc rf ∧ (∀ v, v < 32 → oz v = if rc v then nI (rf v) else -1) ∧ (∀ j, j < n → ow j = nI (wf j))
def FR2 (a b : Nat) (E : Nat → Nat → Prop) (X Y : Nat → Bool) (h m : Nat) (mk : tA → tA → tA → pm_H) (r2 : Option Value) (h2 : pm_H) : Prop :=
  ∃ (q' fo' : Nat → Option Nat) (oq' oz' ow' : tA) (Pc' : Nat → Bool) (s : Bool), r2 = some (.int (bI s)) ∧ h2 = mk oq' oz' ow' ∧ (∀ j, j < 32 → oq' j = en (q' j)) ∧ Mt a b E X Y q' fo' ∧ Ce E X Y (h + 1) Pc' q' fo' ∧ szq q' b = m + (if s then 1 else 0)
abbrev aT : Nat → Bool := fun _ => true
theorem r_findIn (sc : Nat × (Nat → Int32)) (d : Nat) (H : tH) (r : tR) (c : tR) (P : tP) (w : tW) (B : tB) (mw : Int32) (mh : Int32) (ms : tA) (mg : tA) (mc : Int32) (mo : tA) (mm : tA) (mz : tA) (mp : Int32) (N : tN) (ob : tA) (oc : Nat → Int64) (oq : tA) (oz : tA) (ow : tA) (W Hh : Nat) (op : Nat → Bool) (hW : mw = nI W) (hH : mh = nI Hh) (bW : 1 ≤ W ∧ W ≤ 8) (bH : 1 ≤ Hh ∧ Hh ≤ 8) (hMP : MP W Hh op mo mm mz) (Pc : Nat → Bool) (q fo : Nat → Option Nat) (h hd : Nat)
    (hM : Mt (rC op 1 (egR W) (Hh * W)) (rC op W (egC W) (Hh * W)) (EdR W Hh op) aT aT q fo) (hC : Ce (EdR W Hh op) aT aT h Pc q fo) (hoq : ∀ j, j < 32 → oq j = en (q j))
    (nx : ∀ (wf : Nat → Nat) (n : Nat) (rc : Nat → Bool) (rf : Nat → Nat) (oz ow : tA) (l4 l5 : Option Value), FS2 (rC op 1 (egR W) (Hh * W)) (rC op W (egC W) (Hh * W)) (EdR W Hh op) aT aT q fo wf n rc rf oz ow → wf 0 = h → hd < n → (∀ i v, i < hd + 1 → EdR W Hh op (wf i) v → rc v = true) →
      pm_Go sc (d + 1) (pm_cd mX6_finds) (21, [some (.ref 27), some (.int (nI h)), some (.int (nI n)), some (.int (nI hd + 1)), l4, l5], [], (hp H r c P w B (mw, mh, ms, mg, mc, mo, mm, mz, mp) N (ob, oc, oq, oz, ow))) (FR2 (rC op 1 (egR W) (Hh * W)) (rC op W (egC W) (Hh * W)) (EdR W Hh op) aT aT h (szq q (rC op W (egC W) (Hh * W))) (fun oq oz ow => (hp H r c P w B (mw, mh, ms, mg, mc, mo, mm, mz, mp) N (ob, oc, oq, oz, ow))))) :
    ∀ (t v : Nat) (wf : Nat → Nat) (n : Nat) (rc : Nat → Bool) (rf : Nat → Nat) (oz ow : tA), hd < n → v + t = rC op W (egC W) (Hh * W) → FS2 (rC op 1 (egR W) (Hh * W)) (rC op W (egC W) (Hh * W)) (EdR W Hh op) aT aT q fo wf n rc rf oz ow → wf 0 = h →
      (∀ i v, i < hd → EdR W Hh op (wf i) v → rc v = true) → (∀ v', v' < v → EdR W Hh op (wf hd) v' → rc v' = true) →
      pm_Go sc (d + 1) (pm_cd mX6_finds) (31, [some (.ref 27), some (.int (nI h)), some (.int (nI n)), some (.int (nI hd)), some (.int (nI (wf hd))), some (.int (nI v))], [], (hp H r c P w B (mw, mh, ms, mg, mc, mo, mm, mz, mp) N (ob, oc, oq, oz, ow))) (FR2 (rC op 1 (egR W) (Hh * W)) (rC op W (egC W) (Hh * W)) (EdR W Hh op) aT aT h (szq q (rC op W (egC W) (Hh * W))) (fun oq oz ow => (hp H r c P w B (mw, mh, ms, mg, mc, mo, mm, mz, mp) N (ob, oc, oq, oz, ow)))) := by
  have bHW := bHW_of bW bH
  have a32 := r32R (op := op) bW bH
  have b32 := r32C (op := op) bW bH
  have i1' : vp_in (1 : Int32) 2 := nu_in (a := 1) (by omega) (by omega)
  have em : mm (1 : Int32).toNatClampNeg = nI (rC op W (egC W) (Hh * W)) := hMP.2.1
  intro t
  induction t with
  | zero =>
    intro v wf n rc rf oz ow hd1 hvt hS hw hA hB
    have nx1 := nx wf n rc rf oz ow (some (.int (nI (wf hd)))) (some (.int (nI v))) hS hw hd1 (fun i u hi hE => by
      by_cases e : i = hd
      · rw [e] at hE
        exact hB u (by have := (Ed_lt hE).2; omega) hE
      · exact hA i u (by omega) hE)
    refine pm_go1 [21, 31] 20 ⟨i1', fun _ => nx1, fun z => absurd ?_ z⟩
    show mm (1 : Int32).toNatClampNeg ≤ nI v
    rw [em, nu_le (by omega) (by omega)]; omega
  | succ t ih =>
    intro v wf n rc rf oz ow hd1 hvt hS hw hA hB
    have hS0 := hS
    obtain ⟨hT, hoz, how⟩ := hS
    have hna := BT_size hT
    have hwa := (hT.2.2.2.2.2 hd hd1).1
    have c1 : ¬ mm (1 : Int32).toNatClampNeg ≤ nI v := by rw [em, nu_le (by omega) (by omega)]; omega
    have iv : vp_in (nI v) 32 := nu_in (by omega) (by omega)
    have cv : (nI v).toNatClampNeg = v := nu_cl (by omega)
    have hozv := hoz v (by omega)
    cases hr : rc v with
    | true =>
      have ne : ¬ oz (nI v).toNatClampNeg = -1 := by
        rw [cv, hozv, hr]
        obtain ⟨_, _, g3, _⟩ := hT.2.2.2.1 v hr
        have := (Ed_lt g3).1
        exact en_ne (q := rf v) (by omega)
      have nxt := ih (v + 1) wf n rc rf oz ow hd1 (by omega) hS0 hw hA (fun v' hv' hE => by
        by_cases e : v' = v
        · rw [e]; exact hr
        · exact hB v' (by omega) hE)
      rw [← nI_1] at nxt
      exact pm_go1 [21, 31] 60 ⟨i1', fun z => absurd z c1, fun _ => ⟨iv, fun _ => nxt, fun z => absurd z ne⟩⟩
    | false =>
      have ze : oz (nI v).toNatClampNeg = -1 := by rw [cv, hozv, hr]; rfl
      have call := r_doCross sc d H r c P w B mw mh ms mg mc mo mm mz mp N (ob, oc, oq, oz, ow) W Hh (wf hd) v op hW hH bHW (by omega) (by omega) hMP
      cases hx : dC W Hh op (wf hd) v with
      | false =>
        rw [hx] at call
        have nxt := ih (v + 1) wf n rc rf oz ow hd1 (by omega) hS0 hw hA (fun v' hv' hE => by
          by_cases e : v' = v
          · rw [e, ← dC_iff, hx] at hE; cases hE
          · exact hB v' (by omega) hE)
        rw [← nI_1] at nxt
        exact pm_go1 [21, 31] 60 ⟨i1', fun z => absurd z c1, fun _ => ⟨iv, fun z => absurd ze z, fun _ => ⟨_, _, call, fun _ => nxt, fun z => absurd rfl z⟩⟩⟩
      | true =>
        rw [hx] at call
        have hE := dC_iff.mp hx
        have hvb := (Ed_lt hE).2
        have hoz1 : ∀ u, rc u = true → upd oz v (nI (wf hd)) u = nI (rf u) := fun u hu => by
          rw [nu_updN (fun e => by rw [e, hr] at hu; cases hu), hoz u (by have := (hT.2.2.2.1 u hu).1; omega), if_pos hu]
        cases hq : q v with
        | none =>
          have qn : oq (nI v).toNatClampNeg = -1 := by rw [cv, hoq v (by omega), hq]; rfl
          obtain ⟨q', fo', oq', t1, t2, t4, t5, t6⟩ := r_turn sc d H r c P w B mw mh ms mg mc mo mm mz mp N ob oc oq (upd oz v (nI (wf hd))) ow _ _ _ aT aT Pc q fo wf n rc rf h hd v a32 b32 hMP.2.1 hM hT hw hC hoz1 hd1 rfl hE hvb hq nu_updS hoq
          have t1' : pm_D sc (d + 1) mX6_turn [.ref 27, .int (nI v), .int (nI h)] (hp H r c P w B (mw, mh, ms, mg, mc, mo, mm, mz, mp) N (ob, oc, oq, upd oz (nI v).toNatClampNeg (nI (wf hd)), ow)) none (hp H r c P w B (mw, mh, ms, mg, mc, mo, mm, mz, mp) N (ob, oc, oq', upd oz v (nI (wf hd)), ow)) := by rw [cv]; exact t1
          exact pm_go1 [21, 31] 60 ⟨i1', fun z => absurd z c1, fun _ => ⟨iv, fun z => absurd ze z, fun _ => ⟨_, _, call, fun z => absurd z (by decide), fun _ => ⟨iv, iv, fun z => absurd qn z, fun _ => ⟨_, _, t1', Or.inr rfl, q', fo', oq', _, _, Pc, true, rfl, rfl, t2, t4, t6, t5⟩⟩⟩⟩⟩
        | some k =>
          have qn : ¬ oq (nI v).toNatClampNeg = -1 := by rw [cv, hoq v (by omega), hq]; exact en_ne (by have := hM.1 v k hq; omega)
          obtain ⟨wg, wg1, wg2⟩ : ∃ f : Nat → Nat, f n = k ∧ ∀ j, j ≠ n → f j = wf j := ⟨fun j => if j = n then k else wf j, if_pos rfl, fun j hj => if_neg hj⟩
          obtain ⟨rd, rd1, rd2⟩ : ∃ f : Nat → Bool, f v = true ∧ ∀ j, j ≠ v → f j = rc j := ⟨fun j => if j = v then true else rc j, if_pos rfl, fun j hj => if_neg hj⟩
          obtain ⟨rg, rg1, rg2⟩ : ∃ f : Nat → Nat, f v = wf hd ∧ ∀ j, j ≠ v → f j = rf j := ⟨fun j => if j = v then wf hd else rf j, if_pos rfl, fun j hj => if_neg hj⟩
          have hT2 := BT_add hM hT hd1 rfl hE hvb hr hq wg1 (fun j hj => wg2 j (by omega)) rd1 rd2 rg1 rg2
          have hna2 := BT_size hT2
          have en1 : wg hd = wf hd := wg2 hd (by omega)
          have nxt := ih (v + 1) wg (n + 1) rd rg (upd oz v (nI (wf hd))) (upd ow n (nI k)) (by omega) (by omega)
            ⟨hT2, fun u hu => by
                rw [nu_upd]
                by_cases e : u = v
                · rw [if_pos e, e, rd1, rg1]; rfl
                · rw [if_neg e, rd2 u e, rg2 u e]; exact hoz u hu, fun j hj => by
                rw [nu_upd]
                split
                · rename_i e; rw [e, wg1]
                · rename_i e; rw [wg2 j e]; exact how j (by omega)⟩ (by rw [wg2 0 (by omega)]; exact hw)
            (fun j u hj hE => by
              rw [wg2 j (by omega)] at hE
              by_cases e : u = v
              · rw [e]; exact rd1
              · rw [rd2 u e]; exact hA j u hj hE)
            (fun u hu hE => by
              by_cases e : u = v
              · rw [e]; exact rd1
              · rw [rd2 u e]
                rw [en1] at hE
                exact hB u (by omega) hE)
          have cn : (nI n).toNatClampNeg = n := nu_cl (by omega)
          have qe : oq (nI v).toNatClampNeg = nI k := by rw [cv, hoq v (by omega), hq]; rfl
          have inn : vp_in (nI n) 32 := nu_in (by omega) (by omega)
          rw [en1, ← nI_1 n, ← nI_1 v] at nxt
          refine pm_go1 [21, 31] 60 ⟨i1', fun z => absurd z c1, fun _ => ⟨iv, fun z => absurd ze z, fun _ => ⟨_, _, call, fun z => absurd z (by decide), fun _ => ⟨iv, iv, fun _ => ⟨iv, inn, ?_⟩, fun z => absurd z qn⟩⟩⟩⟩
          rw [show (ob, oc, oq, oz, ow).2.2.1 (nI v).toNatClampNeg = nI k from qe, cv, cn]
          exact nxt
theorem r_findOut (sc : Nat × (Nat → Int32)) (d : Nat) (H : tH) (r : tR) (c : tR) (P : tP) (w : tW) (B : tB) (mw : Int32) (mh : Int32) (ms : tA) (mg : tA) (mc : Int32) (mo : tA) (mm : tA) (mz : tA) (mp : Int32) (N : tN) (ob : tA) (oc : Nat → Int64) (oq : tA) (oz : tA) (ow : tA) (W Hh : Nat) (op : Nat → Bool) (hW : mw = nI W) (hH : mh = nI Hh) (bW : 1 ≤ W ∧ W ≤ 8) (bH : 1 ≤ Hh ∧ Hh ≤ 8) (hMP : MP W Hh op mo mm mz) (Pc : Nat → Bool) (q fo : Nat → Option Nat) (h : Nat)
    (hM : Mt (rC op 1 (egR W) (Hh * W)) (rC op W (egC W) (Hh * W)) (EdR W Hh op) aT aT q fo) (hC : Ce (EdR W Hh op) aT aT h Pc q fo) (hoq : ∀ j, j < 32 → oq j = en (q j)) :
    ∀ (t hd : Nat) (wf : Nat → Nat) (n : Nat) (rc : Nat → Bool) (rf : Nat → Nat) (oz ow : tA) (l4 l5 : Option Value), hd + t = rC op 1 (egR W) (Hh * W) → hd ≤ n → FS2 (rC op 1 (egR W) (Hh * W)) (rC op W (egC W) (Hh * W)) (EdR W Hh op) aT aT q fo wf n rc rf oz ow → wf 0 = h → (∀ i v, i < hd → EdR W Hh op (wf i) v → rc v = true) →
      pm_Go sc (d + 1) (pm_cd mX6_finds) (21, [some (.ref 27), some (.int (nI h)), some (.int (nI n)), some (.int (nI hd)), l4, l5], [], (hp H r c P w B (mw, mh, ms, mg, mc, mo, mm, mz, mp) N (ob, oc, oq, oz, ow))) (FR2 (rC op 1 (egR W) (Hh * W)) (rC op W (egC W) (Hh * W)) (EdR W Hh op) aT aT h (szq q (rC op W (egC W) (Hh * W))) (fun oq oz ow => (hp H r c P w B (mw, mh, ms, mg, mc, mo, mm, mz, mp) N (ob, oc, oq, oz, ow)))) := by
  have bHW := bHW_of bW bH
  have a32 := r32R (op := op) bW bH
  have b32 := r32C (op := op) bW bH
  intro t
  induction t with
  | zero =>
    intro hd wf n rc rf oz ow l4 l5 hit hdn hS hw hA
    have hna := BT_size hS.1
    obtain ⟨Pc', hC'⟩ := BT_fail hS.1 hw (fun i v hi _ => hA i v (by omega)) hC
    refine pm_go1 [21, 31] 10 ⟨fun _ => ⟨Or.inl rfl, q, fo, oq, oz, ow, Pc', false, rfl, rfl, hoq, hM, hC', rfl⟩, fun z => absurd ?_ z⟩
    rw [nu_le (by omega) (by omega)]; omega
  | succ t ih =>
    intro hd wf n rc rf oz ow l4 l5 hit hdn hS hw hA
    have hna := BT_size hS.1
    by_cases hdn2 : hd = n
    · obtain ⟨Pc', hC'⟩ := BT_fail hS.1 hw (fun i v hi _ => hA i v (by omega)) hC
      refine pm_go1 [21, 31] 10 ⟨fun _ => ⟨Or.inl rfl, q, fo, oq, oz, ow, Pc', false, rfl, rfl, hoq, hM, hC', rfl⟩, fun z => absurd ?_ z⟩
      rw [nu_le (by omega) (by omega)]; omega
    · have c1 : ¬ nI n ≤ nI hd := by rw [nu_le (by omega) (by omega)]; omega
      have inn := r_findIn sc d H r c P w B mw mh ms mg mc mo mm mz mp N ob oc oq oz ow W Hh op hW hH bW bH hMP Pc q fo h hd hM hC hoq (fun wf n rc rf oz ow l4 l5 g1 g2 g3 g4 => by
        have nxt := ih (hd + 1) wf n rc rf oz ow l4 l5 (by omega) (by omega) g1 g2 g4
        rw [← nI_1] at nxt
        exact nxt) (rC op W (egC W) (Hh * W)) 0 wf n rc rf oz ow (by omega) (by omega) hS hw hA (fun v' hv' => absurd hv' (by omega))
      have ew : ow (nI hd).toNatClampNeg = nI (wf hd) := by rw [nu_cl (by omega)]; exact hS.2.2 hd (by omega)
      rw [← ew] at inn
      exact pm_go1 [21, 31] 20 ⟨fun z => absurd z c1, fun _ => ⟨nu_in (by omega) (by omega), inn⟩⟩
theorem r_finds (sc : Nat × (Nat → Int32)) (d : Nat) (H : tH) (r : tR) (c : tR) (P : tP) (w : tW) (B : tB) (mw : Int32) (mh : Int32) (ms : tA) (mg : tA) (mc : Int32) (mo : tA) (mm : tA) (mz : tA) (mp : Int32) (N : tN) (ob : tA) (oc : Nat → Int64) (oq : tA) (oz : tA) (ow : tA) (W Hh : Nat) (op : Nat → Bool) (hW : mw = nI W) (hH : mh = nI Hh) (bW : 1 ≤ W ∧ W ≤ 8) (bH : 1 ≤ Hh ∧ Hh ≤ 8) (hMP : MP W Hh op mo mm mz) (Pc : Nat → Bool) (q fo : Nat → Option Nat) (h : Nat)
    (hM : Mt (rC op 1 (egR W) (Hh * W)) (rC op W (egC W) (Hh * W)) (EdR W Hh op) aT aT q fo) (hC : Ce (EdR W Hh op) aT aT h Pc q fo) (hoq : ∀ j, j < 32 → oq j = en (q j)) (ha : h < rC op 1 (egR W) (Hh * W)) :
    ∃ (rv : Option Value) (h2 : pm_H), pm_D sc (d + 2) mX6_finds [.ref 27, .int (nI h)] (hp H r c P w B (mw, mh, ms, mg, mc, mo, mm, mz, mp) N (ob, oc, oq, oz, ow)) rv h2 ∧ FR2 (rC op 1 (egR W) (Hh * W)) (rC op W (egC W) (Hh * W)) (EdR W Hh op) aT aT h (szq q (rC op W (egC W) (Hh * W))) (fun oq oz ow => (hp H r c P w B (mw, mh, ms, mg, mc, mo, mm, mz, mp) N (ob, oc, oq, oz, ow))) rv h2 := by
  have ini : ∀ (t k : Nat) (oz : tA), k + t = 32 → (∀ j, j < k → oz j = -1) → pm_Go sc (d + 1) (pm_cd mX6_finds) (2, [some (.ref 27), some (.int (nI h)), some (.int (nI k)), none, none, none], [], (hp H r c P w B (mw, mh, ms, mg, mc, mo, mm, mz, mp) N (ob, oc, oq, oz, ow))) (FR2 (rC op 1 (egR W) (Hh * W)) (rC op W (egC W) (Hh * W)) (EdR W Hh op) aT aT h (szq q (rC op W (egC W) (Hh * W))) (fun oq oz ow => (hp H r c P w B (mw, mh, ms, mg, mc, mo, mm, mz, mp) N (ob, oc, oq, oz, ow)))) := by
    intro t
    induction t with
    | zero =>
      intro k oz hk hoz
      have out := r_findOut sc d H r c P w B mw mh ms mg mc mo mm mz mp N ob oc oq oz ow W Hh op hW hH bW bH hMP Pc q fo h hM hC hoq (rC op 1 (egR W) (Hh * W)) 0 (fun _ => h) 1 (fun _ => false) (fun _ => 0) oz (upd ow 0 (nI h)) none none (by omega) (by omega)
        ⟨BT_new _ (hC.2.2 h (Nat.le_refl _)) ha rfl, fun v hv => hoz v (by omega), fun j hj => by rw [show j = 0 by omega, nu_updS]⟩ rfl (fun i v hi => absurd hi (by omega))
      refine pm_go1 [21] 30 ⟨fun _ => ⟨nu_in (a := 0) (by omega) (by omega), out⟩, fun z => absurd ?_ z⟩
      rw [nu_32, nu_le (by omega) (by omega)]; omega
    | succ t ih =>
      intro k oz hk hoz
      have c1 : ¬ 32 ≤ nI k := by rw [nu_32, nu_le (by omega) (by omega)]; omega
      have ck : (nI k).toNatClampNeg = k := nu_cl (by omega)
      have nxt := ih (k + 1) (upd oz k (-1)) (by omega) (fun j hj => by rw [nu_upd]; split; rfl; exact hoz j (by omega))
      rw [← nI_1] at nxt
      refine pm_go1 [2] 30 ⟨fun z => absurd z c1, fun _ => ⟨nu_in (by omega) (by omega), ?_⟩⟩
      rw [ck]
      exact nxt
  exact pm_inE (pm_go [2] 10 (ini 32 0 oz (by omega) (fun j hj => absurd hj (by omega))))
