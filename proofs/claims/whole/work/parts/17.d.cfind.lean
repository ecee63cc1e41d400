/-- run k of the one direction crosses run v of the other -/
def Ed (op : Nat → Bool) (st1 : Nat) (eg1 : Nat → Bool) (st2 : Nat) (eg2 : Nat → Bool) (n k v : Nat) : Prop := ∃ z, z < n ∧ rO op st1 eg1 n z = some k ∧ rO op st2 eg2 n z = some v
theorem Ed_lt {op : Nat → Bool} {st1 : Nat} {eg1 : Nat → Bool} {st2 : Nat} {eg2 : Nat → Bool} {n k v : Nat} (h : Ed op st1 eg1 st2 eg2 n k v) : k < rC op st1 eg1 n ∧ v < rC op st2 eg2 n := by
  obtain ⟨z, _, h1, h2⟩ := h
  exact ⟨rO_lt _ _ _ h1, rO_lt _ _ _ h2⟩
/-- the search so far -/
def FS (a b : Nat) (E : Nat → Nat → Prop) (X Y : Nat → Bool) (q fo : Nat → Option Nat) (wf : Nat → Nat) (n : Nat) (rc : Nat → Bool) (rf : Nat → Nat) (pr pw : tA) (fr : Int64) : Prop :=
  BT a b E X Y q fo wf n rc rf ∧ (∀ v, v < 64 → bS fr v = (Y v && !rc v)) ∧ (∀ j, j < n → pw j = nI (wf j)) ∧ (∀ u, rc u = true → pr u = nI (rf u))
/-- what the search comes to -/
def FR (a b : Nat) (E : Nat → Nat → Prop) (X Y : Nat → Bool) (h m : Nat) (mk : tA → tA → tA → tA → pm_H) (r2 : Option Value) (h2 : pm_H) : Prop :=
  ∃ (q' fo' : Nat → Option Nat) (pf' pn' pr' pw' : tA) (Pc' : Nat → Bool) (s : Bool), r2 = some (.int (bI s)) ∧ h2 = mk pf' pn' pr' pw' ∧ (∀ j, j < 64 → pn' j = en (q' j)) ∧ (∀ j, j < 64 → pf' j = en (fo' j)) ∧ Mt a b E X Y q' fo' ∧ Ce E X Y (h + 1) Pc' q' fo' ∧ szq q' b = m + (if s then 1 else 0)
theorem FR_no {a b : Nat} {E : Nat → Nat → Prop} {X Y : Nat → Bool} {h : Nat} {mk : tA → tA → tA → tA → pm_H} {q fo : Nat → Option Nat} {pf pn pr pw : tA} {Pc : Nat → Bool} (h1 : ∀ j, j < 64 → pn j = en (q j)) (h2 : ∀ j, j < 64 → pf j = en (fo j)) (h3 : Mt a b E X Y q fo) (h4 : Ce E X Y (h + 1) Pc q fo) : FR a b E X Y h (szq q b) mk (some (.int 0)) (mk pf pn pr pw) :=
  ⟨q, fo, pf, pn, pr, pw, Pc, false, rfl, rfl, h1, h2, h3, h4, rfl⟩
theorem c_findIn_r (sc : Nat × (Nat → Int32)) (d : Nat) (H : tH) (r : tR) (c : tR) (p1 : Value) (p2 : Value) (pf : tA) (pn : tA) (pr : tA) (pw : tA) (w : tW) (B : tB) (M : tM) (N : tN) (O : tO) (op : Nat → Bool) (st1 : Nat) (eg1 : Nat → Bool) (st2 : Nat) (eg2 : Nat → Bool) (nn : Nat) (G1 G2 : Nat → Nat) (hn : nn ≤ 64) (hst : 1 ≤ st1) (heg : ∀ z, eg1 z = false → st1 ≤ z) (R1 : RC op st1 eg1 nn G1 r) (R2 : RC op st2 eg2 nn G2 c) (X Y Pc : Nat → Bool) (q fo : Nat → Option Nat) (h hd : Nat) (Yx : Int64)
    (hM : Mt (rC op st1 eg1 nn) (rC op st2 eg2 nn) (Ed op st1 eg1 st2 eg2 nn) X Y q fo) (hC : Ce (Ed op st1 eg1 st2 eg2 nn) X Y h Pc q fo) (hpn : ∀ j, j < 64 → pn j = en (q j)) (hpf : ∀ j, j < 64 → pf j = en (fo j))
    (nx : ∀ (wf : Nat → Nat) (n : Nat) (rc : Nat → Bool) (rf : Nat → Nat) (pr pw : tA) (fr : Int64) (l8 l9 l10 : Option Value), FS (rC op st1 eg1 nn) (rC op st2 eg2 nn) (Ed op st1 eg1 st2 eg2 nn) X Y q fo wf n rc rf pr pw fr → wf 0 = h → hd < n → (∀ i v, i < hd + 1 → Y v = true → Ed op st1 eg1 st2 eg2 nn (wf i) v → rc v = true) →
      pm_Go sc (d + 1) (pm_cd mX2_findPair) (11, [some (.ref 15), some (.int (nI h)), some (.long Yx), none, some (.long fr), none, some (.int (nI n)), some (.int (nI hd + 1)), l8, l9, l10], [], (hp H r c (.ref 5, .ref 10, pf, pn, pr, pw) w B M N O)) (FR (rC op st1 eg1 nn) (rC op st2 eg2 nn) (Ed op st1 eg1 st2 eg2 nn) X Y h (szq q (rC op st2 eg2 nn)) (fun pf pn pr pw => (hp H r c (.ref 5, .ref 10, pf, pn, pr, pw) w B M N O)))) :
    ∀ (t i : Nat) (wf : Nat → Nat) (n : Nat) (rc : Nat → Bool) (rf : Nat → Nat) (pr pw : tA) (fr : Int64) (l10 : Option Value), hd < n → i + t = rN op st1 eg1 nn (wf hd) → FS (rC op st1 eg1 nn) (rC op st2 eg2 nn) (Ed op st1 eg1 st2 eg2 nn) X Y q fo wf n rc rf pr pw fr → wf 0 = h →
      (∀ i v, i < hd → Y v = true → Ed op st1 eg1 st2 eg2 nn (wf i) v → rc v = true) → (∀ i' v, i' < i → rO op st2 eg2 nn (rL op st1 eg1 nn (wf hd) + i' * st1) = some v → Y v = true → rc v = true) →
      pm_Go sc (d + 1) (pm_cd mX2_findPair) (24, [some (.ref 15), some (.int (nI h)), some (.long Yx), none, some (.long fr), none, some (.int (nI n)), some (.int (nI hd)), some (.int (nI (wf hd))), some (.int (nI i)), l10], [], (hp H r c (.ref 5, .ref 10, pf, pn, pr, pw) w B M N O)) (FR (rC op st1 eg1 nn) (rC op st2 eg2 nn) (Ed op st1 eg1 st2 eg2 nn) X Y h (szq q (rC op st2 eg2 nn)) (fun pf pn pr pw => (hp H r c (.ref 5, .ref 10, pf, pn, pr, pw) w B M N O))) := by
  have a64 := rC_le op st1 eg1 nn
  have b64 := rC_le op st2 eg2 nn
  intro t
  induction t with
  | zero =>
    intro i wf n rc rf pr pw fr l10 hd1 hit hS hw hA hB
    obtain ⟨hT, hfr, hpw, hpr⟩ := hS
    have hwa := (hT.2.2.2.2.2 hd hd1).1
    have hcells := r_cells (op := op) (st := st1) (eg := eg1) hst heg nn (wf hd) hwa
    have iw : vp_in (nI (wf hd)) 64 := nu_in (by omega) (by omega)
    have el : r.2.2.2.2.1 (nI (wf hd)).toNatClampNeg = nI (rN op st1 eg1 nn (wf hd)) := by rw [nu_cl (by omega)]; exact (R1.2.2.2 _ hwa).2.1
    have hN : rN op st1 eg1 nn (wf hd) ≤ nn := ct_le _ _
    have nx1 := nx wf n rc rf pr pw fr (some (.int (nI (wf hd)))) (some (.int (nI i))) l10 ⟨hT, hfr, hpw, hpr⟩ hw hd1 (fun i' v hi' hY hE => by
      by_cases e : i' = hd
      · obtain ⟨z, z1, z2, z3⟩ := hE
        rw [e] at z2
        obtain ⟨i2, y1, y2⟩ := hcells.2.2 z z2
        rw [y2] at z3
        exact hB i2 v (by omega) z3 hY
      · exact hA i' v (by omega) hY hE)
    refine pm_go1 [11, 24] 30 ⟨iw, fun _ => nx1, fun z => absurd ?_ z⟩
    rw [el, nu_le (by omega) (by omega)]; omega
  | succ t ih =>
    intro i wf n rc rf pr pw fr l10 hd1 hit hS hw hA hB
    have hS0 := hS
    obtain ⟨hT, hfr, hpw, hpr⟩ := hS
    have hna := BT_size hT
    have hwa := (hT.2.2.2.2.2 hd hd1).1
    have hcells := r_cells (op := op) (st := st1) (eg := eg1) hst heg nn (wf hd) hwa
    have hN : rN op st1 eg1 nn (wf hd) ≤ nn := ct_le _ _
    have iw : vp_in (nI (wf hd)) 64 := nu_in (by omega) (by omega)
    have el : r.2.2.2.2.1 (nI (wf hd)).toNatClampNeg = nI (rN op st1 eg1 nn (wf hd)) := by rw [nu_cl (by omega)]; exact (R1.2.2.2 _ hwa).2.1
    have cl : ¬ r.2.2.2.2.1 (nI (wf hd)).toNatClampNeg ≤ nI i := by rw [el, nu_le (by omega) (by omega)]; omega
    obtain ⟨cz, co⟩ := hcells.2.1 i (by omega)
    have hop : op (rL op st1 eg1 nn (wf hd) + i * st1) = true := by
      cases ho : op (rL op st1 eg1 nn (wf hd) + i * st1) with
      | true => rfl
      | false => rw [(rO_op nn _ cz).mpr ho] at co; cases co
    obtain ⟨v, hv⟩ := rO_some (st := st2) (eg := eg2) cz hop
    have hE : Ed op st1 eg1 st2 eg2 nn (wf hd) v := ⟨_, cz, co, hv⟩
    have hvb := (Ed_lt hE).2
    have call := c_cellOf_r sc d H r c (.ref 5, .ref 10, pf, pn, pr, pw) w B M N O op st1 eg1 nn (wf hd) i G1 hn hwa R1
    have iz : vp_in (nI (rL op st1 eg1 nn (wf hd) + i * st1)) 64 := nu_in (by omega) (by omega)
    have ev : c.2.2.1 (nI (rL op st1 eg1 nn (wf hd) + i * st1)).toNatClampNeg = nI v := by rw [nu_cl (by omega), R2.2.2.1 _ cz, hv]; rfl
    have mid : ∀ x : Int32, x = nI v → pm_Go sc (d + 1) (pm_cd mX2_findPair) (41, [some (.ref 15), some (.int (nI h)), some (.long Yx), none, some (.long fr), none, some (.int (nI n)), some (.int (nI hd)), some (.int (nI (wf hd))), some (.int (nI i)), some (.int x)], [], (hp H r c (.ref 5, .ref 10, pf, pn, pr, pw) w B M N O)) (FR (rC op st1 eg1 nn) (rC op st2 eg2 nn) (Ed op st1 eg1 st2 eg2 nn) X Y h (szq q (rC op st2 eg2 nn)) (fun pf pn pr pw => (hp H r c (.ref 5, .ref 10, pf, pn, pr, pw) w B M N O))) := by
      intro x hx
      subst hx
      have c2 : ¬ nI v = -1 := en_ne (q := v) (by omega)
      have iv : vp_in (nI v) 64 := nu_in (by omega) (by omega)
      have cv : (nI v).toNatClampNeg = v := nu_cl (by omega)
      cases hb : bS fr v with
      | false =>
        have tst := (bS_tst fr (k := v) (by omega)).mpr hb
        have nxt := ih (i + 1) wf n rc rf pr pw fr (some (.int (nI v))) hd1 (by omega) hS0 hw hA (fun i' u hi' hu hY => by
          by_cases e : i' = i
          · rw [e, hv] at hu
            cases hu
            have := hfr v (by omega)
            rw [hb, hY] at this
            cases hr : rc v with
            | true => rfl
            | false => rw [hr] at this; cases this
          · exact hB i' u (by omega) hu hY)
        rw [← nI_1] at nxt
        exact pm_go1 [11, 24] 20 ⟨fun z => absurd z c2, fun _ => ⟨fun z => absurd tst z, fun _ => nxt⟩⟩
      | true =>
        have tst : ¬ lg_cmp (pm_lb 3 (pm_ls 2 fr (nI v)) 1) 0 = 0 := fun z => by rw [(bS_tst fr (k := v) (by omega)).mp z] at hb; cases hb
        have hfv := hfr v (by omega)
        rw [hb] at hfv
        have hYv : Y v = true := by cases hy : Y v with
          | true => rfl
          | false => rw [hy] at hfv; cases hfv
        have hrv : rc v = false := by cases hy : rc v with
          | false => rfl
          | true => rw [hy, hYv] at hfv; cases hfv
        have hpr1 : ∀ u, rc u = true → upd pr v (nI (wf hd)) u = nI (rf u) := fun u hu => by
          rw [nu_updN (fun e => by rw [e, hrv] at hu; cases hu)]; exact hpr u hu
        cases hq : q v with
        | none =>
          have qn : pn (nI v).toNatClampNeg = -1 := by rw [cv, hpn v (by omega), hq]; rfl
          obtain ⟨q', fo', pf', pn', t1, t2, t3, t4, t5, t6⟩ := c_pairBack sc d H r c (.ref 5) (.ref 10) pf pn (upd pr v (nI (wf hd))) pw w B M N O _ _ _ X Y Pc q fo wf n rc rf h hd v (by omega) (by omega) hM hT hw hC hpr1 hd1 hYv hE hvb hq nu_updS hpn hpf
          have t1' : pm_D sc (d + 1) mX2_pairBack [.ref 15, .int (nI v)] (hp H r c (.ref 5, .ref 10, pf, pn, upd pr (nI v).toNatClampNeg (nI (wf hd)), pw) w B M N O) none (hp H r c (.ref 5, .ref 10, pf', pn', upd pr v (nI (wf hd)), pw) w B M N O) := by rw [cv]; exact t1
          exact pm_go1 [11, 24] 60 ⟨fun z => absurd z c2, fun _ => ⟨fun _ => ⟨iv, iv, fun z => absurd qn z, fun _ => ⟨_, _, t1', Or.inr rfl, q', fo', pf', pn', _, _, Pc, true, rfl, rfl, t2, t3, t4, t6, t5⟩⟩, fun z => absurd z tst⟩⟩
        | some k =>
          have qn : ¬ pn (nI v).toNatClampNeg = -1 := by rw [cv, hpn v (by omega), hq]; exact en_ne (by have := hM.1 v k hq; omega)
          obtain ⟨wg, wg1, wg2⟩ : ∃ f : Nat → Nat, f n = k ∧ ∀ j, j ≠ n → f j = wf j := ⟨fun j => if j = n then k else wf j, if_pos rfl, fun j hj => if_neg hj⟩
          obtain ⟨rd, rd1, rd2⟩ : ∃ f : Nat → Bool, f v = true ∧ ∀ j, j ≠ v → f j = rc j := ⟨fun j => if j = v then true else rc j, if_pos rfl, fun j hj => if_neg hj⟩
          obtain ⟨rg, rg1, rg2⟩ : ∃ f : Nat → Nat, f v = wf hd ∧ ∀ j, j ≠ v → f j = rf j := ⟨fun j => if j = v then wf hd else rf j, if_pos rfl, fun j hj => if_neg hj⟩
          have hT2 := BT_add hM hT hd1 hYv hE hvb hrv hq wg1 (fun j hj => wg2 j (by omega)) rd1 rd2 rg1 rg2
          have hna2 := BT_size hT2
          have c3 : ¬ 64 ≤ nI n := by rw [nu_64, nu_le (by omega) (by omega)]; omega
          have en1 : wg hd = wf hd := wg2 hd (by omega)
          have nxt := ih (i + 1) wg (n + 1) rd rg (upd pr v (nI (wf hd))) (upd pw n (nI k)) (pm_lb 3 fr (pm_lb 5 (pm_ls 0 1 (nI v)) (-1))) (some (.int (nI v))) (by omega) (by rw [en1]; omega)
            ⟨hT2, fun u hu => by
                rw [bS_del fr (by omega), hfr u hu]
                by_cases e : u = v
                · rw [e, rd1]; simp
                · rw [rd2 u e]; simp [e], fun j hj => by
                rw [nu_upd]
                split
                · rename_i e; rw [e, wg1]
                · rename_i e; rw [wg2 j e]; exact hpw j (by omega), fun u hu => by
                rw [nu_upd]
                by_cases e : u = v
                · rw [if_pos e, e, rg1]
                · rw [rd2 u e] at hu
                  rw [if_neg e, rg2 u e]; exact hpr u hu⟩ (by rw [wg2 0 (by omega)]; exact hw)
            (fun j u hj hY hE => by
              rw [wg2 j (by omega)] at hE
              by_cases e : u = v
              · rw [e]; exact rd1
              · rw [rd2 u e]; exact hA j u hj hY hE)
            (fun i' u hi' hu hY => by
              by_cases e : u = v
              · rw [e]; exact rd1
              · rw [rd2 u e]
                rw [en1] at hu
                by_cases e2 : i' = i
                · rw [e2, hv] at hu
                  cases hu
                  exact absurd rfl e
                · exact hB i' u (by omega) hu hY)
          have cn : (nI n).toNatClampNeg = n := nu_cl (by omega)
          have qe : pn (nI v).toNatClampNeg = nI k := by rw [cv, hpn v (by omega), hq]; rfl
          have inn : vp_in (nI n) 64 := nu_in (by omega) (by omega)
          rw [en1, ← nI_1 n, ← nI_1 i] at nxt
          refine pm_go1 [11, 24] 60 ⟨fun z => absurd z c2, fun _ => ⟨fun _ => ⟨iv, iv, fun _ => ⟨fun z => absurd z c3, fun _ => ⟨iv, inn, ?_⟩⟩, fun z => absurd z qn⟩, fun z => absurd z tst⟩⟩
          rw [show (Value.ref 5, Value.ref 10, pf, pn, pr, pw).2.2.2.1 (nI v).toNatClampNeg = nI k from qe, cv, cn]
          exact nxt
    exact pm_go1 [41] 30 ⟨iw, fun z => absurd z cl, fun _ => ⟨_, _, call, iz, mid _ ev⟩⟩
theorem c_findIn_c (sc : Nat × (Nat → Int32)) (d : Nat) (H : tH) (r : tR) (c : tR) (p1 : Value) (p2 : Value) (pf : tA) (pn : tA) (pr : tA) (pw : tA) (w : tW) (B : tB) (M : tM) (N : tN) (O : tO) (op : Nat → Bool) (st1 : Nat) (eg1 : Nat → Bool) (st2 : Nat) (eg2 : Nat → Bool) (nn : Nat) (G1 G2 : Nat → Nat) (hn : nn ≤ 64) (hst : 1 ≤ st1) (heg : ∀ z, eg1 z = false → st1 ≤ z) (R1 : RC op st1 eg1 nn G1 c) (R2 : RC op st2 eg2 nn G2 r) (X Y Pc : Nat → Bool) (q fo : Nat → Option Nat) (h hd : Nat) (Yx : Int64)
    (hM : Mt (rC op st1 eg1 nn) (rC op st2 eg2 nn) (Ed op st1 eg1 st2 eg2 nn) X Y q fo) (hC : Ce (Ed op st1 eg1 st2 eg2 nn) X Y h Pc q fo) (hpn : ∀ j, j < 64 → pn j = en (q j)) (hpf : ∀ j, j < 64 → pf j = en (fo j))
    (nx : ∀ (wf : Nat → Nat) (n : Nat) (rc : Nat → Bool) (rf : Nat → Nat) (pr pw : tA) (fr : Int64) (l8 l9 l10 : Option Value), FS (rC op st1 eg1 nn) (rC op st2 eg2 nn) (Ed op st1 eg1 st2 eg2 nn) X Y q fo wf n rc rf pr pw fr → wf 0 = h → hd < n → (∀ i v, i < hd + 1 → Y v = true → Ed op st1 eg1 st2 eg2 nn (wf i) v → rc v = true) →
      pm_Go sc (d + 1) (pm_cd mX2_findPair) (11, [some (.ref 15), some (.int (nI h)), some (.long Yx), none, some (.long fr), none, some (.int (nI n)), some (.int (nI hd + 1)), l8, l9, l10], [], (hp H r c (.ref 10, .ref 5, pf, pn, pr, pw) w B M N O)) (FR (rC op st1 eg1 nn) (rC op st2 eg2 nn) (Ed op st1 eg1 st2 eg2 nn) X Y h (szq q (rC op st2 eg2 nn)) (fun pf pn pr pw => (hp H r c (.ref 10, .ref 5, pf, pn, pr, pw) w B M N O)))) :
    ∀ (t i : Nat) (wf : Nat → Nat) (n : Nat) (rc : Nat → Bool) (rf : Nat → Nat) (pr pw : tA) (fr : Int64) (l10 : Option Value), hd < n → i + t = rN op st1 eg1 nn (wf hd) → FS (rC op st1 eg1 nn) (rC op st2 eg2 nn) (Ed op st1 eg1 st2 eg2 nn) X Y q fo wf n rc rf pr pw fr → wf 0 = h →
      (∀ i v, i < hd → Y v = true → Ed op st1 eg1 st2 eg2 nn (wf i) v → rc v = true) → (∀ i' v, i' < i → rO op st2 eg2 nn (rL op st1 eg1 nn (wf hd) + i' * st1) = some v → Y v = true → rc v = true) →
      pm_Go sc (d + 1) (pm_cd mX2_findPair) (24, [some (.ref 15), some (.int (nI h)), some (.long Yx), none, some (.long fr), none, some (.int (nI n)), some (.int (nI hd)), some (.int (nI (wf hd))), some (.int (nI i)), l10], [], (hp H r c (.ref 10, .ref 5, pf, pn, pr, pw) w B M N O)) (FR (rC op st1 eg1 nn) (rC op st2 eg2 nn) (Ed op st1 eg1 st2 eg2 nn) X Y h (szq q (rC op st2 eg2 nn)) (fun pf pn pr pw => (hp H r c (.ref 10, .ref 5, pf, pn, pr, pw) w B M N O))) := by
  have a64 := rC_le op st1 eg1 nn
  have b64 := rC_le op st2 eg2 nn
  intro t
  induction t with
  | zero =>
    intro i wf n rc rf pr pw fr l10 hd1 hit hS hw hA hB
    obtain ⟨hT, hfr, hpw, hpr⟩ := hS
    have hwa := (hT.2.2.2.2.2 hd hd1).1
    have hcells := r_cells (op := op) (st := st1) (eg := eg1) hst heg nn (wf hd) hwa
    have iw : vp_in (nI (wf hd)) 64 := nu_in (by omega) (by omega)
    have el : c.2.2.2.2.1 (nI (wf hd)).toNatClampNeg = nI (rN op st1 eg1 nn (wf hd)) := by rw [nu_cl (by omega)]; exact (R1.2.2.2 _ hwa).2.1
    have hN : rN op st1 eg1 nn (wf hd) ≤ nn := ct_le _ _
    have nx1 := nx wf n rc rf pr pw fr (some (.int (nI (wf hd)))) (some (.int (nI i))) l10 ⟨hT, hfr, hpw, hpr⟩ hw hd1 (fun i' v hi' hY hE => by
      by_cases e : i' = hd
      · obtain ⟨z, z1, z2, z3⟩ := hE
        rw [e] at z2
        obtain ⟨i2, y1, y2⟩ := hcells.2.2 z z2
        rw [y2] at z3
        exact hB i2 v (by omega) z3 hY
      · exact hA i' v (by omega) hY hE)
    refine pm_go1 [11, 24] 30 ⟨iw, fun _ => nx1, fun z => absurd ?_ z⟩
    rw [el, nu_le (by omega) (by omega)]; omega
  | succ t ih =>
    intro i wf n rc rf pr pw fr l10 hd1 hit hS hw hA hB
    have hS0 := hS
    obtain ⟨hT, hfr, hpw, hpr⟩ := hS
    have hna := BT_size hT
    have hwa := (hT.2.2.2.2.2 hd hd1).1
    have hcells := r_cells (op := op) (st := st1) (eg := eg1) hst heg nn (wf hd) hwa
    have hN : rN op st1 eg1 nn (wf hd) ≤ nn := ct_le _ _
    have iw : vp_in (nI (wf hd)) 64 := nu_in (by omega) (by omega)
    have el : c.2.2.2.2.1 (nI (wf hd)).toNatClampNeg = nI (rN op st1 eg1 nn (wf hd)) := by rw [nu_cl (by omega)]; exact (R1.2.2.2 _ hwa).2.1
    have cl : ¬ c.2.2.2.2.1 (nI (wf hd)).toNatClampNeg ≤ nI i := by rw [el, nu_le (by omega) (by omega)]; omega
    obtain ⟨cz, co⟩ := hcells.2.1 i (by omega)
    have hop : op (rL op st1 eg1 nn (wf hd) + i * st1) = true := by
      cases ho : op (rL op st1 eg1 nn (wf hd) + i * st1) with
      | true => rfl
      | false => rw [(rO_op nn _ cz).mpr ho] at co; cases co
    obtain ⟨v, hv⟩ := rO_some (st := st2) (eg := eg2) cz hop
    have hE : Ed op st1 eg1 st2 eg2 nn (wf hd) v := ⟨_, cz, co, hv⟩
    have hvb := (Ed_lt hE).2
    have call := c_cellOf_c sc d H r c (.ref 10, .ref 5, pf, pn, pr, pw) w B M N O op st1 eg1 nn (wf hd) i G1 hn hwa R1
    have iz : vp_in (nI (rL op st1 eg1 nn (wf hd) + i * st1)) 64 := nu_in (by omega) (by omega)
    have ev : r.2.2.1 (nI (rL op st1 eg1 nn (wf hd) + i * st1)).toNatClampNeg = nI v := by rw [nu_cl (by omega), R2.2.2.1 _ cz, hv]; rfl
    have mid : ∀ x : Int32, x = nI v → pm_Go sc (d + 1) (pm_cd mX2_findPair) (41, [some (.ref 15), some (.int (nI h)), some (.long Yx), none, some (.long fr), none, some (.int (nI n)), some (.int (nI hd)), some (.int (nI (wf hd))), some (.int (nI i)), some (.int x)], [], (hp H r c (.ref 10, .ref 5, pf, pn, pr, pw) w B M N O)) (FR (rC op st1 eg1 nn) (rC op st2 eg2 nn) (Ed op st1 eg1 st2 eg2 nn) X Y h (szq q (rC op st2 eg2 nn)) (fun pf pn pr pw => (hp H r c (.ref 10, .ref 5, pf, pn, pr, pw) w B M N O))) := by
      intro x hx
      subst hx
      have c2 : ¬ nI v = -1 := en_ne (q := v) (by omega)
      have iv : vp_in (nI v) 64 := nu_in (by omega) (by omega)
      have cv : (nI v).toNatClampNeg = v := nu_cl (by omega)
      cases hb : bS fr v with
      | false =>
        have tst := (bS_tst fr (k := v) (by omega)).mpr hb
        have nxt := ih (i + 1) wf n rc rf pr pw fr (some (.int (nI v))) hd1 (by omega) hS0 hw hA (fun i' u hi' hu hY => by
          by_cases e : i' = i
          · rw [e, hv] at hu
            cases hu
            have := hfr v (by omega)
            rw [hb, hY] at this
            cases hr : rc v with
            | true => rfl
            | false => rw [hr] at this; cases this
          · exact hB i' u (by omega) hu hY)
        rw [← nI_1] at nxt
        exact pm_go1 [11, 24] 20 ⟨fun z => absurd z c2, fun _ => ⟨fun z => absurd tst z, fun _ => nxt⟩⟩
      | true =>
        have tst : ¬ lg_cmp (pm_lb 3 (pm_ls 2 fr (nI v)) 1) 0 = 0 := fun z => by rw [(bS_tst fr (k := v) (by omega)).mp z] at hb; cases hb
        have hfv := hfr v (by omega)
        rw [hb] at hfv
        have hYv : Y v = true := by cases hy : Y v with
          | true => rfl
          | false => rw [hy] at hfv; cases hfv
        have hrv : rc v = false := by cases hy : rc v with
          | false => rfl
          | true => rw [hy, hYv] at hfv; cases hfv
        have hpr1 : ∀ u, rc u = true → upd pr v (nI (wf hd)) u = nI (rf u) := fun u hu => by
          rw [nu_updN (fun e => by rw [e, hrv] at hu; cases hu)]; exact hpr u hu
        cases hq : q v with
        | none =>
          have qn : pn (nI v).toNatClampNeg = -1 := by rw [cv, hpn v (by omega), hq]; rfl
          obtain ⟨q', fo', pf', pn', t1, t2, t3, t4, t5, t6⟩ := c_pairBack sc d H r c (.ref 10) (.ref 5) pf pn (upd pr v (nI (wf hd))) pw w B M N O _ _ _ X Y Pc q fo wf n rc rf h hd v (by omega) (by omega) hM hT hw hC hpr1 hd1 hYv hE hvb hq nu_updS hpn hpf
          have t1' : pm_D sc (d + 1) mX2_pairBack [.ref 15, .int (nI v)] (hp H r c (.ref 10, .ref 5, pf, pn, upd pr (nI v).toNatClampNeg (nI (wf hd)), pw) w B M N O) none (hp H r c (.ref 10, .ref 5, pf', pn', upd pr v (nI (wf hd)), pw) w B M N O) := by rw [cv]; exact t1
          exact pm_go1 [11, 24] 60 ⟨fun z => absurd z c2, fun _ => ⟨fun _ => ⟨iv, iv, fun z => absurd qn z, fun _ => ⟨_, _, t1', Or.inr rfl, q', fo', pf', pn', _, _, Pc, true, rfl, rfl, t2, t3, t4, t6, t5⟩⟩, fun z => absurd z tst⟩⟩
        | some k =>
          have qn : ¬ pn (nI v).toNatClampNeg = -1 := by rw [cv, hpn v (by omega), hq]; exact en_ne (by have := hM.1 v k hq; omega)
          obtain ⟨wg, wg1, wg2⟩ : ∃ f : Nat → Nat, f n = k ∧ ∀ j, j ≠ n → f j = wf j := ⟨fun j => if j = n then k else wf j, if_pos rfl, fun j hj => if_neg hj⟩
          obtain ⟨rd, rd1, rd2⟩ : ∃ f : Nat → Bool, f v = true ∧ ∀ j, j ≠ v → f j = rc j := ⟨fun j => if j = v then true else rc j, if_pos rfl, fun j hj => if_neg hj⟩
          obtain ⟨rg, rg1, rg2⟩ : ∃ f : Nat → Nat, f v = wf hd ∧ ∀ j, j ≠ v → f j = rf j := ⟨fun j => if j = v then wf hd else rf j, if_pos rfl, fun j hj => if_neg hj⟩
          have hT2 := BT_add hM hT hd1 hYv hE hvb hrv hq wg1 (fun j hj => wg2 j (by omega)) rd1 rd2 rg1 rg2
          have hna2 := BT_size hT2
          have c3 : ¬ 64 ≤ nI n := by rw [nu_64, nu_le (by omega) (by omega)]; omega
          have en1 : wg hd = wf hd := wg2 hd (by omega)
          have nxt := ih (i + 1) wg (n + 1) rd rg (upd pr v (nI (wf hd))) (upd pw n (nI k)) (pm_lb 3 fr (pm_lb 5 (pm_ls 0 1 (nI v)) (-1))) (some (.int (nI v))) (by omega) (by rw [en1]; omega)
            ⟨hT2, fun u hu => by
                rw [bS_del fr (by omega), hfr u hu]
                by_cases e : u = v
                · rw [e, rd1]; simp
                · rw [rd2 u e]; simp [e], fun j hj => by
                rw [nu_upd]
                split
                · rename_i e; rw [e, wg1]
                · rename_i e; rw [wg2 j e]; exact hpw j (by omega), fun u hu => by
                rw [nu_upd]
                by_cases e : u = v
                · rw [if_pos e, e, rg1]
                · rw [rd2 u e] at hu
                  rw [if_neg e, rg2 u e]; exact hpr u hu⟩ (by rw [wg2 0 (by omega)]; exact hw)
            (fun j u hj hY hE => by
              rw [wg2 j (by omega)] at hE
              by_cases e : u = v
              · rw [e]; exact rd1
              · rw [rd2 u e]; exact hA j u hj hY hE)
            (fun i' u hi' hu hY => by
              by_cases e : u = v
              · rw [e]; exact rd1
              · rw [rd2 u e]
                rw [en1] at hu
                by_cases e2 : i' = i
                · rw [e2, hv] at hu
                  cases hu
                  exact absurd rfl e
                · exact hB i' u (by omega) hu hY)
          have cn : (nI n).toNatClampNeg = n := nu_cl (by omega)
          have qe : pn (nI v).toNatClampNeg = nI k := by rw [cv, hpn v (by omega), hq]; rfl
          have inn : vp_in (nI n) 64 := nu_in (by omega) (by omega)
          rw [en1, ← nI_1 n, ← nI_1 i] at nxt
          refine pm_go1 [11, 24] 60 ⟨fun z => absurd z c2, fun _ => ⟨fun _ => ⟨iv, iv, fun _ => ⟨fun z => absurd z c3, fun _ => ⟨iv, inn, ?_⟩⟩, fun z => absurd z qn⟩, fun z => absurd z tst⟩⟩
          rw [show (Value.ref 10, Value.ref 5, pf, pn, pr, pw).2.2.2.1 (nI v).toNatClampNeg = nI k from qe, cv, cn]
          exact nxt
    exact pm_go1 [41] 30 ⟨iw, fun z => absurd z cl, fun _ => ⟨_, _, call, iz, mid _ ev⟩⟩
