/-! THE CLASS'S Pairing -/
theorem en_up {f : tA} {g : Nat → Option Nat} {k : Nat} {x : Int32} {o : Option Nat} (h : ∀ j, j < 64 → f j = en (g j)) (hx : x = en o) : ∀ j, j < 64 → upd f k x j = en (upO g k o j) := by
  intro j hj
  rw [nu_upd]
  unfold upO
  split
  · exact hx
  · exact h j hj
theorem c_pairBackL (sc : Nat × (Nat → Int32)) (d : Nat) (H : tH) (r : tR) (c : tR) (p1 : Value) (p2 : Value) (pf : tA) (pn : tA) (pr : tA) (pw : tA) (w : tW) (B : tB) (M : tM) (N : tN) (O : tO) (a b : Nat) (E : Nat → Nat → Prop) (X Y Pc : Nat → Bool) (q0 fo0 : Nat → Option Nat) (wf : Nat → Nat) (n : Nat) (rc : Nat → Bool) (rf : Nat → Nat) (h m : Nat) (ha : a ≤ 64) (hb : b ≤ 64) (hM0 : Mt a b E X Y q0 fo0) (hT : BT a b E X Y q0 fo0 wf n rc rf) (hw : wf 0 = h)
    (hC0 : ∀ k, k < h → X k = true → fo0 k = none → Pc k = true) (hC1 : ∀ k, h ≤ k → fo0 k = none) (hrf : ∀ u, rc u = true → pr u = nI (rf u)) (i1 : Int32) : ∀ (k : Nat) (q fo : Nat → Option Nat) (v step : Nat) (pf pn : tA) (l4 l5 : Option Value), k < n → step + k < 64 → FI a b E X Y Pc fo0 wf m q fo v k → pr v = nI (wf k) → (∀ j, j < 64 → pn j = en (q j)) → (∀ j, j < 64 → pf j = en (fo j)) →
    pm_Go sc d (pm_cd mX2_pairBack) (4, [some (.ref 15), some (.int i1), some (.int (nI v)), some (.int (nI step)), l4, l5], [], (hp H r c (p1, p2, pf, pn, pr, pw) w B M N O)) (fun r2 h2 => r2 = none ∧ ∃ (q' fo' : Nat → Option Nat) (pf' pn' : tA), h2 = (hp H r c (p1, p2, pf', pn', pr, pw) w B M N O) ∧ (∀ j, j < 64 → pn' j = en (q' j)) ∧ (∀ j, j < 64 → pf' j = en (fo' j)) ∧ Mt a b E X Y q' fo' ∧ szq q' b = m + 1 ∧ Ce E X Y (h + 1) Pc q' fo') := by
  have hna := BT_size hT
  have t6 := hT.2.2.2.2.2
  intro k
  induction k using Nat.strongRecOn with
  | _ k ih =>
    intro q fo v step pf pn l4 l5 hk hst hF hpv hpn hpf
    have hvb : v < b := hF.1
    have hwk := (t6 k hk).1
    have iv : vp_in (nI v) 64 := nu_in (by omega) (by omega)
    have cv : (nI v).toNatClampNeg = v := nu_cl (by omega)
    have ifr : vp_in (pr (nI v).toNatClampNeg) 64 := by rw [cv, hpv]; exact nu_in (by omega) (by omega)
    have efr : (pr (nI v).toNatClampNeg).toNatClampNeg = wf k := by rw [cv, hpv]; exact nu_cl (by omega)
    have c1 : ¬ 64 ≤ nI step := by rw [nu_64, nu_le (by omega) (by omega)]; omega
    have c2 : ¬ nI v = -1 := en_ne (q := v) (by omega)
    have aN : ∀ j, j < 64 → upd pn v (nI (wf k)) j = en (upO q v (some (wf k)) j) := en_up hpn rfl
    have aF : ∀ j, j < 64 → upd pf (wf k) (nI v) j = en (upO fo (wf k) (some v) j) := en_up hpf rfl
    by_cases hk0 : k = 0
    · subst hk0
      have hend := FI_end hF hw hT.2.1 (by rw [← hw]; exact hwk) (by rw [← hw]; exact (t6 0 hk).2) hC0 hC1
      have hfo : pf (wf 0) = -1 := by
        rw [hpf _ (by omega), hF.2.2.2.2.2.2.2.1 0 (by omega), hT.2.1]; rfl
      rw [hw] at aN aF hfo efr hpv
      have last : pm_Go sc d (pm_cd mX2_pairBack) (4, [some (.ref 15), some (.int i1), some (.int (-1)), some (.int (nI step + 1)), some (.int (nI h)), some (.int (-1))], [], (hp H r c (p1, p2, upd pf h (nI v), upd pn v (nI h), pr, pw) w B M N O)) (fun r2 h2 => r2 = none ∧ ∃ (q' fo' : Nat → Option Nat) (pf' pn' : tA), h2 = (hp H r c (p1, p2, pf', pn', pr, pw) w B M N O) ∧ (∀ j, j < 64 → pn' j = en (q' j)) ∧ (∀ j, j < 64 → pf' j = en (fo' j)) ∧ Mt a b E X Y q' fo' ∧ szq q' b = m + 1 ∧ Ce E X Y (h + 1) Pc q' fo') :=
        pm_go [] 10 ⟨fun _ => ⟨rfl, _, _, _, _, rfl, aN, aF, hend.1, hend.2.1, hend.2.2⟩, fun _ => ⟨fun _ => ⟨rfl, _, _, _, _, rfl, aN, aF, hend.1, hend.2.1, hend.2.2⟩, fun z => absurd rfl z⟩⟩
      refine pm_go1 [4] 60 ⟨fun z => absurd z c1, fun _ => ⟨fun z => absurd z c2, fun _ => ⟨iv, ifr, ifr, iv, ?_⟩⟩⟩
      rw [efr, cv, show (p1, p2, pf, pn, pr, pw).2.2.1 h = -1 from hfo, show (p1, p2, pf, pn, pr, pw).2.2.2.2.1 v = nI h from hpv]
      exact last
    · obtain ⟨v', k', g1, _, g3, g4, g5, g6, g7⟩ := FI_go hM0 hT hF (by omega) hk
      have hfo : pf (wf k) = nI v' := by
        rw [hpf _ (by omega), g1]; rfl
      have nxt := ih k' g4 _ _ v' (step + 1) (upd pf (wf k) (nI v)) (upd pn v (nI (wf k))) (some (.int (nI (wf k)))) (some (.int (nI v'))) (by omega) (by omega) g7 (by rw [hrf v' g5, g6]) aN aF
      rw [← nI_1] at nxt
      refine pm_go1 [4] 60 ⟨fun z => absurd z c1, fun _ => ⟨fun z => absurd z c2, fun _ => ⟨iv, ifr, ifr, iv, ?_⟩⟩⟩
      rw [efr, cv, show (p1, p2, pf, pn, pr, pw).2.2.1 (wf k) = nI v' from hfo, show (p1, p2, pf, pn, pr, pw).2.2.2.2.1 v = nI (wf k) from hpv]
      exact nxt
theorem c_pairBack (sc : Nat × (Nat → Int32)) (d : Nat) (H : tH) (r : tR) (c : tR) (p1 : Value) (p2 : Value) (pf : tA) (pn : tA) (pr : tA) (pw : tA) (w : tW) (B : tB) (M : tM) (N : tN) (O : tO) (a b : Nat) (E : Nat → Nat → Prop) (X Y Pc : Nat → Bool) (q0 fo0 : Nat → Option Nat) (wf : Nat → Nat) (n : Nat) (rc : Nat → Bool) (rf : Nat → Nat) (h k v : Nat) (ha : a ≤ 64) (hb : b ≤ 64) (hM0 : Mt a b E X Y q0 fo0) (hT : BT a b E X Y q0 fo0 wf n rc rf) (hw : wf 0 = h)
    (hC : Ce E X Y h Pc q0 fo0) (hrf : ∀ u, rc u = true → pr u = nI (rf u)) (hk : k < n) (hY : Y v = true) (he : E (wf k) v) (hv : v < b) (hq : q0 v = none) (hpv : pr v = nI (wf k)) (hpn : ∀ j, j < 64 → pn j = en (q0 j)) (hpf : ∀ j, j < 64 → pf j = en (fo0 j)) :
    ∃ (q' fo' : Nat → Option Nat) (pf' pn' : tA), pm_D sc (d + 1) mX2_pairBack [.ref 15, .int (nI v)] (hp H r c (p1, p2, pf, pn, pr, pw) w B M N O) none (hp H r c (p1, p2, pf', pn', pr, pw) w B M N O) ∧ (∀ j, j < 64 → pn' j = en (q' j)) ∧ (∀ j, j < 64 → pf' j = en (fo' j)) ∧ Mt a b E X Y q' fo' ∧ szq q' b = szq q0 b + 1 ∧ Ce E X Y (h + 1) Pc q' fo' := by
  have hna := BT_size hT
  have F0 := FI_new (w := wf) hM0 hC hY he hv hq
  have l0 := c_pairBackL sc d H r c p1 p2 pf pn pr pw w B M N O a b E X Y Pc q0 fo0 wf n rc rf h (szq q0 b) ha hb hM0 hT hw hC.1 hC.2.2 hrf (nI v) k q0 fo0 v 0 pf pn none none hk (by omega) F0 hpv hpn hpf
  obtain ⟨r2, h2, t1, rfl, q', fo', pf', pn', rfl, t2⟩ := pm_inE (mi := mX2_pairBack) (av := [.ref 15, .int (nI v)]) (h := (hp H r c (p1, p2, pf, pn, pr, pw) w B M N O)) (pm_go [4] 10 l0)
  exact ⟨q', fo', pf', pn', t1, t2⟩
