theorem c_findOut_r (sc : Nat × (Nat → Int32)) (d : Nat) (H : tH) (r : tR) (c : tR) (p1 : Value) (p2 : Value) (pf : tA) (pn : tA) (pr : tA) (pw : tA) (w : tW) (B : tB) (M : tM) (N : tN) (O : tO) (op : Nat → Bool) (st1 : Nat) (eg1 : Nat → Bool) (st2 : Nat) (eg2 : Nat → Bool) (nn : Nat) (G1 G2 : Nat → Nat) (hn : nn ≤ 64) (hst : 1 ≤ st1) (heg : ∀ z, eg1 z = false → st1 ≤ z) (R1 : RC op st1 eg1 nn G1 r) (R2 : RC op st2 eg2 nn G2 c) (X Y Pc : Nat → Bool) (q fo : Nat → Option Nat) (h : Nat) (Yx : Int64)
    (hM : Mt (rC op st1 eg1 nn) (rC op st2 eg2 nn) (Ed op st1 eg1 st2 eg2 nn) X Y q fo) (hC : Ce (Ed op st1 eg1 st2 eg2 nn) X Y h Pc q fo) (hpn : ∀ j, j < 64 → pn j = en (q j)) (hpf : ∀ j, j < 64 → pf j = en (fo j)) :
    ∀ (t hd : Nat) (wf : Nat → Nat) (n : Nat) (rc : Nat → Bool) (rf : Nat → Nat) (pr pw : tA) (fr : Int64) (l8 l9 l10 : Option Value), hd + t = rC op st1 eg1 nn → hd ≤ n → FS (rC op st1 eg1 nn) (rC op st2 eg2 nn) (Ed op st1 eg1 st2 eg2 nn) X Y q fo wf n rc rf pr pw fr → wf 0 = h → (∀ i v, i < hd → Y v = true → Ed op st1 eg1 st2 eg2 nn (wf i) v → rc v = true) →
      pm_Go sc (d + 1) (pm_cd mX2_findPair) (11, [some (.ref 15), some (.int (nI h)), some (.long Yx), none, some (.long fr), none, some (.int (nI n)), some (.int (nI hd)), l8, l9, l10], [], (hp H r c (.ref 5, .ref 10, pf, pn, pr, pw) w B M N O)) (FR (rC op st1 eg1 nn) (rC op st2 eg2 nn) (Ed op st1 eg1 st2 eg2 nn) X Y h (szq q (rC op st2 eg2 nn)) (fun pf pn pr pw => (hp H r c (.ref 5, .ref 10, pf, pn, pr, pw) w B M N O))) := by
  have a64 := rC_le op st1 eg1 nn
  have b64 := rC_le op st2 eg2 nn
  intro t
  induction t with
  | zero =>
    intro hd wf n rc rf pr pw fr l8 l9 l10 hit hdn hS hw hA
    have hna := BT_size hS.1
    obtain ⟨Pc', hC'⟩ := BT_fail hS.1 hw (fun i v hi => hA i v (by omega)) hC
    refine pm_go1 [11, 24] 10 ⟨fun _ => ⟨Or.inl rfl, FR_no hpn hpf hM hC'⟩, fun z => absurd ?_ z⟩
    rw [nu_le (by omega) (by omega)]; omega
  | succ t ih =>
    intro hd wf n rc rf pr pw fr l8 l9 l10 hit hdn hS hw hA
    have hna := BT_size hS.1
    by_cases hdn2 : hd = n
    · obtain ⟨Pc', hC'⟩ := BT_fail hS.1 hw (fun i v hi => hA i v (by omega)) hC
      refine pm_go1 [11, 24] 10 ⟨fun _ => ⟨Or.inl rfl, FR_no hpn hpf hM hC'⟩, fun z => absurd ?_ z⟩
      rw [nu_le (by omega) (by omega)]; omega
    · have c1 : ¬ nI n ≤ nI hd := by rw [nu_le (by omega) (by omega)]; omega
      have inn := c_findIn_r sc d H r c p1 p2 pf pn pr pw w B M N O op st1 eg1 st2 eg2 nn G1 G2 hn hst heg R1 R2 X Y Pc q fo h hd Yx hM hC hpn hpf (fun wf n rc rf pr pw fr l8 l9 l10 g1 g2 g3 g4 => by
        have nxt := ih (hd + 1) wf n rc rf pr pw fr l8 l9 l10 (by omega) (by omega) g1 g2 g4
        rw [← nI_1] at nxt
        exact nxt) (rN op st1 eg1 nn (wf hd)) 0 wf n rc rf pr pw fr l10 (by omega) (by omega) hS hw hA (fun i' v hi' => absurd hi' (by omega))
      have ew : pw (nI hd).toNatClampNeg = nI (wf hd) := by rw [nu_cl (by omega)]; exact hS.2.2.1 hd (by omega)
      rw [← ew] at inn
      have c2 : ¬ 64 ≤ nI hd := by rw [nu_64, nu_le (by omega) (by omega)]; omega
      exact pm_go1 [11, 24] 20 ⟨fun z => absurd z c1, fun _ => ⟨fun z => absurd z c2, fun _ => ⟨nu_in (by omega) (by omega), inn⟩⟩⟩
theorem c_findPair_r (sc : Nat × (Nat → Int32)) (d : Nat) (H : tH) (r : tR) (c : tR) (p1 : Value) (p2 : Value) (pf : tA) (pn : tA) (pr : tA) (pw : tA) (w : tW) (B : tB) (M : tM) (N : tN) (O : tO) (op : Nat → Bool) (st1 : Nat) (eg1 : Nat → Bool) (st2 : Nat) (eg2 : Nat → Bool) (nn : Nat) (G1 G2 : Nat → Nat) (hn : nn ≤ 64) (hst : 1 ≤ st1) (heg : ∀ z, eg1 z = false → st1 ≤ z) (R1 : RC op st1 eg1 nn G1 r) (R2 : RC op st2 eg2 nn G2 c) (X Pc : Nat → Bool) (q fo : Nat → Option Nat) (h : Nat) (Yx : Int64)
    (hM : Mt (rC op st1 eg1 nn) (rC op st2 eg2 nn) (Ed op st1 eg1 st2 eg2 nn) X (bS Yx) q fo) (hC : Ce (Ed op st1 eg1 st2 eg2 nn) X (bS Yx) h Pc q fo) (hpn : ∀ j, j < 64 → pn j = en (q j)) (hpf : ∀ j, j < 64 → pf j = en (fo j)) (ha : h < rC op st1 eg1 nn) (hx : X h = true) (hf : fo h = none) :
    ∃ (rv : Option Value) (h2 : pm_H), pm_D sc (d + 2) mX2_findPair [.ref 15, .int (nI h), .long Yx] (hp H r c (.ref 5, .ref 10, pf, pn, pr, pw) w B M N O) rv h2 ∧ FR (rC op st1 eg1 nn) (rC op st2 eg2 nn) (Ed op st1 eg1 st2 eg2 nn) X (bS Yx) h (szq q (rC op st2 eg2 nn)) (fun pf pn pr pw => (hp H r c (.ref 5, .ref 10, pf, pn, pr, pw) w B M N O)) rv h2 := by
  have out := c_findOut_r sc d H r c p1 p2 pf pn pr pw w B M N O op st1 eg1 st2 eg2 nn G1 G2 hn hst heg R1 R2 X (bS Yx) Pc q fo h Yx hM hC hpn hpf (rC op st1 eg1 nn) 0 (fun _ => h) 1 (fun _ => false) (fun _ => 0) pr (upd pw 0 (nI h)) Yx none none none (by omega) (by omega)
    ⟨BT_new _ hf ha hx, fun v hv => by simp, fun j hj => by rw [show j = 0 by omega, nu_updS], fun u hu => by cases hu⟩ rfl (fun i v hi => absurd hi (by omega))
  exact pm_inE (pm_go [11] 20 ⟨nu_in (a := 0) (by omega) (by omega), out⟩)
theorem c_mostL_r (sc : Nat × (Nat → Int32)) (d : Nat) (H : tH) (r : tR) (c : tR) (p1 : Value) (p2 : Value) (pf : tA) (pn : tA) (pr : tA) (pw : tA) (w : tW) (B : tB) (M : tM) (N : tN) (O : tO) (op : Nat → Bool) (st1 : Nat) (eg1 : Nat → Bool) (st2 : Nat) (eg2 : Nat → Bool) (nn : Nat) (G1 G2 : Nat → Nat) (hn : nn ≤ 64) (hst : 1 ≤ st1) (heg : ∀ z, eg1 z = false → st1 ≤ z) (R1 : RC op st1 eg1 nn G1 r) (R2 : RC op st2 eg2 nn G2 c) (Xx Yx : Int64) :
    ∀ (t h : Nat) (pf pn pr pw : tA) (Pc : Nat → Bool) (q fo : Nat → Option Nat), h + t = rC op st1 eg1 nn → Mt (rC op st1 eg1 nn) (rC op st2 eg2 nn) (Ed op st1 eg1 st2 eg2 nn) (bS Xx) (bS Yx) q fo → Ce (Ed op st1 eg1 st2 eg2 nn) (bS Xx) (bS Yx) h Pc q fo → (∀ j, j < 64 → pn j = en (q j)) → (∀ j, j < 64 → pf j = en (fo j)) →
      pm_Go sc (d + 2) (pm_cd mX2_most) (27, [some (.ref 15), some (.ref 5), some (.ref 10), some (.long Xx), none, some (.long Yx), none, some (.int (nI (szq q (rC op st2 eg2 nn)))), some (.int (nI h))], [], (hp H r c (.ref 5, .ref 10, pf, pn, pr, pw) w B M N O)) (fun r2 h2 => ∃ (m : Nat) (pf' pn' pr' pw' : tA), r2 = some (.int (nI m)) ∧ h2 = (hp H r c (.ref 5, .ref 10, pf', pn', pr', pw') w B M N O) ∧ nu (rC op st1 eg1 nn) (rC op st2 eg2 nn) (Ed op st1 eg1 st2 eg2 nn) (bS Xx) (bS Yx) m) := by
  have a64 := rC_le op st1 eg1 nn
  have b64 := rC_le op st2 eg2 nn
  have e1 := R1.1
  intro t
  induction t with
  | zero =>
    intro h pf pn pr pw Pc q fo hht hM hC hpn hpf
    have hh : h = rC op st1 eg1 nn := by omega
    rw [hh] at hC
    refine pm_go1 [27] 20 ⟨fun _ => ⟨_, _, _, _, _, rfl, rfl, mt_nu hM hC⟩, fun z => absurd ?_ z⟩
    rw [e1, nu_le (by omega) (by omega)]; omega
  | succ t ih =>
    intro h pf pn pr pw Pc q fo hht hM hC hpn hpf
    have c1 : ¬ r.1 ≤ nI h := by rw [e1, nu_le (by omega) (by omega)]; omega
    cases hX : bS Xx h with
    | false =>
      have tst := (bS_tst Xx (k := h) (by omega)).mpr hX
      have nxt := ih (h + 1) pf pn pr pw Pc q fo (by omega) hM ⟨fun k hk hx hf => by
        by_cases e : k = h
        · rw [e, hX] at hx; cases hx
        · exact hC.1 k (by omega) hx hf, hC.2.1, fun k hk => hC.2.2 k (by omega)⟩ hpn hpf
      rw [← nI_1] at nxt
      exact pm_go1 [27] 40 ⟨fun z => absurd z c1, fun _ => ⟨fun _ => nxt, fun z => absurd tst z⟩⟩
    | true =>
      have tst : ¬ lg_cmp (pm_lb 3 (pm_ls 2 Xx (nI h)) 1) 0 = 0 := fun z => by rw [(bS_tst Xx (k := h) (by omega)).mp z] at hX; cases hX
      obtain ⟨rv, h2, t1, q', fo', pf', pn', pr', pw', Pc', s, rfl, rfl, g1, g2, g3, g4, g5⟩ := c_findPair_r sc d H r c p1 p2 pf pn pr pw w B M N O op st1 eg1 st2 eg2 nn G1 G2 hn hst heg R1 R2 (bS Xx) Pc q fo h Yx hM hC hpn hpf (by omega) hX (hC.2.2 h (by omega))
      have nxt := ih (h + 1) pf' pn' pr' pw' Pc' q' fo' (by omega) g3 g4 g1 g2
      rw [g5, ← nI_1] at nxt
      cases s with
      | false => exact pm_go1 [27] 40 ⟨fun z => absurd z c1, fun _ => ⟨fun z => absurd z tst, fun _ => ⟨_, _, t1, fun _ => nxt, fun z => absurd rfl z⟩⟩⟩
      | true =>
        rw [if_pos rfl, ← nI_1] at nxt
        exact pm_go1 [27] 40 ⟨fun z => absurd z c1, fun _ => ⟨fun z => absurd z tst, fun _ => ⟨_, _, t1, fun z => absurd z (by decide), fun _ => nxt⟩⟩⟩
theorem c_findOut_c (sc : Nat × (Nat → Int32)) (d : Nat) (H : tH) (r : tR) (c : tR) (p1 : Value) (p2 : Value) (pf : tA) (pn : tA) (pr : tA) (pw : tA) (w : tW) (B : tB) (M : tM) (N : tN) (O : tO) (op : Nat → Bool) (st1 : Nat) (eg1 : Nat → Bool) (st2 : Nat) (eg2 : Nat → Bool) (nn : Nat) (G1 G2 : Nat → Nat) (hn : nn ≤ 64) (hst : 1 ≤ st1) (heg : ∀ z, eg1 z = false → st1 ≤ z) (R1 : RC op st1 eg1 nn G1 c) (R2 : RC op st2 eg2 nn G2 r) (X Y Pc : Nat → Bool) (q fo : Nat → Option Nat) (h : Nat) (Yx : Int64)
    (hM : Mt (rC op st1 eg1 nn) (rC op st2 eg2 nn) (Ed op st1 eg1 st2 eg2 nn) X Y q fo) (hC : Ce (Ed op st1 eg1 st2 eg2 nn) X Y h Pc q fo) (hpn : ∀ j, j < 64 → pn j = en (q j)) (hpf : ∀ j, j < 64 → pf j = en (fo j)) :
    ∀ (t hd : Nat) (wf : Nat → Nat) (n : Nat) (rc : Nat → Bool) (rf : Nat → Nat) (pr pw : tA) (fr : Int64) (l8 l9 l10 : Option Value), hd + t = rC op st1 eg1 nn → hd ≤ n → FS (rC op st1 eg1 nn) (rC op st2 eg2 nn) (Ed op st1 eg1 st2 eg2 nn) X Y q fo wf n rc rf pr pw fr → wf 0 = h → (∀ i v, i < hd → Y v = true → Ed op st1 eg1 st2 eg2 nn (wf i) v → rc v = true) →
      pm_Go sc (d + 1) (pm_cd mX2_findPair) (11, [some (.ref 15), some (.int (nI h)), some (.long Yx), none, some (.long fr), none, some (.int (nI n)), some (.int (nI hd)), l8, l9, l10], [], (hp H r c (.ref 10, .ref 5, pf, pn, pr, pw) w B M N O)) (FR (rC op st1 eg1 nn) (rC op st2 eg2 nn) (Ed op st1 eg1 st2 eg2 nn) X Y h (szq q (rC op st2 eg2 nn)) (fun pf pn pr pw => (hp H r c (.ref 10, .ref 5, pf, pn, pr, pw) w B M N O))) := by
  have a64 := rC_le op st1 eg1 nn
  have b64 := rC_le op st2 eg2 nn
  intro t
  induction t with
  | zero =>
    intro hd wf n rc rf pr pw fr l8 l9 l10 hit hdn hS hw hA
    have hna := BT_size hS.1
    obtain ⟨Pc', hC'⟩ := BT_fail hS.1 hw (fun i v hi => hA i v (by omega)) hC
    refine pm_go1 [11, 24] 10 ⟨fun _ => ⟨Or.inl rfl, FR_no hpn hpf hM hC'⟩, fun z => absurd ?_ z⟩
    rw [nu_le (by omega) (by omega)]; omega
  | succ t ih =>
    intro hd wf n rc rf pr pw fr l8 l9 l10 hit hdn hS hw hA
    have hna := BT_size hS.1
    by_cases hdn2 : hd = n
    · obtain ⟨Pc', hC'⟩ := BT_fail hS.1 hw (fun i v hi => hA i v (by omega)) hC
      refine pm_go1 [11, 24] 10 ⟨fun _ => ⟨Or.inl rfl, FR_no hpn hpf hM hC'⟩, fun z => absurd ?_ z⟩
      rw [nu_le (by omega) (by omega)]; omega
    · have c1 : ¬ nI n ≤ nI hd := by rw [nu_le (by omega) (by omega)]; omega
      have inn := c_findIn_c sc d H r c p1 p2 pf pn pr pw w B M N O op st1 eg1 st2 eg2 nn G1 G2 hn hst heg R1 R2 X Y Pc q fo h hd Yx hM hC hpn hpf (fun wf n rc rf pr pw fr l8 l9 l10 g1 g2 g3 g4 => by
        have nxt := ih (hd + 1) wf n rc rf pr pw fr l8 l9 l10 (by omega) (by omega) g1 g2 g4
        rw [← nI_1] at nxt
        exact nxt) (rN op st1 eg1 nn (wf hd)) 0 wf n rc rf pr pw fr l10 (by omega) (by omega) hS hw hA (fun i' v hi' => absurd hi' (by omega))
      have ew : pw (nI hd).toNatClampNeg = nI (wf hd) := by rw [nu_cl (by omega)]; exact hS.2.2.1 hd (by omega)
      rw [← ew] at inn
      have c2 : ¬ 64 ≤ nI hd := by rw [nu_64, nu_le (by omega) (by omega)]; omega
      exact pm_go1 [11, 24] 20 ⟨fun z => absurd z c1, fun _ => ⟨fun z => absurd z c2, fun _ => ⟨nu_in (by omega) (by omega), inn⟩⟩⟩
theorem c_findPair_c (sc : Nat × (Nat → Int32)) (d : Nat) (H : tH) (r : tR) (c : tR) (p1 : Value) (p2 : Value) (pf : tA) (pn : tA) (pr : tA) (pw : tA) (w : tW) (B : tB) (M : tM) (N : tN) (O : tO) (op : Nat → Bool) (st1 : Nat) (eg1 : Nat → Bool) (st2 : Nat) (eg2 : Nat → Bool) (nn : Nat) (G1 G2 : Nat → Nat) (hn : nn ≤ 64) (hst : 1 ≤ st1) (heg : ∀ z, eg1 z = false → st1 ≤ z) (R1 : RC op st1 eg1 nn G1 c) (R2 : RC op st2 eg2 nn G2 r) (X Pc : Nat → Bool) (q fo : Nat → Option Nat) (h : Nat) (Yx : Int64)
    (hM : Mt (rC op st1 eg1 nn) (rC op st2 eg2 nn) (Ed op st1 eg1 st2 eg2 nn) X (bS Yx) q fo) (hC : Ce (Ed op st1 eg1 st2 eg2 nn) X (bS Yx) h Pc q fo) (hpn : ∀ j, j < 64 → pn j = en (q j)) (hpf : ∀ j, j < 64 → pf j = en (fo j)) (ha : h < rC op st1 eg1 nn) (hx : X h = true) (hf : fo h = none) :
    ∃ (rv : Option Value) (h2 : pm_H), pm_D sc (d + 2) mX2_findPair [.ref 15, .int (nI h), .long Yx] (hp H r c (.ref 10, .ref 5, pf, pn, pr, pw) w B M N O) rv h2 ∧ FR (rC op st1 eg1 nn) (rC op st2 eg2 nn) (Ed op st1 eg1 st2 eg2 nn) X (bS Yx) h (szq q (rC op st2 eg2 nn)) (fun pf pn pr pw => (hp H r c (.ref 10, .ref 5, pf, pn, pr, pw) w B M N O)) rv h2 := by
  have out := c_findOut_c sc d H r c p1 p2 pf pn pr pw w B M N O op st1 eg1 st2 eg2 nn G1 G2 hn hst heg R1 R2 X (bS Yx) Pc q fo h Yx hM hC hpn hpf (rC op st1 eg1 nn) 0 (fun _ => h) 1 (fun _ => false) (fun _ => 0) pr (upd pw 0 (nI h)) Yx none none none (by omega) (by omega)
    ⟨BT_new _ hf ha hx, fun v hv => by simp, fun j hj => by rw [show j = 0 by omega, nu_updS], fun u hu => by cases hu⟩ rfl (fun i v hi => absurd hi (by omega))
  exact pm_inE (pm_go [11] 20 ⟨nu_in (a := 0) (by omega) (by omega), out⟩)
theorem c_mostL_c (sc : Nat × (Nat → Int32)) (d : Nat) (H : tH) (r : tR) (c : tR) (p1 : Value) (p2 : Value) (pf : tA) (pn : tA) (pr : tA) (pw : tA) (w : tW) (B : tB) (M : tM) (N : tN) (O : tO) (op : Nat → Bool) (st1 : Nat) (eg1 : Nat → Bool) (st2 : Nat) (eg2 : Nat → Bool) (nn : Nat) (G1 G2 : Nat → Nat) (hn : nn ≤ 64) (hst : 1 ≤ st1) (heg : ∀ z, eg1 z = false → st1 ≤ z) (R1 : RC op st1 eg1 nn G1 c) (R2 : RC op st2 eg2 nn G2 r) (Xx Yx : Int64) :
    ∀ (t h : Nat) (pf pn pr pw : tA) (Pc : Nat → Bool) (q fo : Nat → Option Nat), h + t = rC op st1 eg1 nn → Mt (rC op st1 eg1 nn) (rC op st2 eg2 nn) (Ed op st1 eg1 st2 eg2 nn) (bS Xx) (bS Yx) q fo → Ce (Ed op st1 eg1 st2 eg2 nn) (bS Xx) (bS Yx) h Pc q fo → (∀ j, j < 64 → pn j = en (q j)) → (∀ j, j < 64 → pf j = en (fo j)) →
      pm_Go sc (d + 2) (pm_cd mX2_most) (27, [some (.ref 15), some (.ref 10), some (.ref 5), some (.long Xx), none, some (.long Yx), none, some (.int (nI (szq q (rC op st2 eg2 nn)))), some (.int (nI h))], [], (hp H r c (.ref 10, .ref 5, pf, pn, pr, pw) w B M N O)) (fun r2 h2 => ∃ (m : Nat) (pf' pn' pr' pw' : tA), r2 = some (.int (nI m)) ∧ h2 = (hp H r c (.ref 10, .ref 5, pf', pn', pr', pw') w B M N O) ∧ nu (rC op st1 eg1 nn) (rC op st2 eg2 nn) (Ed op st1 eg1 st2 eg2 nn) (bS Xx) (bS Yx) m) := by
  have a64 := rC_le op st1 eg1 nn
  have b64 := rC_le op st2 eg2 nn
  have e1 := R1.1
  intro t
  induction t with
  | zero =>
    intro h pf pn pr pw Pc q fo hht hM hC hpn hpf
    have hh : h = rC op st1 eg1 nn := by omega
    rw [hh] at hC
    refine pm_go1 [27] 20 ⟨fun _ => ⟨_, _, _, _, _, rfl, rfl, mt_nu hM hC⟩, fun z => absurd ?_ z⟩
    rw [e1, nu_le (by omega) (by omega)]; omega
  | succ t ih =>
    intro h pf pn pr pw Pc q fo hht hM hC hpn hpf
    have c1 : ¬ c.1 ≤ nI h := by rw [e1, nu_le (by omega) (by omega)]; omega
    cases hX : bS Xx h with
    | false =>
      have tst := (bS_tst Xx (k := h) (by omega)).mpr hX
      have nxt := ih (h + 1) pf pn pr pw Pc q fo (by omega) hM ⟨fun k hk hx hf => by
        by_cases e : k = h
        · rw [e, hX] at hx; cases hx
        · exact hC.1 k (by omega) hx hf, hC.2.1, fun k hk => hC.2.2 k (by omega)⟩ hpn hpf
      rw [← nI_1] at nxt
      exact pm_go1 [27] 40 ⟨fun z => absurd z c1, fun _ => ⟨fun _ => nxt, fun z => absurd tst z⟩⟩
    | true =>
      have tst : ¬ lg_cmp (pm_lb 3 (pm_ls 2 Xx (nI h)) 1) 0 = 0 := fun z => by rw [(bS_tst Xx (k := h) (by omega)).mp z] at hX; cases hX
      obtain ⟨rv, h2, t1, q', fo', pf', pn', pr', pw', Pc', s, rfl, rfl, g1, g2, g3, g4, g5⟩ := c_findPair_c sc d H r c p1 p2 pf pn pr pw w B M N O op st1 eg1 st2 eg2 nn G1 G2 hn hst heg R1 R2 (bS Xx) Pc q fo h Yx hM hC hpn hpf (by omega) hX (hC.2.2 h (by omega))
      have nxt := ih (h + 1) pf' pn' pr' pw' Pc' q' fo' (by omega) g3 g4 g1 g2
      rw [g5, ← nI_1] at nxt
      cases s with
      | false => exact pm_go1 [27] 40 ⟨fun z => absurd z c1, fun _ => ⟨fun z => absurd z tst, fun _ => ⟨_, _, t1, fun _ => nxt, fun z => absurd rfl z⟩⟩⟩
      | true =>
        rw [if_pos rfl, ← nI_1] at nxt
        exact pm_go1 [27] 40 ⟨fun z => absurd z c1, fun _ => ⟨fun z => absurd z tst, fun _ => ⟨_, _, t1, fun z => absurd z (by decide), fun _ => nxt⟩⟩⟩
theorem c_mostI_r (sc : Nat × (Nat → Int32)) (d : Nat) (H : tH) (r : tR) (c : tR) (p1 : Value) (p2 : Value) (pf : tA) (pn : tA) (pr : tA) (pw : tA) (w : tW) (B : tB) (M : tM) (N : tN) (O : tO) (Xx Yx : Int64) (K : Option Value → pm_H → Prop) (hK : ∀ pf pn : tA, (∀ j, j < 64 → pn j = -1) → (∀ j, j < 64 → pf j = -1) → pm_Go sc (d + 2) (pm_cd mX2_most) (27, [some (.ref 15), some (.ref 5), some (.ref 10), some (.long Xx), none, some (.long Yx), none, some (.int (nI 0)), some (.int (nI 0))], [], (hp H r c (.ref 5, .ref 10, pf, pn, pr, pw) w B M N O)) K) :
    ∀ (t k : Nat) (pf pn : tA), k + t = 64 → (∀ j, j < k → pn j = -1) → (∀ j, j < k → pf j = -1) → pm_Go sc (d + 2) (pm_cd mX2_most) (8, [some (.ref 15), some (.ref 5), some (.ref 10), some (.long Xx), none, some (.long Yx), none, some (.int (nI k)), none], [], (hp H r c (.ref 5, .ref 10, pf, pn, pr, pw) w B M N O)) K := by
  intro t
  induction t with
  | zero =>
    intro k pf pn hkt h1 h2
    refine pm_go1 [27] 20 ⟨fun _ => hK pf pn (fun j hj => h1 j (by omega)) (fun j hj => h2 j (by omega)), fun z => absurd ?_ z⟩
    rw [nu_64, nu_le (by omega) (by omega)]; omega
  | succ t ih =>
    intro k pf pn hkt h1 h2
    have c1 : ¬ 64 ≤ nI k := by rw [nu_64, nu_le (by omega) (by omega)]; omega
    have ik : vp_in (nI k) 64 := nu_in (by omega) (by omega)
    have ck : (nI k).toNatClampNeg = k := nu_cl (by omega)
    have nxt := ih (k + 1) (upd pf k (-1)) (upd pn k (-1)) (by omega) (fun j hj => by rw [nu_upd]; split; rfl; exact h1 j (by omega)) (fun j hj => by rw [nu_upd]; split; rfl; exact h2 j (by omega))
    rw [← nI_1] at nxt
    refine pm_go1 [8] 40 ⟨fun z => absurd z c1, fun _ => ⟨ik, ik, ?_⟩⟩
    rw [ck]
    exact nxt
theorem c_most_r (sc : Nat × (Nat → Int32)) (d : Nat) (H : tH) (r : tR) (c : tR) (p1 : Value) (p2 : Value) (pf : tA) (pn : tA) (pr : tA) (pw : tA) (w : tW) (B : tB) (M : tM) (N : tN) (O : tO) (op : Nat → Bool) (st1 : Nat) (eg1 : Nat → Bool) (st2 : Nat) (eg2 : Nat → Bool) (nn : Nat) (G1 G2 : Nat → Nat) (hn : nn ≤ 64) (hst : 1 ≤ st1) (heg : ∀ z, eg1 z = false → st1 ≤ z) (R1 : RC op st1 eg1 nn G1 r) (R2 : RC op st2 eg2 nn G2 c) (Xx Yx : Int64) :
    ∃ (m : Nat) (pf' pn' pr' pw' : tA), pm_D sc (d + 3) mX2_most [.ref 15, .ref 5, .ref 10, .long Xx, .long Yx] (hp H r c (p1, p2, pf, pn, pr, pw) w B M N O) (some (.int (nI m))) (hp H r c (.ref 5, .ref 10, pf', pn', pr', pw') w B M N O) ∧ nu (rC op st1 eg1 nn) (rC op st2 eg2 nn) (Ed op st1 eg1 st2 eg2 nn) (bS Xx) (bS Yx) m := by
  have b0 : szq (fun _ => none) (rC op st2 eg2 nn) = 0 := ct_none _ (fun _ _ => rfl)
  have l0 := c_mostI_r sc d H r c p1 p2 pf pn pr pw w B M N O Xx Yx (fun r2 h2 => ∃ (m : Nat) (pf' pn' pr' pw' : tA), r2 = some (.int (nI m)) ∧ h2 = (hp H r c (.ref 5, .ref 10, pf', pn', pr', pw') w B M N O) ∧ nu (rC op st1 eg1 nn) (rC op st2 eg2 nn) (Ed op st1 eg1 st2 eg2 nn) (bS Xx) (bS Yx) m) (fun pf1 pn1 h1 h2 => by
    have l1 := c_mostL_r sc d H r c p1 p2 pf pn pr pw w B M N O op st1 eg1 st2 eg2 nn G1 G2 hn hst heg R1 R2 Xx Yx (rC op st1 eg1 nn) 0 pf1 pn1 pr pw (fun _ => false) (fun _ => none) (fun _ => none) (by omega)
      ⟨fun v k z => (by cases z), fun v k => ⟨fun z => (by cases z), fun z => by cases z⟩⟩ ⟨fun k hk => absurd hk (by omega), fun k v z => (by cases z), fun _ _ => rfl⟩ h1 h2
    rw [b0] at l1
    exact l1) 64 0 pf pn rfl (fun j hj => absurd hj (by omega)) (fun j hj => absurd hj (by omega))
  obtain ⟨r2, h2, t1, m, pf', pn', pr', pw', rfl, rfl, t2⟩ := pm_inE (mi := mX2_most) (av := [.ref 15, .ref 5, .ref 10, .long Xx, .long Yx]) (h := (hp H r c (p1, p2, pf, pn, pr, pw) w B M N O)) (pm_go [8] 20 l0)
  exact ⟨m, pf', pn', pr', pw', t1, t2⟩
theorem c_mostI_c (sc : Nat × (Nat → Int32)) (d : Nat) (H : tH) (r : tR) (c : tR) (p1 : Value) (p2 : Value) (pf : tA) (pn : tA) (pr : tA) (pw : tA) (w : tW) (B : tB) (M : tM) (N : tN) (O : tO) (Xx Yx : Int64) (K : Option Value → pm_H → Prop) (hK : ∀ pf pn : tA, (∀ j, j < 64 → pn j = -1) → (∀ j, j < 64 → pf j = -1) → pm_Go sc (d + 2) (pm_cd mX2_most) (27, [some (.ref 15), some (.ref 10), some (.ref 5), some (.long Xx), none, some (.long Yx), none, some (.int (nI 0)), some (.int (nI 0))], [], (hp H r c (.ref 10, .ref 5, pf, pn, pr, pw) w B M N O)) K) :
    ∀ (t k : Nat) (pf pn : tA), k + t = 64 → (∀ j, j < k → pn j = -1) → (∀ j, j < k → pf j = -1) → pm_Go sc (d + 2) (pm_cd mX2_most) (8, [some (.ref 15), some (.ref 10), some (.ref 5), some (.long Xx), none, some (.long Yx), none, some (.int (nI k)), none], [], (hp H r c (.ref 10, .ref 5, pf, pn, pr, pw) w B M N O)) K := by
  intro t
  induction t with
  | zero =>
    intro k pf pn hkt h1 h2
    refine pm_go1 [27] 20 ⟨fun _ => hK pf pn (fun j hj => h1 j (by omega)) (fun j hj => h2 j (by omega)), fun z => absurd ?_ z⟩
    rw [nu_64, nu_le (by omega) (by omega)]; omega
  | succ t ih =>
    intro k pf pn hkt h1 h2
    have c1 : ¬ 64 ≤ nI k := by rw [nu_64, nu_le (by omega) (by omega)]; omega
    have ik : vp_in (nI k) 64 := nu_in (by omega) (by omega)
    have ck : (nI k).toNatClampNeg = k := nu_cl (by omega)
    have nxt := ih (k + 1) (upd pf k (-1)) (upd pn k (-1)) (by omega) (fun j hj => by rw [nu_upd]; split; rfl; exact h1 j (by omega)) (fun j hj => by rw [nu_upd]; split; rfl; exact h2 j (by omega))
    rw [← nI_1] at nxt
    refine pm_go1 [8] 40 ⟨fun z => absurd z c1, fun _ => ⟨ik, ik, ?_⟩⟩
    rw [ck]
    exact nxt
theorem c_most_c (sc : Nat × (Nat → Int32)) (d : Nat) (H : tH) (r : tR) (c : tR) (p1 : Value) (p2 : Value) (pf : tA) (pn : tA) (pr : tA) (pw : tA) (w : tW) (B : tB) (M : tM) (N : tN) (O : tO) (op : Nat → Bool) (st1 : Nat) (eg1 : Nat → Bool) (st2 : Nat) (eg2 : Nat → Bool) (nn : Nat) (G1 G2 : Nat → Nat) (hn : nn ≤ 64) (hst : 1 ≤ st1) (heg : ∀ z, eg1 z = false → st1 ≤ z) (R1 : RC op st1 eg1 nn G1 c) (R2 : RC op st2 eg2 nn G2 r) (Xx Yx : Int64) :
    ∃ (m : Nat) (pf' pn' pr' pw' : tA), pm_D sc (d + 3) mX2_most [.ref 15, .ref 10, .ref 5, .long Xx, .long Yx] (hp H r c (p1, p2, pf, pn, pr, pw) w B M N O) (some (.int (nI m))) (hp H r c (.ref 10, .ref 5, pf', pn', pr', pw') w B M N O) ∧ nu (rC op st1 eg1 nn) (rC op st2 eg2 nn) (Ed op st1 eg1 st2 eg2 nn) (bS Xx) (bS Yx) m := by
  have b0 : szq (fun _ => none) (rC op st2 eg2 nn) = 0 := ct_none _ (fun _ _ => rfl)
  have l0 := c_mostI_c sc d H r c p1 p2 pf pn pr pw w B M N O Xx Yx (fun r2 h2 => ∃ (m : Nat) (pf' pn' pr' pw' : tA), r2 = some (.int (nI m)) ∧ h2 = (hp H r c (.ref 10, .ref 5, pf', pn', pr', pw') w B M N O) ∧ nu (rC op st1 eg1 nn) (rC op st2 eg2 nn) (Ed op st1 eg1 st2 eg2 nn) (bS Xx) (bS Yx) m) (fun pf1 pn1 h1 h2 => by
    have l1 := c_mostL_c sc d H r c p1 p2 pf pn pr pw w B M N O op st1 eg1 st2 eg2 nn G1 G2 hn hst heg R1 R2 Xx Yx (rC op st1 eg1 nn) 0 pf1 pn1 pr pw (fun _ => false) (fun _ => none) (fun _ => none) (by omega)
      ⟨fun v k z => (by cases z), fun v k => ⟨fun z => (by cases z), fun z => by cases z⟩⟩ ⟨fun k hk => absurd hk (by omega), fun k v z => (by cases z), fun _ _ => rfl⟩ h1 h2
    rw [b0] at l1
    exact l1) 64 0 pf pn rfl (fun j hj => absurd hj (by omega)) (fun j hj => absurd hj (by omega))
  obtain ⟨r2, h2, t1, m, pf', pn', pr', pw', rfl, rfl, t2⟩ := pm_inE (mi := mX2_most) (av := [.ref 15, .ref 10, .ref 5, .long Xx, .long Yx]) (h := (hp H r c (p1, p2, pf, pn, pr, pw) w B M N O)) (pm_go [8] 20 l0)
  exact ⟨m, pf', pn', pr', pw', t1, t2⟩
