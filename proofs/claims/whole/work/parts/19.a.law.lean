/-! THE LAW'S LOOP -/
theorem lt_dif {x y k : Nat} (hx : x ≤ 100000) (hy : y ≤ 100000) (hk : k ≤ 100000) : nI x - nI y < nI k ↔ x < k + y := by
  rw [Int32.lt_iff_toInt_lt, Int32.toInt_sub, nu_ti (by omega), nu_ti (by omega), nu_ti (by omega)]
  rw [Int.bmod_eq_of_le (by omega) (by omega)]
  omega
/-- class and reference agree -/
def LwI (h : pm_H) : Prop := ∃ (H : tH) (r c : tR) (P : tP) (w : tW) (B : tB) (M : tM) (N : tN) (O : tO), h = hp H r c P w B M N O ∧ HaI H r c M ∧ BxI B N ∧ OI O
abbrev LwS (k pc : Nat) (h : pm_H) : pm_S := (pc, [some (.ref 0), some (.ref 1), some (.ref 27), some (.int (nI k))], [], h)
theorem l_in {L k j : Nat} (hk : k + 4 ≤ L) (hL : L ≤ 2048) (hj : j < 4) : vp_in (nI k + nI j) L := by
  rw [nI_add]; exact nu_in (by omega) (by omega)
theorem l_hall (sc : Nat × (Nat → Int32)) (d k : Nat) (hk : k + 4 ≤ sc.1) (hL : sc.1 ≤ 2048) (h : pm_H) (hI : LwI h) (F : Option Value → pm_H → Prop) (nx : ∀ h, LwI h → pm_Go sc (d + 20) (pm_cd mL_law) (LwS k 403 h) F) : pm_Go sc (d + 20) (pm_cd mL_law) (LwS k 22 h) F := by
  obtain ⟨⟨hw, hh, hc, ho, hg⟩, r, c, P, w, B, ⟨mw, mh, ms, mg, mc, mo, mm, mz, mp⟩, N, O, rfl, a1, a2, a3⟩ := hI
  have v1 : vp_in (nI k + 1) sc.1 := l_in (j := 1) hk hL (by omega)
  have v2 : vp_in (nI k + 2) sc.1 := l_in (j := 2) hk hL (by omega)
  obtain ⟨x, H', r', c', M', t1, t2, t3⟩ := k_hall sc d hw hh hc ho hg r c P w B mw mh ms mg mc mo mm mz mp N O (sc.2 (nI k + 1).toNatClampNeg) (sc.2 (nI k + 2).toNatClampNeg) a1
  exact pm_go1 [403] 60 ⟨v1, v2, _, _, t1, v1, v2, _, _, t2, fun _ => nx _ ⟨_, _, _, _, _, _, _, _, _, rfl, t3, a2, a3⟩, fun z => absurd rfl z⟩
theorem l_guard (sc : Nat × (Nat → Int32)) (d k : Nat) (hk : k + 4 ≤ sc.1) (hL : sc.1 ≤ 2048) (h : pm_H) (hI : LwI h) (F : Option Value → pm_H → Prop) (nx : ∀ h, LwI h → pm_Go sc (d + 20) (pm_cd mL_law) (LwS k 403 h) F) : pm_Go sc (d + 20) (pm_cd mL_law) (LwS k 94 h) F := by
  obtain ⟨⟨hw, hh, hc, ho, hg⟩, r, c, P, w, B, ⟨mw, mh, ms, mg, mc, mo, mm, mz, mp⟩, N, O, rfl, a1, a2, a3⟩ := hI
  have v1 : vp_in (nI k + 1) sc.1 := l_in (j := 1) hk hL (by omega)
  have v2 : vp_in (nI k + 2) sc.1 := l_in (j := 2) hk hL (by omega)
  obtain ⟨x, H', r', c', M', t1, t2, t3⟩ := k_guard sc d hw hh hc ho hg r c P w B mw mh ms mg mc mo mm mz mp N O (sc.2 (nI k + 1).toNatClampNeg) (sc.2 (nI k + 2).toNatClampNeg) a1
  exact pm_go1 [403] 60 ⟨v1, v2, _, _, t1, v1, v2, _, _, t2, fun _ => nx _ ⟨_, _, _, _, _, _, _, _, _, rfl, t3, a2, a3⟩, fun z => absurd rfl z⟩
theorem l_leave (sc : Nat × (Nat → Int32)) (d k : Nat) (hk : k + 4 ≤ sc.1) (hL : sc.1 ≤ 2048) (h : pm_H) (hI : LwI h) (F : Option Value → pm_H → Prop) (nx : ∀ h, LwI h → pm_Go sc (d + 20) (pm_cd mL_law) (LwS k 403 h) F) : pm_Go sc (d + 20) (pm_cd mL_law) (LwS k 121 h) F := by
  obtain ⟨⟨hw, hh, hc, ho, hg⟩, r, c, P, w, B, ⟨mw, mh, ms, mg, mc, mo, mm, mz, mp⟩, N, O, rfl, a1, a2, a3⟩ := hI
  have v1 : vp_in (nI k + 1) sc.1 := l_in (j := 1) hk hL (by omega)
  have v2 : vp_in (nI k + 2) sc.1 := l_in (j := 2) hk hL (by omega)
  obtain ⟨x, H', r', c', M', t1, t2, t3⟩ := k_leave sc d hw hh hc ho hg r c P w B mw mh ms mg mc mo mm mz mp N O (sc.2 (nI k + 1).toNatClampNeg) (sc.2 (nI k + 2).toNatClampNeg) a1
  exact pm_go1 [403] 60 ⟨v1, v2, _, _, t1, v1, v2, _, _, t2, fun _ => nx _ ⟨_, _, _, _, _, _, _, _, _, rfl, t3, a2, a3⟩, fun z => absurd rfl z⟩
theorem l_cell (sc : Nat × (Nat → Int32)) (d k : Nat) (hk : k + 4 ≤ sc.1) (hL : sc.1 ≤ 2048) (h : pm_H) (hI : LwI h) (F : Option Value → pm_H → Prop) (nx : ∀ h, LwI h → pm_Go sc (d + 20) (pm_cd mL_law) (LwS k 403 h) F) : pm_Go sc (d + 20) (pm_cd mL_law) (LwS k 148 h) F := by
  obtain ⟨⟨hw, hh, hc, ho, hg⟩, r, c, P, w, B, ⟨mw, mh, ms, mg, mc, mo, mm, mz, mp⟩, N, O, rfl, a1, a2, a3⟩ := hI
  have v1 : vp_in (nI k + 1) sc.1 := l_in (j := 1) hk hL (by omega)
  have v2 : vp_in (nI k + 2) sc.1 := l_in (j := 2) hk hL (by omega)
  obtain ⟨x, H', r', c', M', t1, t2, t3⟩ := k_cell sc d hw hh hc ho hg r c P w B mw mh ms mg mc mo mm mz mp N O (sc.2 (nI k + 1).toNatClampNeg) (sc.2 (nI k + 2).toNatClampNeg) a1
  exact pm_go1 [403] 60 ⟨v1, v2, _, _, t1, v1, v2, _, _, t2, fun _ => nx _ ⟨_, _, _, _, _, _, _, _, _, rfl, t3, a2, a3⟩, fun z => absurd rfl z⟩
theorem l_sees (sc : Nat × (Nat → Int32)) (d k : Nat) (hk : k + 4 ≤ sc.1) (hL : sc.1 ≤ 2048) (h : pm_H) (hI : LwI h) (F : Option Value → pm_H → Prop) (nx : ∀ h, LwI h → pm_Go sc (d + 20) (pm_cd mL_law) (LwS k 403 h) F) : pm_Go sc (d + 20) (pm_cd mL_law) (LwS k 229 h) F := by
  obtain ⟨⟨hw, hh, hc, ho, hg⟩, r, c, P, w, B, ⟨mw, mh, ms, mg, mc, mo, mm, mz, mp⟩, N, O, rfl, a1, a2, a3⟩ := hI
  have v1 : vp_in (nI k + 1) sc.1 := l_in (j := 1) hk hL (by omega)
  have v2 : vp_in (nI k + 2) sc.1 := l_in (j := 2) hk hL (by omega)
  obtain ⟨x, H', r', c', M', t1, t2, t3⟩ := k_sees sc d hw hh hc ho hg r c P w B mw mh ms mg mc mo mm mz mp N O (sc.2 (nI k + 1).toNatClampNeg) (sc.2 (nI k + 2).toNatClampNeg) a1
  exact pm_go1 [403] 60 ⟨v1, v2, _, _, t1, v1, v2, _, _, t2, fun _ => nx _ ⟨_, _, _, _, _, _, _, _, _, rfl, t3, a2, a3⟩, fun z => absurd rfl z⟩
theorem l_runs (sc : Nat × (Nat → Int32)) (d k : Nat) (hk : k + 4 ≤ sc.1) (hL : sc.1 ≤ 2048) (h : pm_H) (hI : LwI h) (F : Option Value → pm_H → Prop) (nx : ∀ h, LwI h → pm_Go sc (d + 20) (pm_cd mL_law) (LwS k 403 h) F) : pm_Go sc (d + 20) (pm_cd mL_law) (LwS k 175 h) F := by
  obtain ⟨⟨hw, hh, hc, ho, hg⟩, r, c, P, w, B, ⟨mw, mh, ms, mg, mc, mo, mm, mz, mp⟩, N, O, rfl, a1, a2, a3⟩ := hI
  have v1 : vp_in (nI k + 1) sc.1 := l_in (j := 1) hk hL (by omega)
  obtain ⟨x, H', r', c', M', t1, t2, t3⟩ := k_runs sc d hw hh hc ho hg r c P w B mw mh ms mg mc mo mm mz mp N O (sc.2 (nI k + 1).toNatClampNeg) a1
  exact pm_go1 [403] 60 ⟨v1, _, _, t1, v1, _, _, t2, fun _ => nx _ ⟨_, _, _, _, _, _, _, _, _, rfl, t3, a2, a3⟩, fun z => absurd rfl z⟩
theorem l_missed (sc : Nat × (Nat → Int32)) (d k : Nat) (hk : k + 4 ≤ sc.1) (hL : sc.1 ≤ 2048) (h : pm_H) (hI : LwI h) (F : Option Value → pm_H → Prop) (nx : ∀ h, LwI h → pm_Go sc (d + 20) (pm_cd mL_law) (LwS k 403 h) F) : pm_Go sc (d + 20) (pm_cd mL_law) (LwS k 263 h) F := by
  obtain ⟨⟨hw, hh, hc, ho, hg⟩, r, c, P, w, B, ⟨mw, mh, ms, mg, mc, mo, mm, mz, mp⟩, N, O, rfl, a1, a2, a3⟩ := hI
  have v1 : vp_in (nI k + 1) sc.1 := l_in (j := 1) hk hL (by omega)
  obtain ⟨x, H', r', c', M', t1, t2, t3⟩ := k_missed sc d hw hh hc ho hg r c P w B mw mh ms mg mc mo mm mz mp N O (sc.2 (nI k + 1).toNatClampNeg) a1
  exact pm_go1 [403] 60 ⟨v1, _, _, t1, v1, _, _, t2, fun _ => nx _ ⟨_, _, _, _, _, _, _, _, _, rfl, t3, a2, a3⟩, fun z => absurd rfl z⟩
theorem l_seen (sc : Nat × (Nat → Int32)) (d k : Nat) (h : pm_H) (hI : LwI h) (F : Option Value → pm_H → Prop) (nx : ∀ h, LwI h → pm_Go sc (d + 20) (pm_cd mL_law) (LwS k 403 h) F) : pm_Go sc (d + 20) (pm_cd mL_law) (LwS k 256 h) F := by
  obtain ⟨⟨hw, hh, hc, ho, hg⟩, r, c, P, w, B, ⟨mw, mh, ms, mg, mc, mo, mm, mz, mp⟩, N, O, rfl, a1, a2, a3⟩ := hI
  obtain ⟨x, H', r', c', M', t1, t2, t3⟩ := k_seen sc d hw hh hc ho hg r c P w B mw mh ms mg mc mo mm mz mp N O a1
  exact pm_go1 [403] 60 ⟨_, _, t1, _, _, t2, fun _ => nx _ ⟨_, _, _, _, _, _, _, _, _, rfl, t3, a2, a3⟩, fun z => absurd rfl z⟩
theorem l_run (sc : Nat × (Nat → Int32)) (d k : Nat) (hk : k + 4 ≤ sc.1) (hL : sc.1 ≤ 2048) (h : pm_H) (hI : LwI h) (F : Option Value → pm_H → Prop) (nx : ∀ h, LwI h → pm_Go sc (d + 20) (pm_cd mL_law) (LwS k 403 h) F) : pm_Go sc (d + 20) (pm_cd mL_law) (LwS k 192 h) F := by
  obtain ⟨⟨hw, hh, hc, ho, hg⟩, r, c, P, w, B, ⟨mw, mh, ms, mg, mc, mo, mm, mz, mp⟩, N, O, rfl, a1, a2, a3⟩ := hI
  have v1 : vp_in (nI k + 1) sc.1 := l_in (j := 1) hk hL (by omega)
  have v2 : vp_in (nI k + 2) sc.1 := l_in (j := 2) hk hL (by omega)
  have v3 : vp_in (nI k + 3) sc.1 := l_in (j := 3) hk hL (by omega)
  obtain ⟨x, H', r', c', M', t1, t2, t3⟩ := k_run sc d hw hh hc ho hg r c P w B mw mh ms mg mc mo mm mz mp N O (sc.2 (nI k + 1).toNatClampNeg) (sc.2 (nI k + 2).toNatClampNeg) (sc.2 (nI k + 3).toNatClampNeg) a1
  exact pm_go1 [403] 60 ⟨v1, v2, v3, _, _, t1, v1, v2, v3, _, _, t2, fun _ => nx _ ⟨_, _, _, _, _, _, _, _, _, rfl, t3, a2, a3⟩, fun z => absurd rfl z⟩
theorem l_wall (sc : Nat × (Nat → Int32)) (d k : Nat) (hk : k + 4 ≤ sc.1) (hL : sc.1 ≤ 2048) (h : pm_H) (hI : LwI h) (F : Option Value → pm_H → Prop) (nx : ∀ h, LwI h → pm_Go sc (d + 20) (pm_cd mL_law) (LwS k 403 h) F) : pm_Go sc (d + 20) (pm_cd mL_law) (LwS k 49 h) F := by
  obtain ⟨⟨hw, hh, hc, ho, hg⟩, r, c, P, w, B, ⟨mw, mh, ms, mg, mc, mo, mm, mz, mp⟩, N, O, rfl, a1, a2, a3⟩ := hI
  have v1 : vp_in (nI k + 1) sc.1 := l_in (j := 1) hk hL (by omega)
  have v2 : vp_in (nI k + 2) sc.1 := l_in (j := 2) hk hL (by omega)
  have v3 : vp_in (nI k + 3) sc.1 := l_in (j := 3) hk hL (by omega)
  by_cases e : sc.2 (nI k + 3).toNatClampNeg = 0
  · obtain ⟨x, H', r', c', M', t1, t2, t3⟩ := k_wall sc d hw hh hc ho hg r c P w B mw mh ms mg mc mo mm mz mp N O (sc.2 (nI k + 1).toNatClampNeg) (sc.2 (nI k + 2).toNatClampNeg) false a1
    exact pm_go1 [403] 60 ⟨v1, v2, v3, fun _ => ⟨_, _, t1, v1, v2, v3, fun _ => ⟨_, _, t2, fun _ => nx _ ⟨_, _, _, _, _, _, _, _, _, rfl, t3, a2, a3⟩, fun z => absurd rfl z⟩, fun z => absurd e z⟩, fun z => absurd e z⟩
  · obtain ⟨x, H', r', c', M', t1, t2, t3⟩ := k_wall sc d hw hh hc ho hg r c P w B mw mh ms mg mc mo mm mz mp N O (sc.2 (nI k + 1).toNatClampNeg) (sc.2 (nI k + 2).toNatClampNeg) true a1
    exact pm_go1 [403] 60 ⟨v1, v2, v3, fun z => absurd z e, fun _ => ⟨_, _, t1, v1, v2, v3, fun z => absurd z e, fun _ => ⟨_, _, t2, fun _ => nx _ ⟨_, _, _, _, _, _, _, _, _, rfl, t3, a2, a3⟩, fun z => absurd rfl z⟩⟩⟩
theorem l_peace (sc : Nat × (Nat → Int32)) (d k : Nat) (h : pm_H) (hI : LwI h) (F : Option Value → pm_H → Prop) (nx : ∀ h, LwI h → pm_Go sc (d + 20) (pm_cd mL_law) (LwS k 403 h) F) : pm_Go sc (d + 20) (pm_cd mL_law) (LwS k 287 h) F := by
  obtain ⟨⟨hw, hh, hc, ho, hg⟩, r, c, ⟨p1, p2, pf, pn, pr, pw⟩, w, B, ⟨mw, mh, ms, mg, mc, mo, mm, mz, mp⟩, N, ⟨ob, oc, oq, oz, ow⟩, rfl, a1, a2, a3⟩ := hI
  obtain ⟨x, P', w', M', O', t1, t2, t3, t4⟩ := k_peace sc d hw hh hc ho hg r c p1 p2 pf pn pr pw w B mw mh ms mg mc mo mm mz mp N ob oc oq oz ow a1 a3
  exact pm_go1 [403] 60 ⟨_, _, t1, _, _, t2, fun _ => nx _ ⟨_, _, _, _, _, _, _, _, _, rfl, t3, a2, t4⟩, fun z => absurd rfl z⟩
theorem l_more (sc : Nat × (Nat → Int32)) (d k : Nat) (h : pm_H) (hI : LwI h) (F : Option Value → pm_H → Prop) (nx : ∀ h, LwI h → pm_Go sc (d + 20) (pm_cd mL_law) (LwS k 403 h) F) : pm_Go sc (d + 20) (pm_cd mL_law) (LwS k 280 h) F := by
  obtain ⟨⟨hw, hh, hc, ho, hg⟩, r, c, ⟨p1, p2, pf, pn, pr, pw⟩, ⟨w1, w2, wb, wu⟩, B, ⟨mw, mh, ms, mg, mc, mo, mm, mz, mp⟩, N, ⟨ob, oc, oq, oz, ow⟩, rfl, a1, a2, a3⟩ := hI
  obtain ⟨x, P', w', M', O', t1, t2, t3, t4⟩ := k_more sc d hw hh hc ho hg r c p1 p2 pf pn pr pw w1 w2 wb wu B mw mh ms mg mc mo mm mz mp N ob oc oq oz ow a1 a3
  exact pm_go1 [403] 60 ⟨_, _, t1, _, _, t2, fun _ => nx _ ⟨_, _, _, _, _, _, _, _, _, rfl, t3, a2, t4⟩, fun z => absurd rfl z⟩
theorem l_box (sc : Nat × (Nat → Int32)) (d k : Nat) (hk : k + 4 ≤ sc.1) (hL : sc.1 ≤ 2048) (h : pm_H) (hI : LwI h) (F : Option Value → pm_H → Prop) (nx : ∀ h, LwI h → pm_Go sc (d + 20) (pm_cd mL_law) (LwS k 403 h) F) : pm_Go sc (d + 20) (pm_cd mL_law) (LwS k 294 h) F := by
  obtain ⟨H, r, c, P, w, B, M, N, O, rfl, a1, a2, a3⟩ := hI
  have v1 : vp_in (nI k + 1) sc.1 := l_in (j := 1) hk hL (by omega)
  have v2 : vp_in (nI k + 2) sc.1 := l_in (j := 2) hk hL (by omega)
  obtain ⟨x, B', N', t1, t2, t3⟩ := k_box sc (d + 12) H r c P w B M N O (sc.2 (nI k + 1).toNatClampNeg) (sc.2 (nI k + 2).toNatClampNeg) a2
  exact pm_go1 [403] 60 ⟨v1, v2, _, _, t1, v1, v2, _, _, t2, fun _ => nx _ ⟨_, _, _, _, _, _, _, _, _, rfl, a1, t3, a3⟩, fun z => absurd rfl z⟩
theorem l_place (sc : Nat × (Nat → Int32)) (d k : Nat) (hk : k + 4 ≤ sc.1) (hL : sc.1 ≤ 2048) (h : pm_H) (hI : LwI h) (F : Option Value → pm_H → Prop) (nx : ∀ h, LwI h → pm_Go sc (d + 20) (pm_cd mL_law) (LwS k 403 h) F) : pm_Go sc (d + 20) (pm_cd mL_law) (LwS k 369 h) F := by
  obtain ⟨H, r, c, P, w, B, M, N, O, rfl, a1, a2, a3⟩ := hI
  have v1 : vp_in (nI k + 1) sc.1 := l_in (j := 1) hk hL (by omega)
  have v2 : vp_in (nI k + 2) sc.1 := l_in (j := 2) hk hL (by omega)
  obtain ⟨x, B', N', t1, t2, t3⟩ := k_place sc (d + 12) H r c P w B M N O (sc.2 (nI k + 1).toNatClampNeg) (sc.2 (nI k + 2).toNatClampNeg) a2
  exact pm_go1 [403] 60 ⟨v1, v2, _, _, t1, v1, v2, _, _, t2, fun _ => nx _ ⟨_, _, _, _, _, _, _, _, _, rfl, a1, t3, a3⟩, fun z => absurd rfl z⟩
theorem l_square (sc : Nat × (Nat → Int32)) (d k : Nat) (hk : k + 4 ≤ sc.1) (hL : sc.1 ≤ 2048) (h : pm_H) (hI : LwI h) (F : Option Value → pm_H → Prop) (nx : ∀ h, LwI h → pm_Go sc (d + 20) (pm_cd mL_law) (LwS k 403 h) F) : pm_Go sc (d + 20) (pm_cd mL_law) (LwS k 321 h) F := by
  obtain ⟨H, r, c, P, w, B, M, N, O, rfl, a1, a2, a3⟩ := hI
  have v1 : vp_in (nI k + 1) sc.1 := l_in (j := 1) hk hL (by omega)
  obtain ⟨x, B', N', t1, t2, t3⟩ := k_square sc (d + 12) H r c P w B M N O (sc.2 (nI k + 1).toNatClampNeg) a2
  exact pm_go1 [403] 60 ⟨v1, _, _, t1, v1, _, _, t2, fun _ => nx _ ⟨_, _, _, _, _, _, _, _, _, rfl, a1, t3, a3⟩, fun z => absurd rfl z⟩
theorem l_pack (sc : Nat × (Nat → Int32)) (d k : Nat) (hk : k + 4 ≤ sc.1) (hL : sc.1 ≤ 2048) (h : pm_H) (hI : LwI h) (F : Option Value → pm_H → Prop) (nx : ∀ h, LwI h → pm_Go sc (d + 20) (pm_cd mL_law) (LwS k 403 h) F) : pm_Go sc (d + 20) (pm_cd mL_law) (LwS k 345 h) F := by
  obtain ⟨H, r, c, P, w, B, M, N, O, rfl, a1, a2, a3⟩ := hI
  have v1 : vp_in (nI k + 1) sc.1 := l_in (j := 1) hk hL (by omega)
  obtain ⟨x, B', N', t1, t2, t3⟩ := k_pack sc (d + 12) H r c P w B M N O (sc.2 (nI k + 1).toNatClampNeg) a2
  exact pm_go1 [403] 60 ⟨v1, _, _, t1, v1, _, _, t2, fun _ => nx _ ⟨_, _, _, _, _, _, _, _, _, rfl, a1, t3, a3⟩, fun z => absurd rfl z⟩
theorem l_drop (sc : Nat × (Nat → Int32)) (d k : Nat) (h : pm_H) (hI : LwI h) (F : Option Value → pm_H → Prop) (nx : ∀ h, LwI h → pm_Go sc (d + 20) (pm_cd mL_law) (LwS k 403 h) F) : pm_Go sc (d + 20) (pm_cd mL_law) (LwS k 338 h) F := by
  obtain ⟨H, r, c, P, w, B, M, N, O, rfl, a1, a2, a3⟩ := hI
  obtain ⟨x, B', N', t1, t2, t3⟩ := k_drop sc (d + 12) H r c P w B M N O a2
  exact pm_go1 [403] 60 ⟨_, _, t1, _, _, t2, fun _ => nx _ ⟨_, _, _, _, _, _, _, _, _, rfl, a1, t3, a3⟩, fun z => absurd rfl z⟩
theorem l_tried (sc : Nat × (Nat → Int32)) (d k : Nat) (h : pm_H) (hI : LwI h) (F : Option Value → pm_H → Prop) (nx : ∀ h, LwI h → pm_Go sc (d + 20) (pm_cd mL_law) (LwS k 403 h) F) : pm_Go sc (d + 20) (pm_cd mL_law) (LwS k 362 h) F := by
  obtain ⟨H, r, c, P, w, B, M, N, O, rfl, a1, a2, a3⟩ := hI
  obtain ⟨x, B', N', t1, t2, t3⟩ := k_tried sc (d + 12) H r c P w B M N O a2
  exact pm_go1 [403] 60 ⟨_, _, t1, _, _, t2, fun _ => nx _ ⟨_, _, _, _, _, _, _, _, _, rfl, a1, t3, a3⟩, fun z => absurd rfl z⟩
theorem l_left (sc : Nat × (Nat → Int32)) (d k : Nat) (h : pm_H) (hI : LwI h) (F : Option Value → pm_H → Prop) (nx : ∀ h, LwI h → pm_Go sc (d + 20) (pm_cd mL_law) (LwS k 403 h) F) : pm_Go sc (d + 20) (pm_cd mL_law) (LwS k 396 h) F := by
  obtain ⟨H, r, c, P, w, B, M, N, O, rfl, a1, a2, a3⟩ := hI
  obtain ⟨x, B', N', t1, t2, t3⟩ := k_left sc (d + 12) H r c P w B M N O a2
  exact pm_go1 [403] 60 ⟨_, _, t1, _, _, t2, fun _ => nx _ ⟨_, _, _, _, _, _, _, _, _, rfl, a1, t3, a3⟩, fun z => absurd rfl z⟩
theorem l_loop (sc : Nat × (Nat → Int32)) (d : Nat) (hL : sc.1 ≤ 2048) : ∀ (t k : Nat) (h : pm_H), sc.1 < k + 4 * t → k ≤ sc.1 → LwI h → pm_Go sc (d + 20) (pm_cd mL_law) (LwS k 10 h) (fun r2 h2 => r2 = some (.int 1) ∧ LwI h2) := by
  intro t
  induction t with
  | zero => intro k h h1 h2; omega
  | succ t ih =>
    intro k h h1 h2 hI
    have len : nI sc.1 - 4 < nI k ↔ sc.1 < k + 4 := lt_dif (y := 4) (by omega) (by omega) (by omega)
    by_cases hk : k + 4 ≤ sc.1
    · have c1 : ¬ nI sc.1 - 4 < nI k := by rw [len]; omega
      have v0 : vp_in (nI k) sc.1 := nu_in (by omega) (by omega)
      have nx : ∀ h, LwI h → pm_Go sc (d + 20) (pm_cd mL_law) (LwS k 403 h) (fun r2 h2 => r2 = some (.int 1) ∧ LwI h2) := fun h hI => by
        have n := ih (k + 4) h (by omega) (by omega) hI
        unfold LwS at n
        rw [← nI_add] at n
        exact pm_go1 [10] 10 n
      have sw : ∀ x : Int32, pm_Go sc (d + 20) (pm_cd mL_law) (21, [some (.ref 0), some (.ref 1), some (.ref 27), some (.int (nI k))], [.int x], h) (fun r2 h2 => r2 = some (.int 1) ∧ LwI h2) := by
        intro x
        refine pm_go1 [22, 49, 94, 121, 148, 175, 192, 229, 256, 263, 280, 287, 294, 321, 338, 345, 362, 369, 396, 403] 10 ⟨fun j hj _ => ?_, fun _ => nx h hI⟩
        match j, hj with
        | 0, _ => exact l_hall sc d k hk hL h hI _ nx
        | 1, _ => exact l_wall sc d k hk hL h hI _ nx
        | 2, _ => exact l_guard sc d k hk hL h hI _ nx
        | 3, _ => exact l_leave sc d k hk hL h hI _ nx
        | 4, _ => exact l_cell sc d k hk hL h hI _ nx
        | 5, _ => exact l_runs sc d k hk hL h hI _ nx
        | 6, _ => exact l_run sc d k hk hL h hI _ nx
        | 7, _ => exact l_sees sc d k hk hL h hI _ nx
        | 8, _ => exact l_seen sc d k h hI _ nx
        | 9, _ => exact l_missed sc d k hk hL h hI _ nx
        | 10, _ => exact l_more sc d k h hI _ nx
        | 11, _ => exact l_peace sc d k h hI _ nx
        | 12, _ => exact l_box sc d k hk hL h hI _ nx
        | 13, _ => exact l_square sc d k hk hL h hI _ nx
        | 14, _ => exact l_drop sc d k h hI _ nx
        | 15, _ => exact l_pack sc d k hk hL h hI _ nx
        | 16, _ => exact l_tried sc d k h hI _ nx
        | 17, _ => exact l_place sc d k hk hL h hI _ nx
        | 18, _ => exact l_left sc d k h hI _ nx
        | j + 19, hj => exact absurd hj (by show ¬ j + 19 < 19; omega)
      exact pm_go1 [21] 20 ⟨fun z => absurd z c1, fun _ => ⟨v0, sw _⟩⟩
    · have c1 : nI sc.1 - 4 < nI k := by rw [len]; omega
      exact pm_go1 [21] 20 ⟨fun _ => ⟨Or.inr rfl, rfl, hI⟩, fun z => absurd c1 z⟩
