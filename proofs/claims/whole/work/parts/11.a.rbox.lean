/-! THE REFERENCE'S BOX -/
theorem r_within (sc : Nat × (Nat → Int32)) (d : Nat) (h : pm_H) (x lo hi : Int32) : pm_D sc (d + 1) mX6_within [.int x, .int lo, .int hi] h (some (.int (if lo ≤ x ∧ x ≤ hi then 1 else 0))) h := by
  refine pm_in (pm_go [] 12 ?_)
  refine ⟨fun c1 => ?_, fun c1 => ?_⟩
  · refine ⟨Or.inl rfl, ?_, rfl⟩
    rw [if_neg (fun q => absurd q.1 (Int32.not_le.mpr c1))]
  · refine ⟨fun c2 => ?_, fun c2 => ?_⟩
    · refine ⟨Or.inl rfl, ?_, rfl⟩
      rw [if_neg (fun q => absurd q.2 (Int32.not_le.mpr c2))]
    · refine ⟨Or.inr rfl, ?_, rfl⟩
      rw [if_pos ⟨Int32.not_lt.mp c1, Int32.not_lt.mp c2⟩]
theorem r_isApart (sc : Nat × (Nat → Int32)) (d : Nat) (H : tH) (r : tR) (c : tR) (P : tP) (w : tW) (B : tB) (M : tM) (na : Int32) (nb : Int32) (nc : Int32) (ns : tA) (nx : tA) (ny : tA) (np : Int32) (nt : Int32) (O : tO) (sd px py : Nat → Nat) (a k : Nat) (ha : a < 8) (hk : k < 8) (h1 : ns a = nI (sd a)) (h2 : nx a = nI (px a)) (h3 : ny a = nI (py a)) (h4 : ns k = nI (sd k)) (h5 : nx k = nI (px k)) (h6 : ny k = nI (py k)) (b1 : sd a < 100) (b2 : px a < 100) (b3 : py a < 100) (b4 : sd k < 100) (b5 : px k < 100) (b6 : py k < 100) :
    ∃ v : Int32, pm_D sc (d + 1) mX6_isApart [.ref 27, .int (nI a), .int (nI k)] (hp H r c P w B M (na, nb, nc, ns, nx, ny, np, nt) O) (some (.int v)) (hp H r c P w B M (na, nb, nc, ns, nx, ny, np, nt) O) ∧ ((v = 1 ∧ bx_ap sd px py a k) ∨ (v = 0 ∧ ¬ bx_ap sd px py a k)) := by
  have ia : vp_in (nI a) 8 := nu_in ha (by omega)
  have ik : vp_in (nI k) 8 := nu_in hk (by omega)
  have e1 : nx (nI k).toNatClampNeg + ns (nI k).toNatClampNeg ≤ nx (nI a).toNatClampNeg ↔ px k + sd k ≤ px a := by rw [nu_cl (by omega), nu_cl (by omega), h2, h4, h5, nI_add, nu_le (by omega) (by omega)]
  have e2 : nx (nI a).toNatClampNeg + ns (nI a).toNatClampNeg ≤ nx (nI k).toNatClampNeg ↔ px a + sd a ≤ px k := by rw [nu_cl (by omega), nu_cl (by omega), h2, h1, h5, nI_add, nu_le (by omega) (by omega)]
  have e3 : ny (nI k).toNatClampNeg + ns (nI k).toNatClampNeg ≤ ny (nI a).toNatClampNeg ↔ py k + sd k ≤ py a := by rw [nu_cl (by omega), nu_cl (by omega), h3, h4, h6, nI_add, nu_le (by omega) (by omega)]
  have e4 : ny (nI k).toNatClampNeg < ny (nI a).toNatClampNeg + ns (nI a).toNatClampNeg ↔ py k < py a + sd a := by rw [nu_cl (by omega), nu_cl (by omega), h3, h1, h6, nI_add, nu_lt (by omega) (by omega)]
  by_cases q1 : px k + sd k ≤ px a
  · exact ⟨1, pm_in (pm_go [] 70 ⟨ia, ik, ik, fun c1 => ⟨Or.inr rfl, rfl, rfl⟩, fun c1 => absurd (e1.mpr q1) c1⟩), Or.inl ⟨rfl, Or.inl q1⟩⟩
  · have n1 := fun z => q1 (e1.mp z)
    by_cases q2 : px a + sd a ≤ px k
    · exact ⟨1, pm_in (pm_go [] 70 ⟨ia, ik, ik, fun c1 => absurd c1 n1, fun c1 => ⟨ik, ia, ia, fun c2 => ⟨Or.inr rfl, rfl, rfl⟩, fun c2 => absurd (e2.mpr q2) c2⟩⟩), Or.inl ⟨rfl, Or.inr (Or.inl q2)⟩⟩
    · have n2 := fun z => q2 (e2.mp z)
      by_cases q3 : py k + sd k ≤ py a
      · exact ⟨1, pm_in (pm_go [] 70 ⟨ia, ik, ik, fun c1 => absurd c1 n1, fun c1 => ⟨ik, ia, ia, fun c2 => absurd c2 n2, fun c2 => ⟨ia, ik, ik, fun c3 => ⟨Or.inr rfl, rfl, rfl⟩, fun c3 => absurd (e3.mpr q3) c3⟩⟩⟩), Or.inl ⟨rfl, Or.inr (Or.inr (Or.inl q3))⟩⟩
      · have n3 := fun z => q3 (e3.mp z)
        by_cases q4 : py k < py a + sd a
        · exact ⟨0, pm_in (pm_go [] 70 ⟨ia, ik, ik, fun c1 => absurd c1 n1, fun c1 => ⟨ik, ia, ia, fun c2 => absurd c2 n2, fun c2 => ⟨ia, ik, ik, fun c3 => absurd c3 n3, fun c3 => ⟨ik, ia, ia, fun c4 => ⟨Or.inl rfl, rfl, rfl⟩, fun c4 => absurd (e4.mpr q4) c4⟩⟩⟩⟩), Or.inr ⟨rfl, by unfold bx_ap; omega⟩⟩
        · exact ⟨1, pm_in (pm_go [] 70 ⟨ia, ik, ik, fun c1 => absurd c1 n1, fun c1 => ⟨ik, ia, ia, fun c2 => absurd c2 n2, fun c2 => ⟨ia, ik, ik, fun c3 => absurd c3 n3, fun c3 => ⟨ik, ia, ia, fun c4 => absurd (e4.mp c4) q4, fun c4 => ⟨Or.inr rfl, rfl, rfl⟩⟩⟩⟩⟩), Or.inl ⟨rfl, by unfold bx_ap; omega⟩⟩
theorem r_lies (sc : Nat × (Nat → Int32)) (d : Nat) (H : tH) (r : tR) (c : tR) (P : tP) (w : tW) (B : tB) (M : tM) (na : Int32) (nb : Int32) (nc : Int32) (ns : tA) (nx : tA) (ny : tA) (np : Int32) (nt : Int32) (O : tO) (sd px py : Nat → Nat) (s : Nat) (hs : s < 8) (h1 : ∀ k, k ≤ s → ns k = nI (sd k) ∧ nx k = nI (px k) ∧ ny k = nI (py k) ∧ sd k < 100 ∧ px k < 100 ∧ py k < 100) :
    ∃ v : Int32, pm_D sc (d + 2) mX6_lies [.ref 27, .int (nI s)] (hp H r c P w B M (na, nb, nc, ns, nx, ny, np, nt) O) (some (.int v)) (hp H r c P w B M (na, nb, nc, ns, nx, ny, np, nt) O) ∧ ((v = 1 ∧ bx_free sd px py s) ∨ (v = 0 ∧ ¬ bx_free sd px py s)) := by
  have loop : ∀ (n k : Nat) (f x : Int32), k + n = s → x = nI k → ((f = 1 ∧ ∀ j, j < k → bx_ap sd px py s j) ∨ (f = 0 ∧ ∃ j, j < k ∧ ¬ bx_ap sd px py s j)) → ∃ v : Int32, pm_Go sc (d + 1) (pm_cd mX6_lies) (4, [some (.ref 27), some (.int (nI s)), some (.int f), some (.int x)], [], (hp H r c P w B M (na, nb, nc, ns, nx, ny, np, nt) O)) (fun r2 h2 => r2 = some (.int v) ∧ h2 = (hp H r c P w B M (na, nb, nc, ns, nx, ny, np, nt) O)) ∧ ((v = 1 ∧ bx_free sd px py s) ∨ (v = 0 ∧ ¬ bx_free sd px py s)) := by
    intro n
    induction n with
    | zero =>
      intro k f x hk hx hf
      subst hx
      have hks : k = s := by omega
      subst hks
      have hle : nI k ≤ nI k := (nu_le (by omega) (by omega)).mpr (Nat.le_refl _)
      rcases hf with ⟨rfl, hf⟩ | ⟨rfl, j, hj, hf⟩
      · exact ⟨1, pm_go [] 8 ⟨fun c1 => ⟨Or.inr rfl, rfl, rfl⟩, fun c1 => absurd hle c1⟩, Or.inl ⟨rfl, hf⟩⟩
      · exact ⟨0, pm_go [] 8 ⟨fun c1 => ⟨Or.inl rfl, rfl, rfl⟩, fun c1 => absurd hle c1⟩, Or.inr ⟨rfl, fun q => hf (q j hj)⟩⟩
    | succ n ih =>
      intro k f x hk hx hf
      subst hx
      have hnle : ¬ nI s ≤ nI k := by rw [nu_le (by omega) (by omega)]; omega
      rcases hf with ⟨rfl, hf⟩ | ⟨rfl, j, hj, hf⟩
      · obtain ⟨s1, s2, s3, s4, s5, s6⟩ := h1 s (Nat.le_refl _)
        obtain ⟨k1, k2, k3, k4, k5, k6⟩ := h1 k (by omega)
        obtain ⟨v, hv, hc⟩ := r_isApart sc d H r c P w B M na nb nc ns nx ny np nt O sd px py s k hs (by omega) s1 s2 s3 k1 k2 k3 s4 s5 s6 k4 k5 k6
        rcases hc with ⟨rfl, hc⟩ | ⟨rfl, hc⟩
        · obtain ⟨v, g1, g2⟩ := ih (k + 1) 1 (nI k + 1) (by omega) (nI_1 k) (Or.inl ⟨rfl, fun j hj => by
            by_cases hjk : j = k
            · subst hjk; exact hc
            · exact hf j (by omega)⟩)
          exact ⟨v, pm_go1 [4] 30 ⟨fun c1 => absurd c1 hnle, fun c1 => ⟨fun c2 => absurd c2 (by decide), fun c2 => ⟨_, _, hv, fun c3 => absurd c3 (by decide), fun c3 => g1⟩⟩⟩, g2⟩
        · obtain ⟨v, g1, g2⟩ := ih (k + 1) 0 (nI k + 1) (by omega) (nI_1 k) (Or.inr ⟨rfl, k, by omega, hc⟩)
          exact ⟨v, pm_go1 [4] 30 ⟨fun c1 => absurd c1 hnle, fun c1 => ⟨fun c2 => absurd c2 (by decide), fun c2 => ⟨_, _, hv, fun c3 => g1, fun c3 => absurd rfl c3⟩⟩⟩, g2⟩
      · obtain ⟨v, g1, g2⟩ := ih (k + 1) 0 (nI k + 1) (by omega) (nI_1 k) (Or.inr ⟨rfl, j, by omega, hf⟩)
        exact ⟨v, pm_go1 [4] 30 ⟨fun c1 => absurd c1 hnle, fun c1 => ⟨fun c2 => g1, fun c2 => absurd rfl c2⟩⟩, g2⟩
  obtain ⟨v, g1, g2⟩ := loop s 0 1 0 (by omega) nu_0 (Or.inl ⟨rfl, fun j hj => absurd hj (by omega)⟩)
  exact ⟨v, pm_in (pm_go [4] 6 g1), g2⟩
theorem r_goesOn (sc : Nat × (Nat → Int32)) (d : Nat) (H : tH) (r : tR) (c : tR) (P : tP) (w : tW) (B : tB) (M : tM) (na : Int32) (nb : Int32) (nc : Int32) (ns : tA) (nx : tA) (ny : tA) (np : Int32) (nt : Int32) (O : tO) (A Bh sd u sy s : Nat) (hs : s < 8) (hA : na = nI A) (hB : nb = nI Bh) (h1 : ns s = nI sd) (h2 : nx s + 1 = nI u) (h3 : ny s = nI sy) (b1 : A < 100) (b2 : Bh < 100) (b3 : sd < 100) (b4 : u < 100) (b5 : sy < 100) :
    ∃ (v : Int32) (nx' ny' : tA), pm_D sc (d + 1) mX6_goesOn [.ref 27, .int (nI s)] (hp H r c P w B M (na, nb, nc, ns, nx, ny, np, nt) O) (some (.int v)) (hp H r c P w B M (na, nb, nc, ns, nx', ny', np, nt) O) ∧ (∀ k, nx' k = if k = s then nI (if u + sd ≤ A then u else 0) else nx k) ∧ (∀ k, ny' k = if k = s then nI (if u + sd ≤ A then sy else sy + 1) else ny k) ∧ ((v = 1 ∧ sd ≤ A ∧ (if u + sd ≤ A then sy else sy + 1) + sd ≤ Bh) ∨ (v = 0 ∧ ¬ (sd ≤ A ∧ (if u + sd ≤ A then sy else sy + 1) + sd ≤ Bh))) := by
  have hi : vp_in (nI s) 8 := nu_in hs (by omega)
  have hcl : (nI s).toNatClampNeg = s := nu_cl (by omega)
  have tA : na.toInt = A := by rw [hA]; exact nu_ti (by omega)
  have tB : nb.toInt = Bh := by rw [hB]; exact nu_ti (by omega)
  have ts : (ns s).toInt = sd := by rw [h1]; exact nu_ti (by omega)
  have tx : (na - ns s).toInt = (A : Int) - sd := by rw [nu_sub (by omega) (by omega), tA, ts]
  have ty : (nb - ns s).toInt = (Bh : Int) - sd := by rw [nu_sub (by omega) (by omega), tB, ts]
  have c1i : (nx s + 1) ≤ na - ns s ↔ u + sd ≤ A := by
    rw [Int32.le_iff_toInt_le, tx, h2, nu_ti (by omega)]; omega
  have c2i : na - ns s < 0 ↔ A < sd := by
    rw [Int32.lt_iff_toInt_lt, tx]; show _ < (0 : Int) ↔ _; omega
  by_cases q1 : u + sd ≤ A
  · have c3i : nb - ns s < ny s ↔ ¬ sy + sd ≤ Bh := by
      rw [Int32.lt_iff_toInt_lt, ty, h3, nu_ti (by omega)]; omega
    have nneg : ¬ na - ns s < 0 := by rw [c2i]; omega
    have goal1 : ∀ k, upd nx (nI s).toNatClampNeg (nx (nI s).toNatClampNeg + 1) k = if k = s then nI (if u + sd ≤ A then u else 0) else nx k := fun k => by rw [hcl, nu_upd, h2, if_pos q1]
    have goal2 : ∀ k, ny k = if k = s then nI (if u + sd ≤ A then sy else sy + 1) else ny k := fun k => by
      rw [if_pos q1]; split
      · rename_i hk; rw [hk]; exact h3
      · rfl
    have e1 : upd nx (nI s).toNatClampNeg (pm_ib 0 (nx (nI s).toNatClampNeg) 1) (nI s).toNatClampNeg ≤ pm_ib 1 na (ns (nI s).toNatClampNeg) := by
      rw [nu_updS, hcl]; exact c1i.mpr q1
    have e2 : ¬ pm_ib 1 na (ns (nI s).toNatClampNeg) < 0 := by rw [hcl]; exact nneg
    by_cases q2 : sy + sd ≤ Bh
    · refine ⟨1, _, ny, pm_in (pm_go [] 70 ⟨hi, hi, hi, hi, hi, fun c1 => ⟨fun c2 => absurd c2 e2, fun c2 => ⟨hi, fun c3 => ?_, fun c3 => ⟨Or.inr rfl, rfl, rfl⟩⟩⟩, fun c1 => absurd e1 c1⟩), goal1, goal2, Or.inl ⟨rfl, by omega, by rw [if_pos q1]; exact q2⟩⟩
      have c3 : nb - ns (nI s).toNatClampNeg < ny (nI s).toNatClampNeg := c3
      rw [hcl] at c3
      exact absurd q2 (c3i.mp c3)
    · refine ⟨0, _, ny, pm_in (pm_go [] 70 ⟨hi, hi, hi, hi, hi, fun c1 => ⟨fun c2 => absurd c2 e2, fun c2 => ⟨hi, fun c3 => ⟨Or.inl rfl, rfl, rfl⟩, fun c3 => ?_⟩⟩, fun c1 => absurd e1 c1⟩), goal1, goal2, Or.inr ⟨rfl, by rw [if_pos q1]; omega⟩⟩
      have c3 : ¬ nb - ns (nI s).toNatClampNeg < ny (nI s).toNatClampNeg := c3
      rw [hcl] at c3
      exact absurd (c3i.mpr q2) c3
  · have c3i : nb - ns s < ny s + 1 ↔ ¬ sy + 1 + sd ≤ Bh := by
      rw [Int32.lt_iff_toInt_lt, ty, h3, nI_1, nu_ti (by omega)]; omega
    have goal1 : ∀ k, upd (upd nx (nI s).toNatClampNeg (nx (nI s).toNatClampNeg + 1)) (nI s).toNatClampNeg 0 k = if k = s then nI (if u + sd ≤ A then u else 0) else nx k := fun k => by rw [nu_uu, hcl, nu_upd, if_neg q1]; rfl
    have goal2 : ∀ k, upd ny (nI s).toNatClampNeg (ny (nI s).toNatClampNeg + 1) k = if k = s then nI (if u + sd ≤ A then sy else sy + 1) else ny k := fun k => by
      rw [hcl, nu_upd, h3, nI_1, if_neg q1]
    have e1 : ¬ upd nx (nI s).toNatClampNeg (pm_ib 0 (nx (nI s).toNatClampNeg) 1) (nI s).toNatClampNeg ≤ pm_ib 1 na (ns (nI s).toNatClampNeg) := by
      rw [nu_updS, hcl]; exact fun z => q1 (c1i.mp z)
    by_cases q0 : A < sd
    · have e2 : pm_ib 1 na (ns (nI s).toNatClampNeg) < 0 := by rw [hcl]; exact c2i.mpr q0
      exact ⟨0, _, _, pm_in (pm_go [] 70 ⟨hi, hi, hi, hi, hi, fun c1 => absurd c1 e1, fun c1 => ⟨hi, hi, hi, fun c2 => ⟨Or.inl rfl, rfl, rfl⟩, fun c2 => absurd e2 c2⟩⟩), goal1, goal2, Or.inr ⟨rfl, by omega⟩⟩
    · have e2 : ¬ pm_ib 1 na (ns (nI s).toNatClampNeg) < 0 := by rw [hcl]; exact fun z => q0 (c2i.mp z)
      by_cases q2 : sy + 1 + sd ≤ Bh
      · refine ⟨1, _, _, pm_in (pm_go [] 70 ⟨hi, hi, hi, hi, hi, fun c1 => absurd c1 e1, fun c1 => ⟨hi, hi, hi, fun c2 => absurd c2 e2, fun c2 => ⟨hi, fun c3 => ?_, fun c3 => ⟨Or.inr rfl, rfl, rfl⟩⟩⟩⟩), goal1, goal2, Or.inl ⟨rfl, by omega, by rw [if_neg q1]; exact q2⟩⟩
        have c3 : nb - ns (nI s).toNatClampNeg < upd ny (nI s).toNatClampNeg (ny (nI s).toNatClampNeg + 1) (nI s).toNatClampNeg := c3
        rw [nu_updS, hcl] at c3
        exact absurd q2 (c3i.mp c3)
      · refine ⟨0, _, _, pm_in (pm_go [] 70 ⟨hi, hi, hi, hi, hi, fun c1 => absurd c1 e1, fun c1 => ⟨hi, hi, hi, fun c2 => absurd c2 e2, fun c2 => ⟨hi, fun c3 => ⟨Or.inl rfl, rfl, rfl⟩, fun c3 => ?_⟩⟩⟩), goal1, goal2, Or.inr ⟨rfl, by rw [if_neg q1]; omega⟩⟩
        have c3 : ¬ nb - ns (nI s).toNatClampNeg < upd ny (nI s).toNatClampNeg (ny (nI s).toNatClampNeg + 1) (nI s).toNatClampNeg := c3
        rw [nu_updS, hcl] at c3
        exact absurd (c3i.mpr q2) c3
