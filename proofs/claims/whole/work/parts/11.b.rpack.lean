/-! THE REFERENCE'S pack -/
/-- the place that is stored (x one less) moves on to the place that is tried next -/
def bx_rel (A sd u sy x y : Nat) : Prop := (u + sd ≤ A ∧ x = u ∧ y = sy) ∨ (A < u + sd ∧ sd ≤ A ∧ x = 0 ∧ y = sy + 1) ∨ A < sd
theorem r_packLoop (sc : Nat × (Nat → Int32)) (d : Nat) (H : tH) (r : tR) (c : tR) (P : tP) (w : tW) (B : tB) (M : tM) (na : Int32) (nb : Int32) (nc : Int32) (ns : tA) (nx : tA) (ny : tA) (np : Int32) (nt : Int32) (O : tO) (A Bh cnt steps : Nat) (sd : Nat → Nat) (hA : na = nI A) (hB : nb = nI Bh) (hC : nc = nI cnt) (bA : A ≤ 12) (bB : Bh ≤ 12) (bC : cnt ≤ 8) (bS : steps ≤ 100000) (hsd : ∀ k, k < cnt → ns k = nI (sd k) ∧ 1 ≤ sd k ∧ sd k ≤ 12) :
    ∀ (n s turn tr u sy : Nat) (px py : Nat → Nat) (q : Int32) (nx ny : tA), n + turn = 200002 → turn + s ≤ 2 * tr → tr ≤ steps → s ≤ cnt → q = nI s → (∀ k, k < s → nx k = nI (px k) ∧ ny k = nI (py k) ∧ bx_fit A Bh sd px py k) → (s < cnt → nx s + 1 = nI u ∧ ny s = nI sy ∧ bx_rel A (sd s) u sy (px s) (py s)) → u ≤ 13 → sy ≤ 12 →
      ∃ nx' ny' : tA, pm_Go sc (d + 2) (pm_cd mX6_pack) (28, [some (.ref 27), some (.int (nI steps)), some (.int q)], [], (hp H r c P w B M (na, nb, nc, ns, nx, ny, 0, nI tr) O)) (fun r2 h2 => r2 = some (.int (nI (bx_run A Bh cnt steps sd n s px py tr).1)) ∧ h2 = (hp H r c P w B M (na, nb, nc, ns, nx', ny', if (bx_run A Bh cnt steps sd n s px py tr).1 = 1 then 1 else 0, nI (bx_run A Bh cnt steps sd n s px py tr).2.1) O)) ∧ ((bx_run A Bh cnt steps sd n s px py tr).1 = 1 → ∀ k, k < cnt → nx' k = nI ((bx_run A Bh cnt steps sd n s px py tr).2.2.1 k) ∧ ny' k = nI ((bx_run A Bh cnt steps sd n s px py tr).2.2.2 k)) := by
  intro n
  induction n with
  | zero =>
    intro s turn tr u sy px py q nx ny hn ht
    omega
  | succ n ih =>
    intro s turn tr u sy px py q nx ny hn ht htr hs hq hfr hcur bu bsy
    subst hq
    have hnn : ¬ nI s < 0 := nI_pos (by omega)
    unfold bx_run
    by_cases hcs : cnt ≤ s
    · rw [if_pos hcs]
      have hge : nc ≤ nI s := by rw [hC, nu_le (by omega) (by omega)]; omega
      exact ⟨nx, ny, pm_go [] 40 ⟨fun c1 => absurd c1 hnn, fun c1 => ⟨fun c2 => ⟨fun c3 => absurd c3 hnn, fun c3 => ⟨Or.inr rfl, fun c4 => absurd c4 (by decide), fun c4 => ⟨rfl, rfl⟩⟩⟩, fun c2 => absurd hge c2⟩⟩, fun _ k hk => ⟨(hfr k (by omega)).1, (hfr k (by omega)).2.1⟩⟩
    · rw [if_neg hcs]
      have hlt : ¬ nc ≤ nI s := by rw [hC, nu_le (by omega) (by omega)]; omega
      obtain ⟨g1, g2, g3⟩ := hsd s (by omega)
      obtain ⟨a1, a2, hrel⟩ := hcur (by omega)
      obtain ⟨v, nx1, ny1, hgo, e1, e2, hv⟩ := r_goesOn sc (d + 1) H r c P w B M na nb nc ns nx ny 0 (nI tr) O A Bh (sd s) u sy s (by omega) hA hB g1 a1 a2 (by omega) (by omega) (by omega) (by omega) (by omega)
      have hfit_iff : (sd s ≤ A ∧ (if u + sd s ≤ A then sy else sy + 1) + sd s ≤ Bh) ↔ bx_fit A Bh sd px py s := by
        unfold bx_fit
        rcases hrel with ⟨r1, r2, r3⟩ | ⟨r1, r2, r3, r4⟩ | r1
        · rw [if_pos r1]; omega
        · rw [if_neg (by omega)]; omega
        · constructor
          · intro z; omega
          · intro z; omega
      rcases hv with ⟨rfl, hv⟩ | ⟨rfl, hv⟩
      · have hfit : bx_fit A Bh sd px py s := hfit_iff.mp hv
        rw [if_neg (fun z => z hfit)]
        have hf1 := hfit.1
        have hf2 := hfit.2
        have hpos : nx1 s = nI (px s) ∧ ny1 s = nI (py s) := by
          rw [e1, e2, if_pos rfl, if_pos rfl]
          rcases hrel with ⟨r1, r2, r3⟩ | ⟨r1, r2, r3, r4⟩ | r1
          · rw [if_pos r1, if_pos r1, r2, r3]; exact ⟨rfl, rfl⟩
          · rw [if_neg (by omega), if_neg (by omega), r3, r4]; exact ⟨rfl, rfl⟩
          · omega
        have hold : ∀ k, k < s → nx1 k = nI (px k) ∧ ny1 k = nI (py k) := fun k hk => by
          rw [e1, e2, if_neg (by omega), if_neg (by omega)]
          exact ⟨(hfr k hk).1, (hfr k hk).2.1⟩
        by_cases hst : steps ≤ tr
        · rw [if_pos hst]
          have heq : nI tr = nI steps := by rw [nu_eq (by omega) (by omega)]; omega
          exact ⟨nx1, ny1, pm_go1 [28] 40 ⟨fun c1 => absurd c1 hnn, fun c1 => ⟨fun c2 => absurd c2 hlt, fun c2 => ⟨_, _, hgo, fun c3 => ⟨fun c4 => absurd heq c4, fun c4 => ⟨rfl, rfl⟩⟩, fun c3 => absurd c3 (by decide)⟩⟩⟩, fun z => absurd (show (2 : Nat) = 1 from z) (by decide)⟩
        · rw [if_neg hst]
          have hne : ¬ nI tr = nI steps := by rw [nu_eq (by omega) (by omega)]; omega
          obtain ⟨v, hl, hlc⟩ := r_lies sc d H r c P w B M na nb nc ns nx1 ny1 0 (nI tr + 1) O sd px py s (by omega) (fun k hk => by
            have hsk := hsd k (by omega)
            by_cases hks : k = s
            · subst hks
              exact ⟨hsk.1, hpos.1, hpos.2, by omega, by omega, by omega⟩
            · have h1 := hold k (by omega)
              have h2 := (hfr k (by omega)).2.2.1
              have h3 := (hfr k (by omega)).2.2.2
              exact ⟨hsk.1, h1.1, h1.2, by omega, by omega, by omega⟩)
          rcases hlc with ⟨rfl, hfree⟩ | ⟨rfl, hnf⟩
          · rw [if_pos (by simpa using hfree)]
            by_cases hlast : s + 1 < cnt
            · have hlast' : ¬ nc ≤ nI s + 1 := by rw [hC, nI_1, nu_le (by omega) (by omega)]; omega
              have hin1 : vp_in (nI s + 1) 8 := by rw [nI_1]; exact nu_in (by omega) (by omega)
              have hcl1 : (nI s + 1).toNatClampNeg = s + 1 := by rw [nI_1]; exact nu_cl (by omega)
              obtain ⟨nx3, ny3, k1, k2⟩ := ih (s + 1) (turn + 1) (tr + 1) 0 0 (upN px (s + 1) 0) (upN py (s + 1) 0) (nI s + 1) (upd nx1 (nI s + 1).toNatClampNeg (-1)) (upd ny1 (nI s + 1).toNatClampNeg 0) (by omega) (by omega) (by omega) (by omega) (nI_1 s) (fun k hk => by
                  rw [hcl1, nu_updN (by omega), nu_updN (by omega), upN_ne (by omega), upN_ne (by omega)]
                  unfold bx_fit
                  rw [upN_ne (by omega), upN_ne (by omega)]
                  by_cases hks : k = s
                  · subst hks; exact ⟨hpos.1, hpos.2, hfit⟩
                  · exact ⟨(hold k (by omega)).1, (hold k (by omega)).2, (hfr k (by omega)).2.2⟩) (fun _ => by
                  rw [hcl1, nu_updS, nu_updS, upN_eq, upN_eq]
                  refine ⟨by decide, nu_0, ?_⟩
                  unfold bx_rel
                  omega) (by omega) (by omega)
              refine ⟨nx3, ny3, pm_go1 [28] 60 ⟨fun c1 => absurd c1 hnn, fun c1 => ⟨fun c2 => absurd c2 hlt, fun c2 => ⟨_, _, hgo, fun c3 => ⟨fun c4 => ⟨_, _, hl, fun c5 => absurd c5 (by decide), fun c5 => ⟨fun c6 => absurd c6 hlast', fun c6 => ⟨hin1, hin1, ?_⟩⟩⟩, fun c4 => absurd c4 hne⟩, fun c3 => absurd c3 (by decide)⟩⟩⟩, k2⟩
              rw [← nI_1 tr] at k1
              exact k1
            · have hlast' : nc ≤ nI s + 1 := by rw [hC, nI_1, nu_le (by omega) (by omega)]; omega
              obtain ⟨nx3, ny3, k1, k2⟩ := ih (s + 1) (turn + 1) (tr + 1) 0 0 (upN px (s + 1) 0) (upN py (s + 1) 0) (nI s + 1) nx1 ny1 (by omega) (by omega) (by omega) (by omega) (nI_1 s) (fun k hk => by
                  rw [upN_ne (by omega), upN_ne (by omega)]
                  unfold bx_fit
                  rw [upN_ne (by omega), upN_ne (by omega)]
                  by_cases hks : k = s
                  · subst hks; exact ⟨hpos.1, hpos.2, hfit⟩
                  · exact ⟨(hold k (by omega)).1, (hold k (by omega)).2, (hfr k (by omega)).2.2⟩) (fun z => absurd z hlast) (by omega) (by omega)
              refine ⟨nx3, ny3, pm_go1 [28] 60 ⟨fun c1 => absurd c1 hnn, fun c1 => ⟨fun c2 => absurd c2 hlt, fun c2 => ⟨_, _, hgo, fun c3 => ⟨fun c4 => ⟨_, _, hl, fun c5 => absurd c5 (by decide), fun c5 => ⟨fun c6 => ?_, fun c6 => absurd hlast' c6⟩⟩, fun c4 => absurd c4 hne⟩, fun c3 => absurd c3 (by decide)⟩⟩⟩, k2⟩
              rw [← nI_1 tr] at k1
              exact k1
          · rw [if_neg (by simpa using hnf)]
            obtain ⟨nx3, ny3, k1, k2⟩ := ih s (turn + 1) (tr + 1) (px s + 1) (py s) (upN px s (bx_ax A sd px s)) (upN py s (bx_ay A sd px py s)) (nI s) nx1 ny1 (by omega) (by omega) (by omega) hs rfl (fun k hk => by
                rw [upN_ne (by omega), upN_ne (by omega)]
                unfold bx_fit
                rw [upN_ne (by omega), upN_ne (by omega)]
                exact ⟨(hold k hk).1, (hold k hk).2, (hfr k hk).2.2⟩) (fun _ => by
                rw [upN_eq, upN_eq, hpos.1, hpos.2, nI_1]
                refine ⟨rfl, rfl, ?_⟩
                unfold bx_rel bx_ax bx_ay
                by_cases hz : px s + 1 + sd s ≤ A
                · rw [if_pos hz, if_pos hz]; exact Or.inl ⟨hz, rfl, rfl⟩
                · rw [if_neg hz, if_neg hz]; exact Or.inr (Or.inl ⟨by omega, by omega, rfl, rfl⟩)) (by omega) (by omega)
            refine ⟨nx3, ny3, pm_go1 [28] 60 ⟨fun c1 => absurd c1 hnn, fun c1 => ⟨fun c2 => absurd c2 hlt, fun c2 => ⟨_, _, hgo, fun c3 => ⟨fun c4 => ⟨_, _, hl, fun c5 => ?_, fun c5 => absurd rfl c5⟩, fun c4 => absurd c4 hne⟩, fun c3 => absurd c3 (by decide)⟩⟩⟩, k2⟩
            rw [← nI_1 tr] at k1
            exact k1
      · have hnfit : ¬ bx_fit A Bh sd px py s := fun z => hv (hfit_iff.mpr z)
        rw [if_pos hnfit]
        by_cases hs0 : s = 0
        · rw [if_pos hs0]
          subst hs0
          refine ⟨nx1, ny1, pm_go1 [28] 60 ⟨fun c1 => absurd c1 hnn, fun c1 => ⟨fun c2 => absurd c2 hlt, fun c2 => ⟨_, _, hgo, fun c3 => absurd rfl c3, fun c3 => ?_⟩⟩⟩, fun z => absurd (show (0 : Nat) = 1 from z) (by decide)⟩
          exact pm_go [] 40 ⟨fun c1 => ⟨fun c3 => ⟨Or.inl rfl, fun c4 => ⟨rfl, rfl⟩, fun c4 => absurd rfl c4⟩, fun c3 => absurd (show nI 0 + (-1) < 0 by decide) c3⟩, fun c1 => absurd (show nI 0 + (-1) < 0 by decide) c1⟩
        · rw [if_neg hs0]
          obtain ⟨s', rfl⟩ : ∃ s', s = s' + 1 := ⟨s - 1, by omega⟩
          rw [show s' + 1 - 1 = s' by omega]
          have e0 : nI (s' + 1) + (-1) = nI s' := pk_m1 s'
          obtain ⟨f0, f1, f2⟩ := hfr s' (by omega)
          have f2a := f2.1
          have f2b := f2.2
          have hsk := hsd s' (by omega)
          obtain ⟨nx3, ny3, k1, k2⟩ := ih s' (turn + 1) tr (px s' + 1) (py s') (upN px s' (bx_ax A sd px s')) (upN py s' (bx_ay A sd px py s')) (nI (s' + 1) + (-1)) nx1 ny1 (by omega) (by omega) (by omega) (by omega) e0 (fun k hk => by
              rw [upN_ne (by omega), upN_ne (by omega), e1, e2, if_neg (by omega), if_neg (by omega)]
              unfold bx_fit
              rw [upN_ne (by omega), upN_ne (by omega)]
              exact hfr k (by omega)) (fun _ => by
              rw [upN_eq, upN_eq, e1, e2, if_neg (by omega), if_neg (by omega), f0, f1, nI_1]
              refine ⟨rfl, rfl, ?_⟩
              unfold bx_rel bx_ax bx_ay
              by_cases hz : px s' + 1 + sd s' ≤ A
              · rw [if_pos hz, if_pos hz]; exact Or.inl ⟨hz, rfl, rfl⟩
              · rw [if_neg hz, if_neg hz]; exact Or.inr (Or.inl ⟨by omega, by omega, rfl, rfl⟩)) (by omega) (by omega)
          exact ⟨nx3, ny3, pm_go1 [28] 60 ⟨fun c1 => absurd c1 hnn, fun c1 => ⟨fun c2 => absurd c2 hlt, fun c2 => ⟨_, _, hgo, fun c3 => absurd rfl c3, fun c3 => k1⟩⟩⟩, k2⟩
theorem nu_m : (100000 : Int32) = nI 100000 := by decide
theorem r_pack (sc : Nat × (Nat → Int32)) (d : Nat) (H : tH) (r : tR) (c : tR) (P : tP) (w : tW) (B : tB) (M : tM) (na : Int32) (nb : Int32) (nc : Int32) (ns : tA) (nx : tA) (ny : tA) (np : Int32) (nt : Int32) (O : tO) (A Bh cnt steps : Nat) (sd : Nat → Nat) (hA : na = nI A) (hB : nb = nI Bh) (hC : nc = nI cnt) (bA : A ≤ 12) (bB : Bh ≤ 12) (bC : cnt ≤ 8) (bS : steps ≤ 100000) (hsd : ∀ k, k < cnt → ns k = nI (sd k) ∧ 1 ≤ sd k ∧ sd k ≤ 12) :
    ∃ nx' ny' : tA, pm_D sc (d + 3) mX6_pack [.ref 27, .int (nI steps)] (hp H r c P w B M (na, nb, nc, ns, nx, ny, np, nt) O) (some (.int (nI (bx_run A Bh cnt steps sd 200002 0 (fun _ => 0) (fun _ => 0) 0).1))) (hp H r c P w B M (na, nb, nc, ns, nx', ny', if (bx_run A Bh cnt steps sd 200002 0 (fun _ => 0) (fun _ => 0) 0).1 = 1 then 1 else 0, nI (bx_run A Bh cnt steps sd 200002 0 (fun _ => 0) (fun _ => 0) 0).2.1) O) ∧ ((bx_run A Bh cnt steps sd 200002 0 (fun _ => 0) (fun _ => 0) 0).1 = 1 → ∀ k, k < cnt → nx' k = nI ((bx_run A Bh cnt steps sd 200002 0 (fun _ => 0) (fun _ => 0) 0).2.2.1 k) ∧ ny' k = nI ((bx_run A Bh cnt steps sd 200002 0 (fun _ => 0) (fun _ => 0) 0).2.2.2 k)) := by
  have hw := r_within sc (d + 1) (hp H r c P w B M (na, nb, nc, ns, nx, ny, np, nt) O) (nI steps) 0 100000
  rw [if_pos ⟨nI_pos' (by omega), by rw [nu_m, nu_le (by omega) (by omega)]; exact bS⟩] at hw
  have hrel : ∀ sd0 : Nat, bx_rel A sd0 0 0 0 0 := fun sd0 => by unfold bx_rel; omega
  by_cases h0 : 0 < cnt
  · have hp0 : ¬ nc ≤ 0 := by rw [hC, nu_0, nu_le (by omega) (by omega)]; omega
    have hin0 : vp_in (0 : Int32) 8 := by rw [nu_0]; exact nu_in (by omega) (by omega)
    obtain ⟨nx', ny', g1, g2⟩ := r_packLoop sc d H r c P w B M na nb nc ns nx ny np nt O A Bh cnt steps sd hA hB hC bA bB bC bS hsd 200002 0 0 0 0 0 (fun _ => 0) (fun _ => 0) 0 (upd nx 0 (-1)) (upd ny 0 0) rfl (by omega) (by omega) (by omega) nu_0 (fun k hk => absurd hk (by omega)) (fun _ => by
      rw [nu_updS, nu_updS]
      exact ⟨by decide, nu_0, hrel _⟩) (by omega) (by omega)
    exact ⟨nx', ny', pm_in (pm_go [28] 60 ⟨_, _, hw, fun c1 => ⟨Or.inl rfl, fun c2 => absurd c2 hp0, fun c2 => ⟨hin0, hin0, g1⟩⟩, fun c1 => absurd c1 (by decide)⟩), g2⟩
  · have hp0 : nc ≤ 0 := by rw [hC, nu_0, nu_le (by omega) (by omega)]; omega
    obtain ⟨nx', ny', g1, g2⟩ := r_packLoop sc d H r c P w B M na nb nc ns nx ny np nt O A Bh cnt steps sd hA hB hC bA bB bC bS hsd 200002 0 0 0 0 0 (fun _ => 0) (fun _ => 0) 0 nx ny rfl (by omega) (by omega) (by omega) nu_0 (fun k hk => absurd hk (by omega)) (fun z => absurd z h0) (by omega) (by omega)
    exact ⟨nx', ny', pm_in (pm_go [28] 60 ⟨_, _, hw, fun c1 => ⟨Or.inl rfl, fun c2 => g1, fun c2 => absurd hp0 c2⟩, fun c1 => absurd c1 (by decide)⟩), g2⟩
