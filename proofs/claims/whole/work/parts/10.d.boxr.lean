/-! THE CLASS'S BOX: layAll, fill -/
theorem c_hasPlaceN (sc : Nat × (Nat → Int32)) (d : Nat) (H : tH) (r : tR) (c : tR) (P : tP) (w : tW) (bw : Int32) (bh : Int32) (bc : Int32) (bt : Int32) (bp : Int32) (si : tA) (ax : tA) (ay : tA) (tk : tA) (M : tM) (N : tN) (O : tO) {A Bh s x y sd : Nat} (hs : s < 8) (h1 : si s = nI sd) (h2 : ax s = nI x) (h3 : ay s = nI y) (hA : bw = nI A) (hB : bh = nI Bh) (b1 : sd < 100) (b2 : x < 100) (b3 : y < 100) (b4 : A < 100) (b5 : Bh < 100) :
    pm_D sc (d + 1) mX0_hasPlace [.ref 22, .int (nI s)] (hp H r c P w (bw, bh, bc, bt, bp, si, ax, ay, tk) M N O) (some (.int (if x + sd ≤ A ∧ y + sd ≤ Bh then 1 else 0))) (hp H r c P w (bw, bh, bc, bt, bp, si, ax, ay, tk) M N O) := by
  have h := c_hasPlace sc d H r c P w (bw, bh, bc, bt, bp, si, ax, ay, tk) M N O (nI s) (nu_in hs (by omega))
  dsimp only at h
  rw [nu_cl (by omega)] at h
  have e : (ax s + si s ≤ bw ∧ ay s + si s ≤ bh) ↔ (x + sd ≤ A ∧ y + sd ≤ Bh) := by
    rw [h1, h2, h3, hA, hB, nI_add, nI_add, nu_le (by omega) (by omega), nu_le (by omega) (by omega)]
  by_cases q : x + sd ≤ A ∧ y + sd ≤ Bh
  · rw [if_pos q]
    rw [if_pos (e.mpr q)] at h
    exact h
  · rw [if_neg q]
    rw [if_neg (fun z => q (e.mp z))] at h
    exact h
theorem c_goOnN (sc : Nat × (Nat → Int32)) (d : Nat) (H : tH) (r : tR) (c : tR) (P : tP) (w : tW) (bw : Int32) (bh : Int32) (bc : Int32) (bt : Int32) (bp : Int32) (si : tA) (ax : tA) (ay : tA) (tk : tA) (M : tM) (N : tN) (O : tO) {A s x y sd : Nat} (hs : s < 8) (h1 : si s = nI sd) (h2 : ax s = nI x) (h3 : ay s = nI y) (hA : bw = nI A) (b1 : sd < 100) (b2 : x < 100) (b3 : y < 100) (b4 : A < 100) :
    ∃ ax' ay' : tA, pm_D sc (d + 1) mX0_goOn [.ref 22, .int (nI s)] (hp H r c P w (bw, bh, bc, bt, bp, si, ax, ay, tk) M N O) none (hp H r c P w (bw, bh, bc, bt, bp, si, ax', ay', tk) M N O) ∧ (∀ k, ax' k = if k = s then nI (if x + 1 + sd ≤ A then x + 1 else 0) else ax k) ∧ (∀ k, ay' k = if k = s then nI (if x + 1 + sd ≤ A then y else y + 1) else ay k) := by
  have h := c_goOn sc d H r c P w (bw, bh, bc, bt, bp, si, ax, ay, tk) M N O (nI s) (nu_in hs (by omega))
  dsimp only at h
  have e1 : ax s + 1 + si s ≤ bw ↔ x + 1 + sd ≤ A := by rw [h1, h2, hA, nI_1, nI_add, nu_le (by omega) (by omega)]
  rw [nu_cl (by omega)] at h
  by_cases hc : x + 1 + sd ≤ A
  · rw [if_pos (e1.mpr hc)] at h
    refine ⟨_, _, h, fun k => ?_, fun k => ?_⟩
    · rw [nu_upd, h2, nI_1, if_pos hc]
    · rw [if_pos hc]
      split
      · rename_i hk; rw [hk]; exact h3
      · rfl
  · rw [if_neg (fun q => hc (e1.mp q))] at h
    refine ⟨_, _, h, fun k => ?_, fun k => ?_⟩
    · rw [nu_upd, if_neg hc]; rfl
    · rw [nu_upd, h3, nI_1, if_neg hc]
theorem c_tryPlace (sc : Nat × (Nat → Int32)) (d : Nat) (H : tH) (r : tR) (c : tR) (P : tP) (w : tW) (bw : Int32) (bh : Int32) (bc : Int32) (bt : Int32) (bp : Int32) (si : tA) (ax : tA) (ay : tA) (tk : tA) (M : tM) (N : tN) (O : tO) (s sd x y0 : Nat) (t : Nat → Nat) (hs : s < 8) (h1 : si s = nI sd) (h2 : ax s = nI x) (h3 : ay s = nI y0) (hx : x + sd ≤ 12) (hy : y0 + sd ≤ 12) (ht : ∀ y, y < 12 → tk y = nI (t y) ∧ t y < 4096) :
    ((∃ y, y0 ≤ y ∧ y < y0 + sd ∧ t y &&& bx_br sd x ≠ 0) ∧ pm_D sc (d + 3) mX0_tryPlace [.ref 22, .int (nI s)] (hp H r c P w (bw, bh, bc, bt, bp, si, ax, ay, tk) M N O) (some (.int 0)) (hp H r c P w (bw, bh, bc, bt + 1, bp, si, ax, ay, tk) M N O)) ∨
    ((∀ y, y0 ≤ y → y < y0 + sd → t y &&& bx_br sd x = 0) ∧ ∃ ax' ay' tk' : tA, pm_D sc (d + 3) mX0_tryPlace [.ref 22, .int (nI s)] (hp H r c P w (bw, bh, bc, bt, bp, si, ax, ay, tk) M N O) (some (.int 1)) (hp H r c P w (bw, bh, bc, bt + 1, bp, si, ax', ay', tk') M N O) ∧ (∀ y, y < 12 → tk' y = nI (if y0 ≤ y ∧ y < y0 + sd then t y ^^^ bx_br sd x else t y)) ∧ (∀ k, k ≤ s → ax' k = ax k ∧ ay' k = ay k) ∧ (s + 1 < 8 → ax' (s + 1) = 0 ∧ ay' (s + 1) = 0)) := by
  obtain ⟨v, hv, hc⟩ := c_isFree sc d H r c P w bw bh bc (bt + 1) bp si ax ay tk M N O s sd x y0 t hs h1 h2 h3 hx hy ht
  rcases hc with ⟨rfl, hz⟩ | ⟨rfl, hz⟩
  · right
    refine ⟨hz, ?_⟩
    obtain ⟨tk', hl, hl2⟩ := c_layOrLift sc d H r c P w bw bh bc (bt + 1) bp si ax ay tk M N O s sd x y0 t hs h1 h2 h3 hx hy (fun y hy => (ht y hy).1)
    have e1 : nI s + 1 = nI (s + 1) := nI_1 s
    have hso := c_startOver sc (d + 1) H r c P w (bw, bh, bc, bt + 1, bp, si, ax, ay, tk') M N O (nI s + 1) (by
      rw [e1]
      by_cases h8 : s + 1 < 8
      · exact Or.inl (nu_in h8 (by omega))
      · right; rw [nu_8, nu_le (by omega) (by omega)]; omega)
    dsimp only at hso
    by_cases h8 : s + 1 < 8
    · rw [if_neg (by rw [e1, nu_8, nu_le (by omega) (by omega)]; omega)] at hso
      refine ⟨upd ax (nI s + 1).toNatClampNeg 0, upd ay (nI s + 1).toNatClampNeg 0, tk', pm_in (pm_go [] 30 ⟨_, _, hv, ?_⟩), hl2, fun k hk => ?_, fun _ => ?_⟩
      · refine ⟨fun c1 => ⟨_, _, hl, _, _, hso, Or.inr rfl, rfl, rfl⟩, fun c1 => absurd c1 (by decide)⟩
      · rw [e1, nu_cl (by omega), nu_updN (by omega), nu_updN (by omega)]
        exact ⟨rfl, rfl⟩
      · rw [e1, nu_cl (by omega), nu_updS, nu_updS]
        exact ⟨rfl, rfl⟩
    · rw [if_pos (by rw [e1, nu_8, nu_le (by omega) (by omega)]; omega)] at hso
      refine ⟨ax, ay, tk', pm_in (pm_go [] 30 ⟨_, _, hv, ?_⟩), hl2, fun k hk => ⟨rfl, rfl⟩, fun q => absurd q h8⟩
      refine ⟨fun c1 => ⟨_, _, hl, _, _, hso, Or.inr rfl, rfl, rfl⟩, fun c1 => absurd c1 (by decide)⟩
  · left
    refine ⟨hz, pm_in (pm_go [] 30 ⟨_, _, hv, ?_⟩)⟩
    exact ⟨fun c1 => absurd rfl c1, fun c1 => ⟨Or.inl rfl, rfl, rfl⟩⟩
theorem c_layLoop (sc : Nat × (Nat → Int32)) (d : Nat) (H : tH) (r : tR) (c : tR) (P : tP) (w : tW) (bw : Int32) (bh : Int32) (bc : Int32) (bt : Int32) (bp : Int32) (si : tA) (ax : tA) (ay : tA) (tk : tA) (M : tM) (N : tN) (O : tO) (A Bh cnt steps : Nat) (sd : Nat → Nat) (hA : bw = nI A) (hB : bh = nI Bh) (hC : bc = nI cnt) (bA : A ≤ 12) (bB : Bh ≤ 12) (bC : cnt ≤ 8) (bS : steps ≤ 100000) (hsd : ∀ k, k < cnt → si k = nI (sd k) ∧ 1 ≤ sd k ∧ sd k ≤ 12) :
    ∀ (n s turn tr : Nat) (px py : Nat → Nat) (q t : Int32) (ax ay tk : tA), n + turn = 200002 → turn + s ≤ 2 * tr → tr ≤ steps → s ≤ cnt → q = nI s → t = nI turn → (∀ k, k ≤ s → k < 8 → ax k = nI (px k) ∧ ay k = nI (py k)) → (∀ y, y < 12 → tk y = nI (bx_t sd px py s y)) → (∀ k, k < s → bx_free sd px py k ∧ bx_fit A Bh sd px py k) → px s ≤ 12 → py s ≤ 12 →
      ∃ ax' ay' tk' : tA, pm_Go sc (d + 3) (pm_cd mX0_layAll) (6, [some (.ref 22), some (.int (nI steps)), some (.int q), some (.int t)], [], (hp H r c P w (bw, bh, bc, nI tr, bp, si, ax, ay, tk) M N O)) (fun r2 h2 => r2 = some (.int (nI (bx_run A Bh cnt steps sd n s px py tr).1)) ∧ h2 = (hp H r c P w (bw, bh, bc, nI (bx_run A Bh cnt steps sd n s px py tr).2.1, bp, si, ax', ay', tk') M N O)) ∧ ((bx_run A Bh cnt steps sd n s px py tr).1 = 1 → ∀ k, k < cnt → ax' k = nI ((bx_run A Bh cnt steps sd n s px py tr).2.2.1 k) ∧ ay' k = nI ((bx_run A Bh cnt steps sd n s px py tr).2.2.2 k)) := by
  intro n
  induction n with
  | zero =>
    intro s turn tr px py q t ax ay tk hn ht
    omega
  | succ n ih =>
    intro s turn tr px py q t ax ay tk hn ht htr hs hq htt hat htk hfr hpx hpy
    subst hq
    subst htt
    have hturn : ¬ (200002 : Int32) ≤ nI turn := by
      rw [show (200002 : Int32) = nI 200002 by decide, nu_le (by omega) (by omega)]; omega
    unfold bx_run
    by_cases hcs : cnt ≤ s
    · rw [if_pos hcs]
      have hsc : s = cnt := by omega
      refine ⟨ax, ay, tk, pm_go1 [6] 20 ⟨fun c1 => absurd c1 hturn, fun c1 => ⟨fun c2 => ?_, fun c2 => ⟨rfl, rfl⟩⟩⟩, fun _ k hk => hat k (by omega) (by omega)⟩
      have c2 : nI s < bc := c2
      rw [hC, nu_lt (by omega) (by omega)] at c2
      omega
    · rw [if_neg hcs]
      have hs8 : s < 8 := by omega
      obtain ⟨g1, g2, g3⟩ := hsd s (by omega)
      obtain ⟨a1, a2⟩ := hat s (Nat.le_refl _) hs8
      have hplace := c_hasPlaceN sc (d + 2) H r c P w bw bh bc (nI tr) bp si ax ay tk M N O (A := A) (Bh := Bh) hs8 g1 a1 a2 hA hB (by omega) (by omega) (by omega) (by omega) (by omega)
      have hlt : nI s < bc := by rw [hC, nu_lt (by omega) (by omega)]; omega
      by_cases hfit : bx_fit A Bh sd px py s
      · rw [if_neg (fun q => q hfit)]
        rw [if_pos hfit] at hplace
        by_cases hst : steps ≤ tr
        · rw [if_pos hst]
          refine ⟨ax, ay, tk, pm_go1 [6] 40 ⟨fun c1 => absurd c1 hturn, fun c1 => ⟨fun c2 => ⟨_, _, hplace, fun c3 => ⟨fun c4 => ?_, fun c4 => ⟨rfl, rfl⟩⟩, fun c3 => absurd c3 (by decide)⟩, fun c2 => absurd hlt c2⟩⟩, fun q => absurd (show (2 : Nat) = 1 from q) (by decide)⟩
          have c4 : nI tr < nI steps := c4
          rw [nu_lt (by omega) (by omega)] at c4
          omega
        · rw [if_neg hst]
          have htr4 : nI tr < nI steps := by rw [nu_lt (by omega) (by omega)]; omega
          have hfit12 : px s + sd s ≤ 12 ∧ py s + sd s ≤ 12 := ⟨by have := hfit.1; omega, by have := hfit.2; omega⟩
          have hb12 : ∀ k, k < s → px k + sd k ≤ 12 := fun k hk => by have := (hfr k hk).2.1; omega
          have htry := c_tryPlace sc d H r c P w bw bh bc (nI tr) bp si ax ay tk M N O s (sd s) (px s) (py s) (bx_t sd px py s) hs8 g1 a1 a2 hfit12.1 hfit12.2 (fun y hy => ⟨htk y hy, bx_t_lt s hb12 y⟩)
          have hiff := bx_free_iff (sd := sd) (px := px) (py := py) (s := s) (fun k hk => (hfr k hk).1) (fun k hk => (hsd k (by omega)).2.1)
          rcases htry with ⟨⟨y, y1, y2, y3⟩, htry⟩ | ⟨hz, ax', ay', tk', htry, htk', hax', hnew⟩
          · have hnf : ¬ bx_free sd px py s := fun q => y3 (hiff.mpr q y y1 y2)
            rw [if_neg (by simpa using hnf)]
            obtain ⟨ax2, ay2, hgo, e1, e2⟩ := c_goOnN sc (d + 2) H r c P w bw bh bc (nI tr + 1) bp si ax ay tk M N O (A := A) hs8 g1 a1 a2 hA (by omega) (by omega) (by omega) (by omega)
            have hf1 := hfit.1
            have hf2 := hfit.2
            obtain ⟨ax3, ay3, tk3, k1, k2⟩ := ih s (turn + 1) (tr + 1) (upN px s (bx_ax A sd px s)) (upN py s (bx_ay A sd px py s)) (nI s) (nI turn + 1) ax2 ay2 tk (by omega) (by omega) (by omega) hs rfl (nI_1 turn) (fun k hk h8 => by
                rw [e1, e2]
                unfold upN
                by_cases hks : k = s
                · subst hks
                  rw [if_pos rfl, if_pos rfl, if_pos rfl, if_pos rfl]
                  exact ⟨rfl, rfl⟩
                · rw [if_neg hks, if_neg hks, if_neg hks, if_neg hks]
                  exact hat k hk h8) (fun y hy => by
                rw [htk y hy, bx_t_congr (px := px) (py := py) (px' := upN px s (bx_ax A sd px s)) (py' := upN py s (bx_ay A sd px py s)) s (fun k hk => ⟨upN_ne (by omega), upN_ne (by omega)⟩)]) (fun k hk => ⟨(bx_free_congr (fun j hj => by unfold upN; rw [if_neg (by omega), if_neg (by omega)]; exact ⟨rfl, rfl⟩)).mpr (hfr k hk).1, by
                have := (hfr k hk).2
                unfold bx_fit upN at *
                rw [if_neg (by omega), if_neg (by omega)]
                exact this⟩) (by unfold upN bx_ax; rw [if_pos rfl]; split <;> omega) (by unfold upN bx_ay; rw [if_pos rfl]; split <;> omega)
            refine ⟨ax3, ay3, tk3, pm_go1 [6] 60 ⟨fun c1 => absurd c1 hturn, fun c1 => ⟨fun c2 => ⟨_, _, hplace, fun c3 => ⟨fun c4 => ⟨_, _, htry, fun c5 => ⟨_, _, hgo, ?_⟩, fun c5 => absurd rfl c5⟩, fun c4 => absurd htr4 c4⟩, fun c3 => absurd c3 (by decide)⟩, fun c2 => absurd hlt c2⟩⟩, k2⟩
            rw [← nI_1 tr] at k1
            exact k1
          · have hfree : bx_free sd px py s := hiff.mp hz
            rw [if_pos (by simpa using hfree)]
            obtain ⟨ax3, ay3, tk3, k1, k2⟩ := ih (s + 1) (turn + 1) (tr + 1) (upN px (s + 1) 0) (upN py (s + 1) 0) (nI s + 1) (nI turn + 1) ax' ay' tk' (by omega) (by omega) (by omega) (by omega) (nI_1 s) (nI_1 turn) (fun k hk h8 => by
                unfold upN
                by_cases hks : k = s + 1
                · subst hks
                  rw [if_pos rfl, if_pos rfl]
                  exact hnew h8
                · rw [if_neg hks, if_neg hks, (hax' k (by omega)).1, (hax' k (by omega)).2]
                  exact hat k (by omega) h8) (fun y hy => by
                rw [htk' y hy]
                show _ = nI (if upN py (s + 1) 0 s ≤ y ∧ y < upN py (s + 1) 0 s + sd s then bx_t sd (upN px (s + 1) 0) (upN py (s + 1) 0) s y ^^^ bx_br (sd s) (upN px (s + 1) 0 s) else bx_t sd (upN px (s + 1) 0) (upN py (s + 1) 0) s y)
                rw [bx_t_congr (px := px) (py := py) (px' := upN px (s + 1) 0) (py' := upN py (s + 1) 0) s (fun k hk => ⟨upN_ne (by omega), upN_ne (by omega)⟩), upN_ne (f := px) (show s ≠ s + 1 by omega), upN_ne (f := py) (show s ≠ s + 1 by omega)]) (fun k hk => ⟨(bx_free_congr (fun j hj => by unfold upN; rw [if_neg (by omega), if_neg (by omega)]; exact ⟨rfl, rfl⟩)).mpr (by
                by_cases hks : k = s
                · subst hks; exact hfree
                · exact (hfr k (by omega)).1), by
                have : bx_fit A Bh sd px py k := by
                  by_cases hks : k = s
                  · subst hks; exact hfit
                  · exact (hfr k (by omega)).2
                unfold bx_fit upN at *
                rw [if_neg (by omega), if_neg (by omega)]
                exact this⟩) (by unfold upN; rw [if_pos rfl]; omega) (by unfold upN; rw [if_pos rfl]; omega)
            refine ⟨ax3, ay3, tk3, pm_go1 [6] 60 ⟨fun c1 => absurd c1 hturn, fun c1 => ⟨fun c2 => ⟨_, _, hplace, fun c3 => ⟨fun c4 => ⟨_, _, htry, fun c5 => absurd c5 (by decide), fun c5 => ?_⟩, fun c4 => absurd htr4 c4⟩, fun c3 => absurd c3 (by decide)⟩, fun c2 => absurd hlt c2⟩⟩, k2⟩
            rw [← nI_1 tr] at k1
            exact k1
      · rw [if_pos hfit]
        rw [if_neg hfit] at hplace
        by_cases hs0 : s = 0
        · rw [if_pos hs0]
          subst hs0
          exact ⟨ax, ay, tk, pm_go1 [6] 40 ⟨fun c1 => absurd c1 hturn, fun c1 => ⟨fun c2 => ⟨_, _, hplace, fun c3 => absurd rfl c3, fun c3 => ⟨fun c4 => absurd rfl c4, fun c4 => ⟨rfl, rfl⟩⟩⟩, fun c2 => absurd hlt c2⟩⟩, fun q => absurd (show (0 : Nat) = 1 from q) (by decide)⟩
        · rw [if_neg hs0]
          obtain ⟨s', rfl⟩ : ∃ s', s = s' + 1 := ⟨s - 1, by omega⟩
          rw [show s' + 1 - 1 = s' by omega]
          have e0 : nI (s' + 1) + (-1) = nI s' := pk_m1 s'
          obtain ⟨f1, f2⟩ := hfr s' (by omega)
          have f2a := f2.1
          have f2b := f2.2
          obtain ⟨l1, l2, l3⟩ := hsd s' (by omega)
          obtain ⟨m1, m2⟩ := hat s' (by omega) (by omega)
          obtain ⟨tk', hl, hl2⟩ := c_layOrLift sc (d + 1) H r c P w bw bh bc (nI tr) bp si ax ay tk M N O s' (sd s') (px s') (py s') (bx_t sd px py (s' + 1)) (by omega) l1 m1 m2 (by omega) (by omega) htk
          obtain ⟨ax2, ay2, hgo, e1, e2⟩ := c_goOnN sc (d + 2) H r c P w bw bh bc (nI tr) bp si ax ay tk' M N O (A := A) (s := s') (by omega) l1 m1 m2 hA (by omega) (by omega) (by omega) (by omega)
          obtain ⟨ax3, ay3, tk3, k1, k2⟩ := ih s' (turn + 1) tr (upN px s' (bx_ax A sd px s')) (upN py s' (bx_ay A sd px py s')) (nI (s' + 1) + (-1)) (nI turn + 1) ax2 ay2 tk' (by omega) (by omega) (by omega) (by omega) e0 (nI_1 turn) (fun k hk h8 => by
              rw [e1, e2]
              unfold upN
              by_cases hks : k = s'
              · subst hks
                rw [if_pos rfl, if_pos rfl, if_pos rfl, if_pos rfl]
                exact ⟨rfl, rfl⟩
              · rw [if_neg hks, if_neg hks, if_neg hks, if_neg hks]
                exact hat k (by omega) h8) (fun y hy => by
              rw [hl2 y hy, bx_t_congr (px := px) (py := py) (px' := upN px s' (bx_ax A sd px s')) (py' := upN py s' (bx_ay A sd px py s')) s' (fun k hk => ⟨upN_ne (by omega), upN_ne (by omega)⟩)]
              show nI (if py s' ≤ y ∧ y < py s' + sd s' then (if py s' ≤ y ∧ y < py s' + sd s' then bx_t sd px py s' y ^^^ bx_br (sd s') (px s') else bx_t sd px py s' y) ^^^ bx_br (sd s') (px s') else (if py s' ≤ y ∧ y < py s' + sd s' then bx_t sd px py s' y ^^^ bx_br (sd s') (px s') else bx_t sd px py s' y)) = _
              by_cases hy2 : py s' ≤ y ∧ y < py s' + sd s'
              · rw [if_pos hy2, if_pos hy2, Nat.xor_assoc, Nat.xor_self, Nat.xor_zero]
              · rw [if_neg hy2, if_neg hy2]) (fun k hk => ⟨(bx_free_congr (fun j hj => by unfold upN; rw [if_neg (by omega), if_neg (by omega)]; exact ⟨rfl, rfl⟩)).mpr (hfr k (by omega)).1, by
              have := (hfr k (by omega)).2
              unfold bx_fit upN at *
              rw [if_neg (by omega), if_neg (by omega)]
              exact this⟩) (by unfold upN bx_ax; rw [if_pos rfl]; split <;> omega) (by unfold upN bx_ay; rw [if_pos rfl]; split <;> omega)
          rw [← e0] at hl hgo
          have hne : ¬ nI (s' + 1) = 0 := by rw [nu_0, nu_eq (by omega) (by omega)]; omega
          exact ⟨ax3, ay3, tk3, pm_go1 [6] 60 ⟨fun c1 => absurd c1 hturn, fun c1 => ⟨fun c2 => ⟨_, _, hplace, fun c3 => absurd rfl c3, fun c3 => ⟨fun c4 => ⟨_, _, hl, _, _, hgo, k1⟩, fun c4 => absurd c4 hne⟩⟩, fun c2 => absurd hlt c2⟩⟩, k2⟩
/-- fill: the whole packing -/
theorem c_fill (sc : Nat × (Nat → Int32)) (d : Nat) (H : tH) (r : tR) (c : tR) (P : tP) (w : tW) (bw : Int32) (bh : Int32) (bc : Int32) (bt : Int32) (bp : Int32) (si : tA) (ax : tA) (ay : tA) (tk : tA) (M : tM) (N : tN) (O : tO) (A Bh cnt steps : Nat) (sd : Nat → Nat) (hA : bw = nI A) (hB : bh = nI Bh) (hC : bc = nI cnt) (bA : A ≤ 12) (bB : Bh ≤ 12) (bC : cnt ≤ 8) (bS : steps ≤ 100000) (hsd : ∀ k, k < cnt → si k = nI (sd k) ∧ 1 ≤ sd k ∧ sd k ≤ 12) :
    ∃ ax' ay' tk' : tA, pm_D sc (d + 5) mX0_fill [.ref 22, .int (nI steps)] (hp H r c P w (bw, bh, bc, bt, bp, si, ax, ay, tk) M N O) (some (.int (nI (bx_run A Bh cnt steps sd 200002 0 (fun _ => 0) (fun _ => 0) 0).1))) (hp H r c P w (bw, bh, bc, nI (bx_run A Bh cnt steps sd 200002 0 (fun _ => 0) (fun _ => 0) 0).2.1, if (bx_run A Bh cnt steps sd 200002 0 (fun _ => 0) (fun _ => 0) 0).1 = 1 then 1 else 0, si, ax', ay', tk') M N O) ∧ ((bx_run A Bh cnt steps sd 200002 0 (fun _ => 0) (fun _ => 0) 0).1 = 1 → ∀ k, k < cnt → ax' k = nI ((bx_run A Bh cnt steps sd 200002 0 (fun _ => 0) (fun _ => 0) 0).2.2.1 k) ∧ ay' k = nI ((bx_run A Bh cnt steps sd 200002 0 (fun _ => 0) (fun _ => 0) 0).2.2.2 k)) := by
  obtain ⟨tk1, hz, he⟩ := c_emptyBox sc (d + 1) H r c P w bw bh bc 0 bp si ax ay tk M N O
  obtain ⟨ax', ay', tk', g1, g2⟩ := c_layLoop sc d H r c P w bw bh bc (nI 0) bp si ax ay tk M N O A Bh cnt steps sd hA hB hC bA bB bC bS hsd 200002 0 0 0 (fun _ => 0) (fun _ => 0) 0 0 (upd ax 0 0) (upd ay 0 0) tk1 rfl (by omega) (by omega) (by omega) nu_0 nu_0 (fun k hk h8 => by
      have : k = 0 := by omega
      subst this
      rw [nu_updS, nu_updS]
      exact ⟨nu_0, nu_0⟩) (fun y hy => by rw [hz y hy]; exact nu_0) (fun k hk => absurd hk (by omega)) (by omega) (by omega)
  have hcode : (bx_run A Bh cnt steps sd 200002 0 (fun _ => 0) (fun _ => 0) 0).1 ≤ 2 := bx_run_le _ _ _ _ _ _ _ _ _ _
  generalize bx_run A Bh cnt steps sd 200002 0 (fun _ => 0) (fun _ => 0) 0 = R at g1 g2 hcode ⊢
  refine ⟨ax', ay', tk', ?_, g2⟩
  have hlay : pm_D sc (d + 4) mX0_layAll [.ref 22, .int (nI steps)] (hp H r c P w (bw, bh, bc, 0, bp, si, ax, ay, tk) M N O) (some (.int (nI R.1))) (hp H r c P w (bw, bh, bc, nI R.2.1, bp, si, ax', ay', tk') M N O) := by
    refine pm_in (pm_go [6] 20 ⟨_, _, he, ?_⟩)
    exact g1
  refine pm_in (pm_go [] 30 ⟨_, _, hlay, fun c1 => ?_, fun c1 => ?_⟩)
  · have c1 : ¬ nI R.1 = 1 := c1
    rw [nu_1, nu_eq (by omega) (by omega)] at c1
    rw [if_neg c1]
    exact ⟨Or.inl rfl, rfl, rfl⟩
  · have c1 : nI R.1 = 1 := c1
    rw [nu_1, nu_eq (by omega) (by omega)] at c1
    rw [if_pos c1]
    exact ⟨Or.inr rfl, rfl, rfl⟩
