/-! HOW FEW MORE, the reference: counts, crossings, runs with guards -/
theorem r_count (sc : Nat × (Nat → Int32)) (d : Nat) (H : tH) (r : tR) (c : tR) (P : tP) (w : tW) (B : tB) (M : tM) (N : tN) (ob : tA) (oc : Nat → Int64) (oq : tA) (oz : tA) (ow : tA) (hO : OI (ob, oc, oq, oz, ow)) (x : Int64) : pm_D sc (d + 1) mX6_count [.ref 27, .long x] (hp H r c P w B M N (ob, oc, oq, oz, ow)) (some (.int (nI (ct (bS x) 64)))) (hp H r c P w B M N (ob, oc, oq, oz, ow)) := by
  have z0 : ct (bS 0) 64 = 0 := ct_none 64 (fun i _ => bS_0 i)
  have loop : ∀ (n : Nat) (left : Int64) (s : Nat), tn left < 256 ^ n → s + ct (bS left) 64 = ct (bS x) 64 → pm_Go sc d (pm_cd mX6_count) (4, [some (.ref 27), some (.long x), none, some (.int (nI s)), some (.long left), none], [], (hp H r c P w B M N (ob, oc, oq, oz, ow))) (fun r2 h2 => r2 = some (.int (nI (ct (bS x) 64))) ∧ h2 = (hp H r c P w B M N (ob, oc, oq, oz, ow))) := by
    intro n
    induction n with
    | zero =>
      intro left s hl hs
      have e0 : left = 0 := by
        have h0 : tn left = 0 := by omega
        apply Int64.toBitVec_inj.mp
        apply BitVec.eq_of_toNat_eq
        exact h0
      subst e0
      rw [z0, Nat.add_zero] at hs
      subst hs
      exact pm_go1 [4] 20 ⟨fun _ => ⟨rfl, rfl⟩, fun z => absurd (lc_eq.mpr rfl) z⟩
    | succ n ih =>
      intro left s hl hs
      by_cases e0 : left = 0
      · subst e0
        rw [z0, Nat.add_zero] at hs
        subst hs
        exact pm_go1 [4] 20 ⟨fun _ => ⟨rfl, rfl⟩, fun z => absurd (lc_eq.mpr rfl) z⟩
      · have c1 : ¬ lg_cmp left 0 = 0 := fun z => e0 (lc_eq.mp z)
        have cb := ct_bytes left
        have e1 := tn_255 left
        have hb : tn left % 256 < 256 := Nat.mod_lt _ (by omega)
        have ii : vp_in (pm_lb 3 left 255).toInt32 256 := by rw [e1]; exact nu_in hb (by omega)
        have ev : ob (pm_lb 3 left 255).toInt32.toNatClampNeg = nI (pc (tn left % 256)) := by rw [e1, nu_cl (by omega)]; exact hO _ hb
        have nxt := ih (pm_ls 2 left (nI 8)) (s + pc (tn left % 256)) (by
          rw [tn_shr left (by omega), Nat.pow_succ] at *
          exact Nat.div_lt_of_lt_mul (by omega)) (by omega)
        rw [← nI_add, ← ev] at nxt
        exact pm_go1 [4] 40 ⟨fun z => absurd z c1, fun _ => ⟨ii, nxt⟩⟩
  exact pm_in (pm_go [4] 10 (loop 8 x 0 (tn_lt x) (by omega)))
theorem ix1 {dd z : Nat} (hd : dd ≤ 1) : pm_ib 0 (pm_ib 2 64 (nI dd)) (nI z) = nI (64 * dd + z) := by
  have : pm_ib 2 64 (nI dd) = nI (64 * dd) := by
    rcases (show dd = 0 ∨ dd = 1 by omega) with h | h <;> subst h <;> decide
  rw [this, pib0, nI_add]
theorem ix2 {dd z : Nat} (hd : dd ≤ 1) : pm_ib 0 (pm_ib 2 64 (pm_ib 1 1 (nI dd))) (nI z) = nI (64 * (1 - dd) + z) := by
  have : pm_ib 2 64 (pm_ib 1 1 (nI dd)) = nI (64 * (1 - dd)) := by
    rcases (show dd = 0 ∨ dd = 1 by omega) with h | h <;> subst h <;> decide
  rw [this, pib0, nI_add]
theorem r_touched (sc : Nat × (Nat → Int32)) (d : Nat) (H : tH) (r : tR) (c : tR) (P : tP) (w : tW) (B : tB) (mw : Int32) (mh : Int32) (ms : tA) (mg : tA) (mc : Int32) (mo : tA) (mm : tA) (mz : tA) (mp : Int32) (N : tN) (O : tO) (W Hh dd : Nat) (op gd : Nat → Bool) (st : Nat) (eg : Nat → Bool) (hW : mw = nI W) (hH : mh = nI Hh) (bHW : Hh * W ≤ 64) (hdd : dd ≤ 1) (hgd : ∀ k, k < 64 → mg k = bI (gd k)) (hgo : ∀ k, gd k = true → op k = true) (hR : RD op st eg (Hh * W) dd mo mm mz) :
    ∃ x : Int64, pm_D sc (d + 1) mX6_touched [.ref 27, .int (nI dd)] (hp H r c P w B (mw, mh, ms, mg, mc, mo, mm, mz, mp) N O) (some (.long x)) (hp H r c P w B (mw, mh, ms, mg, mc, mo, mm, mz, mp) N O) ∧ ∀ v, bS x v = !decide (rG op st eg gd (Hh * W) v = 0) := by
  have hm : mw * mh = nI (Hh * W) := hw_mul hW hH
  have b64 := rC_le op st eg (Hh * W)
  have loop : ∀ (m z : Nat) (x : Int64), z + m = Hh * W → (∀ v, bS x v = true ↔ ∃ z', z' < z ∧ gd z' = true ∧ rO op st eg (Hh * W) z' = some v) → pm_Go sc d (pm_cd mX6_touched) (4, [some (.ref 27), some (.int (nI dd)), some (.long x), none, some (.int (nI z))], [], (hp H r c P w B (mw, mh, ms, mg, mc, mo, mm, mz, mp) N O)) (fun r2 h2 => ∃ x : Int64, r2 = some (.long x) ∧ h2 = (hp H r c P w B (mw, mh, ms, mg, mc, mo, mm, mz, mp) N O) ∧ ∀ v, bS x v = !decide (rG op st eg gd (Hh * W) v = 0)) := by
    intro m
    induction m with
    | zero =>
      intro z x hz hx
      have c1 : mw * mh ≤ nI z := by rw [hm, nu_le (by omega) (by omega)]; omega
      refine pm_go1 [4] 20 ⟨fun _ => ⟨x, rfl, rfl, fun v => ?_⟩, fun q => absurd c1 q⟩
      rw [Bool.eq_iff_iff, hx v]
      simp only [Bool.not_eq_true', decide_eq_false_iff_not]
      constructor
      · rintro ⟨z', h1, h2, h3⟩ h0
        have := ct_pos (p := fun k => (rO op st eg (Hh * W) k == some v) && gd k) (Hh * W) z' (by omega) (by simp [h2, h3])
        unfold rG at h0
        omega
      · intro h0
        obtain ⟨i, h1, h2⟩ := ct_ex (p := fun k => (rO op st eg (Hh * W) k == some v) && gd k) (Hh * W) (by unfold rG at h0; omega)
        rw [Bool.and_eq_true, beq_iff_eq] at h2
        exact ⟨i, by omega, h2.2, h2.1⟩
    | succ m ih =>
      intro z x hz hx
      have c1 : ¬ mw * mh ≤ nI z := by rw [hm, nu_le (by omega) (by omega)]; omega
      have iz : vp_in (nI z) 64 := nu_in (by omega) (by omega)
      have ez : mg (nI z).toNatClampNeg = bI (gd z) := by rw [nu_cl (by omega)]; exact hgd z (by omega)
      cases hg : gd z with
      | false =>
        have c2 : mg (nI z).toNatClampNeg = 0 := by rw [ez, hg]; rfl
        have nxt := ih (z + 1) x (by omega) (fun v => by
          rw [hx v]
          constructor
          · rintro ⟨z', h1, h2⟩; exact ⟨z', by omega, h2⟩
          · rintro ⟨z', h1, h2, h3⟩
            have : z' ≠ z := fun e => by rw [e, hg] at h2; cases h2
            exact ⟨z', by omega, h2, h3⟩)
        rw [← nI_1] at nxt
        exact pm_go1 [4] 40 ⟨fun q => absurd q c1, fun _ => ⟨iz, fun _ => nxt, fun q => absurd c2 q⟩⟩
      | true =>
        have c2 : ¬ mg (nI z).toNatClampNeg = 0 := by rw [ez, hg]; decide
        obtain ⟨q, hq⟩ := rO_some (st := st) (eg := eg) (show z < Hh * W by omega) (hgo z hg)
        have hql := rO_lt _ _ _ hq
        have i2 : vp_in (pm_ib 0 (pm_ib 2 64 (nI dd)) (nI z)) 128 := by rw [ix1 hdd]; exact nu_in (by omega) (by omega)
        have e2 : mo (pm_ib 0 (pm_ib 2 64 (nI dd)) (nI z)).toNatClampNeg = nI q := by rw [ix1 hdd, nu_cl (by omega), hR.2.1 z (by omega), hq]; rfl
        have nxt := ih (z + 1) (pm_lb 4 x (pm_ls 0 1 (nI q))) (by omega) (fun v => by
          rw [bS_add x (by omega), Bool.or_eq_true, decide_eq_true_eq, hx v]
          constructor
          · rintro (⟨z', h1, h2⟩ | h)
            · exact ⟨z', by omega, h2⟩
            · exact ⟨z, by omega, hg, by rw [h]; exact hq⟩
          · rintro ⟨z', h1, h2, h3⟩
            by_cases e : z' = z
            · rw [e, hq] at h3; cases h3; exact Or.inr rfl
            · exact Or.inl ⟨z', by omega, h2, h3⟩)
        rw [← nI_1, ← e2] at nxt
        exact pm_go1 [4] 40 ⟨fun q => absurd q c1, fun _ => ⟨iz, fun q => absurd q c2, fun _ => ⟨i2, nxt⟩⟩⟩
  obtain ⟨r2, h2, t1, x, rfl, rfl, t2⟩ := pm_inE (mi := mX6_touched) (av := [.ref 27, .int (nI dd)]) (h := (hp H r c P w B (mw, mh, ms, mg, mc, mo, mm, mz, mp) N O)) (pm_go [4] 10 (loop (Hh * W) 0 0 (by omega) (fun v => by
    rw [bS_0]
    exact ⟨fun z => (by cases z), fun ⟨_, h, _⟩ => absurd h (by omega)⟩)))
  exact ⟨x, t1, t2⟩
/-- crossed: for each set of runs what they cross -/
def CrS (E : Nat → Nat → Prop) (n : Nat) (oc : Nat → Int64) : Prop := ∀ s, s < 2 ^ n → ∀ v, bS (oc s) v = true ↔ ∃ i, s.testBit i = true ∧ E i v
theorem r_cross (sc : Nat × (Nat → Int32)) (d : Nat) (H : tH) (r : tR) (c : tR) (P : tP) (w : tW) (B : tB) (mw : Int32) (mh : Int32) (ms : tA) (mg : tA) (mc : Int32) (mo : tA) (mm : tA) (mz : tA) (mp : Int32) (N : tN) (ob : tA) (oc : Nat → Int64) (oq : tA) (oz : tA) (ow : tA) (W Hh dd : Nat) (op : Nat → Bool) (st1 : Nat) (eg1 : Nat → Bool) (st2 : Nat) (eg2 : Nat → Bool) (hW : mw = nI W) (hH : mh = nI Hh) (bHW : Hh * W ≤ 64) (hdd : dd ≤ 1) (hR1 : RD op st1 eg1 (Hh * W) dd mo mm mz) (hR2 : RD op st2 eg2 (Hh * W) (1 - dd) mo mm mz) (a12 : rC op st1 eg1 (Hh * W) ≤ 12) :
    ∃ oc' : Nat → Int64, pm_D sc (d + 1) mX6_cross [.ref 27, .int (nI dd)] (hp H r c P w B (mw, mh, ms, mg, mc, mo, mm, mz, mp) N (ob, oc, oq, oz, ow)) none (hp H r c P w B (mw, mh, ms, mg, mc, mo, mm, mz, mp) N (ob, oc', oq, oz, ow)) ∧ CrS (Ed op st1 eg1 st2 eg2 (Hh * W)) (rC op st1 eg1 (Hh * W)) oc' := by
  have hm : mw * mh = nI (Hh * W) := hw_mul hW hH
  have b64 := rC_le op st2 eg2 (Hh * W)
  have id : vp_in (nI dd) 2 := nu_in (by omega) (by omega)
  have ed : mm (nI dd).toNatClampNeg = nI (rC op st1 eg1 (Hh * W)) := by rw [nu_cl (by omega)]; exact hR1.1
  have outer : ∀ (t run : Nat) (oc : Nat → Int64) (l3 l5 : Option Value), run + t = rC op st1 eg1 (Hh * W) → CrS (Ed op st1 eg1 st2 eg2 (Hh * W)) run oc → pm_Go sc d (pm_cd mX6_cross) (7, [some (.ref 27), some (.int (nI dd)), some (.int (nI run)), l3, none, l5], [], (hp H r c P w B (mw, mh, ms, mg, mc, mo, mm, mz, mp) N (ob, oc, oq, oz, ow))) (fun r2 h2 => ∃ oc' : Nat → Int64, r2 = none ∧ h2 = (hp H r c P w B (mw, mh, ms, mg, mc, mo, mm, mz, mp) N (ob, oc', oq, oz, ow)) ∧ CrS (Ed op st1 eg1 st2 eg2 (Hh * W)) (rC op st1 eg1 (Hh * W)) oc') := by
    intro t
    induction t with
    | zero =>
      intro run oc l3 l5 hrt hc
      have er : run = rC op st1 eg1 (Hh * W) := by omega
      have c1 : mm (nI dd).toNatClampNeg ≤ nI run := by rw [ed, er, nu_le (by omega) (by omega)]; exact Nat.le_refl _
      rw [er] at hc
      exact pm_go1 [7] 20 ⟨id, fun _ => ⟨oc, rfl, rfl, hc⟩, fun z => absurd c1 z⟩
    | succ t ih =>
      intro run oc l3 l5 hrt hc
      have c1 : ¬ mm (nI dd).toNatClampNeg ≤ nI run := by rw [ed, nu_le (by omega) (by omega)]; omega
      have p1 : 2 ^ run ≤ 2 ^ 11 := Nat.pow_le_pow_right (by omega) (by omega)
      have e1 : pm_ib 6 1 (nI run) = nI (2 ^ run) := ib_shl (by omega)
      have inner : ∀ (x : Int64) (hx : ∀ v, bS x v = true ↔ Ed op st1 eg1 st2 eg2 (Hh * W) run v) (t2 s : Nat) (oc : Nat → Int64), s + t2 = 2 ^ run → CrS (Ed op st1 eg1 st2 eg2 (Hh * W)) run oc → (∀ s', s' < s → ∀ v, bS (oc (2 ^ run + s')) v = true ↔ ∃ i, (2 ^ run + s').testBit i = true ∧ Ed op st1 eg1 st2 eg2 (Hh * W) i v) →
          pm_Go sc d (pm_cd mX6_cross) (53, [some (.ref 27), some (.int (nI dd)), some (.int (nI run)), some (.long x), none, some (.int (nI s))], [], (hp H r c P w B (mw, mh, ms, mg, mc, mo, mm, mz, mp) N (ob, oc, oq, oz, ow))) (fun r2 h2 => ∃ oc' : Nat → Int64, r2 = none ∧ h2 = (hp H r c P w B (mw, mh, ms, mg, mc, mo, mm, mz, mp) N (ob, oc', oq, oz, ow)) ∧ CrS (Ed op st1 eg1 st2 eg2 (Hh * W)) (rC op st1 eg1 (Hh * W)) oc') := by
        intro x hx t2
        induction t2 with
        | zero =>
          intro s oc hst2 h1 h2
          have c2 : pm_ib 6 1 (nI run) ≤ nI s := by rw [e1, nu_le (by omega) (by omega)]; omega
          have nxt := ih (run + 1) oc (some (.long x)) (some (.int (nI s))) (by omega) (fun s' hs' v => by
            by_cases l : s' < 2 ^ run
            · exact h1 s' l v
            · rw [Nat.pow_succ] at hs'
              have := h2 (s' - 2 ^ run) (by omega) v
              rw [show 2 ^ run + (s' - 2 ^ run) = s' by omega] at this
              exact this)
          rw [← nI_1] at nxt
          exact pm_go1 [7, 53] 20 ⟨fun _ => nxt, fun z => absurd c2 z⟩
        | succ t2 ih2 =>
          intro s oc hst2 h1 h2
          have c2 : ¬ pm_ib 6 1 (nI run) ≤ nI s := by rw [e1, nu_le (by omega) (by omega)]; omega
          have e3 : pm_ib 4 (nI s) (pm_ib 6 1 (nI run)) = nI (2 ^ run + s) := by rw [e1, ib_or, or_add (by omega)]
          have i3 : vp_in (pm_ib 4 (nI s) (pm_ib 6 1 (nI run))) 4096 := by rw [e3]; exact nu_in (by omega) (by omega)
          have i4 : vp_in (nI s) 4096 := nu_in (by omega) (by omega)
          have nxt := ih2 (s + 1) (vp_updL oc (2 ^ run + s) (pm_lb 4 (oc s) x)) (by omega) (fun s' hs' v => by
            rw [ul_at, if_neg (by omega)]; exact h1 s' hs' v) (fun s' hs' v => by
            rw [ul_at]
            by_cases e : s' = s
            · rw [if_pos (by omega), bS_or, Bool.or_eq_true, h1 s (by omega) v, hx v, e]
              constructor
              · rintro (⟨i, z1, z2⟩ | z)
                · exact ⟨i, by rw [tb_add (by omega), z1]; simp, z2⟩
                · exact ⟨run, by rw [tb_add (by omega)]; simp, z⟩
              · rintro ⟨i, z1, z2⟩
                rw [tb_add (by omega), Bool.or_eq_true, decide_eq_true_eq] at z1
                rcases z1 with z1 | z1
                · rw [z1] at z2; exact Or.inr z2
                · exact Or.inl ⟨i, z1, z2⟩
            · rw [if_neg (by omega)]; exact h2 s' (by omega) v)
          rw [← nI_1] at nxt
          refine pm_go1 [53] 40 ⟨fun z => absurd z c2, fun _ => ⟨i4, i3, ?_⟩⟩
          have q1 : (pm_ib 4 (nI s) (pm_ib 6 1 (nI run))).toNatClampNeg = 2 ^ run + s := by rw [e3, nu_cl (by omega)]
          have q2 : (nI s).toNatClampNeg = s := nu_cl (by omega)
          rw [q1, q2]
          exact nxt
      have mid : ∀ (t2 z : Nat) (x : Int64), z + t2 = Hh * W → (∀ v, bS x v = true ↔ ∃ z', z' < z ∧ rO op st1 eg1 (Hh * W) z' = some run ∧ rO op st2 eg2 (Hh * W) z' = some v) →
          pm_Go sc d (pm_cd mX6_cross) (17, [some (.ref 27), some (.int (nI dd)), some (.int (nI run)), some (.long x), none, some (.int (nI z))], [], (hp H r c P w B (mw, mh, ms, mg, mc, mo, mm, mz, mp) N (ob, oc, oq, oz, ow))) (fun r2 h2 => ∃ oc' : Nat → Int64, r2 = none ∧ h2 = (hp H r c P w B (mw, mh, ms, mg, mc, mo, mm, mz, mp) N (ob, oc', oq, oz, ow)) ∧ CrS (Ed op st1 eg1 st2 eg2 (Hh * W)) (rC op st1 eg1 (Hh * W)) oc') := by
        intro t2
        induction t2 with
        | zero =>
          intro z x hz hx
          have c2 : mw * mh ≤ nI z := by rw [hm, nu_le (by omega) (by omega)]; omega
          have ez : z = Hh * W := by omega
          rw [ez] at hx
          exact pm_go1 [53] 20 ⟨fun _ => inner x hx (2 ^ run) 0 oc (by omega) hc (fun s' hs' => absurd hs' (by omega)), fun q => absurd c2 q⟩
        | succ t2 ih2 =>
          intro z x hz hx
          have c2 : ¬ mw * mh ≤ nI z := by rw [hm, nu_le (by omega) (by omega)]; omega
          have i1 : vp_in (pm_ib 0 (pm_ib 2 64 (nI dd)) (nI z)) 128 := by rw [ix1 hdd]; exact nu_in (by omega) (by omega)
          have o1 : mo (pm_ib 0 (pm_ib 2 64 (nI dd)) (nI z)).toNatClampNeg = nI run ↔ rO op st1 eg1 (Hh * W) z = some run := by
            rw [ix1 hdd, nu_cl (by omega), hR1.2.1 z (by omega), en_eq (rO_big bHW) (by omega)]
          by_cases hr : rO op st1 eg1 (Hh * W) z = some run
          · have hop : op z = true := by
              cases ho : op z with
              | true => rfl
              | false => rw [(rO_op _ z (by omega)).mpr ho] at hr; cases hr
            obtain ⟨v, hv⟩ := rO_some (st := st2) (eg := eg2) (show z < Hh * W by omega) hop
            have hvl := rO_lt _ _ _ hv
            have i2 : vp_in (pm_ib 0 (pm_ib 2 64 (pm_ib 1 1 (nI dd))) (nI z)) 128 := by rw [ix2 hdd]; exact nu_in (by omega) (by omega)
            have e2 : mo (pm_ib 0 (pm_ib 2 64 (pm_ib 1 1 (nI dd))) (nI z)).toNatClampNeg = nI v := by rw [ix2 hdd, nu_cl (by omega), hR2.2.1 z (by omega), hv]; rfl
            have nxt := ih2 (z + 1) (pm_lb 4 x (pm_ls 0 1 (nI v))) (by omega) (fun u => by
              rw [bS_add x (by omega), Bool.or_eq_true, decide_eq_true_eq, hx u]
              constructor
              · rintro (⟨z', h1, h2⟩ | h)
                · exact ⟨z', by omega, h2⟩
                · exact ⟨z, by omega, hr, by rw [h]; exact hv⟩
              · rintro ⟨z', h1, h2, h3⟩
                by_cases e : z' = z
                · rw [e, hv] at h3; cases h3; exact Or.inr rfl
                · exact Or.inl ⟨z', by omega, h2, h3⟩)
            rw [← nI_1, ← e2] at nxt
            exact pm_go1 [17] 60 ⟨fun q => absurd q c2, fun _ => ⟨i1, fun q => absurd (o1.mpr hr) q, fun _ => ⟨i2, nxt⟩⟩⟩
          · have nxt := ih2 (z + 1) x (by omega) (fun u => by
              rw [hx u]
              constructor
              · rintro ⟨z', h1, h2⟩; exact ⟨z', by omega, h2⟩
              · rintro ⟨z', h1, h2, h3⟩
                have : z' ≠ z := fun e => hr (by rw [← e]; exact h2)
                exact ⟨z', by omega, h2, h3⟩)
            rw [← nI_1] at nxt
            exact pm_go1 [17] 60 ⟨fun q => absurd q c2, fun _ => ⟨i1, fun _ => nxt, fun q => absurd (o1.mp q) hr⟩⟩
      exact pm_go1 [17] 30 ⟨id, fun z => absurd z c1, fun _ => mid (Hh * W) 0 0 (by omega) (fun v => by
        rw [bS_0]
        exact ⟨fun z => (by cases z), fun ⟨_, h, _⟩ => absurd h (by omega)⟩)⟩
  have start := outer (rC op st1 eg1 (Hh * W)) 0 (vp_updL oc 0 0) none none (by omega) (fun s hs v => by
    have e0 : s = 0 := by rw [Nat.pow_zero] at hs; omega
    rw [ul_at, if_pos e0, bS_0, e0]
    exact ⟨fun z => (by cases z), fun ⟨i, z, _⟩ => by rw [Nat.zero_testBit] at z; cases z⟩)
  obtain ⟨r2, h2, t1, oc', rfl, rfl, t2⟩ := pm_inE (mi := mX6_cross) (av := [.ref 27, .int (nI dd)]) (h := (hp H r c P w B (mw, mh, ms, mg, mc, mo, mm, mz, mp) N (ob, oc, oq, oz, ow))) (pm_go [7] 20 ⟨nu_in (a := 0) (by omega) (by omega), start⟩)
  exact ⟨oc', t1, t2⟩
