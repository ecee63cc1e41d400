/-! THE REFERENCE'S hall: part and what is asked -/
/-- both directions stand parted -/
def MP (W Hh : Nat) (op : Nat → Bool) (mo mm mz : tA) : Prop := RD op 1 (egR W) (Hh * W) 0 mo mm mz ∧ RD op W (egC W) (Hh * W) 1 mo mm mz
theorem rC_mono {op : Nat → Bool} {st : Nat} {eg : Nat → Bool} {a b : Nat} (h : a ≤ b) : rC op st eg a ≤ rC op st eg b := by
  rw [rC_ct, rC_ct]; exact ct_mono _ h
theorem r32R {op : Nat → Bool} {W Hh : Nat} (bW : 1 ≤ W ∧ W ≤ 8) (bH : 1 ≤ Hh ∧ Hh ≤ 8) : rC op 1 (egR W) (Hh * W) ≤ 32 := by
  have := r32_rows (op := op) bW.1 bW.2 Hh 0 (by omega)
  rw [Nat.add_zero] at this
  unfold egR
  omega
theorem r32C {op : Nat → Bool} {W Hh : Nat} (bW : 1 ≤ W ∧ W ≤ 8) (bH : 1 ≤ Hh ∧ Hh ≤ 8) : rC op W (egC W) (Hh * W) ≤ 32 := by
  have := (r32_cols (op := op) bW.1 bW.2 Hh).1
  unfold egC
  omega
theorem rN_zero {op : Nat → Bool} {st : Nat} {eg : Nat → Bool} (q : Nat) : rN op st eg 0 q = 0 := rfl
theorem ct_or (p : Nat → Bool) (k : Nat) : decide (0 < ct p (k + 1)) = (decide (0 < ct p k) || p k) := by
  show decide (0 < ct p k + (if p k then 1 else 0)) = _
  cases p k <;> simp
theorem r_part (sc : Nat × (Nat → Int32)) (d : Nat) (H : tH) (r : tR) (c : tR) (P : tP) (w : tW) (B : tB) (mw : Int32) (mh : Int32) (ms : tA) (mg : tA) (mc : Int32) (mo : tA) (mm : tA) (mz : tA) (mp : Int32) (N : tN) (O : tO) (W Hh : Nat) (op : Nat → Bool) (hW : mw = nI W) (hH : mh = nI Hh) (bW : 1 ≤ W ∧ W ≤ 8) (bH : 1 ≤ Hh ∧ Hh ≤ 8) (hop : ∀ k, k < 64 → ms k = bI (!op k)) (hp0 : mp = 0 ∨ (mp = 1 ∧ MP W Hh op mo mm mz)) :
    ∃ mo' mm' mz' : tA, pm_D sc (d + 5) mX6_part [.ref 27] (hp H r c P w B (mw, mh, ms, mg, mc, mo, mm, mz, mp) N O) none (hp H r c P w B (mw, mh, ms, mg, mc, mo', mm', mz', 1) N O) ∧ MP W Hh op mo' mm' mz' := by
  have bHW : Hh * W ≤ 64 := Nat.mul_le_mul bH.2 bW.2
  rcases hp0 with rfl | ⟨rfl, hM⟩
  · have outer : ∀ (m y : Nat) (yy : Int32) (l2 l3 : Option Value) (mo mm mz : tA), y + m = Hh → yy = nI y → RD op 1 (egR W) (y * W) 0 mo mm mz → RD op W (egC W) (y * W) 1 mo mm mz →
        ∃ mo' mm' mz' : tA, pm_Go sc (d + 4) (pm_cd mX6_part) (31, [some (.ref 27), some (.int yy), l2, l3], [], (hp H r c P w B (mw, mh, ms, mg, mc, mo, mm, mz, 1) N O)) (fun r2 h2 => r2 = none ∧ h2 = (hp H r c P w B (mw, mh, ms, mg, mc, mo', mm', mz', 1) N O)) ∧ MP W Hh op mo' mm' mz' := by
      intro m
      induction m with
      | zero =>
        intro y yy l2 l3 mo mm mz hy hyy R1 R2
        subst hyy
        have : y = Hh := by omega
        subst this
        exact ⟨mo, mm, mz, pm_go [] 20 ⟨fun q => ⟨rfl, rfl⟩, fun q => absurd (show mh ≤ nI y by rw [hH, nu_le (by omega) (by omega)]; exact Nat.le_refl _) q⟩, R1, R2⟩
      | succ m ih =>
        intro y yy l2 l3 mo mm mz hy hyy R1 R2
        subst hyy
        have hyW : (y + 1) * W ≤ Hh * W := Nat.mul_le_mul_right W (by omega)
        rw [Nat.add_mul, Nat.one_mul] at hyW
        have inner : ∀ (k x : Nat) (xx : Int32) (l3 : Option Value) (mo mm mz : tA), x + k = W → xx = nI x → RD op 1 (egR W) (y * W + x) 0 mo mm mz → RD op W (egC W) (y * W + x) 1 mo mm mz →
            ∃ mo' mm' mz' : tA, pm_Go sc (d + 4) (pm_cd mX6_part) (37, [some (.ref 27), some (.int (nI y)), some (.int xx), l3], [], (hp H r c P w B (mw, mh, ms, mg, mc, mo, mm, mz, 1) N O)) (fun r2 h2 => r2 = none ∧ h2 = (hp H r c P w B (mw, mh, ms, mg, mc, mo', mm', mz', 1) N O)) ∧ MP W Hh op mo' mm' mz' := by
          intro k
          induction k with
          | zero =>
            intro x xx l3 mo mm mz hx hxx R1 R2
            subst hxx
            have : x = W := by omega
            subst this
            obtain ⟨mo', mm', mz', g1, g2⟩ := ih (y + 1) (nI y + 1) (some (.int (nI x))) l3 mo mm mz (by omega) (nI_1 y) (by rw [Nat.add_mul, Nat.one_mul]; exact R1) (by rw [Nat.add_mul, Nat.one_mul]; exact R2)
            exact ⟨mo', mm', mz', pm_go1 [31] 20 ⟨fun q => g1, fun q => absurd (show mw ≤ nI x by rw [hW, nu_le (by omega) (by omega)]; exact Nat.le_refl _) q⟩, g2⟩
          | succ k ihk =>
            intro x xx l3 mo mm mz hx hxx R1 R2
            subst hxx
            obtain ⟨mo1, mm1, mz1, t1, s1, u1, u2, u3⟩ := r_partCell0 sc d H r c P w B mw mh ms mg mc mo mm mz 1 N O W Hh x y op 0 nu_0 hW hH bW bH (by omega) (by omega) hop (Nat.le_trans (rC_mono (by omega)) (r32R bW bH)) R1
            have R2' := RD_congr R2 (by omega) u1 u2 u3
            obtain ⟨mo2, mm2, mz2, t2, s2, v1, v2, v3⟩ := r_partCell1 sc d H r c P w B mw mh ms mg mc mo1 mm1 mz1 1 N O W Hh x y op (0 + 1) (by decide) hW hH bW bH (by omega) (by omega) hop (Nat.le_trans (rC_mono (by omega)) (r32C bW bH)) R2'
            have s1' := RD_congr s1 (by omega) v1 v2 v3
            obtain ⟨mo', mm', mz', g1, g2⟩ := ihk (x + 1) (nI x + 1) (some (.int (0 + 1 + 1))) mo2 mm2 mz2 (by omega) (nI_1 x) s1' s2
            exact ⟨mo', mm', mz', pm_go1 [37] 60 ⟨fun q => absurd ((nu_le (a := W) (b := x) (by omega) (by omega)).mp (by rw [← hW]; exact q)) (by omega), fun q => ⟨fun q => absurd q (by decide), fun q => ⟨_, _, t1, fun q => absurd q (by decide), fun q => ⟨_, _, t2, fun q => g1, fun q => absurd (by decide) q⟩⟩⟩⟩, g2⟩
        obtain ⟨mo', mm', mz', g1, g2⟩ := inner W 0 0 l3 mo mm mz (by omega) nu_0 R1 R2
        exact ⟨mo', mm', mz', pm_go1 [37] 20 ⟨fun q => absurd ((nu_le (a := Hh) (b := y) (by omega) (by omega)).mp (by rw [← hH]; exact q)) (by omega), fun q => g1⟩, g2⟩
    have zero : ∀ (m k : Nat) (x : Int32) (f : tA), k + m = 64 → x = nI k → (∀ i, i < k → f i = 0) → ∃ mo' mm' mz' : tA, pm_Go sc (d + 4) (pm_cd mX6_part) (19, [some (.ref 27), some (.int x), none, none], [], (hp H r c P w B (mw, mh, ms, mg, mc, mo, upd (upd mm 0 0) 1 0, f, 1) N O)) (fun r2 h2 => r2 = none ∧ h2 = (hp H r c P w B (mw, mh, ms, mg, mc, mo', mm', mz', 1) N O)) ∧ MP W Hh op mo' mm' mz' := by
      intro m
      induction m with
      | zero =>
        intro k x f hk hx hf
        subst hx
        have : k = 64 := by omega
        subst this
        have hz1 : RD op 1 (egR W) (0 * W) 0 mo (upd (upd mm 0 0) 1 0) f := by
          rw [Nat.zero_mul]
          exact ⟨by rw [nu_updN (by decide), nu_updS]; exact nu_0, fun k hk => absurd hk (by omega), fun q hq => by rw [hf _ (by omega), rN_zero]; exact nu_0⟩
        have hz2 : RD op W (egC W) (0 * W) 1 mo (upd (upd mm 0 0) 1 0) f := by
          rw [Nat.zero_mul]
          exact ⟨by rw [nu_updS]; exact nu_0, fun k hk => absurd hk (by omega), fun q hq => by rw [hf _ (by omega), rN_zero]; exact nu_0⟩
        obtain ⟨mo', mm', mz', g1, g2⟩ := outer Hh 0 0 none none mo (upd (upd mm 0 0) 1 0) f (by omega) nu_0 hz1 hz2
        exact ⟨mo', mm', mz', pm_go1 [31] 20 ⟨fun q => g1, fun q => absurd (by decide) q⟩, g2⟩
      | succ m ih =>
        intro k x f hk hx hf
        subst hx
        obtain ⟨mo', mm', mz', g1, g2⟩ := ih (k + 1) (nI k + 1) (upd f (nI k).toNatClampNeg 0) (by omega) (nI_1 k) (fun i hi => by
          rw [nu_cl (by omega), nu_upd]
          split
          · rfl
          · exact hf i (by omega))
        exact ⟨mo', mm', mz', pm_go1 [19] 20 ⟨fun q => absurd ((nu_le (a := 64) (b := k) (by omega) (by omega)).mp (by rw [← nu_64]; exact q)) (by omega), fun q => ⟨nu_in (by omega) (by omega), g1⟩⟩, g2⟩
    obtain ⟨mo', mm', mz', g1, g2⟩ := zero 64 0 0 mz (by omega) nu_0 (fun i hi => absurd hi (by omega))
    have i0 : vp_in (0 : Int32) 2 := by rw [nu_0]; exact nu_in (by omega) (by omega)
    have i1 : vp_in (1 : Int32) 2 := by rw [nu_1]; exact nu_in (by omega) (by omega)
    exact ⟨mo', mm', mz', pm_in (pm_go [19] 40 ⟨fun q => ⟨Or.inr rfl, i0, i1, g1⟩, fun q => absurd rfl q⟩), g2⟩
  · exact ⟨mo, mm, mz, pm_in (pm_go [] 20 ⟨fun q => absurd (show (1 : Int32) = 0 from q) (by decide), fun q => ⟨rfl, rfl⟩⟩), hM⟩
theorem r_isTouched0 (sc : Nat × (Nat → Int32)) (d : Nat) (H : tH) (r : tR) (c : tR) (P : tP) (w : tW) (B : tB) (mw : Int32) (mh : Int32) (ms : tA) (mg : tA) (mc : Int32) (mo : tA) (mm : tA) (mz : tA) (mp : Int32) (N : tN) (O : tO) (W Hh q : Nat) (op gd : Nat → Bool) (hW : mw = nI W) (hH : mh = nI Hh) (bHW : Hh * W ≤ 64) (hq : q < 1000) (hgd : ∀ k, k < 64 → mg k = bI (gd k)) (hR : RD op 1 (egR W) (Hh * W) 0 mo mm mz) : pm_D sc (d + 1) mX6_isTouched [.ref 27, .int 0, .int (nI q)] (hp H r c P w B (mw, mh, ms, mg, mc, mo, mm, mz, mp) N O) (some (.int (bI (decide (0 < rG op 1 (egR W) gd (Hh * W) q))))) (hp H r c P w B (mw, mh, ms, mg, mc, mo, mm, mz, mp) N O) := by
  have hm : mw * mh = nI (Hh * W) := hw_mul hW hH
  have loop : ∀ (m k : Nat) (x y : Int32), k + m = Hh * W → x = bI (decide (0 < ct (fun k => (rO op 1 (egR W) (Hh * W) k == some q) && gd k) k)) → y = nI k → pm_Go sc d (pm_cd mX6_isTouched) (4, [some (.ref 27), some (.int 0), some (.int (nI q)), some (.int x), some (.int y)], [], (hp H r c P w B (mw, mh, ms, mg, mc, mo, mm, mz, mp) N O)) (fun r2 h2 => r2 = some (.int (bI (decide (0 < rG op 1 (egR W) gd (Hh * W) q)))) ∧ h2 = (hp H r c P w B (mw, mh, ms, mg, mc, mo, mm, mz, mp) N O)) := by
    intro m
    induction m with
    | zero =>
      intro k x y hk hx hy
      subst hy
      subst hx
      have : k = Hh * W := by omega
      subst this
      exact pm_go [] 20 ⟨fun q => ⟨bI_01 _, rfl, rfl⟩, fun q => absurd (show mw * mh ≤ nI (Hh * W) by rw [hm, nu_le (by omega) (by omega)]; exact Nat.le_refl _) q⟩
    | succ m ih =>
      intro k x y hk hx hy
      subst hy
      have hn : ¬ mw * mh ≤ nI k := by rw [hm, nu_le (by omega) (by omega)]; omega
      have hin : vp_in (nI k) 64 := nu_in (by omega) (by omega)
      have eg : mg (nI k).toNatClampNeg = bI (gd k) := by rw [nu_cl (by omega)]; exact hgd k (by omega)
      have e64 : (64 : Int32) * 0 + nI k = nI (64 * 0 + k) := by rw [show ((64 : Int32) * 0) = nI (64 * 0) by decide, nI_add]
      have i64 : vp_in ((64 : Int32) * 0 + nI k) 128 := by rw [e64]; exact nu_in (by omega) (by omega)
      have eo : mo ((64 : Int32) * 0 + nI k).toNatClampNeg = en (rO op 1 (egR W) (Hh * W) k) := by rw [e64, nu_cl (by omega)]; exact hR.2.1 k (by omega)
      have hs : ∀ z : Bool, z = (decide (0 < ct (fun k => (rO op 1 (egR W) (Hh * W) k == some q) && gd k) k) || ((rO op 1 (egR W) (Hh * W) k == some q) && gd k)) → pm_Go sc d (pm_cd mX6_isTouched) (4, [some (.ref 27), some (.int 0), some (.int (nI q)), some (.int (bI z)), some (.int (nI k + 1))], [], (hp H r c P w B (mw, mh, ms, mg, mc, mo, mm, mz, mp) N O)) (fun r2 h2 => r2 = some (.int (bI (decide (0 < rG op 1 (egR W) gd (Hh * W) q)))) ∧ h2 = (hp H r c P w B (mw, mh, ms, mg, mc, mo, mm, mz, mp) N O)) := by
        intro z hz
        refine ih (k + 1) (bI z) (nI k + 1) (by omega) ?_ (nI_1 k)
        rw [hz]
        congr 1
        exact (ct_or (fun k => (rO op 1 (egR W) (Hh * W) k == some q) && gd k) k).symm
      subst hx
      cases hb : decide (0 < ct (fun k => (rO op 1 (egR W) (Hh * W) k == some q) && gd k) k) with
      | true =>
        exact pm_go1 [4] 60 ⟨fun q => absurd q hn, fun q => ⟨fun q => hs true (by rw [hb]; rfl), fun q => absurd q (by decide)⟩⟩
      | false =>
        rw [hb] at hs
        cases hG : gd k with
        | false =>
          have eg : mg (nI k).toNatClampNeg = 0 := by rw [eg, hG]; decide
          exact pm_go1 [4] 60 ⟨fun q => absurd q hn, fun q => ⟨fun q => absurd rfl q, fun q => ⟨hin, fun q => hs false (by rw [hG]; simp), fun q => absurd eg q⟩⟩⟩
        | true =>
          have eg : ¬ mg (nI k).toNatClampNeg = 0 := by rw [eg, hG]; decide
          by_cases hrq : rO op 1 (egR W) (Hh * W) k = some q
          · have eo : mo ((64 : Int32) * 0 + nI k).toNatClampNeg = nI q := by rw [eo, hrq]; rfl
            exact pm_go1 [4] 60 ⟨fun q => absurd q hn, fun q => ⟨fun q => absurd rfl q, fun q => ⟨hin, fun q => absurd q eg, fun q => ⟨i64, fun q => absurd eo q, fun q => hs true (by rw [hG, hrq]; simp)⟩⟩⟩⟩
          · have eo : ¬ mo ((64 : Int32) * 0 + nI k).toNatClampNeg = nI q := by
              rw [eo]
              cases hro : rO op 1 (egR W) (Hh * W) k with
              | none => exact fun z => en_ne (q := q) (by omega) z.symm
              | some q' =>
                have h1 := rO_lt _ _ _ hro
                have h2 := rC_le op 1 (egR W) (Hh * W)
                intro z
                have z : nI q' = nI q := z
                rw [nu_eq (by omega) (by omega)] at z
                rw [z] at hro
                exact hrq hro
            exact pm_go1 [4] 60 ⟨fun q => absurd q hn, fun q => ⟨fun q => absurd rfl q, fun q => ⟨hin, fun q => absurd q eg, fun q => ⟨i64, fun q => hs false (by rw [hG]; simp [hrq]), fun q => absurd q eo⟩⟩⟩⟩
  exact pm_in (pm_go [4] 20 (loop (Hh * W) 0 0 0 (by omega) rfl nu_0))
theorem r_isTouched1 (sc : Nat × (Nat → Int32)) (d : Nat) (H : tH) (r : tR) (c : tR) (P : tP) (w : tW) (B : tB) (mw : Int32) (mh : Int32) (ms : tA) (mg : tA) (mc : Int32) (mo : tA) (mm : tA) (mz : tA) (mp : Int32) (N : tN) (O : tO) (W Hh q : Nat) (op gd : Nat → Bool) (hW : mw = nI W) (hH : mh = nI Hh) (bHW : Hh * W ≤ 64) (hq : q < 1000) (hgd : ∀ k, k < 64 → mg k = bI (gd k)) (hR : RD op W (egC W) (Hh * W) 1 mo mm mz) : pm_D sc (d + 1) mX6_isTouched [.ref 27, .int 1, .int (nI q)] (hp H r c P w B (mw, mh, ms, mg, mc, mo, mm, mz, mp) N O) (some (.int (bI (decide (0 < rG op W (egC W) gd (Hh * W) q))))) (hp H r c P w B (mw, mh, ms, mg, mc, mo, mm, mz, mp) N O) := by
  have hm : mw * mh = nI (Hh * W) := hw_mul hW hH
  have loop : ∀ (m k : Nat) (x y : Int32), k + m = Hh * W → x = bI (decide (0 < ct (fun k => (rO op W (egC W) (Hh * W) k == some q) && gd k) k)) → y = nI k → pm_Go sc d (pm_cd mX6_isTouched) (4, [some (.ref 27), some (.int 1), some (.int (nI q)), some (.int x), some (.int y)], [], (hp H r c P w B (mw, mh, ms, mg, mc, mo, mm, mz, mp) N O)) (fun r2 h2 => r2 = some (.int (bI (decide (0 < rG op W (egC W) gd (Hh * W) q)))) ∧ h2 = (hp H r c P w B (mw, mh, ms, mg, mc, mo, mm, mz, mp) N O)) := by
    intro m
    induction m with
    | zero =>
      intro k x y hk hx hy
      subst hy
      subst hx
      have : k = Hh * W := by omega
      subst this
      exact pm_go [] 20 ⟨fun q => ⟨bI_01 _, rfl, rfl⟩, fun q => absurd (show mw * mh ≤ nI (Hh * W) by rw [hm, nu_le (by omega) (by omega)]; exact Nat.le_refl _) q⟩
    | succ m ih =>
      intro k x y hk hx hy
      subst hy
      have hn : ¬ mw * mh ≤ nI k := by rw [hm, nu_le (by omega) (by omega)]; omega
      have hin : vp_in (nI k) 64 := nu_in (by omega) (by omega)
      have eg : mg (nI k).toNatClampNeg = bI (gd k) := by rw [nu_cl (by omega)]; exact hgd k (by omega)
      have e64 : (64 : Int32) * 1 + nI k = nI (64 * 1 + k) := by rw [show ((64 : Int32) * 1) = nI (64 * 1) by decide, nI_add]
      have i64 : vp_in ((64 : Int32) * 1 + nI k) 128 := by rw [e64]; exact nu_in (by omega) (by omega)
      have eo : mo ((64 : Int32) * 1 + nI k).toNatClampNeg = en (rO op W (egC W) (Hh * W) k) := by rw [e64, nu_cl (by omega)]; exact hR.2.1 k (by omega)
      have hs : ∀ z : Bool, z = (decide (0 < ct (fun k => (rO op W (egC W) (Hh * W) k == some q) && gd k) k) || ((rO op W (egC W) (Hh * W) k == some q) && gd k)) → pm_Go sc d (pm_cd mX6_isTouched) (4, [some (.ref 27), some (.int 1), some (.int (nI q)), some (.int (bI z)), some (.int (nI k + 1))], [], (hp H r c P w B (mw, mh, ms, mg, mc, mo, mm, mz, mp) N O)) (fun r2 h2 => r2 = some (.int (bI (decide (0 < rG op W (egC W) gd (Hh * W) q)))) ∧ h2 = (hp H r c P w B (mw, mh, ms, mg, mc, mo, mm, mz, mp) N O)) := by
        intro z hz
        refine ih (k + 1) (bI z) (nI k + 1) (by omega) ?_ (nI_1 k)
        rw [hz]
        congr 1
        exact (ct_or (fun k => (rO op W (egC W) (Hh * W) k == some q) && gd k) k).symm
      subst hx
      cases hb : decide (0 < ct (fun k => (rO op W (egC W) (Hh * W) k == some q) && gd k) k) with
      | true =>
        exact pm_go1 [4] 60 ⟨fun q => absurd q hn, fun q => ⟨fun q => hs true (by rw [hb]; rfl), fun q => absurd q (by decide)⟩⟩
      | false =>
        rw [hb] at hs
        cases hG : gd k with
        | false =>
          have eg : mg (nI k).toNatClampNeg = 0 := by rw [eg, hG]; decide
          exact pm_go1 [4] 60 ⟨fun q => absurd q hn, fun q => ⟨fun q => absurd rfl q, fun q => ⟨hin, fun q => hs false (by rw [hG]; simp), fun q => absurd eg q⟩⟩⟩
        | true =>
          have eg : ¬ mg (nI k).toNatClampNeg = 0 := by rw [eg, hG]; decide
          by_cases hrq : rO op W (egC W) (Hh * W) k = some q
          · have eo : mo ((64 : Int32) * 1 + nI k).toNatClampNeg = nI q := by rw [eo, hrq]; rfl
            exact pm_go1 [4] 60 ⟨fun q => absurd q hn, fun q => ⟨fun q => absurd rfl q, fun q => ⟨hin, fun q => absurd q eg, fun q => ⟨i64, fun q => absurd eo q, fun q => hs true (by rw [hG, hrq]; simp)⟩⟩⟩⟩
          · have eo : ¬ mo ((64 : Int32) * 1 + nI k).toNatClampNeg = nI q := by
              rw [eo]
              cases hro : rO op W (egC W) (Hh * W) k with
              | none => exact fun z => en_ne (q := q) (by omega) z.symm
              | some q' =>
                have h1 := rO_lt _ _ _ hro
                have h2 := rC_le op W (egC W) (Hh * W)
                intro z
                have z : nI q' = nI q := z
                rw [nu_eq (by omega) (by omega)] at z
                rw [z] at hro
                exact hrq hro
            exact pm_go1 [4] 60 ⟨fun q => absurd q hn, fun q => ⟨fun q => absurd rfl q, fun q => ⟨hin, fun q => absurd q eg, fun q => ⟨i64, fun q => hs false (by rw [hG]; simp [hrq]), fun q => absurd q eo⟩⟩⟩⟩
  exact pm_in (pm_go [4] 20 (loop (Hh * W) 0 0 0 (by omega) rfl nu_0))
