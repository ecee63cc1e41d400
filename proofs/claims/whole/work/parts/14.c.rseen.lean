theorem r_isSeen (sc : Nat × (Nat → Int32)) (d : Nat) (H : tH) (r : tR) (c : tR) (P : tP) (w : tW) (B : tB) (mw : Int32) (mh : Int32) (ms : tA) (mg : tA) (mc : Int32) (mo : tA) (mm : tA) (mz : tA) (mp : Int32) (N : tN) (O : tO) (W Hh k : Nat) (op gd : Nat → Bool) (hW : mw = nI W) (hH : mh = nI Hh) (bHW : Hh * W ≤ 64) (hk : k < Hh * W) (hop : ∀ k, k < 64 → ms k = bI (!op k)) (hgd : ∀ k, k < 64 → mg k = bI (gd k)) (hR : MP W Hh op mo mm mz) : pm_D sc (d + 2) mX6_isSeen [.ref 27, .int (nI k)] (hp H r c P w B (mw, mh, ms, mg, mc, mo, mm, mz, mp) N O) (some (.int (bI (sE W Hh op gd k)))) (hp H r c P w B (mw, mh, ms, mg, mc, mo, mm, mz, mp) N O) := by
  have hin : vp_in (nI k) 64 := nu_in (by omega) (by omega)
  have hcl : (nI k).toNatClampNeg = k := nu_cl (by omega)
  have es : ms (nI k).toNatClampNeg = bI (!op k) := by rw [hcl]; exact hop k (by omega)
  cases hO : op k with
  | false =>
    have es : ¬ ms (nI k).toNatClampNeg = 0 := by rw [es, hO]; decide
    have h1 : rO op 1 (egR W) (Hh * W) k = none := (rO_op _ k hk).mpr hO
    have h2 : rO op W (egC W) (Hh * W) k = none := (rO_op _ k hk).mpr hO
    unfold sE
    rw [h1, h2]
    exact pm_in (pm_go [] 40 ⟨hin, fun q => ⟨Or.inl rfl, rfl, rfl⟩, fun q => absurd q es⟩)
  | true =>
    have es : ms (nI k).toNatClampNeg = 0 := by rw [es, hO]; decide
    obtain ⟨q1, hq1⟩ := rO_some (st := 1) (eg := egR W) hk hO
    obtain ⟨q2, hq2⟩ := rO_some (st := W) (eg := egC W) hk hO
    have l1 := rO_lt _ _ _ hq1
    have l2 := rO_lt _ _ _ hq2
    have b1 := rC_le op 1 (egR W) (Hh * W)
    have b2 := rC_le op W (egC W) (Hh * W)
    have e1 : mo (nI k).toNatClampNeg = nI q1 := by
      have := hR.1.2.1 k hk
      rw [hq1, Nat.mul_zero, Nat.zero_add] at this
      rw [hcl, this]; rfl
    have e64 : pm_ib 0 64 (nI k) = nI (64 * 1 + k) := by
      rw [pib0, nu_64, nI_add]
    have e2 : mo (pm_ib 0 64 (nI k)).toNatClampNeg = nI q2 := by
      have := hR.2.2.1 k hk
      rw [hq2] at this
      rw [e64, nu_cl (by omega), this]
      rfl
    have i1 : vp_in (nI k) 128 := nu_in (by omega) (by omega)
    have i2 : vp_in (pm_ib 0 64 (nI k)) 128 := by rw [e64]; exact nu_in (by omega) (by omega)
    have h1 := r_isTouched0 sc d H r c P w B mw mh ms mg mc mo mm mz mp N O W Hh q1 op gd hW hH bHW (by omega) hgd hR.1
    have h2 := r_isTouched1 sc d H r c P w B mw mh ms mg mc mo mm mz mp N O W Hh q2 op gd hW hH bHW (by omega) hgd hR.2
    rw [← e1] at h1
    rw [← e2] at h2
    unfold sE
    rw [hq1, hq2]
    unfold rW
    dsimp only
    generalize decide (0 < rG op 1 (egR W) gd (Hh * W) q1) = z1 at h1 ⊢
    generalize decide (0 < rG op W (egC W) gd (Hh * W) q2) = z2 at h2 ⊢
    have key : pm_Go sc (d + 1) (pm_cd mX6_isSeen) (5, [some (.ref 27), some (.int (nI k))], [], (hp H r c P w B (mw, mh, ms, mg, mc, mo, mm, mz, mp) N O)) (fun r2 h2 => r2 = some (.int (bI (z1 || z2))) ∧ h2 = (hp H r c P w B (mw, mh, ms, mg, mc, mo, mm, mz, mp) N O)) := by
      have key2 : z1 = false → pm_Go sc (d + 1) (pm_cd mX6_isSeen) (13, [some (.ref 27), some (.int (nI k))], [], (hp H r c P w B (mw, mh, ms, mg, mc, mo, mm, mz, mp) N O)) (fun r2 h2 => r2 = some (.int (bI (z1 || z2))) ∧ h2 = (hp H r c P w B (mw, mh, ms, mg, mc, mo, mm, mz, mp) N O)) := by
        intro hz
        subst hz
        refine pm_go [] 20 ⟨i2, _, _, h2, fun q => ?_, fun q => ?_⟩
        · have : z2 = false := bI_0.mp q
          subst this
          exact ⟨Or.inl rfl, rfl, rfl⟩
        · have : z2 = true := by
            cases z2 with
            | true => rfl
            | false => exact absurd rfl q
          subst this
          exact ⟨Or.inr rfl, rfl, rfl⟩
      refine pm_go [13] 20 ⟨i1, _, _, h1, fun q => ?_, fun q => ?_⟩
      · have : z1 = true := by
          cases z1 with
          | true => rfl
          | false => exact absurd rfl q
        subst this
        exact ⟨Or.inr rfl, rfl, rfl⟩
      · exact key2 (bI_0.mp q)
    exact pm_in (pm_go [5] 10 ⟨hin, fun q => absurd es q, fun q => key⟩)
