theorem b_nt {x : Bool} (h : x = false) : (!x) = true := by rw [h]; rfl
theorem r_moreL (sc : Nat × (Nat → Int32)) (d : Nat) (H : tH) (r : tR) (c : tR) (P : tP) (w : tW) (B : tB) (M : tM) (N : tN) (ob : tA) (oc : Nat → Int64) (oq : tA) (oz : tA) (ow : tA) (a b dd h : Nat) (E : Nat → Nat → Prop) (T1 T2 : Int64) (hE : ∀ i v, E i v → i < a ∧ v < b) (ha : a ≤ 12) (hb : b ≤ 64) (hO : OI (ob, oc, oq, oz, ow)) (hC : CrS E a oc) (hT : ∀ i, bS T1 i = true → i < a) (hh : h = tn T1) (K : Option Value → pm_H → Prop) (hK : ∀ m, moN a b E (fun i => !bS T1 i) (fun v => !bS T2 v) m → K (some (.int (nI m))) (hp H r c P w B M N (ob, oc, oq, oz, ow))) :
    ∀ (t s : Nat) (L : Int32) (l8 l10 : Option Value), s + t = 2 ^ a → MrI a b E (bS T1) (fun v => !bS T2 v) s L →
      pm_Go sc (d + 5) (pm_cd mX6_more) (47, [some (.ref 27), some (.int (nI dd)), some (.int (nI (2 ^ a - 1))), some (.int (nI h)), some (.long T2), none, some (.int L), some (.int (nI s)), l8, none, l10], [], (hp H r c P w B M N (ob, oc, oq, oz, ow))) K := by
  have p12 : 2 ^ a ≤ 2 ^ 12 := Nat.pow_le_pow_right (by omega) ha
  have p0 : 1 ≤ 2 ^ a := Nat.one_le_two_pow
  have hl : h < 2 ^ a := by rw [hh]; exact tn_bits hT
  have hb1 : ∀ i, h.testBit i = bS T1 i := fun i => by rw [hh]; rfl
  intro t
  induction t with
  | zero =>
    intro s L l8 l10 hst hI
    have es : s = 2 ^ a := by omega
    rw [es] at hI
    obtain ⟨m, e1, e2⟩ := MrI_end hE hT hI
    have c0 : nI (2 ^ a - 1) < nI s := by rw [nu_lt (by omega) (by omega)]; omega
    subst e1
    exact pm_go1 [47] 20 ⟨fun _ => hK m e2, fun z => absurd c0 z⟩
  | succ t ih =>
    intro s L l8 l10 hst hI
    have sl : s < 2 ^ a := by omega
    have c0 : ¬ nI (2 ^ a - 1) < nI s := by rw [nu_lt (by omega) (by omega)]; omega
    by_cases q1 : s &&& h = h
    · have c1 : pm_ib 3 (nI s) (nI h) = nI h := by rw [ib_and, q1]
      have hsub : ∀ i, bS T1 i = true → s.testBit i = true := fun i hi => by
        rw [← hb1 i, ← q1, Nat.testBit_and, Bool.and_eq_true] at hi
        exact hi.1
      have ex : pm_ib 3 (nI (2 ^ a - 1)) (pm_ib 5 (nI s) (-1)) = nI (dif (2 ^ a - 1) s) := ib_dif _ _
      have dl : dif (2 ^ a - 1) s < 2 ^ a := dif_lt (by omega)
      have dt : ∀ i, (dif (2 ^ a - 1) s).testBit i = true ↔ (i < a ∧ s.testBit i = false) := fun i => by
        rw [dif_tb, Nat.testBit_two_pow_sub_one, Bool.and_eq_true, decide_eq_true_eq, Bool.not_eq_true']
      have i1 : vp_in (pm_ib 3 (nI (2 ^ a - 1)) (pm_ib 5 (nI s) (-1))) 4096 := by rw [ex]; exact nu_in (by omega) (by omega)
      have cx : (pm_ib 3 (nI (2 ^ a - 1)) (pm_ib 5 (nI s) (-1))).toNatClampNeg = dif (2 ^ a - 1) s := by rw [ex]; exact nu_cl (by omega)
      have i2 : vp_in (nI s) 4096 := nu_in (by omega) (by omega)
      have cs : (nI s).toNatClampNeg = s := nu_cl (by omega)
      obtain ⟨wn, hwn⟩ : ∃ wn : Int64, wn = pm_lb 3 (oc (dif (2 ^ a - 1) s)) (pm_lb 5 T2 (-1)) := ⟨_, rfl⟩
      have bw : ∀ v, bS wn v = true ↔ ((∃ i, i < a ∧ s.testBit i = false ∧ E i v) ∧ bS T2 v = false) := fun v => by
        rw [hwn, bS_and, Bool.and_eq_true, hC _ dl v]
        by_cases hv : v < 64
        · rw [bS_xor, bS_m1 hv]
          constructor
          · rintro ⟨⟨i, z1, z2⟩, z3⟩
            exact ⟨⟨i, ((dt i).mp z1).1, ((dt i).mp z1).2, z2⟩, by simpa using z3⟩
          · rintro ⟨⟨i, z1, z2, z3⟩, z4⟩
            exact ⟨⟨i, (dt i).mpr ⟨z1, z2⟩, z3⟩, by simp [z4]⟩
        · constructor
          · rintro ⟨⟨i, z1, z2⟩, z3⟩
            have := (hE i v z2).2; omega
          · rintro ⟨⟨i, z1, z2, z3⟩, z4⟩
            have := (hE i v z3).2; omega
      have ndw : nd a E (fun i => !bS T1 i) (fun v => !bS T2 v) (fun i => (dif s h).testBit i) (bS wn) := fun v => by
        rw [bw v]
        constructor
        · rintro ⟨⟨i, z1, z2, z3⟩, z4⟩
          have e : bS T1 i = false := by
            cases e : bS T1 i with
            | false => rfl
            | true => rw [hsub i e] at z2; cases z2
          exact ⟨i, z1, by show (dif s h).testBit i = false; rw [dif_tb, z2]; rfl, b_nt e, b_nt z4, z3⟩
        · rintro ⟨i, z1, z2, z3, z4, z5⟩
          have z2 : (dif s h).testBit i = false := z2
          rw [dif_tb, hb1 i] at z2
          refine ⟨⟨i, z1, ?_, z5⟩, by simpa using z4⟩
          rw [show (!bS T1 i) = true from z3] at z2
          simpa using z2
      by_cases q2 : pm_lb 3 wn (pm_lb 5 (oc s) (-1)) = 0
      · have tst : lg_cmp (pm_lb 3 wn (pm_lb 5 (oc (nI s).toNatClampNeg) (-1))) 0 = 0 := by rw [cs]; exact lc_eq.mpr q2
        have k1 := r_count sc (d + 4) H r c P w B M N ob oc oq oz ow hO wn
        have ek : ct (bS wn) 64 = ct (bS wn) b := ct_cut (fun v hv => by
          obtain ⟨⟨i, _, _, z⟩, _⟩ := (bw v).mp hv
          exact (hE i v z).2) hb
        rw [ek] at k1
        have lw := ct_le (bS wn) b
        obtain ⟨D, k, k2, hD, n1, n2⟩ := r_most sc (d + 3) H r c P w B M N ob oc oq oz ow a b E hE ha hb hO hC (dif s h) (dif_lt sl) wn
        rw [← ib_dif s h] at k2
        have nxt : ∀ L', L' = (if L = -1 ∨ nI (ct (bS wn) b + D) < L then nI (ct (bS wn) b + D) else L) → _ := fun L' hL => ih (s + 1) L' (some (.long wn)) (some (.int (nI (ct (bS wn) b + D)))) (by omega) (MrI_take hE hI (fun i => by rw [dif_tb, hb1 i]) ndw n1 (by omega) (by omega) hL)
        have rest : ∀ x : Int32, x = nI (ct (bS wn) b + D) → pm_Go sc (d + 5) (pm_cd mX6_more) (91, [some (.ref 27), some (.int (nI dd)), some (.int (nI (2 ^ a - 1))), some (.int (nI h)), some (.long T2), none, some (.int L), some (.int (nI s)), some (.long wn), none, l10], [.int x], (hp H r c P w B M N (ob, oc, oq, oz, ow))) K := by
          intro x hx
          subst hx
          by_cases e1 : L = -1
          · have n := nxt _ (if_pos (Or.inl e1)).symm
            rw [← nI_1] at n
            exact pm_go1 [47] 30 ⟨fun _ => n, fun z => absurd e1 z⟩
          · by_cases e2 : L ≤ nI (ct (bS wn) b + D)
            · have n := nxt L (if_neg (fun z => z.elim e1 (fun z => absurd e2 (Int32.not_le.mpr z)))).symm
              rw [← nI_1] at n
              exact pm_go1 [47] 30 ⟨fun z => absurd z e1, fun _ => ⟨fun _ => n, fun z => absurd e2 z⟩⟩
            · have n := nxt _ (if_pos (Or.inr (Int32.not_le.mp e2))).symm
              rw [← nI_1] at n
              exact pm_go1 [47] 30 ⟨fun z => absurd z e1, fun _ => ⟨fun z => absurd z e2, fun _ => n⟩⟩
        have mid : ∀ y : Int64, y = wn → pm_Go sc (d + 5) (pm_cd mX6_more) (67, [some (.ref 27), some (.int (nI dd)), some (.int (nI (2 ^ a - 1))), some (.int (nI h)), some (.long T2), none, some (.int L), some (.int (nI s)), l8, none, l10], [.long y], (hp H r c P w B M N (ob, oc, oq, oz, ow))) K := by
          intro y hy
          subst hy
          exact pm_go1 [91] 40 ⟨i2, fun z => absurd tst z, fun _ => ⟨_, _, k1, _, _, k2, rest _ (nI_add _ _)⟩⟩
        exact pm_go1 [67] 30 ⟨fun z => absurd z c0, fun _ => ⟨fun z => absurd c1 z, fun _ => ⟨i1, mid _ (by rw [cx, hwn])⟩⟩⟩
      · have tst : ¬ lg_cmp (pm_lb 3 wn (pm_lb 5 (oc (nI s).toNatClampNeg) (-1))) 0 = 0 := by rw [cs]; exact fun z => q2 (lc_eq.mp z)
        have nxt := ih (s + 1) L (some (.long wn)) l10 (by omega) (MrI_skip hI (fun C Y h1 h2 h3 h4 => q2 (bS_ext (fun v hv => by
          rw [bS_0, bS_and, bS_xor, bS_m1 hv]
          cases e : bS wn v with
          | false => rfl
          | true =>
            have hy : Y v = true := by
              obtain ⟨⟨i, z1, z2, z3⟩, z4⟩ := (bw v).mp e
              rw [h1 i, Bool.or_eq_false_iff] at z2
              exact (h3 v).mpr ⟨i, z1, z2.1, b_nt z2.2, b_nt z4, z3⟩
            obtain ⟨i, z1, z2, z3⟩ := h4 v hy
            rw [(hC s sl v).mpr ⟨i, by rw [h1 i]; rcases z2 with z | z <;> simp [z], z3⟩]
            rfl))))
        rw [← nI_1] at nxt
        have mid : ∀ y : Int64, y = wn → pm_Go sc (d + 5) (pm_cd mX6_more) (67, [some (.ref 27), some (.int (nI dd)), some (.int (nI (2 ^ a - 1))), some (.int (nI h)), some (.long T2), none, some (.int L), some (.int (nI s)), l8, none, l10], [.long y], (hp H r c P w B M N (ob, oc, oq, oz, ow))) K := by
          intro y hy
          subst hy
          exact pm_go1 [47] 40 ⟨i2, fun _ => nxt, fun z => absurd z tst⟩
        exact pm_go1 [67] 30 ⟨fun z => absurd z c0, fun _ => ⟨fun z => absurd c1 z, fun _ => ⟨i1, mid _ (by rw [cx, hwn])⟩⟩⟩
    · have q1' : (s &&& h) < 2 ^ a := Nat.and_lt_two_pow _ hl
      have c1 : ¬ pm_ib 3 (nI s) (nI h) = nI h := by rw [ib_and, nu_eq (by omega) (by omega)]; exact q1
      have nxt := ih (s + 1) L l8 l10 (by omega) (MrI_skip hI (fun C Y h1 h2 h3 h4 => q1 (by
        rw [Nat.and_comm]
        exact sub_tb (fun i hi => by rw [hb1 i] at hi; rw [h1 i, hi]; simp))))
      rw [← nI_1] at nxt
      exact pm_go1 [47] 40 ⟨fun z => absurd z c0, fun _ => ⟨fun _ => nxt, fun z => absurd z c1⟩⟩
theorem rG_in {op : Nat → Bool} {st : Nat} {eg gd : Nat → Bool} {n v : Nat} (h : rG op st eg gd n v ≠ 0) : v < rC op st eg n := by
  obtain ⟨i, _, h2⟩ := ct_ex (p := fun k => (rO op st eg n k == some v) && gd k) n (by unfold rG at h; omega)
  rw [Bool.and_eq_true, beq_iff_eq] at h2
  exact rO_lt _ _ _ h2.1
theorem Ed_turn {op : Nat → Bool} {st1 : Nat} {eg1 : Nat → Bool} {st2 : Nat} {eg2 : Nat → Bool} {n : Nat} : (fun v k => Ed op st1 eg1 st2 eg2 n k v) = Ed op st2 eg2 st1 eg1 n := by
  funext v k
  apply propext
  constructor
  · rintro ⟨z, h1, h2, h3⟩; exact ⟨z, h1, h3, h2⟩
  · rintro ⟨z, h1, h2, h3⟩; exact ⟨z, h1, h3, h2⟩
theorem moN_turn {op : Nat → Bool} {st1 : Nat} {eg1 : Nat → Bool} {st2 : Nat} {eg2 : Nat → Bool} {n a b m : Nat} {U V : Nat → Bool} (h : moN a b (Ed op st1 eg1 st2 eg2 n) U V m) : moN b a (Ed op st2 eg2 st1 eg1 n) V U m := by
  have := mo_swap h
  rw [Ed_turn] at this
  exact this
theorem r_moreD (sc : Nat × (Nat → Int32)) (d : Nat) (H : tH) (r : tR) (c : tR) (P : tP) (w : tW) (B : tB) (mw : Int32) (mh : Int32) (ms : tA) (mg : tA) (mc : Int32) (mo : tA) (mm : tA) (mz : tA) (mp : Int32) (N : tN) (ob : tA) (oc : Nat → Int64) (oq : tA) (oz : tA) (ow : tA) (W Hh dd : Nat) (op gd : Nat → Bool) (st1 : Nat) (eg1 : Nat → Bool) (st2 : Nat) (eg2 : Nat → Bool) (hW : mw = nI W) (hH : mh = nI Hh) (bHW : Hh * W ≤ 64) (hdd : dd ≤ 1) (hgd : ∀ k, k < 64 → mg k = bI (gd k)) (hgo : ∀ k, gd k = true → op k = true) (hR1 : RD op st1 eg1 (Hh * W) dd mo mm mz) (hR2 : RD op st2 eg2 (Hh * W) (1 - dd) mo mm mz) (a12 : rC op st1 eg1 (Hh * W) ≤ 12) (hO : OI (ob, oc, oq, oz, ow)) (K : Option Value → pm_H → Prop)
    (hK : ∀ (m : Nat) (oc' : Nat → Int64), moN (rC op st1 eg1 (Hh * W)) (rC op st2 eg2 (Hh * W)) (Ed op st1 eg1 st2 eg2 (Hh * W)) (fun k => decide (rG op st1 eg1 gd (Hh * W) k = 0)) (fun k => decide (rG op st2 eg2 gd (Hh * W) k = 0)) m → K (some (.int (nI m))) (hp H r c P w B (mw, mh, ms, mg, mc, mo, mm, mz, mp) N (ob, oc', oq, oz, ow))) :
    pm_Go sc (d + 5) (pm_cd mX6_more) (20, [some (.ref 27), some (.int (nI dd)), none, none, none, none, none, none, none, none, none], [], (hp H r c P w B (mw, mh, ms, mg, mc, mo, mm, mz, mp) N (ob, oc, oq, oz, ow))) K := by
  have b64 := rC_le op st2 eg2 (Hh * W)
  have id : vp_in (nI dd) 2 := nu_in (by omega) (by omega)
  have ed : mm (nI dd).toNatClampNeg = nI (rC op st1 eg1 (Hh * W)) := by rw [nu_cl (by omega)]; exact hR1.1
  obtain ⟨oc', cc, hCr⟩ := r_cross sc (d + 4) H r c P w B mw mh ms mg mc mo mm mz mp N ob oc oq oz ow W Hh dd op st1 eg1 st2 eg2 hW hH bHW hdd hR1 hR2 a12
  obtain ⟨T1, t1, b1⟩ := r_touched sc (d + 4) H r c P w B mw mh ms mg mc mo mm mz mp N (ob, oc', oq, oz, ow) W Hh dd op gd st1 eg1 hW hH bHW hdd hgd hgo hR1
  obtain ⟨T2, t2, b2⟩ := r_touched sc (d + 4) H r c P w B mw mh ms mg mc mo mm mz mp N (ob, oc', oq, oz, ow) W Hh (1 - dd) op gd st2 eg2 hW hH bHW (by omega) hgd hgo hR2
  have e1 : pm_ib 1 1 (nI dd) = nI (1 - dd) := by
    rcases (show dd = 0 ∨ dd = 1 by omega) with h | h <;> subst h <;> decide
  rw [← e1] at t2
  have eU : (fun i => !bS T1 i) = fun k => decide (rG op st1 eg1 gd (Hh * W) k = 0) := funext (fun k => by rw [b1 k, Bool.not_not])
  have eV : (fun i => !bS T2 i) = fun k => decide (rG op st2 eg2 gd (Hh * W) k = 0) := funext (fun k => by rw [b2 k, Bool.not_not])
  have loop := r_moreL sc d H r c P w B (mw, mh, ms, mg, mc, mo, mm, mz, mp) N ob oc' oq oz ow (rC op st1 eg1 (Hh * W)) (rC op st2 eg2 (Hh * W)) dd (tn T1) (Ed op st1 eg1 st2 eg2 (Hh * W)) T1 T2 (fun i v => Ed_lt) a12 (by omega) hO hCr (fun i hi => rG_in (fun z => by rw [b1 i, z] at hi; cases hi)) rfl K (fun m hm => hK m oc' (by rw [eU, eV] at hm; exact hm)) (2 ^ rC op st1 eg1 (Hh * W)) 0 (-1) none none (by omega) ⟨Or.inl rfl, fun C Y k s' hs' => absurd hs' (by omega)⟩
  rw [← tn_l2i] at loop
  have mid : ∀ x : Int32, x = nI (rC op st1 eg1 (Hh * W)) → pm_Go sc (d + 5) (pm_cd mX6_more) (28, [some (.ref 27), some (.int (nI dd)), none, none, none, none, none, none, none, none, none], [.int x, .int 1], (hp H r c P w B (mw, mh, ms, mg, mc, mo, mm, mz, mp) N (ob, oc', oq, oz, ow))) K := by
    intro x hx
    subst hx
    rw [← ib_ful (by omega)] at loop
    exact pm_go1 [47] 40 ⟨_, _, t1, _, _, t2, loop⟩
  exact pm_go1 [28] 20 ⟨_, _, cc, id, mid _ ed⟩
theorem r_more (sc : Nat × (Nat → Int32)) (d : Nat) (H : tH) (r : tR) (c : tR) (P : tP) (w : tW) (B : tB) (mw : Int32) (mh : Int32) (ms : tA) (mg : tA) (mc : Int32) (mo : tA) (mm : tA) (mz : tA) (mp : Int32) (N : tN) (ob : tA) (oc : Nat → Int64) (oq : tA) (oz : tA) (ow : tA) (W Hh : Nat) (op gd : Nat → Bool) (hW : mw = nI W) (hH : mh = nI Hh) (bW : 1 ≤ W ∧ W ≤ 8) (bH : 1 ≤ Hh ∧ Hh ≤ 8) (hop : ∀ k, k < 64 → ms k = bI (!op k)) (hgd : ∀ k, k < 64 → mg k = bI (gd k)) (hgo : ∀ k, gd k = true → op k = true) (hp0 : mp = 0 ∨ (mp = 1 ∧ MP W Hh op mo mm mz)) (hO : OI (ob, oc, oq, oz, ow)) :
    ∃ (x : Int32) (mo' mm' mz' : tA) (oc' : Nat → Int64), pm_D sc (d + 6) mX6_more [.ref 27] (hp H r c P w B (mw, mh, ms, mg, mc, mo, mm, mz, mp) N (ob, oc, oq, oz, ow)) (some (.int x)) (hp H r c P w B (mw, mh, ms, mg, mc, mo', mm', mz', 1) N (ob, oc', oq, oz, ow)) ∧ MP W Hh op mo' mm' mz' ∧
      ((12 < rC op 1 (egR W) (Hh * W) ∧ 12 < rC op W (egC W) (Hh * W) ∧ x = -5) ∨ ((rC op 1 (egR W) (Hh * W) ≤ 12 ∨ rC op W (egC W) (Hh * W) ≤ 12) ∧ ∃ m, x = nI m ∧ moN (rC op 1 (egR W) (Hh * W)) (rC op W (egC W) (Hh * W)) (EdR W Hh op) (fun k => decide (rG op 1 (egR W) gd (Hh * W) k = 0)) (fun k => decide (rG op W (egC W) gd (Hh * W) k = 0)) m)) := by
  have bHW := bHW_of bW bH
  have a32 := r32R (op := op) bW bH
  have b32 := r32C (op := op) bW bH
  obtain ⟨mo', mm', mz', cp, hMP⟩ := r_part sc d H r c P w B mw mh ms mg mc mo mm mz mp N (ob, oc, oq, oz, ow) W Hh op hW hH bW bH hop hp0
  have i0 : vp_in (0 : Int32) 2 := nu_in (a := 0) (by omega) (by omega)
  have i1 : vp_in (1 : Int32) 2 := nu_in (a := 1) (by omega) (by omega)
  have m0 : mm' (0 : Int32).toNatClampNeg = nI (rC op 1 (egR W) (Hh * W)) := hMP.1.1
  have m1 : mm' (1 : Int32).toNatClampNeg = nI (rC op W (egC W) (Hh * W)) := hMP.2.1
  by_cases h1 : rC op 1 (egR W) (Hh * W) ≤ 12
  · have c1 : ¬ 12 < mm' (0 : Int32).toNatClampNeg := by rw [m0, nu_12, nu_lt (by omega) (by omega)]; omega
    have c2 : mm' (0 : Int32).toNatClampNeg ≤ 12 := by rw [m0, nu_12, nu_le (by omega) (by omega)]; exact h1
    have out := r_moreD sc d H r c P w B mw mh ms mg mc mo' mm' mz' 1 N ob oc oq oz ow W Hh 0 op gd 1 (egR W) W (egC W) hW hH bHW (by omega) hgd hgo hMP.1 hMP.2 h1 hO (fun r2 h2 => ∃ (m : Nat) (oc' : Nat → Int64), r2 = some (.int (nI m)) ∧ h2 = (hp H r c P w B (mw, mh, ms, mg, mc, mo', mm', mz', 1) N (ob, oc', oq, oz, ow)) ∧ moN (rC op 1 (egR W) (Hh * W)) (rC op W (egC W) (Hh * W)) (EdR W Hh op) (fun k => decide (rG op 1 (egR W) gd (Hh * W) k = 0)) (fun k => decide (rG op W (egC W) gd (Hh * W) k = 0)) m) (fun m oc' hm => ⟨m, oc', rfl, rfl, hm⟩)
    obtain ⟨r2, h2, t1, m, oc', rfl, rfl, t2⟩ := pm_inE (mi := mX6_more) (av := [.ref 27]) (h := (hp H r c P w B (mw, mh, ms, mg, mc, mo, mm, mz, mp) N (ob, oc, oq, oz, ow))) (pm_go [20] 40 ⟨_, _, cp, i0, fun z => absurd z c1, fun _ => ⟨i0, fun _ => out, fun z => absurd c2 z⟩⟩)
    exact ⟨_, mo', mm', mz', oc', t1, hMP, Or.inr ⟨Or.inl h1, m, rfl, t2⟩⟩
  · have c1 : 12 < mm' (0 : Int32).toNatClampNeg := by rw [m0, nu_12, nu_lt (by omega) (by omega)]; omega
    by_cases h2 : rC op W (egC W) (Hh * W) ≤ 12
    · have c2 : mm' (1 : Int32).toNatClampNeg ≤ 12 := by rw [m1, nu_12, nu_le (by omega) (by omega)]; exact h2
      have out := r_moreD sc d H r c P w B mw mh ms mg mc mo' mm' mz' 1 N ob oc oq oz ow W Hh 1 op gd W (egC W) 1 (egR W) hW hH bHW (by omega) hgd hgo hMP.2 hMP.1 h2 hO (fun r2 h2 => ∃ (m : Nat) (oc' : Nat → Int64), r2 = some (.int (nI m)) ∧ h2 = (hp H r c P w B (mw, mh, ms, mg, mc, mo', mm', mz', 1) N (ob, oc', oq, oz, ow)) ∧ moN (rC op 1 (egR W) (Hh * W)) (rC op W (egC W) (Hh * W)) (EdR W Hh op) (fun k => decide (rG op 1 (egR W) gd (Hh * W) k = 0)) (fun k => decide (rG op W (egC W) gd (Hh * W) k = 0)) m) (fun m oc' hm => ⟨m, oc', rfl, rfl, moN_turn hm⟩)
      obtain ⟨r2, h2', t1, m, oc', rfl, rfl, t2⟩ := pm_inE (mi := mX6_more) (av := [.ref 27]) (h := (hp H r c P w B (mw, mh, ms, mg, mc, mo, mm, mz, mp) N (ob, oc, oq, oz, ow))) (pm_go [20] 40 ⟨_, _, cp, i0, fun _ => ⟨i1, fun _ => out, fun z => absurd c2 z⟩, fun z => absurd c1 z⟩)
      exact ⟨_, mo', mm', mz', oc', t1, hMP, Or.inr ⟨Or.inr h2, m, rfl, t2⟩⟩
    · have c2 : ¬ mm' (1 : Int32).toNatClampNeg ≤ 12 := by rw [m1, nu_12, nu_le (by omega) (by omega)]; exact h2
      exact ⟨_, mo', mm', mz', oc, pm_in (pm_go [20] 40 ⟨_, _, cp, i0, fun _ => ⟨i1, fun z => absurd z c2, fun _ => ⟨rfl, rfl⟩⟩, fun z => absurd c1 z⟩), hMP, Or.inl ⟨by omega, by omega, rfl⟩⟩
