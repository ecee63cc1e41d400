/-! BOXES: class and reference answer alike -/
def BxI (B : tB) (N : tN) : Prop := ∃ (A Bh cnt tr : Nat) (sd px py : Nat → Nat) (pk : Bool), (1 ≤ A ∧ A ≤ 12 ∧ 1 ≤ Bh ∧ Bh ≤ 12 ∧ cnt ≤ 8 ∧ tr ≤ 100000) ∧ (∀ k, k < cnt → 1 ≤ sd k ∧ sd k ≤ 12) ∧
  (B.1 = nI A ∧ B.2.1 = nI Bh ∧ B.2.2.1 = nI cnt ∧ B.2.2.2.1 = nI tr ∧ B.2.2.2.2.1 = (if pk then 1 else 0) ∧ (∀ k, k < cnt → B.2.2.2.2.2.1 k = nI (sd k)) ∧ (pk = true → ∀ k, k < cnt → B.2.2.2.2.2.2.1 k = nI (px k) ∧ B.2.2.2.2.2.2.2.1 k = nI (py k))) ∧
  (N.1 = nI A ∧ N.2.1 = nI Bh ∧ N.2.2.1 = nI cnt ∧ N.2.2.2.2.2.2.2 = nI tr ∧ N.2.2.2.2.2.2.1 = (if pk then 1 else 0) ∧ (∀ k, k < cnt → N.2.2.2.1 k = nI (sd k)) ∧ (pk = true → ∀ k, k < cnt → N.2.2.2.2.1 k = nI (px k) ∧ N.2.2.2.2.2.1 k = nI (py k)))
/-- a call of the box: the same answer, and the boxes agree again -/
def BxK (sc : Nat × (Nat → Int32)) (d mC mR : Nat) (av : List Value) (H : tH) (r c : tR) (P : tP) (w : tW) (B : tB) (M : tM) (N : tN) (O : tO) : Prop :=
  ∃ (x : Int32) (B' : tB) (N' : tN), pm_D sc d mC (.ref 1 :: av) (hp H r c P w B M N O) (some (.int x)) (hp H r c P w B' M N O) ∧ pm_D sc d mR (.ref 27 :: av) (hp H r c P w B' M N O) (some (.int x)) (hp H r c P w B' M N' O) ∧ BxI B' N'
theorem k_box (sc : Nat × (Nat → Int32)) (d : Nat) (H : tH) (r : tR) (c : tR) (P : tP) (w : tW) (B : tB) (M : tM) (N : tN) (O : tO) (x y : Int32) (hI : BxI B N) : BxK sc (d + 8) mX5_box mX6_box [.int x, .int y] H r c P w B M N O := by
  have w1 := c_isWithin sc (d + 6) (hp H r c P w B M N O) x 1 12
  have w2 := c_isWithin sc (d + 6) (hp H r c P w B M N O) y 1 12
  have v1 := r_within sc (d + 6) (hp H r c P w B M N O) x 1 12
  have v2 := r_within sc (d + 6) (hp H r c P w B M N O) y 1 12
  by_cases q1 : 1 ≤ x ∧ x ≤ 12
  · rw [if_pos q1] at w1 v1
    by_cases q2 : 1 ≤ y ∧ y ≤ 12
    · rw [if_pos q2] at w2
      have hcl := c_boxClear sc (d + 6) H r c P w B M N O x y
      have v1 := r_within sc (d + 6) (hp H r c P w ((x, y, 0, B.2.2.2.1, 0, B.2.2.2.2.2)) M N O) x 1 12
      have v2 := r_within sc (d + 6) (hp H r c P w ((x, y, 0, B.2.2.2.1, 0, B.2.2.2.2.2)) M N O) y 1 12
      rw [if_pos q1] at v1
      rw [if_pos q2] at v2
      obtain ⟨A, hA1, hA⟩ := nu_of (x := x) (n := 13) (by have := q1.1; rw [Int32.le_iff_toInt_le] at this; exact Int.le_trans (by decide) this) (by have := q1.2; rw [Int32.le_iff_toInt_le] at this; exact Int.lt_of_le_of_lt this (by decide))
      obtain ⟨Bh, hB1, hB⟩ := nu_of (x := y) (n := 13) (by have := q2.1; rw [Int32.le_iff_toInt_le] at this; exact Int.le_trans (by decide) this) (by have := q2.2; rw [Int32.le_iff_toInt_le] at this; exact Int.lt_of_le_of_lt this (by decide))
      have hA0 : 1 ≤ A := by have := q1.1; rw [hA, nu_1, nu_le (by omega) (by omega)] at this; exact this
      have hB0 : 1 ≤ Bh := by have := q2.1; rw [hB, nu_1, nu_le (by omega) (by omega)] at this; exact this
      refine ⟨x * y, (x, y, 0, B.2.2.2.1, 0, B.2.2.2.2.2), (x, y, 0, N.2.2.2.1, N.2.2.2.2.1, N.2.2.2.2.2.1, 0, N.2.2.2.2.2.2.2), pm_in (pm_go [] 30 ⟨_, _, w1, fun c1 => absurd c1 (by decide), fun c1 => ⟨_, _, w2, fun c2 => ⟨_, _, hcl, rfl, rfl⟩, fun c2 => absurd c2 (by decide)⟩⟩), pm_in (pm_go [] 40 ⟨_, _, v1, fun c1 => absurd c1 (by decide), fun c1 => ⟨_, _, v2, fun c2 => ⟨Or.inl rfl, rfl, rfl⟩, fun c2 => absurd c2 (by decide)⟩⟩), ?_⟩
      obtain ⟨A', Bh', cnt, tr, sd, px, py, pk, hb, hsd, ⟨i1, i2, i3, i4, i5, i6, i7⟩, ⟨j1, j2, j3, j4, j5, j6, j7⟩⟩ := hI
      exact ⟨A, Bh, 0, tr, sd, px, py, false, ⟨hA0, by omega, hB0, by omega, by omega, hb.2.2.2.2.2⟩, fun k hk => absurd hk (by omega), ⟨hA, hB, nu_0, i4, rfl, fun k hk => absurd hk (by omega), fun z => by cases z⟩, ⟨hA, hB, nu_0, j4, rfl, fun k hk => absurd hk (by omega), fun z => by cases z⟩⟩
    · rw [if_neg q2] at w2 v2
      exact ⟨-2, B, N, pm_in (pm_go [] 30 ⟨_, _, w1, fun c1 => absurd c1 (by decide), fun c1 => ⟨_, _, w2, fun c2 => absurd rfl c2, fun c2 => ⟨rfl, rfl⟩⟩⟩), pm_in (pm_go [] 30 ⟨_, _, v1, fun c1 => absurd c1 (by decide), fun c1 => ⟨_, _, v2, fun c2 => absurd rfl c2, fun c2 => ⟨rfl, rfl⟩⟩⟩), hI⟩
  · rw [if_neg q1] at w1 v1
    exact ⟨-2, B, N, pm_in (pm_go [] 30 ⟨_, _, w1, fun c1 => ⟨rfl, rfl⟩, fun c1 => absurd rfl c1⟩), pm_in (pm_go [] 30 ⟨_, _, v1, fun c1 => ⟨rfl, rfl⟩, fun c1 => absurd rfl c1⟩), hI⟩
theorem k_square (sc : Nat × (Nat → Int32)) (d : Nat) (H : tH) (r : tR) (c : tR) (P : tP) (w : tW) (B : tB) (M : tM) (N : tN) (O : tO) (x : Int32) (hI : BxI B N) : BxK sc (d + 8) mX5_square mX6_square [.int x] H r c P w B M N O := by
  have hI0 := hI
  obtain ⟨A, Bh, cnt, tr, sd, px, py, pk, hb, hsd, ⟨i1, i2, i3, i4, i5, i6, i7⟩, ⟨j1, j2, j3, j4, j5, j6, j7⟩⟩ := hI
  have w1 := c_isWithin sc (d + 6) (hp H r c P w B M N O) x 1 12
  have v1 := r_within sc (d + 6) (hp H r c P w B M N O) x 1 12
  by_cases q1 : 1 ≤ x ∧ x ≤ 12
  · rw [if_pos q1] at w1 v1
    by_cases q2 : cnt < 8
    · have hlt : B.2.2.1 < 8 := by rw [i3, nu_8, nu_lt (by omega) (by omega)]; exact q2
      have hne : ¬ N.2.2.1 = 8 := by rw [j3, nu_8, nu_eq (by omega) (by omega)]; omega
      have hin : vp_in B.2.2.1 8 := by rw [i3]; exact nu_in q2 (by omega)
      have hin2 : vp_in N.2.2.1 8 := by rw [j3]; exact nu_in q2 (by omega)
      have hap := c_append sc (d + 6) H r c P w B M N O x hin
      have v1 := r_within sc (d + 6) (hp H r c P w ((B.1, B.2.1, B.2.2.1 + 1, B.2.2.2.1, 0, upd B.2.2.2.2.2.1 B.2.2.1.toNatClampNeg x, B.2.2.2.2.2.2)) M N O) x 1 12
      rw [if_pos q1] at v1
      obtain ⟨sx, hs1, hs⟩ := nu_of (x := x) (n := 13) (by have := q1.1; rw [Int32.le_iff_toInt_le] at this; exact Int.le_trans (by decide) this) (by have := q1.2; rw [Int32.le_iff_toInt_le] at this; exact Int.lt_of_le_of_lt this (by decide))
      have hs0 : 1 ≤ sx := by have := q1.1; rw [hs, nu_1, nu_le (by omega) (by omega)] at this; exact this
      have hans : B.2.2.1 = N.2.2.1 + 1 - 1 := by rw [i3, j3, nI_1, nI_pred]
      refine ⟨B.2.2.1, _, (N.1, N.2.1, N.2.2.1 + 1, upd N.2.2.2.1 N.2.2.1.toNatClampNeg x, N.2.2.2.2.1, N.2.2.2.2.2.1, 0, N.2.2.2.2.2.2.2), pm_in (pm_go [] 30 ⟨_, _, w1, fun c1 => ⟨fun c2 => ⟨_, _, hap, rfl, rfl⟩, fun c2 => absurd hlt c2⟩, fun c1 => absurd c1 (by decide)⟩), pm_in (pm_go [] 50 ⟨_, _, v1, fun c1 => ⟨fun c2 => ⟨hin2, Or.inl rfl, ?_, rfl⟩, fun c2 => absurd c2 hne⟩, fun c1 => absurd c1 (by decide)⟩), ?_⟩
      · rw [hans]; rfl
      · refine ⟨A, Bh, cnt + 1, tr, upN sd cnt sx, px, py, false, ⟨hb.1, hb.2.1, hb.2.2.1, hb.2.2.2.1, by omega, hb.2.2.2.2.2⟩, fun k hk => ?_, ⟨i1, i2, by show B.2.2.1 + 1 = _; rw [i3, nI_1], i4, rfl, fun k hk => ?_, fun z => by cases z⟩, ⟨j1, j2, by show N.2.2.1 + 1 = _; rw [j3, nI_1], j4, rfl, fun k hk => ?_, fun z => by cases z⟩⟩
        · unfold upN
          split
          · omega
          · exact hsd k (by omega)
        · show upd B.2.2.2.2.2.1 B.2.2.1.toNatClampNeg x k = _
          rw [i3, nu_cl (by omega), nu_upd]
          unfold upN
          split
          · exact hs
          · exact i6 k (by omega)
        · show upd N.2.2.2.1 N.2.2.1.toNatClampNeg x k = _
          rw [j3, nu_cl (by omega), nu_upd]
          unfold upN
          split
          · exact hs
          · exact j6 k (by omega)
    · have hlt : ¬ B.2.2.1 < 8 := by rw [i3, nu_8, nu_lt (by omega) (by omega)]; exact q2
      have hne : N.2.2.1 = 8 := by rw [j3, nu_8, nu_eq (by omega) (by omega)]; omega
      exact ⟨-4, B, N, pm_in (pm_go [] 30 ⟨_, _, w1, fun c1 => ⟨fun c2 => absurd c2 hlt, fun c2 => ⟨rfl, rfl⟩⟩, fun c1 => absurd c1 (by decide)⟩), pm_in (pm_go [] 50 ⟨_, _, v1, fun c1 => ⟨fun c2 => absurd hne c2, fun c2 => ⟨rfl, rfl⟩⟩, fun c1 => absurd c1 (by decide)⟩), hI0⟩
  · rw [if_neg q1] at w1 v1
    exact ⟨-2, B, N, pm_in (pm_go [] 30 ⟨_, _, w1, fun c1 => absurd rfl c1, fun c1 => ⟨rfl, rfl⟩⟩), pm_in (pm_go [] 30 ⟨_, _, v1, fun c1 => absurd rfl c1, fun c1 => ⟨rfl, rfl⟩⟩), hI0⟩
theorem k_drop (sc : Nat × (Nat → Int32)) (d : Nat) (H : tH) (r : tR) (c : tR) (P : tP) (w : tW) (B : tB) (M : tM) (N : tN) (O : tO) (hI : BxI B N) : BxK sc (d + 8) mX5_drop mX6_drop [] H r c P w B M N O := by
  have hI0 := hI
  obtain ⟨A, Bh, cnt, tr, sd, px, py, pk, hb, hsd, ⟨i1, i2, i3, i4, i5, i6, i7⟩, ⟨j1, j2, j3, j4, j5, j6, j7⟩⟩ := hI
  by_cases q : cnt = 0
  · have h1 : ¬ 0 < B.2.2.1 := by rw [i3, nu_0, nu_lt (by omega) (by omega)]; omega
    have h2 : N.2.2.1 = 0 := by rw [j3, q]; rfl
    exact ⟨-3, B, N, pm_in (pm_go [] 30 ⟨fun c1 => absurd c1 h1, fun c1 => ⟨rfl, rfl⟩⟩), pm_in (pm_go [] 30 ⟨fun c1 => absurd h2 c1, fun c1 => ⟨rfl, rfl⟩⟩), hI0⟩
  · have h1 : 0 < B.2.2.1 := by rw [i3, nu_0, nu_lt (by omega) (by omega)]; omega
    have h2 : ¬ N.2.2.1 = 0 := by rw [j3, nu_0, nu_eq (by omega) (by omega)]; exact q
    obtain ⟨cn, rfl⟩ : ∃ cn, cnt = cn + 1 := ⟨cnt - 1, by omega⟩
    have hrl := c_removeLast sc (d + 6) H r c P w B M N O
    have hans : B.2.2.1 - 1 = N.2.2.1 - 1 := by rw [i3, j3]
    refine ⟨B.2.2.1 - 1, _, (N.1, N.2.1, N.2.2.1 - 1, N.2.2.2.1, N.2.2.2.2.1, N.2.2.2.2.2.1, 0, N.2.2.2.2.2.2.2), pm_in (pm_go [] 30 ⟨fun c1 => ⟨_, _, hrl, rfl, rfl⟩, fun c1 => absurd h1 c1⟩), pm_in (pm_go [] 30 ⟨fun c1 => ⟨Or.inl rfl, ?_, rfl⟩, fun c1 => absurd c1 h2⟩), ?_⟩
    · rw [hans]; rfl
    · refine ⟨A, Bh, cn, tr, sd, px, py, false, ⟨hb.1, hb.2.1, hb.2.2.1, hb.2.2.2.1, by omega, hb.2.2.2.2.2⟩, fun k hk => hsd k (by omega), ⟨i1, i2, by show B.2.2.1 - 1 = _; rw [i3, nI_pred], i4, rfl, fun k hk => i6 k (by omega), fun z => by cases z⟩, ⟨j1, j2, by show N.2.2.1 - 1 = _; rw [j3, nI_pred], j4, rfl, fun k hk => j6 k (by omega), fun z => by cases z⟩⟩
theorem bx_run_tr (A Bh cnt steps : Nat) (sd : Nat → Nat) : ∀ (n s : Nat) (px py : Nat → Nat) (tr : Nat), tr ≤ steps → (bx_run A Bh cnt steps sd n s px py tr).2.1 ≤ steps
  | 0, _, _, _, _, h => by unfold bx_run; exact h
  | n + 1, s, px, py, tr, h => by
    unfold bx_run
    split
    · exact h
    · split
      · split
        · exact h
        · exact bx_run_tr A Bh cnt steps sd n _ _ _ _ h
      · split
        · exact h
        · split
          · exact bx_run_tr A Bh cnt steps sd n _ _ _ _ (by omega)
          · exact bx_run_tr A Bh cnt steps sd n _ _ _ _ (by omega)
theorem k_pack (sc : Nat × (Nat → Int32)) (d : Nat) (H : tH) (r : tR) (c : tR) (P : tP) (w : tW) (B : tB) (M : tM) (N : tN) (O : tO) (x : Int32) (hI : BxI B N) : BxK sc (d + 8) mX5_pack mX6_pack [.int x] H r c P w B M N O := by
  have hI0 := hI
  obtain ⟨A, Bh, cnt, tr, sd, px, py, pk, hb, hsd, ⟨i1, i2, i3, i4, i5, i6, i7⟩, ⟨j1, j2, j3, j4, j5, j6, j7⟩⟩ := hI
  have w1 := c_isWithin sc (d + 6) (hp H r c P w B M N O) x 0 100000
  have v1 := r_within sc (d + 6) (hp H r c P w B M N O) x 0 100000
  by_cases q1 : 0 ≤ x ∧ x ≤ 100000
  · rw [if_pos q1] at w1
    obtain ⟨steps, hs1, hs⟩ := nu_of (x := x) (n := 100001) (by have := q1.1; rw [Int32.le_iff_toInt_le] at this; exact this) (by have := q1.2; rw [Int32.le_iff_toInt_le] at this; exact Int.lt_of_le_of_lt this (by decide))
    subst hs
    obtain ⟨bw, bh, bc, bt, bp, si, ax, ay, tk⟩ := B
    obtain ⟨na, nb, nc, ns, nx, ny, np, nt⟩ := N
    dsimp only at i1 i2 i3 i4 i5 i6 i7 j1 j2 j3 j4 j5 j6 j7
    obtain ⟨ax', ay', tk', f1, f2⟩ := c_fill sc (d + 2) H r c P w bw bh bc bt bp si ax ay tk M (na, nb, nc, ns, nx, ny, np, nt) O A Bh cnt steps sd i1 i2 i3 (by omega) (by omega) (by omega) (by omega) (fun k hk => ⟨i6 k hk, hsd k hk⟩)
    obtain ⟨nx', ny', g1, g2⟩ := r_pack sc (d + 5) H r c P w (bw, bh, bc, nI (bx_run A Bh cnt steps sd 200002 0 (fun _ => 0) (fun _ => 0) 0).2.1, if (bx_run A Bh cnt steps sd 200002 0 (fun _ => 0) (fun _ => 0) 0).1 = 1 then 1 else 0, si, ax', ay', tk') M na nb nc ns nx ny np nt O A Bh cnt steps sd j1 j2 j3 (by omega) (by omega) (by omega) (by omega) (fun k hk => ⟨j6 k hk, hsd k hk⟩)
    have htr := bx_run_tr A Bh cnt steps sd 200002 0 (fun _ => 0) (fun _ => 0) 0 (by omega)
    generalize bx_run A Bh cnt steps sd 200002 0 (fun _ => 0) (fun _ => 0) 0 = R at f1 f2 g1 g2 htr
    refine ⟨nI R.1, _, _, pm_in (pm_go [] 30 ⟨_, _, w1, fun c1 => ⟨_, _, f1, rfl, rfl⟩, fun c1 => absurd c1 (by decide)⟩), g1, ?_⟩
    refine ⟨A, Bh, cnt, R.2.1, sd, R.2.2.1, R.2.2.2, decide (R.1 = 1), ⟨hb.1, hb.2.1, hb.2.2.1, hb.2.2.2.1, hb.2.2.2.2.1, by omega⟩, hsd, ⟨i1, i2, i3, rfl, ?_, i6, fun z => f2 (of_decide_eq_true z)⟩, ⟨j1, j2, j3, rfl, ?_, j6, fun z => g2 (of_decide_eq_true z)⟩⟩
    · by_cases hR : R.1 = 1
      · simp [hR]
      · simp [hR]
    · by_cases hR : R.1 = 1
      · simp [hR]
      · simp [hR]
  · rw [if_neg q1] at w1 v1
    exact ⟨-2, B, N, pm_in (pm_go [] 30 ⟨_, _, w1, fun c1 => absurd rfl c1, fun c1 => ⟨rfl, rfl⟩⟩), pm_in (pm_go [] 30 ⟨_, _, v1, fun c1 => absurd rfl c1, fun c1 => ⟨rfl, rfl⟩⟩), hI0⟩
theorem k_tried (sc : Nat × (Nat → Int32)) (d : Nat) (H : tH) (r : tR) (c : tR) (P : tP) (w : tW) (B : tB) (M : tM) (N : tN) (O : tO) (hI : BxI B N) : BxK sc (d + 8) mX5_tried mX6_tried [] H r c P w B M N O := by
  have hI0 := hI
  obtain ⟨A, Bh, cnt, tr, sd, px, py, pk, hb, hsd, ⟨i1, i2, i3, i4, i5, i6, i7⟩, ⟨j1, j2, j3, j4, j5, j6, j7⟩⟩ := hI
  refine ⟨B.2.2.2.1, B, N, pm_in (pm_go [] 10 ⟨rfl, rfl⟩), pm_in (pm_go [] 10 ⟨?_, rfl⟩), hI0⟩
  rw [i4, ← j4]
theorem k_place (sc : Nat × (Nat → Int32)) (d : Nat) (H : tH) (r : tR) (c : tR) (P : tP) (w : tW) (B : tB) (M : tM) (N : tN) (O : tO) (x y : Int32) (hI : BxI B N) : BxK sc (d + 8) mX5_place mX6_place [.int x, .int y] H r c P w B M N O := by
  have hI0 := hI
  obtain ⟨A, Bh, cnt, tr, sd, px, py, pk, hb, hsd, ⟨i1, i2, i3, i4, i5, i6, i7⟩, ⟨j1, j2, j3, j4, j5, j6, j7⟩⟩ := hI
  have w1 := c_isWithin sc (d + 6) (hp H r c P w B M N O) y 0 1
  have v1 := r_within sc (d + 6) (hp H r c P w B M N O) y 0 1
  have w2 := c_isWithin sc (d + 6) (hp H r c P w B M N O) x 0 (B.2.2.1 - 1)
  have v2 := r_within sc (d + 6) (hp H r c P w B M N O) x 0 (N.2.2.1 - 1)
  by_cases q1 : 0 ≤ y ∧ y ≤ 1
  · rw [if_pos q1] at w1 v1
    cases pk with
    | false =>
      have i5 : B.2.2.2.2.1 = 0 := i5
      have j5 : N.2.2.2.2.2.2.1 = 0 := j5
      exact ⟨-1, B, N, pm_in (pm_go [] 40 ⟨_, _, w1, fun c1 => ⟨fun c2 => ⟨rfl, rfl⟩, fun c2 => absurd i5 c2⟩, fun c1 => absurd c1 (by decide)⟩), pm_in (pm_go [] 40 ⟨_, _, v1, fun c1 => ⟨fun c2 => ⟨rfl, rfl⟩, fun c2 => absurd j5 c2⟩, fun c1 => absurd c1 (by decide)⟩), hI0⟩
    | true =>
      have i5 : ¬ B.2.2.2.2.1 = 0 := by rw [i5]; decide
      have j5 : ¬ N.2.2.2.2.2.2.1 = 0 := by rw [j5]; decide
      have hsame : B.2.2.1 - 1 = N.2.2.1 - 1 := by rw [i3, j3]
      by_cases q2 : 0 ≤ x ∧ x ≤ B.2.2.1 - 1
      · rw [if_pos q2] at w2
        rw [if_pos (by rw [← hsame]; exact q2)] at v2
        have tc : (B.2.2.1 - 1).toInt = (cnt : Int) - 1 := by
          rw [i3, nu_sub (by rw [nu_ti (by omega)]; show _ ≤ _ - (1 : Int); omega) (by rw [nu_ti (by omega)]; show _ - (1 : Int) < _; omega), nu_ti (by omega)]; rfl
        obtain ⟨k, hk, hx⟩ := nu_of (x := x) (n := cnt) (by have := q2.1; rw [Int32.le_iff_toInt_le] at this; exact this) (by have := q2.2; rw [Int32.le_iff_toInt_le, tc] at this; omega)
        have hin : vp_in x 8 := by rw [hx]; exact nu_in (by omega) (by omega)
        have hcl : x.toNatClampNeg = k := by rw [hx]; exact nu_cl (by omega)
        by_cases q3 : y = 0
        · refine ⟨B.2.2.2.2.2.2.1 x.toNatClampNeg, B, N, pm_in (pm_go [] 60 ⟨_, _, w1, fun c1 => ⟨fun c2 => absurd c2 i5, fun c2 => ⟨_, _, w2, fun c3 => ⟨fun c4 => absurd q3 c4, fun c4 => ⟨hin, rfl, rfl⟩⟩, fun c3 => absurd c3 (by decide)⟩⟩, fun c1 => absurd c1 (by decide)⟩), pm_in (pm_go [] 60 ⟨_, _, v1, fun c1 => ⟨fun c2 => absurd c2 j5, fun c2 => ⟨_, _, v2, fun c3 => ⟨fun c4 => absurd q3 c4, fun c4 => ⟨hin, ?_, rfl⟩⟩, fun c3 => absurd c3 (by decide)⟩⟩, fun c1 => absurd c1 (by decide)⟩), hI0⟩
          rw [hcl, (i7 rfl k hk).1, (j7 rfl k hk).1]
        · refine ⟨B.2.2.2.2.2.2.2.1 x.toNatClampNeg, B, N, pm_in (pm_go [] 60 ⟨_, _, w1, fun c1 => ⟨fun c2 => absurd c2 i5, fun c2 => ⟨_, _, w2, fun c3 => ⟨fun c4 => ⟨hin, rfl, rfl⟩, fun c4 => absurd c4 q3⟩, fun c3 => absurd c3 (by decide)⟩⟩, fun c1 => absurd c1 (by decide)⟩), pm_in (pm_go [] 60 ⟨_, _, v1, fun c1 => ⟨fun c2 => absurd c2 j5, fun c2 => ⟨_, _, v2, fun c3 => ⟨fun c4 => ⟨hin, ?_, rfl⟩, fun c4 => absurd c4 q3⟩, fun c3 => absurd c3 (by decide)⟩⟩, fun c1 => absurd c1 (by decide)⟩), hI0⟩
          rw [hcl, (i7 rfl k hk).2, (j7 rfl k hk).2]
      · rw [if_neg q2] at w2
        rw [if_neg (by rw [← hsame]; exact q2)] at v2
        exact ⟨-1, B, N, pm_in (pm_go [] 60 ⟨_, _, w1, fun c1 => ⟨fun c2 => absurd c2 i5, fun c2 => ⟨_, _, w2, fun c3 => absurd rfl c3, fun c3 => ⟨rfl, rfl⟩⟩⟩, fun c1 => absurd c1 (by decide)⟩), pm_in (pm_go [] 60 ⟨_, _, v1, fun c1 => ⟨fun c2 => absurd c2 j5, fun c2 => ⟨_, _, v2, fun c3 => absurd rfl c3, fun c3 => ⟨rfl, rfl⟩⟩⟩, fun c1 => absurd c1 (by decide)⟩), hI0⟩
  · rw [if_neg q1] at w1 v1
    exact ⟨-2, B, N, pm_in (pm_go [] 40 ⟨_, _, w1, fun c1 => absurd rfl c1, fun c1 => ⟨rfl, rfl⟩⟩), pm_in (pm_go [] 40 ⟨_, _, v1, fun c1 => absurd rfl c1, fun c1 => ⟨rfl, rfl⟩⟩), hI0⟩
/-- left: the cells of the box less those of the squares -/
def bx_left (f : tA) (a : Int32) : Nat → Int32
  | 0 => a
  | n + 1 => bx_left f a n - f n * f n
theorem bx_left_congr {f g : tA} {a : Int32} : ∀ (n : Nat), (∀ k, k < n → f k = g k) → bx_left f a n = bx_left g a n
  | 0, _ => rfl
  | n + 1, h => by
    unfold bx_left
    rw [bx_left_congr n (fun k hk => h k (by omega)), h n (by omega)]
theorem c_countLeft (sc : Nat × (Nat → Int32)) (d : Nat) (H : tH) (r : tR) (c : tR) (P : tP) (w : tW) (bw : Int32) (bh : Int32) (bc : Int32) (bt : Int32) (bp : Int32) (si : tA) (ax : tA) (ay : tA) (tk : tA) (M : tM) (N : tN) (O : tO) (cnt : Nat) (hC : bc = nI cnt) (bC : cnt ≤ 8) : pm_D sc (d + 1) mX0_countLeft [.ref 22] (hp H r c P w (bw, bh, bc, bt, bp, si, ax, ay, tk) M N O) (some (.int (bx_left si (bw * bh) cnt))) (hp H r c P w (bw, bh, bc, bt, bp, si, ax, ay, tk) M N O) := by
  have loop : ∀ (n k : Nat) (x y : Int32), k + n = cnt → x = bx_left si (bw * bh) k → y = nI k → pm_Go sc d (pm_cd mX0_countLeft) (8, [some (.ref 22), some (.int x), some (.int y)], [], (hp H r c P w (bw, bh, bc, bt, bp, si, ax, ay, tk) M N O)) (fun r2 h2 => r2 = some (.int (bx_left si (bw * bh) cnt)) ∧ h2 = (hp H r c P w (bw, bh, bc, bt, bp, si, ax, ay, tk) M N O)) := by
    intro n
    induction n with
    | zero =>
      intro k x y hk hx hy
      subst hy
      have : k = cnt := by omega
      subst this
      exact pm_go [] 10 ⟨fun c1 => ⟨by rw [hx], rfl⟩, fun c1 => absurd (show bc ≤ nI k by rw [hC, nu_le (by omega) (by omega)]; exact Nat.le_refl _) c1⟩
    | succ n ih =>
      intro k x y hk hx hy
      subst hy
      have hin : vp_in (nI k) 8 := nu_in (by omega) (by omega)
      have hn : ¬ bc ≤ nI k := by rw [hC, nu_le (by omega) (by omega)]; omega
      refine pm_go1 [8] 30 ⟨fun c1 => absurd c1 hn, fun c1 => ⟨hin, hin, ?_⟩⟩
      refine ih (k + 1) _ _ (by omega) ?_ (nI_1 k)
      rw [nu_cl (by omega), hx]
      rfl
  exact pm_in (pm_go [8] 10 (loop cnt 0 (bw * bh) 0 (by omega) rfl nu_0))
theorem r_left (sc : Nat × (Nat → Int32)) (d : Nat) (H : tH) (r : tR) (c : tR) (P : tP) (w : tW) (B : tB) (M : tM) (na : Int32) (nb : Int32) (nc : Int32) (ns : tA) (nx : tA) (ny : tA) (np : Int32) (nt : Int32) (O : tO) (cnt : Nat) (hC : nc = nI cnt) (bC : cnt ≤ 8) : pm_D sc (d + 1) mX6_left [.ref 27] (hp H r c P w B M (na, nb, nc, ns, nx, ny, np, nt) O) (some (.int (bx_left ns (na * nb) cnt))) (hp H r c P w B M (na, nb, nc, ns, nx, ny, np, nt) O) := by
  have loop : ∀ (n k : Nat) (x y : Int32), k + n = cnt → x = bx_left ns (na * nb) k → y = nI k → pm_Go sc d (pm_cd mX6_left) (8, [some (.ref 27), some (.int x), some (.int y)], [], (hp H r c P w B M (na, nb, nc, ns, nx, ny, np, nt) O)) (fun r2 h2 => r2 = some (.int (bx_left ns (na * nb) cnt)) ∧ h2 = (hp H r c P w B M (na, nb, nc, ns, nx, ny, np, nt) O)) := by
    intro n
    induction n with
    | zero =>
      intro k x y hk hx hy
      subst hy
      have : k = cnt := by omega
      subst this
      exact pm_go [] 10 ⟨fun c1 => ⟨by rw [hx], rfl⟩, fun c1 => absurd (show nc ≤ nI k by rw [hC, nu_le (by omega) (by omega)]; exact Nat.le_refl _) c1⟩
    | succ n ih =>
      intro k x y hk hx hy
      subst hy
      have hin : vp_in (nI k) 8 := nu_in (by omega) (by omega)
      have hn : ¬ nc ≤ nI k := by rw [hC, nu_le (by omega) (by omega)]; omega
      refine pm_go1 [8] 30 ⟨fun c1 => absurd c1 hn, fun c1 => ⟨hin, hin, ?_⟩⟩
      refine ih (k + 1) _ _ (by omega) ?_ (nI_1 k)
      rw [nu_cl (by omega), hx]
      rfl
  exact pm_in (pm_go [8] 10 (loop cnt 0 (na * nb) 0 (by omega) rfl nu_0))
theorem k_left (sc : Nat × (Nat → Int32)) (d : Nat) (H : tH) (r : tR) (c : tR) (P : tP) (w : tW) (B : tB) (M : tM) (N : tN) (O : tO) (hI : BxI B N) : BxK sc (d + 8) mX5_left mX6_left [] H r c P w B M N O := by
  have hI0 := hI
  obtain ⟨A, Bh, cnt, tr, sd, px, py, pk, hb, hsd, ⟨i1, i2, i3, i4, i5, i6, i7⟩, ⟨j1, j2, j3, j4, j5, j6, j7⟩⟩ := hI
  obtain ⟨bw, bh, bc, bt, bp, si, ax, ay, tk⟩ := B
  obtain ⟨na, nb, nc, ns, nx, ny, np, nt⟩ := N
  dsimp only at i1 i2 i3 i4 i5 i6 i7 j1 j2 j3 j4 j5 j6 j7
  have h1 := c_countLeft sc (d + 6) H r c P w bw bh bc bt bp si ax ay tk M (na, nb, nc, ns, nx, ny, np, nt) O cnt i3 (by omega)
  have h2 := r_left sc (d + 7) H r c P w (bw, bh, bc, bt, bp, si, ax, ay, tk) M na nb nc ns nx ny np nt O cnt j3 (by omega)
  have e : bx_left si (bw * bh) cnt = bx_left ns (na * nb) cnt := by
    rw [i1, i2, j1, j2]
    exact bx_left_congr cnt (fun k hk => by rw [i6 k hk, j6 k hk])
  rw [← e] at h2
  exact ⟨_, (bw, bh, bc, bt, bp, si, ax, ay, tk), (na, nb, nc, ns, nx, ny, np, nt), pm_in (pm_go [] 10 ⟨_, _, h1, rfl, rfl⟩), h2, hI0⟩
