/-! THE CONSTRUCTORS: numbering over a heap of which only the hall's cells are known -/
def hpx (Gx : pm_E) (H : tH) (r c : tR) (P : tP) (w : tW) (Tx : pm_H) : pm_H :=
  Gx :: .inr (1, [.int H.1, .int H.2.1, .int H.2.2.1, .ref 3, .ref 4, .ref 5, .ref 10, .ref 15, .ref 20]) :: aZ 64 H.2.2.2.1 :: aZ 64 H.2.2.2.2 ::
   .inr (3, [.int r.1, .int r.2.1, .ref 6, .ref 7, .ref 8, .ref 9]) :: aI 64 r.2.2.1 :: aI 64 r.2.2.2.1 :: aI 64 r.2.2.2.2.1 :: aI 64 r.2.2.2.2.2 ::
   .inr (3, [.int c.1, .int c.2.1, .ref 11, .ref 12, .ref 13, .ref 14]) :: aI 64 c.2.2.1 :: aI 64 c.2.2.2.1 :: aI 64 c.2.2.2.2.1 :: aI 64 c.2.2.2.2.2 ::
   .inr (2, [P.1, P.2.1, .ref 16, .ref 17, .ref 18, .ref 19]) :: aI 64 P.2.2.1 :: aI 64 P.2.2.2.1 :: aI 64 P.2.2.2.2.1 :: aI 64 P.2.2.2.2.2 ::
   .inr (4, [w.1, w.2.1, .int w.2.2.1, .ref 21, .ref 15]) :: aL 12 w.2.2.2 :: Tx
theorem c_runsClear_r_x (sc : Nat × (Nat → Int32)) (d : Nat) (Gx : pm_E) (H : tH) (r : tR) (c : tR) (P : tP) (w : tW) (Tx : pm_H) (x : Int32) : pm_D sc (d + 1) mX3_clear [.ref 5, .int x] (hpx Gx H r c P w Tx) none (hpx Gx H ((0, x, r.2.2)) c P w Tx) :=
  pm_in (pm_go [] 20 ⟨rfl, rfl⟩)
theorem c_takeShut_r_x (sc : Nat × (Nat → Int32)) (d : Nat) (Gx : pm_E) (H : tH) (r : tR) (c : tR) (P : tP) (w : tW) (Tx : pm_H) (op : Nat → Bool) (st : Nat) (eg : Nat → Bool) (n : Nat) (G : Nat → Nat) (hn : n < 64) (ho : op n = false) (hR : RC op st eg n G r) : ∃ R' : tR, pm_D sc (d + 1) mX3_takeShut [.ref 5, .int (nI n)] (hpx Gx H r c P w Tx) none (hpx Gx H (R') c P w Tx) ∧ RC op st eg (n + 1) G R' := by
  refine ⟨(r.1, r.2.1, upd r.2.2.1 n (-1), r.2.2.2), pm_in (pm_go [] 20 ⟨nu_in hn (by omega), rfl, ?_⟩), ?_⟩
  · rw [nu_cl (by omega)]; rfl
  · obtain ⟨h1, h2, h3, h4⟩ := hR
    refine ⟨by rw [rC_shut ho]; exact h1, h2, fun k hk => ?_, fun q hq => ?_⟩
    · show upd _ n (-1) k = _
      rw [nu_upd, rO_shut ho]
      split
      · rename_i hkn; rw [hkn, rO_out n n (Nat.le_refl _)]; rfl
      · exact h3 k (by omega)
    · rw [rC_shut ho] at hq
      have e1 : rL op st eg (n + 1) q = rL op st eg n q := by rw [rL, if_neg (by rw [rS_shut ho]; simp)]
      have e2 : rN op st eg (n + 1) q = rN op st eg n q := by rw [rN_step, rO_shut ho, rO_out n n (Nat.le_refl _), if_neg (by simp)]; rfl
      rw [e1, e2]
      exact h4 q hq
theorem c_takeOpen_r_x (sc : Nat × (Nat → Int32)) (d : Nat) (Gx : pm_E) (H : tH) (r : tR) (c : tR) (P : tP) (w : tW) (Tx : pm_H) (op : Nat → Bool) (st : Nat) (eg : Nat → Bool) (n : Nat) (G : Nat → Nat) (x : Int32) (hn : n < 64) (hst : st ≤ 8) (hst1 : 1 ≤ st) (heg : ∀ k, eg k = false → st ≤ k) (ho : op n = true) (hx : (eg n = true ∧ x = 1) ∨ (eg n = false ∧ x = 0)) (hR : RC op st eg n G r) : ∃ R' : tR, pm_D sc (d + 1) mX3_takeOpen [.ref 5, .int (nI n), .int x] (hpx Gx H r c P w Tx) none (hpx Gx H (R') c P w Tx) ∧ RC op st eg (n + 1) (fun q => if rS op st eg n = true ∧ q = rC op st eg n then 0 else G q) R' := by
  obtain ⟨h1, h2, h3, h4⟩ := hR
  have hcl := rC_le op st eg n
  have hin : vp_in (nI n) 64 := nu_in hn (by omega)
  have hinC : vp_in r.1 64 := by rw [h1]; exact nu_in (by omega) (by omega)
  have hclN : (nI n).toNatClampNeg = n := nu_cl (by omega)
  have hclC : r.1.toNatClampNeg = rC op st eg n := by rw [h1]; exact nu_cl (by omega)
  cases ha : rA st eg (rO op st eg n) n with
  | none =>
    have hS := rS_new ho ha
    have key : pm_Go sc d (pm_cd mX3_takeOpen) (11, [some (.ref 5), some (.int (nI n)), some (.int x), none], [.int (-1)], (hpx Gx H r c P w Tx)) (fun r2 h2 => r2 = none ∧ h2 = (hpx Gx H ((r.1 + 1, r.2.1, upd r.2.2.1 n r.1, upd r.2.2.2.1 (rC op st eg n) (nI n), upd (upd r.2.2.2.2.1 (rC op st eg n) 0) (rC op st eg n) (0 + 1), upd r.2.2.2.2.2 (rC op st eg n) 0)) c P w Tx)) := by
      refine pm_go [] 60 ⟨fun c1 => absurd rfl c1, fun c1 => ⟨hinC, hinC, hinC, hin, hinC, hinC, rfl, ?_⟩⟩
      rw [hclC, hclN, nu_updS]
      rfl
    refine ⟨(r.1 + 1, r.2.1, upd r.2.2.1 n r.1, upd r.2.2.2.1 (rC op st eg n) (nI n), upd (upd r.2.2.2.2.1 (rC op st eg n) 0) (rC op st eg n) (0 + 1), upd r.2.2.2.2.2 (rC op st eg n) 0), pm_in ?_, ?_⟩
    · rcases hx with ⟨he, rfl⟩ | ⟨he, rfl⟩
      · exact pm_go [11] 20 ⟨fun c1 => absurd c1 (by decide), fun c1 => key⟩
      · unfold rA at ha
        rw [he] at ha
        have hge := heg n he
        have ha : rO op st eg n (n - st) = none := by simpa using ha
        have e1 : nI n - r.2.1 = nI (n - st) := by rw [h2]; exact pk_sub hge
        have hin2 : vp_in (nI n - r.2.1) 64 := by rw [e1]; exact nu_in (by omega) (by omega)
        have e2 : r.2.2.1 (nI n - r.2.1).toNatClampNeg = -1 := by rw [e1, nu_cl (by omega), h3 _ (by omega), ha]; rfl
        refine pm_go [11] 20 ⟨fun c1 => ⟨hin2, ?_⟩, fun c1 => absurd rfl c1⟩
        rw [← e2] at key
        exact key
    · refine ⟨?_, h2, fun k hk => ?_, fun q hq => ?_⟩
      · rw [rC_new ho ha]
        show r.1 + 1 = _
        rw [h1, nI_1]
      · show upd r.2.2.1 n r.1 k = _
        rw [nu_upd, rO_new ho ha]
        split
        · rw [h1]; rfl
        · exact h3 k (by omega)
      · rw [rC_new ho ha] at hq
        have hN := rN_step (op := op) (st := st) (eg := eg) n q
        rw [rO_new ho ha, if_pos rfl] at hN
        show upd r.2.2.2.1 (rC op st eg n) (nI n) q = _ ∧ upd (upd r.2.2.2.2.1 (rC op st eg n) 0) (rC op st eg n) (0 + 1) q = _ ∧ upd r.2.2.2.2.2 (rC op st eg n) 0 q = _
        dsimp only
        rw [nu_uu, nu_upd, nu_upd, nu_upd, rL]
        by_cases hq2 : q = rC op st eg n
        · subst hq2
          rw [if_pos rfl, if_pos rfl, if_pos rfl, if_pos ⟨hS, rfl⟩, if_pos ⟨hS, rfl⟩, hN, rN_new, if_pos rfl]
          exact ⟨rfl, rfl, rfl⟩
        · rw [if_neg hq2, if_neg hq2, if_neg hq2, if_neg (fun z => hq2 z.2), if_neg (fun z => hq2 z.2), hN, if_neg (fun z => hq2 (Option.some.inj z).symm)]
          exact h4 q (by omega)
  | some q0 =>
    have hS := rS_on ho ha
    have ha0 := ha
    unfold rA at ha
    rcases hx with ⟨he, rfl⟩ | ⟨he, rfl⟩
    · rw [he] at ha; cases ha
    · rw [he] at ha
      have hge := heg n he
      have ha : rO op st eg n (n - st) = some q0 := by simpa using ha
      have hq0 := rO_lt n _ _ ha
      have e1 : nI n - r.2.1 = nI (n - st) := by rw [h2]; exact pk_sub hge
      have hin2 : vp_in (nI n - r.2.1) 64 := by rw [e1]; exact nu_in (by omega) (by omega)
      have e2 : r.2.2.1 (nI n - r.2.1).toNatClampNeg = nI q0 := by rw [e1, nu_cl (by omega), h3 _ (by omega), ha]; rfl
      have hinq : vp_in (nI q0) 64 := nu_in (by omega) (by omega)
      have hclq : (nI q0).toNatClampNeg = q0 := nu_cl (by omega)
      have hne : ¬ nI q0 = -1 := en_ne (q := q0) (by omega)
      have key : pm_Go sc d (pm_cd mX3_takeOpen) (11, [some (.ref 5), some (.int (nI n)), some (.int 0), none], [.int (nI q0)], (hpx Gx H r c P w Tx)) (fun r2 h2 => r2 = none ∧ h2 = (hpx Gx H ((r.1, r.2.1, upd r.2.2.1 n (nI q0), r.2.2.2.1, upd r.2.2.2.2.1 q0 (r.2.2.2.2.1 q0 + 1), r.2.2.2.2.2)) c P w Tx)) := by
        refine pm_go [] 60 ⟨fun c1 => ⟨hin, hinq, hinq, rfl, ?_⟩, fun c1 => absurd c1 hne⟩
        rw [hclN, hclq]
        rfl
      refine ⟨(r.1, r.2.1, upd r.2.2.1 n (nI q0), r.2.2.2.1, upd r.2.2.2.2.1 q0 (r.2.2.2.2.1 q0 + 1), r.2.2.2.2.2), pm_in (pm_go [11] 20 ⟨fun c1 => ⟨hin2, ?_⟩, fun c1 => absurd rfl c1⟩), ?_⟩
      · rw [← e2] at key
        rw [← e2]
        exact key
      · refine ⟨by rw [rC_on ho ha0]; exact h1, h2, fun k hk => ?_, fun q hq => ?_⟩
        · show upd r.2.2.1 n (nI q0) k = _
          rw [nu_upd, rO_on ho ha0]
          split
          · rfl
          · exact h3 k (by omega)
        · rw [rC_on ho ha0] at hq
          have hN := rN_step (op := op) (st := st) (eg := eg) n q
          rw [rO_on ho ha0, if_pos rfl] at hN
          show r.2.2.2.1 q = _ ∧ upd r.2.2.2.2.1 q0 (r.2.2.2.2.1 q0 + 1) q = _ ∧ r.2.2.2.2.2 q = _
          dsimp only
          have eL : rL op st eg (n + 1) q = rL op st eg n q := by rw [rL, if_neg (by rw [hS]; simp)]
          have eG : (if rS op st eg n = true ∧ q = rC op st eg n then 0 else G q) = G q := if_neg (by rw [hS]; simp)
          rw [nu_upd, eL, eG]
          refine ⟨(h4 q hq).1, ?_, (h4 q hq).2.2⟩
          by_cases hq2 : q = q0
          · subst hq2
            rw [if_pos rfl, hN, if_pos rfl, (h4 q hq).2.1, nI_1]
          · rw [if_neg hq2, hN, if_neg (fun z => hq2 (Option.some.inj z).symm)]
            exact (h4 q hq).2.1
theorem c_addGuards_r_x (sc : Nat × (Nat → Int32)) (d : Nat) (Gx : pm_E) (H : tH) (r : tR) (c : tR) (P : tP) (w : tW) (Tx : pm_H) (op : Nat → Bool) (st : Nat) (eg : Nat → Bool) (n k q g : Nat) (G : Nat → Nat) (x : Int32) (hn : n ≤ 64) (hk : k < n) (hq : rO op st eg n k = some q) (hx : nI (G q) + x = nI g) (hR : RC op st eg n G r) : ∃ R' : tR, pm_D sc (d + 1) mX3_addGuards [.ref 5, .int (nI k), .int x] (hpx Gx H r c P w Tx) none (hpx Gx H (R') c P w Tx) ∧ RC op st eg n (upN G q g) R' := by
  obtain ⟨h1, h2, h3, h4⟩ := hR
  have hcl := rC_le op st eg n
  have hql := rO_lt n _ _ hq
  have e1 : r.2.2.1 (nI k).toNatClampNeg = nI q := by rw [nu_cl (by omega), h3 k hk, hq]; rfl
  have hin : vp_in (nI k) 64 := nu_in (by omega) (by omega)
  have hne : ¬ r.2.2.1 (nI k).toNatClampNeg = -1 := by rw [e1]; exact en_ne (q := q) (by omega)
  have hinq : vp_in (r.2.2.1 (nI k).toNatClampNeg) 64 := by rw [e1]; exact nu_in (by omega) (by omega)
  refine ⟨(r.1, r.2.1, r.2.2.1, r.2.2.2.1, r.2.2.2.2.1, upd r.2.2.2.2.2 q (nI g)), pm_in (pm_go [] 30 ⟨hin, fun c1 => absurd c1 hne, fun c1 => ⟨hinq, hinq, rfl, ?_⟩⟩), ?_⟩
  · rw [e1, nu_cl (by omega), ← hx, ← (h4 q hql).2.2]
    rfl
  · refine ⟨h1, h2, h3, fun q' hq' => ?_⟩
    show _ ∧ _ ∧ upd r.2.2.2.2.2 q (nI g) q' = _
    rw [nu_upd]
    unfold upN
    refine ⟨(h4 q' hq').1, (h4 q' hq').2.1, ?_⟩
    split
    · rfl
    · exact (h4 q' hq').2.2
theorem c_runsClear_c_x (sc : Nat × (Nat → Int32)) (d : Nat) (Gx : pm_E) (H : tH) (r : tR) (c : tR) (P : tP) (w : tW) (Tx : pm_H) (x : Int32) : pm_D sc (d + 1) mX3_clear [.ref 10, .int x] (hpx Gx H r c P w Tx) none (hpx Gx H r ((0, x, c.2.2)) P w Tx) :=
  pm_in (pm_go [] 20 ⟨rfl, rfl⟩)
theorem c_takeShut_c_x (sc : Nat × (Nat → Int32)) (d : Nat) (Gx : pm_E) (H : tH) (r : tR) (c : tR) (P : tP) (w : tW) (Tx : pm_H) (op : Nat → Bool) (st : Nat) (eg : Nat → Bool) (n : Nat) (G : Nat → Nat) (hn : n < 64) (ho : op n = false) (hR : RC op st eg n G c) : ∃ R' : tR, pm_D sc (d + 1) mX3_takeShut [.ref 10, .int (nI n)] (hpx Gx H r c P w Tx) none (hpx Gx H r (R') P w Tx) ∧ RC op st eg (n + 1) G R' := by
  refine ⟨(c.1, c.2.1, upd c.2.2.1 n (-1), c.2.2.2), pm_in (pm_go [] 20 ⟨nu_in hn (by omega), rfl, ?_⟩), ?_⟩
  · rw [nu_cl (by omega)]; rfl
  · obtain ⟨h1, h2, h3, h4⟩ := hR
    refine ⟨by rw [rC_shut ho]; exact h1, h2, fun k hk => ?_, fun q hq => ?_⟩
    · show upd _ n (-1) k = _
      rw [nu_upd, rO_shut ho]
      split
      · rename_i hkn; rw [hkn, rO_out n n (Nat.le_refl _)]; rfl
      · exact h3 k (by omega)
    · rw [rC_shut ho] at hq
      have e1 : rL op st eg (n + 1) q = rL op st eg n q := by rw [rL, if_neg (by rw [rS_shut ho]; simp)]
      have e2 : rN op st eg (n + 1) q = rN op st eg n q := by rw [rN_step, rO_shut ho, rO_out n n (Nat.le_refl _), if_neg (by simp)]; rfl
      rw [e1, e2]
      exact h4 q hq
theorem c_takeOpen_c_x (sc : Nat × (Nat → Int32)) (d : Nat) (Gx : pm_E) (H : tH) (r : tR) (c : tR) (P : tP) (w : tW) (Tx : pm_H) (op : Nat → Bool) (st : Nat) (eg : Nat → Bool) (n : Nat) (G : Nat → Nat) (x : Int32) (hn : n < 64) (hst : st ≤ 8) (hst1 : 1 ≤ st) (heg : ∀ k, eg k = false → st ≤ k) (ho : op n = true) (hx : (eg n = true ∧ x = 1) ∨ (eg n = false ∧ x = 0)) (hR : RC op st eg n G c) : ∃ R' : tR, pm_D sc (d + 1) mX3_takeOpen [.ref 10, .int (nI n), .int x] (hpx Gx H r c P w Tx) none (hpx Gx H r (R') P w Tx) ∧ RC op st eg (n + 1) (fun q => if rS op st eg n = true ∧ q = rC op st eg n then 0 else G q) R' := by
  obtain ⟨h1, h2, h3, h4⟩ := hR
  have hcl := rC_le op st eg n
  have hin : vp_in (nI n) 64 := nu_in hn (by omega)
  have hinC : vp_in c.1 64 := by rw [h1]; exact nu_in (by omega) (by omega)
  have hclN : (nI n).toNatClampNeg = n := nu_cl (by omega)
  have hclC : c.1.toNatClampNeg = rC op st eg n := by rw [h1]; exact nu_cl (by omega)
  cases ha : rA st eg (rO op st eg n) n with
  | none =>
    have hS := rS_new ho ha
    have key : pm_Go sc d (pm_cd mX3_takeOpen) (11, [some (.ref 10), some (.int (nI n)), some (.int x), none], [.int (-1)], (hpx Gx H r c P w Tx)) (fun r2 h2 => r2 = none ∧ h2 = (hpx Gx H r ((c.1 + 1, c.2.1, upd c.2.2.1 n c.1, upd c.2.2.2.1 (rC op st eg n) (nI n), upd (upd c.2.2.2.2.1 (rC op st eg n) 0) (rC op st eg n) (0 + 1), upd c.2.2.2.2.2 (rC op st eg n) 0)) P w Tx)) := by
      refine pm_go [] 60 ⟨fun c1 => absurd rfl c1, fun c1 => ⟨hinC, hinC, hinC, hin, hinC, hinC, rfl, ?_⟩⟩
      rw [hclC, hclN, nu_updS]
      rfl
    refine ⟨(c.1 + 1, c.2.1, upd c.2.2.1 n c.1, upd c.2.2.2.1 (rC op st eg n) (nI n), upd (upd c.2.2.2.2.1 (rC op st eg n) 0) (rC op st eg n) (0 + 1), upd c.2.2.2.2.2 (rC op st eg n) 0), pm_in ?_, ?_⟩
    · rcases hx with ⟨he, rfl⟩ | ⟨he, rfl⟩
      · exact pm_go [11] 20 ⟨fun c1 => absurd c1 (by decide), fun c1 => key⟩
      · unfold rA at ha
        rw [he] at ha
        have hge := heg n he
        have ha : rO op st eg n (n - st) = none := by simpa using ha
        have e1 : nI n - c.2.1 = nI (n - st) := by rw [h2]; exact pk_sub hge
        have hin2 : vp_in (nI n - c.2.1) 64 := by rw [e1]; exact nu_in (by omega) (by omega)
        have e2 : c.2.2.1 (nI n - c.2.1).toNatClampNeg = -1 := by rw [e1, nu_cl (by omega), h3 _ (by omega), ha]; rfl
        refine pm_go [11] 20 ⟨fun c1 => ⟨hin2, ?_⟩, fun c1 => absurd rfl c1⟩
        rw [← e2] at key
        exact key
    · refine ⟨?_, h2, fun k hk => ?_, fun q hq => ?_⟩
      · rw [rC_new ho ha]
        show c.1 + 1 = _
        rw [h1, nI_1]
      · show upd c.2.2.1 n c.1 k = _
        rw [nu_upd, rO_new ho ha]
        split
        · rw [h1]; rfl
        · exact h3 k (by omega)
      · rw [rC_new ho ha] at hq
        have hN := rN_step (op := op) (st := st) (eg := eg) n q
        rw [rO_new ho ha, if_pos rfl] at hN
        show upd c.2.2.2.1 (rC op st eg n) (nI n) q = _ ∧ upd (upd c.2.2.2.2.1 (rC op st eg n) 0) (rC op st eg n) (0 + 1) q = _ ∧ upd c.2.2.2.2.2 (rC op st eg n) 0 q = _
        dsimp only
        rw [nu_uu, nu_upd, nu_upd, nu_upd, rL]
        by_cases hq2 : q = rC op st eg n
        · subst hq2
          rw [if_pos rfl, if_pos rfl, if_pos rfl, if_pos ⟨hS, rfl⟩, if_pos ⟨hS, rfl⟩, hN, rN_new, if_pos rfl]
          exact ⟨rfl, rfl, rfl⟩
        · rw [if_neg hq2, if_neg hq2, if_neg hq2, if_neg (fun z => hq2 z.2), if_neg (fun z => hq2 z.2), hN, if_neg (fun z => hq2 (Option.some.inj z).symm)]
          exact h4 q (by omega)
  | some q0 =>
    have hS := rS_on ho ha
    have ha0 := ha
    unfold rA at ha
    rcases hx with ⟨he, rfl⟩ | ⟨he, rfl⟩
    · rw [he] at ha; cases ha
    · rw [he] at ha
      have hge := heg n he
      have ha : rO op st eg n (n - st) = some q0 := by simpa using ha
      have hq0 := rO_lt n _ _ ha
      have e1 : nI n - c.2.1 = nI (n - st) := by rw [h2]; exact pk_sub hge
      have hin2 : vp_in (nI n - c.2.1) 64 := by rw [e1]; exact nu_in (by omega) (by omega)
      have e2 : c.2.2.1 (nI n - c.2.1).toNatClampNeg = nI q0 := by rw [e1, nu_cl (by omega), h3 _ (by omega), ha]; rfl
      have hinq : vp_in (nI q0) 64 := nu_in (by omega) (by omega)
      have hclq : (nI q0).toNatClampNeg = q0 := nu_cl (by omega)
      have hne : ¬ nI q0 = -1 := en_ne (q := q0) (by omega)
      have key : pm_Go sc d (pm_cd mX3_takeOpen) (11, [some (.ref 10), some (.int (nI n)), some (.int 0), none], [.int (nI q0)], (hpx Gx H r c P w Tx)) (fun r2 h2 => r2 = none ∧ h2 = (hpx Gx H r ((c.1, c.2.1, upd c.2.2.1 n (nI q0), c.2.2.2.1, upd c.2.2.2.2.1 q0 (c.2.2.2.2.1 q0 + 1), c.2.2.2.2.2)) P w Tx)) := by
        refine pm_go [] 60 ⟨fun c1 => ⟨hin, hinq, hinq, rfl, ?_⟩, fun c1 => absurd c1 hne⟩
        rw [hclN, hclq]
        rfl
      refine ⟨(c.1, c.2.1, upd c.2.2.1 n (nI q0), c.2.2.2.1, upd c.2.2.2.2.1 q0 (c.2.2.2.2.1 q0 + 1), c.2.2.2.2.2), pm_in (pm_go [11] 20 ⟨fun c1 => ⟨hin2, ?_⟩, fun c1 => absurd rfl c1⟩), ?_⟩
      · rw [← e2] at key
        rw [← e2]
        exact key
      · refine ⟨by rw [rC_on ho ha0]; exact h1, h2, fun k hk => ?_, fun q hq => ?_⟩
        · show upd c.2.2.1 n (nI q0) k = _
          rw [nu_upd, rO_on ho ha0]
          split
          · rfl
          · exact h3 k (by omega)
        · rw [rC_on ho ha0] at hq
          have hN := rN_step (op := op) (st := st) (eg := eg) n q
          rw [rO_on ho ha0, if_pos rfl] at hN
          show c.2.2.2.1 q = _ ∧ upd c.2.2.2.2.1 q0 (c.2.2.2.2.1 q0 + 1) q = _ ∧ c.2.2.2.2.2 q = _
          dsimp only
          have eL : rL op st eg (n + 1) q = rL op st eg n q := by rw [rL, if_neg (by rw [hS]; simp)]
          have eG : (if rS op st eg n = true ∧ q = rC op st eg n then 0 else G q) = G q := if_neg (by rw [hS]; simp)
          rw [nu_upd, eL, eG]
          refine ⟨(h4 q hq).1, ?_, (h4 q hq).2.2⟩
          by_cases hq2 : q = q0
          · subst hq2
            rw [if_pos rfl, hN, if_pos rfl, (h4 q hq).2.1, nI_1]
          · rw [if_neg hq2, hN, if_neg (fun z => hq2 (Option.some.inj z).symm)]
            exact (h4 q hq).2.1
theorem c_addGuards_c_x (sc : Nat × (Nat → Int32)) (d : Nat) (Gx : pm_E) (H : tH) (r : tR) (c : tR) (P : tP) (w : tW) (Tx : pm_H) (op : Nat → Bool) (st : Nat) (eg : Nat → Bool) (n k q g : Nat) (G : Nat → Nat) (x : Int32) (hn : n ≤ 64) (hk : k < n) (hq : rO op st eg n k = some q) (hx : nI (G q) + x = nI g) (hR : RC op st eg n G c) : ∃ R' : tR, pm_D sc (d + 1) mX3_addGuards [.ref 10, .int (nI k), .int x] (hpx Gx H r c P w Tx) none (hpx Gx H r (R') P w Tx) ∧ RC op st eg n (upN G q g) R' := by
  obtain ⟨h1, h2, h3, h4⟩ := hR
  have hcl := rC_le op st eg n
  have hql := rO_lt n _ _ hq
  have e1 : c.2.2.1 (nI k).toNatClampNeg = nI q := by rw [nu_cl (by omega), h3 k hk, hq]; rfl
  have hin : vp_in (nI k) 64 := nu_in (by omega) (by omega)
  have hne : ¬ c.2.2.1 (nI k).toNatClampNeg = -1 := by rw [e1]; exact en_ne (q := q) (by omega)
  have hinq : vp_in (c.2.2.1 (nI k).toNatClampNeg) 64 := by rw [e1]; exact nu_in (by omega) (by omega)
  refine ⟨(c.1, c.2.1, c.2.2.1, c.2.2.2.1, c.2.2.2.2.1, upd c.2.2.2.2.2 q (nI g)), pm_in (pm_go [] 30 ⟨hin, fun c1 => absurd c1 hne, fun c1 => ⟨hinq, hinq, rfl, ?_⟩⟩), ?_⟩
  · rw [e1, nu_cl (by omega), ← hx, ← (h4 q hql).2.2]
    rfl
  · refine ⟨h1, h2, h3, fun q' hq' => ?_⟩
    show _ ∧ _ ∧ upd c.2.2.2.2.2 q (nI g) q' = _
    rw [nu_upd]
    unfold upN
    refine ⟨(h4 q' hq').1, (h4 q' hq').2.1, ?_⟩
    split
    · rfl
    · exact (h4 q' hq').2.2
theorem c_numberOf_x (sc : Nat × (Nat → Int32)) (d : Nat) (Gx : pm_E) (hw : Int32) (hh : Int32) (hc : Int32) (ho : tA) (hg : tA) (r : tR) (c : tR) (P : tP) (w : tW) (Tx : pm_H) (W x y : Nat) (hW : hw = nI W) : pm_D sc (d + 1) mX1_numberOf [.ref 2, .int (nI x), .int (nI y)] (hpx Gx (hw, hh, hc, ho, hg) r c P w Tx) (some (.int (nI (y * W + x)))) (hpx Gx (hw, hh, hc, ho, hg) r c P w Tx) := by
  refine pm_in (pm_go [] 20 ⟨?_, rfl⟩)
  rw [hW, ← nI_add, ← pk_mul]
  rfl
theorem c_numberCell_x (sc : Nat × (Nat → Int32)) (d : Nat) (Gx : pm_E) (hw : Int32) (hh : Int32) (hc : Int32) (ho : tA) (hg : tA) (r : tR) (c : tR) (P : tP) (w : tW) (Tx : pm_H) (W x y : Nat) (op gd : Nat → Bool) (hW : hw = nI W) (bW : 1 ≤ W ∧ W ≤ 8) (hx : x < W) (hn : y * W + x < 64) (hop : ∀ k, k < 64 → ho k = bI (op k)) (hgd : ∀ k, k < 64 → hg k = bI (gd k))
    (R1 : RC op 1 (egR W) (y * W + x) (rG op 1 (egR W) gd (y * W + x)) r) (R2 : RC op W (egC W) (y * W + x) (rG op W (egC W) gd (y * W + x)) c) :
    ∃ r' c' : tR, pm_D sc (d + 2) mX1_numberCell [.ref 2, .int (nI x), .int (nI y)] (hpx Gx (hw, hh, hc, ho, hg) r c P w Tx) none (hpx Gx (hw, hh, hc, ho, hg) (r') (c') P w Tx) ∧ RC op 1 (egR W) (y * W + x + 1) (rG op 1 (egR W) gd (y * W + x + 1)) r' ∧ RC op W (egC W) (y * W + x + 1) (rG op W (egC W) gd (y * W + x + 1)) c' := by
  have hno := c_numberOf_x sc d Gx hw hh hc ho hg r c P w Tx W x y hW
  have hx8 : x < 8 := by omega
  have hy : y < 64 := by
    have : y * 1 ≤ y * W := Nat.mul_le_mul_left y bW.1
    omega
  have e1 : (y * W + x) % W = x := by rw [Nat.mul_comm, Nat.mul_add_mod, Nat.mod_eq_of_lt hx]
  have e2 : y * W + x < W ↔ y = 0 := by
    constructor
    · intro h
      cases y with
      | zero => rfl
      | succ y => rw [Nat.add_mul] at h; omega
    · intro h; subst h; omega
  generalize y * W + x = n at *
  have hin : vp_in (nI n) 64 := nu_in hn (by omega)
  have hcl : (nI n).toNatClampNeg = n := nu_cl (by omega)
  have eo : ho (nI n).toNatClampNeg = bI (op n) := by rw [hcl, hop n hn]
  have eg : hg (nI n).toNatClampNeg = bI (gd n) := by rw [hcl, hgd n hn]
  cases hO : op n with
  | false =>
    obtain ⟨r1, t1, s1⟩ := c_takeShut_r_x sc d Gx (hw, hh, hc, ho, hg) r c P w Tx op 1 (egR W) n _ hn hO R1
    obtain ⟨c1, t2, s2⟩ := c_takeShut_c_x sc d Gx (hw, hh, hc, ho, hg) r1 c P w Tx op W (egC W) n _ hn hO R2
    have z1 : ∀ q, rG op 1 (egR W) gd n q = rG op 1 (egR W) gd (n + 1) q := fun q => by
      rw [rG_step, rO_shut hO, rO_out n n (Nat.le_refl _), if_neg (by simp)]; rfl
    have z2 : ∀ q, rG op W (egC W) gd n q = rG op W (egC W) gd (n + 1) q := fun q => by
      rw [rG_step, rO_shut hO, rO_out n n (Nat.le_refl _), if_neg (by simp)]; rfl
    refine ⟨r1, c1, pm_in (pm_go [] 40 ⟨_, _, hno, hin, fun q => ?_, fun q => ⟨_, _, t1, _, _, t2, rfl, rfl⟩⟩), RC_G s1 (fun q _ => z1 q), RC_G s2 (fun q _ => z2 q)⟩
    exact absurd (show ho (nI n).toNatClampNeg = 0 by rw [eo, hO]; rfl) q
  | true =>
    have hx1 : (egR W n = true ∧ (if x = 0 then (1 : Int32) else 0) = 1) ∨ (egR W n = false ∧ (if x = 0 then (1 : Int32) else 0) = 0) := by
      unfold egR
      rw [e1]
      by_cases h0 : x = 0
      · left; rw [if_pos h0]; simp [h0]
      · right; rw [if_neg h0]; simp [h0]
    have hy1 : (egC W n = true ∧ (if y = 0 then (1 : Int32) else 0) = 1) ∨ (egC W n = false ∧ (if y = 0 then (1 : Int32) else 0) = 0) := by
      unfold egC
      by_cases h0 : y = 0
      · left; rw [if_pos h0]; exact ⟨decide_eq_true (e2.mpr h0), rfl⟩
      · right; rw [if_neg h0]; exact ⟨decide_eq_false (fun z => h0 (e2.mp z)), rfl⟩
    obtain ⟨r1, t1, s1⟩ := c_takeOpen_r_x sc d Gx (hw, hh, hc, ho, hg) r c P w Tx op 1 (egR W) n _ _ hn (by omega) (by omega) egR_st hO hx1 R1
    obtain ⟨c1, t2, s2⟩ := c_takeOpen_c_x sc d Gx (hw, hh, hc, ho, hg) r1 c P w Tx op W (egC W) n _ _ hn (by omega) (by omega) egC_st hO hy1 R2
    have hne : ¬ ho (nI n).toNatClampNeg = 0 := by rw [eo, hO]; decide
    -- the runs of the cell
    obtain ⟨q1, hq1⟩ : ∃ q, rO op 1 (egR W) (n + 1) n = some q := by
      cases h : rO op 1 (egR W) (n + 1) n with
      | none => rw [rO_op (n + 1) n (by omega), hO] at h; cases h
      | some q => exact ⟨q, rfl⟩
    obtain ⟨q2, hq2⟩ : ∃ q, rO op W (egC W) (n + 1) n = some q := by
      cases h : rO op W (egC W) (n + 1) n with
      | none => rw [rO_op (n + 1) n (by omega), hO] at h; cases h
      | some q => exact ⟨q, rfl⟩
    -- guards but this cell's
    have z1 : ∀ q, (if rS op 1 (egR W) n = true ∧ q = rC op 1 (egR W) n then 0 else rG op 1 (egR W) gd n q) = rG op 1 (egR W) gd n q := fun q => by
      split
      · rename_i h; rw [h.2, rG_new]
      · rfl
    have z2 : ∀ q, (if rS op W (egC W) n = true ∧ q = rC op W (egC W) n then 0 else rG op W (egC W) gd n q) = rG op W (egC W) gd n q := fun q => by
      split
      · rename_i h; rw [h.2, rG_new]
      · rfl
    have s1 := RC_G s1 (G' := rG op 1 (egR W) gd n) (fun q _ => z1 q)
    have s2 := RC_G s2 (G' := rG op W (egC W) gd n) (fun q _ => z2 q)
    have bx : nI x = 0 ↔ x = 0 := by rw [nu_0, nu_eq (by omega) (by omega)]
    have by' : nI y = 0 ↔ y = 0 := by rw [nu_0, nu_eq (by omega) (by omega)]
    cases hG : gd n with
    | false =>
      have g0 : hg (nI n).toNatClampNeg = 0 := by rw [eg, hG]; decide
      have y1 : ∀ q, rG op 1 (egR W) gd n q = rG op 1 (egR W) gd (n + 1) q := fun q => by
        rw [rG_step, if_neg (by rw [hG]; simp)]; rfl
      have y2 : ∀ q, rG op W (egC W) gd n q = rG op W (egC W) gd (n + 1) q := fun q => by
        rw [rG_step, if_neg (by rw [hG]; simp)]; rfl
      have last : pm_Go sc (d + 1) (pm_cd mX1_numberCell) (37, [some (.ref 2), some (.int (nI x)), some (.int (nI y)), some (.int (nI n))], [], (hpx Gx (hw, hh, hc, ho, hg) (r1) (c1) P w Tx)) (fun r2 h2 => r2 = none ∧ h2 = (hpx Gx (hw, hh, hc, ho, hg) (r1) (c1) P w Tx)) :=
        pm_go [] 30 ⟨hin, fun q => ⟨rfl, rfl⟩, fun q => absurd g0 q⟩
      have mid : pm_Go sc (d + 1) (pm_cd mX1_numberCell) (28, [some (.ref 2), some (.int (nI x)), some (.int (nI y)), some (.int (nI n))], [], (hpx Gx (hw, hh, hc, ho, hg) (r1) c P w Tx)) (fun r2 h2 => r2 = none ∧ h2 = (hpx Gx (hw, hh, hc, ho, hg) (r1) (c1) P w Tx)) := by
        refine pm_go [37] 30 ⟨fun q => ?_, fun q => ?_⟩
        · have q0 : ¬ y = 0 := fun z => q (by'.mpr z)
          rw [if_neg q0] at t2
          exact ⟨_, _, t2, last⟩
        · rw [if_pos (by'.mp q)] at t2
          exact ⟨_, _, t2, last⟩
      refine ⟨r1, c1, pm_in (pm_go [28] 60 ⟨_, _, hno, hin, fun q => ⟨fun q => ?_, fun q => ?_⟩, fun q => absurd q hne⟩), RC_G s1 (fun q _ => y1 q), RC_G s2 (fun q _ => y2 q)⟩
      · have q0 : ¬ x = 0 := fun z => q (bx.mpr z)
        rw [if_neg q0] at t1
        exact ⟨_, _, t1, mid⟩
      · rw [if_pos (bx.mp q)] at t1
        exact ⟨_, _, t1, mid⟩
    | true =>
      have g0 : ¬ hg (nI n).toNatClampNeg = 0 := by rw [eg, hG]; decide
      obtain ⟨r3, t3, s3⟩ := c_addGuards_r_x sc d Gx (hw, hh, hc, ho, hg) r1 c1 P w Tx op 1 (egR W) (n + 1) n q1 (rG op 1 (egR W) gd n q1 + 1) (rG op 1 (egR W) gd n) 1 (by omega) (by omega) hq1 (nI_1 _) s1
      obtain ⟨c3, t4, s4⟩ := c_addGuards_c_x sc d Gx (hw, hh, hc, ho, hg) r3 c1 P w Tx op W (egC W) (n + 1) n q2 (rG op W (egC W) gd n q2 + 1) (rG op W (egC W) gd n) 1 (by omega) (by omega) hq2 (nI_1 _) s2
      have y1 : ∀ q, upN (rG op 1 (egR W) gd n) q1 (rG op 1 (egR W) gd n q1 + 1) q = rG op 1 (egR W) gd (n + 1) q := fun q => by
        rw [rG_step, hq1]
        unfold upN
        by_cases hqq : q = q1
        · subst hqq; rw [if_pos rfl, if_pos ⟨rfl, hG⟩]
        · rw [if_neg hqq, if_neg (fun z => hqq (Option.some.inj z.1).symm)]; rfl
      have y2 : ∀ q, upN (rG op W (egC W) gd n) q2 (rG op W (egC W) gd n q2 + 1) q = rG op W (egC W) gd (n + 1) q := fun q => by
        rw [rG_step, hq2]
        unfold upN
        by_cases hqq : q = q2
        · subst hqq; rw [if_pos rfl, if_pos ⟨rfl, hG⟩]
        · rw [if_neg hqq, if_neg (fun z => hqq (Option.some.inj z.1).symm)]; rfl
      have last : pm_Go sc (d + 1) (pm_cd mX1_numberCell) (37, [some (.ref 2), some (.int (nI x)), some (.int (nI y)), some (.int (nI n))], [], (hpx Gx (hw, hh, hc, ho, hg) (r1) (c1) P w Tx)) (fun r2 h2 => r2 = none ∧ h2 = (hpx Gx (hw, hh, hc, ho, hg) (r3) (c3) P w Tx)) :=
        pm_go [] 30 ⟨hin, fun q => absurd q g0, fun q => ⟨_, _, t3, _, _, t4, rfl, rfl⟩⟩
      have mid : pm_Go sc (d + 1) (pm_cd mX1_numberCell) (28, [some (.ref 2), some (.int (nI x)), some (.int (nI y)), some (.int (nI n))], [], (hpx Gx (hw, hh, hc, ho, hg) (r1) c P w Tx)) (fun r2 h2 => r2 = none ∧ h2 = (hpx Gx (hw, hh, hc, ho, hg) (r3) (c3) P w Tx)) := by
        refine pm_go [37] 30 ⟨fun q => ?_, fun q => ?_⟩
        · have q0 : ¬ y = 0 := fun z => q (by'.mpr z)
          rw [if_neg q0] at t2
          exact ⟨_, _, t2, last⟩
        · rw [if_pos (by'.mp q)] at t2
          exact ⟨_, _, t2, last⟩
      refine ⟨r3, c3, pm_in (pm_go [28] 60 ⟨_, _, hno, hin, fun q => ⟨fun q => ?_, fun q => ?_⟩, fun q => absurd q hne⟩), RC_G s3 (fun q _ => y1 q), RC_G s4 (fun q _ => y2 q)⟩
      · have q0 : ¬ x = 0 := fun z => q (bx.mpr z)
        rw [if_neg q0] at t1
        exact ⟨_, _, t1, mid⟩
      · rw [if_pos (bx.mp q)] at t1
        exact ⟨_, _, t1, mid⟩
theorem c_numberRuns_x (sc : Nat × (Nat → Int32)) (d : Nat) (Gx : pm_E) (hw : Int32) (hh : Int32) (hc : Int32) (ho : tA) (hg : tA) (r : tR) (c : tR) (P : tP) (w : tW) (Tx : pm_H) (W Hh : Nat) (op gd : Nat → Bool) (hW : hw = nI W) (hH : hh = nI Hh) (bW : 1 ≤ W ∧ W ≤ 8) (bH : 1 ≤ Hh ∧ Hh ≤ 8) (hop : ∀ k, k < 64 → ho k = bI (op k)) (hgd : ∀ k, k < 64 → hg k = bI (gd k)) :
    ∃ r' c' : tR, pm_D sc (d + 3) mX1_numberRuns [.ref 2] (hpx Gx (hw, hh, hc, ho, hg) r c P w Tx) none (hpx Gx (hw, hh, hc, ho, hg) (r') (c') P w Tx) ∧ HR W Hh op gd r' c' := by
  have bHW : Hh * W ≤ 64 := Nat.mul_le_mul bH.2 bW.2
  have outer : ∀ (m y : Nat) (yy : Int32) (lo : Option Value) (r c : tR), y + m = Hh → yy = nI y → RC op 1 (egR W) (y * W) (rG op 1 (egR W) gd (y * W)) r → RC op W (egC W) (y * W) (rG op W (egC W) gd (y * W)) c →
      ∃ r' c' : tR, pm_Go sc (d + 2) (pm_cd mX1_numberRuns) (11, [some (.ref 2), some (.int yy), lo], [], (hpx Gx (hw, hh, hc, ho, hg) r c P w Tx)) (fun r2 h2 => r2 = none ∧ h2 = (hpx Gx (hw, hh, hc, ho, hg) (r') (c') P w Tx)) ∧ HR W Hh op gd r' c' := by
    intro m
    induction m with
    | zero =>
      intro y yy lo r c hy hyy R1 R2
      subst hyy
      have : y = Hh := by omega
      subst this
      exact ⟨r, c, pm_go [] 20 ⟨fun q => ⟨rfl, rfl⟩, fun q => absurd (show hh ≤ nI y by rw [hH, nu_le (by omega) (by omega)]; exact Nat.le_refl _) q⟩, R1, R2⟩
    | succ m ih =>
      intro y yy lo r c hy hyy R1 R2
      subst hyy
      have hyW : (y + 1) * W ≤ Hh * W := Nat.mul_le_mul_right W (by omega)
      rw [Nat.add_mul, Nat.one_mul] at hyW
      have inner : ∀ (k x : Nat) (xx : Int32) (r c : tR), x + k = W → xx = nI x → RC op 1 (egR W) (y * W + x) (rG op 1 (egR W) gd (y * W + x)) r → RC op W (egC W) (y * W + x) (rG op W (egC W) gd (y * W + x)) c →
          ∃ r' c' : tR, pm_Go sc (d + 2) (pm_cd mX1_numberRuns) (17, [some (.ref 2), some (.int (nI y)), some (.int xx)], [], (hpx Gx (hw, hh, hc, ho, hg) r c P w Tx)) (fun r2 h2 => r2 = none ∧ h2 = (hpx Gx (hw, hh, hc, ho, hg) (r') (c') P w Tx)) ∧ HR W Hh op gd r' c' := by
        intro k
        induction k with
        | zero =>
          intro x xx r c hx hxx R1 R2
          subst hxx
          have : x = W := by omega
          subst this
          obtain ⟨r', c', g1, g2⟩ := ih (y + 1) (nI y + 1) (some (.int (nI x))) r c (by omega) (nI_1 y) (by rw [Nat.add_mul, Nat.one_mul]; exact R1) (by rw [Nat.add_mul, Nat.one_mul]; exact R2)
          exact ⟨r', c', pm_go1 [11] 20 ⟨fun q => g1, fun q => absurd (show hw ≤ nI x by rw [hW, nu_le (by omega) (by omega)]; exact Nat.le_refl _) q⟩, g2⟩
        | succ k ihk =>
          intro x xx r c hx hxx R1 R2
          subst hxx
          obtain ⟨r1, c1, t1, s1, s2⟩ := c_numberCell_x sc d Gx hw hh hc ho hg r c P w Tx W x y op gd hW bW (by omega) (by omega) hop hgd R1 R2
          obtain ⟨r', c', g1, g2⟩ := ihk (x + 1) (nI x + 1) r1 c1 (by omega) (nI_1 x) s1 s2
          exact ⟨r', c', pm_go1 [17] 20 ⟨fun q => absurd ((nu_le (a := W) (b := x) (by omega) (by omega)).mp (by rw [← hW]; exact q)) (by omega), fun q => ⟨_, _, t1, g1⟩⟩, g2⟩
      obtain ⟨r', c', g1, g2⟩ := inner W 0 0 r c (by omega) nu_0 R1 R2
      exact ⟨r', c', pm_go1 [17] 20 ⟨fun q => absurd ((nu_le (a := Hh) (b := y) (by omega) (by omega)).mp (by rw [← hH]; exact q)) (by omega), fun q => g1⟩, g2⟩
  have hz1 : RC op 1 (egR W) (0 * W) (rG op 1 (egR W) gd (0 * W)) (0, 1, r.2.2) := by
    rw [Nat.zero_mul]
    exact ⟨nu_0, nu_1, fun k hk => absurd hk (by omega), fun q hq => absurd hq (Nat.not_lt_zero q)⟩
  have hz2 : RC op W (egC W) (0 * W) (rG op W (egC W) gd (0 * W)) (0, hw, c.2.2) := by
    rw [Nat.zero_mul]
    exact ⟨nu_0, hW, fun k hk => absurd hk (by omega), fun q hq => absurd hq (Nat.not_lt_zero q)⟩
  obtain ⟨r', c', g1, g2⟩ := outer Hh 0 0 none (0, 1, r.2.2) (0, hw, c.2.2) (by omega) nu_0 hz1 hz2
  have k1 := c_runsClear_r_x sc (d + 1) Gx (hw, hh, hc, ho, hg) r c P w Tx 1
  have k2 := c_runsClear_c_x sc (d + 1) Gx (hw, hh, hc, ho, hg) (0, 1, r.2.2) c P w Tx hw
  exact ⟨r', c', pm_in (pm_go [11] 30 ⟨_, _, k1, _, _, k2, g1⟩), g2⟩
theorem c_hallClear_x (sc : Nat × (Nat → Int32)) (d : Nat) (Gx : pm_E) (hw : Int32) (hh : Int32) (hc : Int32) (ho : tA) (hg : tA) (r : tR) (c : tR) (P : tP) (w : tW) (Tx : pm_H) (W Hh : Nat) (bW : 1 ≤ W ∧ W ≤ 8) (bH : 1 ≤ Hh ∧ Hh ≤ 8) :
    ∃ (ho' hg' : tA) (r' c' : tR), pm_D sc (d + 4) mX1_clear [.ref 2, .int (nI W), .int (nI Hh)] (hpx Gx (hw, hh, hc, ho, hg) r c P w Tx) none (hpx Gx ((nI W, nI Hh, 0, ho', hg')) (r') (c') P w Tx) ∧ (∀ k, k < 64 → ho' k = 1) ∧ (∀ k, k < 64 → hg' k = 0) ∧ HR W Hh (fun _ => true) (fun _ => false) r' c' := by
  have loop : ∀ (m k : Nat) (x : Int32) (f g : tA), k + m = 64 → x = nI k → (∀ i, i < k → f i = 1 ∧ g i = 0) → ∃ (ho' hg' : tA) (r' c' : tR), pm_Go sc (d + 3) (pm_cd mX1_clear) (11, [some (.ref 2), some (.int (nI W)), some (.int (nI Hh)), some (.int x)], [], (hpx Gx ((nI W, nI Hh, 0, f, g)) r c P w Tx)) (fun r2 h2 => r2 = none ∧ h2 = (hpx Gx ((nI W, nI Hh, 0, ho', hg')) (r') (c') P w Tx)) ∧ (∀ k, k < 64 → ho' k = 1) ∧ (∀ k, k < 64 → hg' k = 0) ∧ HR W Hh (fun _ => true) (fun _ => false) r' c' := by
    intro m
    induction m with
    | zero =>
      intro k x f g hk hx hf
      subst hx
      have : k = 64 := by omega
      subst this
      obtain ⟨r', c', g1, g2⟩ := c_numberRuns_x sc d Gx (nI W) (nI Hh) 0 f g r c P w Tx W Hh (fun _ => true) (fun _ => false) rfl rfl bW bH (fun k hk => (hf k hk).1) (fun k hk => (hf k hk).2)
      exact ⟨f, g, r', c', pm_go [] 20 ⟨fun q => ⟨_, _, g1, rfl, rfl⟩, fun q => absurd (by decide) q⟩, fun k hk => (hf k hk).1, fun k hk => (hf k hk).2, g2⟩
    | succ m ih =>
      intro k x f g hk hx hf
      subst hx
      have hin : vp_in (nI k) 64 := nu_in (by omega) (by omega)
      obtain ⟨ho', hg', r', c', g1, g2⟩ := ih (k + 1) (nI k + 1) (upd f (nI k).toNatClampNeg 1) (upd g (nI k).toNatClampNeg 0) (by omega) (nI_1 k) (fun i hi => by
        rw [nu_cl (by omega), nu_upd, nu_upd]
        by_cases hik : i = k
        · rw [if_pos hik, if_pos hik]; exact ⟨rfl, rfl⟩
        · rw [if_neg hik, if_neg hik]; exact hf i (by omega))
      exact ⟨ho', hg', r', c', pm_go1 [11] 30 ⟨fun q => absurd ((nu_le (a := 64) (b := k) (by omega) (by omega)).mp (by rw [← nu_64]; exact q)) (by omega), fun q => ⟨hin, Or.inr rfl, hin, Or.inl rfl, g1⟩⟩, g2⟩
  obtain ⟨ho', hg', r', c', g1, g2⟩ := loop 64 0 0 ho hg (by omega) nu_0 (fun i hi => absurd hi (by omega))
  exact ⟨ho', hg', r', c', pm_in (pm_go [11] 20 g1), g2⟩
