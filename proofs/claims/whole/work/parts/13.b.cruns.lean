/-! THE CLASS'S Runs: rows (@5) and columns (@10) -/
def en (o : Option Nat) : Int32 := match o with
  | none => -1
  | some q => nI q
theorem en_ne {q : Nat} (h : q < 1000000) : ¬ en (some q) = -1 := by
  show ¬ nI q = -1
  intro z
  have h1 := nu_ti h
  rw [z] at h1
  have h2 : (-1 : Int32).toInt = -1 := by decide
  omega
def bI (b : Bool) : Int32 := if b then 1 else 0
theorem bI_01 (b : Bool) : bI b = 0 ∨ bI b = 1 := by cases b <;> decide
theorem bI_0 {b : Bool} : bI b = 0 ↔ b = false := by cases b <;> decide
/-- whether a run is watched -/
def rW (G : Nat → Nat) (o : Option Nat) : Bool := match o with
  | none => false
  | some q => decide (0 < G q)
/-- what an object of Runs holds, with the cells below n taken; G: guards of each run -/
def RC (op : Nat → Bool) (st : Nat) (eg : Nat → Bool) (n : Nat) (G : Nat → Nat) (R : tR) : Prop :=
  R.1 = nI (rC op st eg n) ∧ R.2.1 = nI st ∧ (∀ k, k < n → R.2.2.1 k = en (rO op st eg n k)) ∧ ∀ q, q < rC op st eg n → R.2.2.2.1 q = nI (rL op st eg n q) ∧ R.2.2.2.2.1 q = nI (rN op st eg n q) ∧ R.2.2.2.2.2 q = nI (G q)
theorem rC_le (op : Nat → Bool) (st : Nat) (eg : Nat → Bool) (n : Nat) : rC op st eg n ≤ n := by
  rw [rC_ct]; exact ct_le _ _
theorem c_runsClear_r (sc : Nat × (Nat → Int32)) (d : Nat) (H : tH) (r : tR) (c : tR) (P : tP) (w : tW) (B : tB) (M : tM) (N : tN) (O : tO) (x : Int32) : pm_D sc (d + 1) mX3_clear [.ref 5, .int x] (hp H r c P w B M N O) none (hp H ((0, x, r.2.2)) c P w B M N O) :=
  pm_in (pm_go [] 20 ⟨rfl, rfl⟩)
theorem c_takeShut_r (sc : Nat × (Nat → Int32)) (d : Nat) (H : tH) (r : tR) (c : tR) (P : tP) (w : tW) (B : tB) (M : tM) (N : tN) (O : tO) (op : Nat → Bool) (st : Nat) (eg : Nat → Bool) (n : Nat) (G : Nat → Nat) (hn : n < 64) (ho : op n = false) (hR : RC op st eg n G r) : ∃ R' : tR, pm_D sc (d + 1) mX3_takeShut [.ref 5, .int (nI n)] (hp H r c P w B M N O) none (hp H (R') c P w B M N O) ∧ RC op st eg (n + 1) G R' := by
  refine ⟨(r.1, r.2.1, upd r.2.2.1 n (-1), r.2.2.2), pm_in (pm_go [] 20 ⟨nu_in hn (by omega), rfl, ?_⟩), ?_⟩
  · rw [nu_cl (by omega)]; rfl
  · obtain ⟨h1, h2, h3, h4⟩ := hR
    refine ⟨by rw [rC_shut ho]; exact h1, h2, fun k hk => ?_, fun q hq => ?_⟩
    · show upd _ n (-1) k = _
      rw [nu_upd, rO_shut ho]
      split
      · rename_i hkn; rw [hkn, rO_out n n (Nat.le_refl _)]; rfl
      · exact h3 k (by omega)
    · rw [rC_shut ho] at hq
      have e1 : rL op st eg (n + 1) q = rL op st eg n q := by rw [rL, if_neg (by rw [rS_shut ho]; simp)]
      have e2 : rN op st eg (n + 1) q = rN op st eg n q := by rw [rN_step, rO_shut ho, rO_out n n (Nat.le_refl _), if_neg (by simp)]; rfl
      rw [e1, e2]
      exact h4 q hq
theorem c_takeOpen_r (sc : Nat × (Nat → Int32)) (d : Nat) (H : tH) (r : tR) (c : tR) (P : tP) (w : tW) (B : tB) (M : tM) (N : tN) (O : tO) (op : Nat → Bool) (st : Nat) (eg : Nat → Bool) (n : Nat) (G : Nat → Nat) (x : Int32) (hn : n < 64) (hst : st ≤ 8) (hst1 : 1 ≤ st) (heg : ∀ k, eg k = false → st ≤ k) (ho : op n = true) (hx : (eg n = true ∧ x = 1) ∨ (eg n = false ∧ x = 0)) (hR : RC op st eg n G r) : ∃ R' : tR, pm_D sc (d + 1) mX3_takeOpen [.ref 5, .int (nI n), .int x] (hp H r c P w B M N O) none (hp H (R') c P w B M N O) ∧ RC op st eg (n + 1) (fun q => if rS op st eg n = true ∧ q = rC op st eg n then 0 else G q) R' := by
  obtain ⟨h1, h2, h3, h4⟩ := hR
  have hcl := rC_le op st eg n
  have hin : vp_in (nI n) 64 := nu_in hn (by omega)
  have hinC : vp_in r.1 64 := by rw [h1]; exact nu_in (by omega) (by omega)
  have hclN : (nI n).toNatClampNeg = n := nu_cl (by omega)
  have hclC : r.1.toNatClampNeg = rC op st eg n := by rw [h1]; exact nu_cl (by omega)
  cases ha : rA st eg (rO op st eg n) n with
  | none =>
    have hS := rS_new ho ha
    have key : pm_Go sc d (pm_cd mX3_takeOpen) (11, [some (.ref 5), some (.int (nI n)), some (.int x), none], [.int (-1)], (hp H r c P w B M N O)) (fun r2 h2 => r2 = none ∧ h2 = (hp H ((r.1 + 1, r.2.1, upd r.2.2.1 n r.1, upd r.2.2.2.1 (rC op st eg n) (nI n), upd (upd r.2.2.2.2.1 (rC op st eg n) 0) (rC op st eg n) (0 + 1), upd r.2.2.2.2.2 (rC op st eg n) 0)) c P w B M N O)) := by
      refine pm_go [] 60 ⟨fun c1 => absurd rfl c1, fun c1 => ⟨hinC, hinC, hinC, hin, hinC, hinC, rfl, ?_⟩⟩
      rw [hclC, hclN, nu_updS]
      rfl
    refine ⟨(r.1 + 1, r.2.1, upd r.2.2.1 n r.1, upd r.2.2.2.1 (rC op st eg n) (nI n), upd (upd r.2.2.2.2.1 (rC op st eg n) 0) (rC op st eg n) (0 + 1), upd r.2.2.2.2.2 (rC op st eg n) 0), pm_in ?_, ?_⟩
    · rcases hx with ⟨he, rfl⟩ | ⟨he, rfl⟩
      · exact pm_go [11] 20 ⟨fun c1 => absurd c1 (by decide), fun c1 => key⟩
      · unfold rA at ha
        rw [he] at ha
        have hge := heg n he
        have ha : rO op st eg n (n - st) = none := by simpa using ha
        have e1 : nI n - r.2.1 = nI (n - st) := by rw [h2]; exact pk_sub hge
        have hin2 : vp_in (nI n - r.2.1) 64 := by rw [e1]; exact nu_in (by omega) (by omega)
        have e2 : r.2.2.1 (nI n - r.2.1).toNatClampNeg = -1 := by rw [e1, nu_cl (by omega), h3 _ (by omega), ha]; rfl
        refine pm_go [11] 20 ⟨fun c1 => ⟨hin2, ?_⟩, fun c1 => absurd rfl c1⟩
        rw [← e2] at key
        exact key
    · refine ⟨?_, h2, fun k hk => ?_, fun q hq => ?_⟩
      · rw [rC_new ho ha]
        show r.1 + 1 = _
        rw [h1, nI_1]
      · show upd r.2.2.1 n r.1 k = _
        rw [nu_upd, rO_new ho ha]
        split
        · rw [h1]; rfl
        · exact h3 k (by omega)
      · rw [rC_new ho ha] at hq
        have hN := rN_step (op := op) (st := st) (eg := eg) n q
        rw [rO_new ho ha, if_pos rfl] at hN
        show upd r.2.2.2.1 (rC op st eg n) (nI n) q = _ ∧ upd (upd r.2.2.2.2.1 (rC op st eg n) 0) (rC op st eg n) (0 + 1) q = _ ∧ upd r.2.2.2.2.2 (rC op st eg n) 0 q = _
        dsimp only
        rw [nu_uu, nu_upd, nu_upd, nu_upd, rL]
        by_cases hq2 : q = rC op st eg n
        · subst hq2
          rw [if_pos rfl, if_pos rfl, if_pos rfl, if_pos ⟨hS, rfl⟩, if_pos ⟨hS, rfl⟩, hN, rN_new, if_pos rfl]
          exact ⟨rfl, rfl, rfl⟩
        · rw [if_neg hq2, if_neg hq2, if_neg hq2, if_neg (fun z => hq2 z.2), if_neg (fun z => hq2 z.2), hN, if_neg (fun z => hq2 (Option.some.inj z).symm)]
          exact h4 q (by omega)
  | some q0 =>
    have hS := rS_on ho ha
    have ha0 := ha
    unfold rA at ha
    rcases hx with ⟨he, rfl⟩ | ⟨he, rfl⟩
    · rw [he] at ha; cases ha
    · rw [he] at ha
      have hge := heg n he
      have ha : rO op st eg n (n - st) = some q0 := by simpa using ha
      have hq0 := rO_lt n _ _ ha
      have e1 : nI n - r.2.1 = nI (n - st) := by rw [h2]; exact pk_sub hge
      have hin2 : vp_in (nI n - r.2.1) 64 := by rw [e1]; exact nu_in (by omega) (by omega)
      have e2 : r.2.2.1 (nI n - r.2.1).toNatClampNeg = nI q0 := by rw [e1, nu_cl (by omega), h3 _ (by omega), ha]; rfl
      have hinq : vp_in (nI q0) 64 := nu_in (by omega) (by omega)
      have hclq : (nI q0).toNatClampNeg = q0 := nu_cl (by omega)
      have hne : ¬ nI q0 = -1 := en_ne (q := q0) (by omega)
      have key : pm_Go sc d (pm_cd mX3_takeOpen) (11, [some (.ref 5), some (.int (nI n)), some (.int 0), none], [.int (nI q0)], (hp H r c P w B M N O)) (fun r2 h2 => r2 = none ∧ h2 = (hp H ((r.1, r.2.1, upd r.2.2.1 n (nI q0), r.2.2.2.1, upd r.2.2.2.2.1 q0 (r.2.2.2.2.1 q0 + 1), r.2.2.2.2.2)) c P w B M N O)) := by
        refine pm_go [] 60 ⟨fun c1 => ⟨hin, hinq, hinq, rfl, ?_⟩, fun c1 => absurd c1 hne⟩
        rw [hclN, hclq]
        rfl
      refine ⟨(r.1, r.2.1, upd r.2.2.1 n (nI q0), r.2.2.2.1, upd r.2.2.2.2.1 q0 (r.2.2.2.2.1 q0 + 1), r.2.2.2.2.2), pm_in (pm_go [11] 20 ⟨fun c1 => ⟨hin2, ?_⟩, fun c1 => absurd rfl c1⟩), ?_⟩
      · rw [← e2] at key
        rw [← e2]
        exact key
      · refine ⟨by rw [rC_on ho ha0]; exact h1, h2, fun k hk => ?_, fun q hq => ?_⟩
        · show upd r.2.2.1 n (nI q0) k = _
          rw [nu_upd, rO_on ho ha0]
          split
          · rfl
          · exact h3 k (by omega)
        · rw [rC_on ho ha0] at hq
          have hN := rN_step (op := op) (st := st) (eg := eg) n q
          rw [rO_on ho ha0, if_pos rfl] at hN
          show r.2.2.2.1 q = _ ∧ upd r.2.2.2.2.1 q0 (r.2.2.2.2.1 q0 + 1) q = _ ∧ r.2.2.2.2.2 q = _
          dsimp only
          have eL : rL op st eg (n + 1) q = rL op st eg n q := by rw [rL, if_neg (by rw [hS]; simp)]
          have eG : (if rS op st eg n = true ∧ q = rC op st eg n then 0 else G q) = G q := if_neg (by rw [hS]; simp)
          rw [nu_upd, eL, eG]
          refine ⟨(h4 q hq).1, ?_, (h4 q hq).2.2⟩
          by_cases hq2 : q = q0
          · subst hq2
            rw [if_pos rfl, hN, if_pos rfl, (h4 q hq).2.1, nI_1]
          · rw [if_neg hq2, hN, if_neg (fun z => hq2 (Option.some.inj z).symm)]
            exact (h4 q hq).2.1
theorem c_addGuards_r (sc : Nat × (Nat → Int32)) (d : Nat) (H : tH) (r : tR) (c : tR) (P : tP) (w : tW) (B : tB) (M : tM) (N : tN) (O : tO) (op : Nat → Bool) (st : Nat) (eg : Nat → Bool) (n k q g : Nat) (G : Nat → Nat) (x : Int32) (hn : n ≤ 64) (hk : k < n) (hq : rO op st eg n k = some q) (hx : nI (G q) + x = nI g) (hR : RC op st eg n G r) : ∃ R' : tR, pm_D sc (d + 1) mX3_addGuards [.ref 5, .int (nI k), .int x] (hp H r c P w B M N O) none (hp H (R') c P w B M N O) ∧ RC op st eg n (upN G q g) R' := by
  obtain ⟨h1, h2, h3, h4⟩ := hR
  have hcl := rC_le op st eg n
  have hql := rO_lt n _ _ hq
  have e1 : r.2.2.1 (nI k).toNatClampNeg = nI q := by rw [nu_cl (by omega), h3 k hk, hq]; rfl
  have hin : vp_in (nI k) 64 := nu_in (by omega) (by omega)
  have hne : ¬ r.2.2.1 (nI k).toNatClampNeg = -1 := by rw [e1]; exact en_ne (q := q) (by omega)
  have hinq : vp_in (r.2.2.1 (nI k).toNatClampNeg) 64 := by rw [e1]; exact nu_in (by omega) (by omega)
  refine ⟨(r.1, r.2.1, r.2.2.1, r.2.2.2.1, r.2.2.2.2.1, upd r.2.2.2.2.2 q (nI g)), pm_in (pm_go [] 30 ⟨hin, fun c1 => absurd c1 hne, fun c1 => ⟨hinq, hinq, rfl, ?_⟩⟩), ?_⟩
  · rw [e1, nu_cl (by omega), ← hx, ← (h4 q hql).2.2]
    rfl
  · refine ⟨h1, h2, h3, fun q' hq' => ?_⟩
    show _ ∧ _ ∧ upd r.2.2.2.2.2 q (nI g) q' = _
    rw [nu_upd]
    unfold upN
    refine ⟨(h4 q' hq').1, (h4 q' hq').2.1, ?_⟩
    split
    · rfl
    · exact (h4 q' hq').2.2
theorem c_isWatched_r (sc : Nat × (Nat → Int32)) (d : Nat) (H : tH) (r : tR) (c : tR) (P : tP) (w : tW) (B : tB) (M : tM) (N : tN) (O : tO) (op : Nat → Bool) (st : Nat) (eg : Nat → Bool) (n k : Nat) (G : Nat → Nat) (hn : n ≤ 64) (hk : k < n) (hG : ∀ q, G q ≤ 64) (hR : RC op st eg n G r) : pm_D sc (d + 1) mX3_isWatched [.ref 5, .int (nI k)] (hp H r c P w B M N O) (some (.int (bI (rW G (rO op st eg n k))))) (hp H r c P w B M N O) := by
  obtain ⟨h1, h2, h3, h4⟩ := hR
  have hcl := rC_le op st eg n
  have hin : vp_in (nI k) 64 := nu_in (by omega) (by omega)
  cases hq : rO op st eg n k with
  | none =>
    have e1 : r.2.2.1 (nI k).toNatClampNeg = -1 := by rw [nu_cl (by omega), h3 k hk, hq]; rfl
    exact pm_in (pm_go [] 30 ⟨hin, fun c1 => ⟨Or.inl rfl, rfl, rfl⟩, fun c1 => absurd e1 c1⟩)
  | some q =>
    have hql := rO_lt n _ _ hq
    have e1 : r.2.2.1 (nI k).toNatClampNeg = nI q := by rw [nu_cl (by omega), h3 k hk, hq]; rfl
    have hne : ¬ r.2.2.1 (nI k).toNatClampNeg = -1 := by rw [e1]; exact en_ne (q := q) (by omega)
    have hinq : vp_in (r.2.2.1 (nI k).toNatClampNeg) 64 := by rw [e1]; exact nu_in (by omega) (by omega)
    have e2 : r.2.2.2.2.2 (r.2.2.1 (nI k).toNatClampNeg).toNatClampNeg ≤ 0 ↔ ¬ 0 < G q := by
      rw [e1, nu_cl (by omega), (h4 q hql).2.2, nu_0, nu_le (by have := hG q; omega) (by omega)]; omega
    by_cases hg : 0 < G q
    · rw [show rW G (some q) = true from decide_eq_true hg]
      exact pm_in (pm_go [] 30 ⟨hin, fun c1 => absurd c1 hne, fun c1 => ⟨hinq, fun c2 => absurd hg (e2.mp c2), fun c2 => ⟨Or.inr rfl, rfl, rfl⟩⟩⟩)
    · rw [show rW G (some q) = false from decide_eq_false hg]
      exact pm_in (pm_go [] 30 ⟨hin, fun c1 => absurd c1 hne, fun c1 => ⟨hinq, fun c2 => ⟨Or.inl rfl, rfl, rfl⟩, fun c2 => absurd (e2.mpr hg) c2⟩⟩)
theorem c_lengthAt_r (sc : Nat × (Nat → Int32)) (d : Nat) (H : tH) (r : tR) (c : tR) (P : tP) (w : tW) (B : tB) (M : tM) (N : tN) (O : tO) (op : Nat → Bool) (st : Nat) (eg : Nat → Bool) (n k q : Nat) (G : Nat → Nat) (hn : n ≤ 64) (hk : k < n) (hq : rO op st eg n k = some q) (hR : RC op st eg n G r) : pm_D sc (d + 1) mX3_lengthAt [.ref 5, .int (nI k)] (hp H r c P w B M N O) (some (.int (nI (rN op st eg n q)))) (hp H r c P w B M N O) := by
  obtain ⟨h1, h2, h3, h4⟩ := hR
  have hcl := rC_le op st eg n
  have hin : vp_in (nI k) 64 := nu_in (by omega) (by omega)
  have hql := rO_lt n _ _ hq
  have e1 : r.2.2.1 (nI k).toNatClampNeg = nI q := by rw [nu_cl (by omega), h3 k hk, hq]; rfl
  have hne : ¬ r.2.2.1 (nI k).toNatClampNeg = -1 := by rw [e1]; exact en_ne (q := q) (by omega)
  have hinq : vp_in (r.2.2.1 (nI k).toNatClampNeg) 64 := by rw [e1]; exact nu_in (by omega) (by omega)
  refine pm_in (pm_go [] 30 ⟨hin, fun c1 => ⟨hinq, ?_, rfl⟩, fun c1 => absurd c1 hne⟩)
  rw [e1, nu_cl (by omega), (h4 q hql).2.1]
theorem c_cellOf_r (sc : Nat × (Nat → Int32)) (d : Nat) (H : tH) (r : tR) (c : tR) (P : tP) (w : tW) (B : tB) (M : tM) (N : tN) (O : tO) (op : Nat → Bool) (st : Nat) (eg : Nat → Bool) (n q i : Nat) (G : Nat → Nat) (hn : n ≤ 64) (hq : q < rC op st eg n) (hR : RC op st eg n G r) : pm_D sc (d + 1) mX3_cellOf [.ref 5, .int (nI q), .int (nI i)] (hp H r c P w B M N O) (some (.int (nI (rL op st eg n q + i * st)))) (hp H r c P w B M N O) := by
  obtain ⟨h1, h2, h3, h4⟩ := hR
  have hcl := rC_le op st eg n
  refine pm_in (pm_go [] 30 ⟨nu_in (by omega) (by omega), ?_, rfl⟩)
  rw [nu_cl (by omega), (h4 q hq).1, h2, ← nI_add, ← pk_mul]
  rfl
theorem c_runsClear_c (sc : Nat × (Nat → Int32)) (d : Nat) (H : tH) (r : tR) (c : tR) (P : tP) (w : tW) (B : tB) (M : tM) (N : tN) (O : tO) (x : Int32) : pm_D sc (d + 1) mX3_clear [.ref 10, .int x] (hp H r c P w B M N O) none (hp H r ((0, x, c.2.2)) P w B M N O) :=
  pm_in (pm_go [] 20 ⟨rfl, rfl⟩)
theorem c_takeShut_c (sc : Nat × (Nat → Int32)) (d : Nat) (H : tH) (r : tR) (c : tR) (P : tP) (w : tW) (B : tB) (M : tM) (N : tN) (O : tO) (op : Nat → Bool) (st : Nat) (eg : Nat → Bool) (n : Nat) (G : Nat → Nat) (hn : n < 64) (ho : op n = false) (hR : RC op st eg n G c) : ∃ R' : tR, pm_D sc (d + 1) mX3_takeShut [.ref 10, .int (nI n)] (hp H r c P w B M N O) none (hp H r (R') P w B M N O) ∧ RC op st eg (n + 1) G R' := by
  refine ⟨(c.1, c.2.1, upd c.2.2.1 n (-1), c.2.2.2), pm_in (pm_go [] 20 ⟨nu_in hn (by omega), rfl, ?_⟩), ?_⟩
  · rw [nu_cl (by omega)]; rfl
  · obtain ⟨h1, h2, h3, h4⟩ := hR
    refine ⟨by rw [rC_shut ho]; exact h1, h2, fun k hk => ?_, fun q hq => ?_⟩
    · show upd _ n (-1) k = _
      rw [nu_upd, rO_shut ho]
      split
      · rename_i hkn; rw [hkn, rO_out n n (Nat.le_refl _)]; rfl
      · exact h3 k (by omega)
    · rw [rC_shut ho] at hq
      have e1 : rL op st eg (n + 1) q = rL op st eg n q := by rw [rL, if_neg (by rw [rS_shut ho]; simp)]
      have e2 : rN op st eg (n + 1) q = rN op st eg n q := by rw [rN_step, rO_shut ho, rO_out n n (Nat.le_refl _), if_neg (by simp)]; rfl
      rw [e1, e2]
      exact h4 q hq
theorem c_takeOpen_c (sc : Nat × (Nat → Int32)) (d : Nat) (H : tH) (r : tR) (c : tR) (P : tP) (w : tW) (B : tB) (M : tM) (N : tN) (O : tO) (op : Nat → Bool) (st : Nat) (eg : Nat → Bool) (n : Nat) (G : Nat → Nat) (x : Int32) (hn : n < 64) (hst : st ≤ 8) (hst1 : 1 ≤ st) (heg : ∀ k, eg k = false → st ≤ k) (ho : op n = true) (hx : (eg n = true ∧ x = 1) ∨ (eg n = false ∧ x = 0)) (hR : RC op st eg n G c) : ∃ R' : tR, pm_D sc (d + 1) mX3_takeOpen [.ref 10, .int (nI n), .int x] (hp H r c P w B M N O) none (hp H r (R') P w B M N O) ∧ RC op st eg (n + 1) (fun q => if rS op st eg n = true ∧ q = rC op st eg n then 0 else G q) R' := by
  obtain ⟨h1, h2, h3, h4⟩ := hR
  have hcl := rC_le op st eg n
  have hin : vp_in (nI n) 64 := nu_in hn (by omega)
  have hinC : vp_in c.1 64 := by rw [h1]; exact nu_in (by omega) (by omega)
  have hclN : (nI n).toNatClampNeg = n := nu_cl (by omega)
  have hclC : c.1.toNatClampNeg = rC op st eg n := by rw [h1]; exact nu_cl (by omega)
  cases ha : rA st eg (rO op st eg n) n with
  | none =>
    have hS := rS_new ho ha
    have key : pm_Go sc d (pm_cd mX3_takeOpen) (11, [some (.ref 10), some (.int (nI n)), some (.int x), none], [.int (-1)], (hp H r c P w B M N O)) (fun r2 h2 => r2 = none ∧ h2 = (hp H r ((c.1 + 1, c.2.1, upd c.2.2.1 n c.1, upd c.2.2.2.1 (rC op st eg n) (nI n), upd (upd c.2.2.2.2.1 (rC op st eg n) 0) (rC op st eg n) (0 + 1), upd c.2.2.2.2.2 (rC op st eg n) 0)) P w B M N O)) := by
      refine pm_go [] 60 ⟨fun c1 => absurd rfl c1, fun c1 => ⟨hinC, hinC, hinC, hin, hinC, hinC, rfl, ?_⟩⟩
      rw [hclC, hclN, nu_updS]
      rfl
    refine ⟨(c.1 + 1, c.2.1, upd c.2.2.1 n c.1, upd c.2.2.2.1 (rC op st eg n) (nI n), upd (upd c.2.2.2.2.1 (rC op st eg n) 0) (rC op st eg n) (0 + 1), upd c.2.2.2.2.2 (rC op st eg n) 0), pm_in ?_, ?_⟩
    · rcases hx with ⟨he, rfl⟩ | ⟨he, rfl⟩
      · exact pm_go [11] 20 ⟨fun c1 => absurd c1 (by decide), fun c1 => key⟩
      · unfold rA at ha
        rw [he] at ha
        have hge := heg n he
        have ha : rO op st eg n (n - st) = none := by simpa using ha
        have e1 : nI n - c.2.1 = nI (n - st) := by rw [h2]; exact pk_sub hge
        have hin2 : vp_in (nI n - c.2.1) 64 := by rw [e1]; exact nu_in (by omega) (by omega)
        have e2 : c.2.2.1 (nI n - c.2.1).toNatClampNeg = -1 := by rw [e1, nu_cl (by omega), h3 _ (by omega), ha]; rfl
        refine pm_go [11] 20 ⟨fun c1 => ⟨hin2, ?_⟩, fun c1 => absurd rfl c1⟩
        rw [← e2] at key
        exact key
    · refine ⟨?_, h2, fun k hk => ?_, fun q hq => ?_⟩
      · rw [rC_new ho ha]
        show c.1 + 1 = _
        rw [h1, nI_1]
      · show upd c.2.2.1 n c.1 k = _
        rw [nu_upd, rO_new ho ha]
        split
        · rw [h1]; rfl
        · exact h3 k (by omega)
      · rw [rC_new ho ha] at hq
        have hN := rN_step (op := op) (st := st) (eg := eg) n q
        rw [rO_new ho ha, if_pos rfl] at hN
        show upd c.2.2.2.1 (rC op st eg n) (nI n) q = _ ∧ upd (upd c.2.2.2.2.1 (rC op st eg n) 0) (rC op st eg n) (0 + 1) q = _ ∧ upd c.2.2.2.2.2 (rC op st eg n) 0 q = _
        dsimp only
        rw [nu_uu, nu_upd, nu_upd, nu_upd, rL]
        by_cases hq2 : q = rC op st eg n
        · subst hq2
          rw [if_pos rfl, if_pos rfl, if_pos rfl, if_pos ⟨hS, rfl⟩, if_pos ⟨hS, rfl⟩, hN, rN_new, if_pos rfl]
          exact ⟨rfl, rfl, rfl⟩
        · rw [if_neg hq2, if_neg hq2, if_neg hq2, if_neg (fun z => hq2 z.2), if_neg (fun z => hq2 z.2), hN, if_neg (fun z => hq2 (Option.some.inj z).symm)]
          exact h4 q (by omega)
  | some q0 =>
    have hS := rS_on ho ha
    have ha0 := ha
    unfold rA at ha
    rcases hx with ⟨he, rfl⟩ | ⟨he, rfl⟩
    · rw [he] at ha; cases ha
    · rw [he] at ha
      have hge := heg n he
      have ha : rO op st eg n (n - st) = some q0 := by simpa using ha
      have hq0 := rO_lt n _ _ ha
      have e1 : nI n - c.2.1 = nI (n - st) := by rw [h2]; exact pk_sub hge
      have hin2 : vp_in (nI n - c.2.1) 64 := by rw [e1]; exact nu_in (by omega) (by omega)
      have e2 : c.2.2.1 (nI n - c.2.1).toNatClampNeg = nI q0 := by rw [e1, nu_cl (by omega), h3 _ (by omega), ha]; rfl
      have hinq : vp_in (nI q0) 64 := nu_in (by omega) (by omega)
      have hclq : (nI q0).toNatClampNeg = q0 := nu_cl (by omega)
      have hne : ¬ nI q0 = -1 := en_ne (q := q0) (by omega)
      have key : pm_Go sc d (pm_cd mX3_takeOpen) (11, [some (.ref 10), some (.int (nI n)), some (.int 0), none], [.int (nI q0)], (hp H r c P w B M N O)) (fun r2 h2 => r2 = none ∧ h2 = (hp H r ((c.1, c.2.1, upd c.2.2.1 n (nI q0), c.2.2.2.1, upd c.2.2.2.2.1 q0 (c.2.2.2.2.1 q0 + 1), c.2.2.2.2.2)) P w B M N O)) := by
        refine pm_go [] 60 ⟨fun c1 => ⟨hin, hinq, hinq, rfl, ?_⟩, fun c1 => absurd c1 hne⟩
        rw [hclN, hclq]
        rfl
      refine ⟨(c.1, c.2.1, upd c.2.2.1 n (nI q0), c.2.2.2.1, upd c.2.2.2.2.1 q0 (c.2.2.2.2.1 q0 + 1), c.2.2.2.2.2), pm_in (pm_go [11] 20 ⟨fun c1 => ⟨hin2, ?_⟩, fun c1 => absurd rfl c1⟩), ?_⟩
      · rw [← e2] at key
        rw [← e2]
        exact key
      · refine ⟨by rw [rC_on ho ha0]; exact h1, h2, fun k hk => ?_, fun q hq => ?_⟩
        · show upd c.2.2.1 n (nI q0) k = _
          rw [nu_upd, rO_on ho ha0]
          split
          · rfl
          · exact h3 k (by omega)
        · rw [rC_on ho ha0] at hq
          have hN := rN_step (op := op) (st := st) (eg := eg) n q
          rw [rO_on ho ha0, if_pos rfl] at hN
          show c.2.2.2.1 q = _ ∧ upd c.2.2.2.2.1 q0 (c.2.2.2.2.1 q0 + 1) q = _ ∧ c.2.2.2.2.2 q = _
          dsimp only
          have eL : rL op st eg (n + 1) q = rL op st eg n q := by rw [rL, if_neg (by rw [hS]; simp)]
          have eG : (if rS op st eg n = true ∧ q = rC op st eg n then 0 else G q) = G q := if_neg (by rw [hS]; simp)
          rw [nu_upd, eL, eG]
          refine ⟨(h4 q hq).1, ?_, (h4 q hq).2.2⟩
          by_cases hq2 : q = q0
          · subst hq2
            rw [if_pos rfl, hN, if_pos rfl, (h4 q hq).2.1, nI_1]
          · rw [if_neg hq2, hN, if_neg (fun z => hq2 (Option.some.inj z).symm)]
            exact (h4 q hq).2.1
theorem c_addGuards_c (sc : Nat × (Nat → Int32)) (d : Nat) (H : tH) (r : tR) (c : tR) (P : tP) (w : tW) (B : tB) (M : tM) (N : tN) (O : tO) (op : Nat → Bool) (st : Nat) (eg : Nat → Bool) (n k q g : Nat) (G : Nat → Nat) (x : Int32) (hn : n ≤ 64) (hk : k < n) (hq : rO op st eg n k = some q) (hx : nI (G q) + x = nI g) (hR : RC op st eg n G c) : ∃ R' : tR, pm_D sc (d + 1) mX3_addGuards [.ref 10, .int (nI k), .int x] (hp H r c P w B M N O) none (hp H r (R') P w B M N O) ∧ RC op st eg n (upN G q g) R' := by
  obtain ⟨h1, h2, h3, h4⟩ := hR
  have hcl := rC_le op st eg n
  have hql := rO_lt n _ _ hq
  have e1 : c.2.2.1 (nI k).toNatClampNeg = nI q := by rw [nu_cl (by omega), h3 k hk, hq]; rfl
  have hin : vp_in (nI k) 64 := nu_in (by omega) (by omega)
  have hne : ¬ c.2.2.1 (nI k).toNatClampNeg = -1 := by rw [e1]; exact en_ne (q := q) (by omega)
  have hinq : vp_in (c.2.2.1 (nI k).toNatClampNeg) 64 := by rw [e1]; exact nu_in (by omega) (by omega)
  refine ⟨(c.1, c.2.1, c.2.2.1, c.2.2.2.1, c.2.2.2.2.1, upd c.2.2.2.2.2 q (nI g)), pm_in (pm_go [] 30 ⟨hin, fun c1 => absurd c1 hne, fun c1 => ⟨hinq, hinq, rfl, ?_⟩⟩), ?_⟩
  · rw [e1, nu_cl (by omega), ← hx, ← (h4 q hql).2.2]
    rfl
  · refine ⟨h1, h2, h3, fun q' hq' => ?_⟩
    show _ ∧ _ ∧ upd c.2.2.2.2.2 q (nI g) q' = _
    rw [nu_upd]
    unfold upN
    refine ⟨(h4 q' hq').1, (h4 q' hq').2.1, ?_⟩
    split
    · rfl
    · exact (h4 q' hq').2.2
theorem c_isWatched_c (sc : Nat × (Nat → Int32)) (d : Nat) (H : tH) (r : tR) (c : tR) (P : tP) (w : tW) (B : tB) (M : tM) (N : tN) (O : tO) (op : Nat → Bool) (st : Nat) (eg : Nat → Bool) (n k : Nat) (G : Nat → Nat) (hn : n ≤ 64) (hk : k < n) (hG : ∀ q, G q ≤ 64) (hR : RC op st eg n G c) : pm_D sc (d + 1) mX3_isWatched [.ref 10, .int (nI k)] (hp H r c P w B M N O) (some (.int (bI (rW G (rO op st eg n k))))) (hp H r c P w B M N O) := by
  obtain ⟨h1, h2, h3, h4⟩ := hR
  have hcl := rC_le op st eg n
  have hin : vp_in (nI k) 64 := nu_in (by omega) (by omega)
  cases hq : rO op st eg n k with
  | none =>
    have e1 : c.2.2.1 (nI k).toNatClampNeg = -1 := by rw [nu_cl (by omega), h3 k hk, hq]; rfl
    exact pm_in (pm_go [] 30 ⟨hin, fun c1 => ⟨Or.inl rfl, rfl, rfl⟩, fun c1 => absurd e1 c1⟩)
  | some q =>
    have hql := rO_lt n _ _ hq
    have e1 : c.2.2.1 (nI k).toNatClampNeg = nI q := by rw [nu_cl (by omega), h3 k hk, hq]; rfl
    have hne : ¬ c.2.2.1 (nI k).toNatClampNeg = -1 := by rw [e1]; exact en_ne (q := q) (by omega)
    have hinq : vp_in (c.2.2.1 (nI k).toNatClampNeg) 64 := by rw [e1]; exact nu_in (by omega) (by omega)
    have e2 : c.2.2.2.2.2 (c.2.2.1 (nI k).toNatClampNeg).toNatClampNeg ≤ 0 ↔ ¬ 0 < G q := by
      rw [e1, nu_cl (by omega), (h4 q hql).2.2, nu_0, nu_le (by have := hG q; omega) (by omega)]; omega
    by_cases hg : 0 < G q
    · rw [show rW G (some q) = true from decide_eq_true hg]
      exact pm_in (pm_go [] 30 ⟨hin, fun c1 => absurd c1 hne, fun c1 => ⟨hinq, fun c2 => absurd hg (e2.mp c2), fun c2 => ⟨Or.inr rfl, rfl, rfl⟩⟩⟩)
    · rw [show rW G (some q) = false from decide_eq_false hg]
      exact pm_in (pm_go [] 30 ⟨hin, fun c1 => absurd c1 hne, fun c1 => ⟨hinq, fun c2 => ⟨Or.inl rfl, rfl, rfl⟩, fun c2 => absurd (e2.mpr hg) c2⟩⟩)
theorem c_lengthAt_c (sc : Nat × (Nat → Int32)) (d : Nat) (H : tH) (r : tR) (c : tR) (P : tP) (w : tW) (B : tB) (M : tM) (N : tN) (O : tO) (op : Nat → Bool) (st : Nat) (eg : Nat → Bool) (n k q : Nat) (G : Nat → Nat) (hn : n ≤ 64) (hk : k < n) (hq : rO op st eg n k = some q) (hR : RC op st eg n G c) : pm_D sc (d + 1) mX3_lengthAt [.ref 10, .int (nI k)] (hp H r c P w B M N O) (some (.int (nI (rN op st eg n q)))) (hp H r c P w B M N O) := by
  obtain ⟨h1, h2, h3, h4⟩ := hR
  have hcl := rC_le op st eg n
  have hin : vp_in (nI k) 64 := nu_in (by omega) (by omega)
  have hql := rO_lt n _ _ hq
  have e1 : c.2.2.1 (nI k).toNatClampNeg = nI q := by rw [nu_cl (by omega), h3 k hk, hq]; rfl
  have hne : ¬ c.2.2.1 (nI k).toNatClampNeg = -1 := by rw [e1]; exact en_ne (q := q) (by omega)
  have hinq : vp_in (c.2.2.1 (nI k).toNatClampNeg) 64 := by rw [e1]; exact nu_in (by omega) (by omega)
  refine pm_in (pm_go [] 30 ⟨hin, fun c1 => ⟨hinq, ?_, rfl⟩, fun c1 => absurd c1 hne⟩)
  rw [e1, nu_cl (by omega), (h4 q hql).2.1]
theorem c_cellOf_c (sc : Nat × (Nat → Int32)) (d : Nat) (H : tH) (r : tR) (c : tR) (P : tP) (w : tW) (B : tB) (M : tM) (N : tN) (O : tO) (op : Nat → Bool) (st : Nat) (eg : Nat → Bool) (n q i : Nat) (G : Nat → Nat) (hn : n ≤ 64) (hq : q < rC op st eg n) (hR : RC op st eg n G c) : pm_D sc (d + 1) mX3_cellOf [.ref 10, .int (nI q), .int (nI i)] (hp H r c P w B M N O) (some (.int (nI (rL op st eg n q + i * st)))) (hp H r c P w B M N O) := by
  obtain ⟨h1, h2, h3, h4⟩ := hR
  have hcl := rC_le op st eg n
  refine pm_in (pm_go [] 30 ⟨nu_in (by omega) (by omega), ?_, rfl⟩)
  rw [nu_cl (by omega), (h4 q hq).1, h2, ← nI_add, ← pk_mul]
  rfl
