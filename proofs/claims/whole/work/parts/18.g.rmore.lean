/-! HOW FEW MORE, the reference -/
theorem tb_sub {p S : Nat} (h : p &&& S = p) {i : Nat} (hi : p.testBit i = true) : S.testBit i = true := by
  rw [← h, Nat.testBit_and, Bool.and_eq_true] at hi
  exact hi.2
theorem sub_tb {p S : Nat} (h : ∀ i, p.testBit i = true → S.testBit i = true) : p &&& S = p := by
  apply Nat.eq_of_testBit_eq
  intro i
  rw [Nat.testBit_and]
  cases e : p.testBit i with
  | false => rfl
  | true => rw [h i e]; rfl
theorem r_most (sc : Nat × (Nat → Int32)) (d : Nat) (H : tH) (r : tR) (c : tR) (P : tP) (w : tW) (B : tB) (M : tM) (N : tN) (ob : tA) (oc : Nat → Int64) (oq : tA) (oz : tA) (ow : tA) (a b : Nat) (E : Nat → Nat → Prop) (hE : ∀ i v, E i v → i < a ∧ v < b) (ha : a ≤ 12) (hb : b ≤ 64) (hO : OI (ob, oc, oq, oz, ow)) (hC : CrS E a oc) (S : Nat) (hS : S < 2 ^ a) (Y : Int64) :
    ∃ D k : Nat, pm_D sc (d + 2) mX6_most [.ref 27, .int (nI S), .long Y] (hp H r c P w B M N (ob, oc, oq, oz, ow)) (some (.int (nI D))) (hp H r c P w B M N (ob, oc, oq, oz, ow)) ∧ D ≤ 12 ∧ nu a b E (fun i => S.testBit i) (bS Y) k ∧ k + D = ct (fun i => S.testBit i) a := by
  have p12 : 2 ^ a ≤ 2 ^ 12 := Nat.pow_le_pow_right (by omega) ha
  have cP : ∀ p, p < 2 ^ a → ct (bS (nI p).toInt64) 64 = ct (fun i => p.testBit i) a := fun p hp => by
    rw [ct_congr 64 (q := fun i => p.testBit i) (fun i _ => bS_i2l (by omega) i)]
    exact ct_cut (fun i hi => tb_lt hp hi) (by omega)
  have cQ : ∀ p, p < 2 ^ a → ct (bS (pm_lb 3 (oc p) Y)) 64 = ct (bS (pm_lb 3 (oc p) Y)) b := fun p hp => ct_cut (fun v hv => by
    rw [bS_and, Bool.and_eq_true] at hv
    obtain ⟨i, _, h2⟩ := (hC p hp v).mp hv.1
    exact (hE i v h2).2) hb
  have hQ : ∀ p, p < 2 ^ a → ∀ v, bS (pm_lb 3 (oc p) Y) v = true ↔ (bS Y v = true ∧ ∃ i, p.testBit i = true ∧ E i v) := fun p hp v => by
    rw [bS_and, Bool.and_eq_true, hC p hp v]
    exact ⟨fun z => ⟨z.2, z.1⟩, fun z => ⟨z.2, z.1⟩⟩
  have loop : ∀ (n p D : Nat) (l6 : Option Value), p ≤ n → p &&& S = p → D ≤ 12 → (D = 0 ∨ ∃ q, q &&& S = q ∧ ct (fun i => q.testBit i) a = D + ct (bS (pm_lb 3 (oc q) Y)) b) → (∀ q, q &&& S = q → p < q → ct (fun i => q.testBit i) a ≤ D + ct (bS (pm_lb 3 (oc q) Y)) b) →
      pm_Go sc (d + 1) (pm_cd mX6_most) (4, [some (.ref 27), some (.int (nI S)), some (.long Y), none, some (.int (nI D)), some (.int (nI p)), l6], [], (hp H r c P w B M N (ob, oc, oq, oz, ow))) (fun r2 h2 => ∃ D : Nat, r2 = some (.int (nI D)) ∧ h2 = (hp H r c P w B M N (ob, oc, oq, oz, ow)) ∧ D ≤ 12 ∧ (D = 0 ∨ ∃ q, q &&& S = q ∧ ct (fun i => q.testBit i) a = D + ct (bS (pm_lb 3 (oc q) Y)) b) ∧ ∀ q, q &&& S = q → ct (fun i => q.testBit i) a ≤ D + ct (bS (pm_lb 3 (oc q) Y)) b) := by
    intro n
    induction n with
    | zero =>
      intro p D l6 hpn hpS hD h1 h2
      have p0 : p = 0 := by omega
      subst p0
      refine pm_go1 [4] 20 ⟨fun _ => ⟨D, rfl, rfl, hD, h1, fun q hq => ?_⟩, fun z => absurd (show nI 0 ≤ 0 by decide) z⟩
      by_cases e : q = 0
      · rw [e, ct_none a (fun i _ => Nat.zero_testBit i)]; omega
      · exact h2 q hq (by omega)
    | succ n ih =>
      intro p D l6 hpn hpS hD h1 h2
      by_cases p0 : p = 0
      · exact ih p D l6 (by omega) hpS hD h1 h2
      · have pl : p < 2 ^ a := by
          have : p &&& S ≤ S := Nat.and_le_right
          omega
        have c1 : ¬ nI p ≤ 0 := by rw [nu_0, nu_le (by omega) (by omega)]; omega
        have k1 := r_count sc d H r c P w B M N ob oc oq oz ow hO (nI p).toInt64
        have k2 := r_count sc d H r c P w B M N ob oc oq oz ow hO (pm_lb 3 (oc p) Y)
        rw [cP p pl] at k1
        rw [cQ p pl] at k2
        have lP := ct_le (fun i => p.testBit i) a
        have lQ := ct_le (bS (pm_lb 3 (oc p) Y)) b
        have ip : vp_in (nI p) 4096 := nu_in (by omega) (by omega)
        have cp : (nI p).toNatClampNeg = p := nu_cl (by omega)
        have ep : pm_ib 3 (nI p - 1) (nI S) = nI ((p - 1) &&& S) := by
          obtain ⟨p', rfl⟩ : ∃ p', p = p' + 1 := ⟨p - 1, by omega⟩
          rw [nI_pred, ib_and]; rfl
        have hp1 : ((p - 1) &&& S) ≤ p - 1 := Nat.and_le_left
        have hp2 : ((p - 1) &&& S) &&& S = (p - 1) &&& S := sub_tb (fun i hi => by rw [Nat.testBit_and, Bool.and_eq_true] at hi; exact hi.2)
        have stp : ∀ D', D ≤ D' → ct (fun i => p.testBit i) a ≤ D' + ct (bS (pm_lb 3 (oc p) Y)) b → ∀ q, q &&& S = q → (p - 1) &&& S < q → ct (fun i => q.testBit i) a ≤ D' + ct (bS (pm_lb 3 (oc q) Y)) b := fun D' hDD hpp q hq hlt => by
          by_cases e : q = p
          · rw [e]; exact hpp
          · have hge : p < q := by
              refine Nat.lt_of_not_le (fun z => ?_)
              have := sub_le p q S hpS hq (by omega)
              omega
            have := h2 q hq hge
            omega
        have rest : ∀ x : Int32, x = nI (ct (fun i => p.testBit i) a) - nI (ct (bS (pm_lb 3 (oc p) Y)) b) → pm_Go sc (d + 1) (pm_cd mX6_most) (19, [some (.ref 27), some (.int (nI S)), some (.long Y), none, some (.int (nI D)), some (.int (nI p)), l6], [.int x], (hp H r c P w B M N (ob, oc, oq, oz, ow))) (fun r2 h2 => ∃ D : Nat, r2 = some (.int (nI D)) ∧ h2 = (hp H r c P w B M N (ob, oc, oq, oz, ow)) ∧ D ≤ 12 ∧ (D = 0 ∨ ∃ q, q &&& S = q ∧ ct (fun i => q.testBit i) a = D + ct (bS (pm_lb 3 (oc q) Y)) b) ∧ ∀ q, q &&& S = q → ct (fun i => q.testBit i) a ≤ D + ct (bS (pm_lb 3 (oc q) Y)) b) := by
          intro x hx
          subst hx
          by_cases hle : ct (fun i => p.testBit i) a ≤ D + ct (bS (pm_lb 3 (oc p) Y)) b
          · have c2 : nI (ct (fun i => p.testBit i) a) - nI (ct (bS (pm_lb 3 (oc p) Y)) b) ≤ nI D := (le_dif (by omega) (by omega) (by omega)).mpr hle
            have nxt := ih ((p - 1) &&& S) D (some (.int (nI (ct (fun i => p.testBit i) a) - nI (ct (bS (pm_lb 3 (oc p) Y)) b)))) (by omega) hp2 hD h1 (stp D (Nat.le_refl _) hle)
            rw [← ep] at nxt
            exact pm_go1 [4] 30 ⟨fun _ => nxt, fun z => absurd c2 z⟩
          · have c2 : ¬ nI (ct (fun i => p.testBit i) a) - nI (ct (bS (pm_lb 3 (oc p) Y)) b) ≤ nI D := fun z => hle ((le_dif (by omega) (by omega) (by omega)).mp z)
            have nxt := ih ((p - 1) &&& S) (ct (fun i => p.testBit i) a - ct (bS (pm_lb 3 (oc p) Y)) b) (some (.int (nI (ct (fun i => p.testBit i) a) - nI (ct (bS (pm_lb 3 (oc p) Y)) b)))) (by omega) hp2 (by omega) (Or.inr ⟨p, hpS, by omega⟩) (stp _ (by omega) (by omega))
            rw [← ep, ← nI_subN (by omega)] at nxt
            exact pm_go1 [4] 30 ⟨fun z => absurd z c2, fun _ => nxt⟩
        refine pm_go1 [19] 30 ⟨fun z => absurd z c1, fun _ => ⟨_, _, k1, ip, ?_⟩⟩
        rw [cp]
        exact ⟨_, _, k2, rest _ rfl⟩
  obtain ⟨r2, h2, t1, D, rfl, rfl, t2, t3, t4⟩ := pm_inE (mi := mX6_most) (av := [.ref 27, .int (nI S), .long Y]) (h := (hp H r c P w B M N (ob, oc, oq, oz, ow))) (pm_go [4] 10 (loop S S 0 none (Nat.le_refl _) (Nat.and_self S) (by omega) (Or.inl rfl) (fun q hq hlt => by
    have : q &&& S ≤ S := Nat.and_le_right
    omega)))
  obtain ⟨k, n1, n2⟩ := df_nu (D := D) (X := fun i => S.testBit i) (Y := bS Y) hE (by
    rcases t3 with h | ⟨q, g1, g2⟩
    · exact Or.inl h
    · refine Or.inr ⟨fun i => q.testBit i, bS (pm_lb 3 (oc q) Y), fun i hi => tb_sub g1 hi, hQ q ?_, g2⟩
      have : q &&& S ≤ S := Nat.and_le_right
      omega) (fun Pp Q g1 g2 => by
    obtain ⟨q, q1, q2⟩ := nat_of Pp a
    have eP : ct Pp a = ct (fun i => q.testBit i) a := ct_congr a (fun i hi => by
      show Pp i = q.testBit i
      rw [q2 i]; simp [hi])
    have qP : ∀ i, q.testBit i = true ↔ Pp i = true := fun i => by
      rw [q2 i, Bool.and_eq_true, decide_eq_true_eq]
      exact ⟨fun z => z.1, fun z => ⟨z, (g1 i z).2⟩⟩
    have eQ : ct Q b = ct (bS (pm_lb 3 (oc q) Y)) b := ct_congr b (fun v _ => by
      rw [Bool.eq_iff_iff, g2 v, hQ q q1 v]
      constructor
      · rintro ⟨z1, i, z2, z3⟩; exact ⟨z1, i, (qP i).mpr z2, z3⟩
      · rintro ⟨z1, i, z2, z3⟩; exact ⟨z1, i, (qP i).mp z2, z3⟩)
    rw [eP, eQ]
    exact t4 q (sub_tb (fun i hi => (g1 i ((qP i).mp hi)).1)))
  exact ⟨D, k, t1, t2, n1, n2⟩
/-- what the search has so far -/
def MrI (a b : Nat) (E : Nat → Nat → Prop) (T V : Nat → Bool) (s : Nat) (L : Int32) : Prop :=
  (L = -1 ∨ ∃ m, L = nI m ∧ m ≤ 100 ∧ ∃ C Y k, nd a E (fun i => !T i) V C Y ∧ nu a b E C Y k ∧ ct C a + ct Y b = m + k) ∧
  ∀ C Y k s', s' < s → (∀ i, s'.testBit i = (C i || T i)) → (∀ i, C i = true → T i = false ∧ i < a) → nd a E (fun i => !T i) V C Y → (∀ v, Y v = true → ∃ i, i < a ∧ (C i = true ∨ T i = true) ∧ E i v) → nu a b E C Y k → ∃ m, L = nI m ∧ m ≤ 100 ∧ m + k ≤ ct C a + ct Y b
theorem MrI_end {a b : Nat} {E : Nat → Nat → Prop} {T V : Nat → Bool} {L : Int32} (hE : ∀ i v, E i v → i < a ∧ v < b) (hT : ∀ i, T i = true → i < a) (h : MrI a b E T V (2 ^ a) L) : ∃ m, L = nI m ∧ moN a b E (fun i => !T i) V m := by
  have any : ∀ C Y k, (∀ i, C i = true → T i = false ∧ i < a) → nd a E (fun i => !T i) V C Y → (∀ v, Y v = true → ∃ i, i < a ∧ (C i = true ∨ T i = true) ∧ E i v) → nu a b E C Y k → ∃ m, L = nI m ∧ m ≤ 100 ∧ m + k ≤ ct C a + ct Y b := fun C Y k h1 h2 h3 h4 => by
    obtain ⟨s, s1, s2⟩ := nat_of (fun i => C i || T i) a
    refine h.2 C Y k s s1 (fun i => ?_) h1 h2 h3 h4
    rw [s2 i]
    by_cases hi : i < a
    · simp [hi]
    · have e1 : C i = false := by
        cases e : C i with
        | false => rfl
        | true => exact absurd (h1 i e).2 hi
      have e2 : T i = false := by
        cases e : T i with
        | false => rfl
        | true => exact absurd (hT i e) hi
      simp [hi, e1, e2]
  obtain ⟨C0, hC0⟩ := set_of (fun i => T i = false ∧ i < a)
  obtain ⟨k0, hk0⟩ := nu_ex a b E C0 (fun _ => false)
  obtain ⟨m, e1, e2, _⟩ := any C0 (fun _ => false) k0 (fun i hi => (hC0 i).mp hi) (fun v => ⟨fun z => (by cases z), fun ⟨i, z1, z2, z3, _⟩ => by
    have := (hC0 i).mpr ⟨by have z3 : (!T i) = true := z3; simpa using z3, z1⟩
    rw [this] at z2; cases z2⟩) (fun v z => by cases z) hk0
  refine ⟨m, e1, R_mo hE ?_ (fun C Y k h1 h2 h3 h4 => ?_)⟩
  · rcases h.1 with z | ⟨m', g1, g2, g3⟩
    · exact absurd (e1.symm.trans z) (en_ne (q := m) (by omega))
    · have : m' = m := (nu_eq (by omega) (by omega)).mp (g1.symm.trans e1)
      rw [← this]; exact g3
  · obtain ⟨m', g1, g2, g3⟩ := any C Y k (fun i hi => by have := h1 i hi; simpa using this) h2 (fun v hv => by
      obtain ⟨i, z1, z2, z3⟩ := h3 v hv
      exact ⟨i, z1, by simpa using z2, z3⟩) h4
    have : m' = m := (nu_eq (by omega) (by omega)).mp (g1.symm.trans e1)
    rw [← this]; exact g3
/-- a set that does not count -/
theorem MrI_skip {a b : Nat} {E : Nat → Nat → Prop} {T V : Nat → Bool} {s : Nat} {L : Int32} (h : MrI a b E T V s L) (hs : ∀ C Y, (∀ i, s.testBit i = (C i || T i)) → (∀ i, C i = true → T i = false ∧ i < a) → nd a E (fun i => !T i) V C Y → (∀ v, Y v = true → ∃ i, i < a ∧ (C i = true ∨ T i = true) ∧ E i v) → False) : MrI a b E T V (s + 1) L := by
  refine ⟨h.1, fun C Y k s' h1 h2 h3 h4 h5 h6 => ?_⟩
  by_cases e : s' = s
  · rw [e] at h2
    exact (hs C Y h2 h3 h4 h5).elim
  · exact h.2 C Y k s' (by omega) h2 h3 h4 h5 h6
/-- a set that counts -/
theorem MrI_take {a b : Nat} {E : Nat → Nat → Prop} {T V : Nat → Bool} {s n k : Nat} {L L' : Int32} {Cs Ys : Nat → Bool} (hE : ∀ i v, E i v → i < a ∧ v < b) (h : MrI a b E T V s L) (hC : ∀ i, Cs i = (s.testBit i && !T i)) (hY : nd a E (fun i => !T i) V Cs Ys) (hk : nu a b E Cs Ys k) (hn : n + k = ct Cs a + ct Ys b) (hn1 : n ≤ 100) (hL : L' = if L = -1 ∨ nI n < L then nI n else L) : MrI a b E T V (s + 1) L' := by
  have att : ∃ C Y k, nd a E (fun i => !T i) V C Y ∧ nu a b E C Y k ∧ ct C a + ct Y b = n + k := ⟨Cs, Ys, k, hY, hk, hn.symm⟩
  obtain ⟨m', e1, e2, e3, e4, e5⟩ : ∃ m', L' = nI m' ∧ m' ≤ 100 ∧ m' ≤ n ∧ (∀ m, L = nI m → m ≤ 100 → m' ≤ m) ∧ ∃ C Y k, nd a E (fun i => !T i) V C Y ∧ nu a b E C Y k ∧ ct C a + ct Y b = m' + k := by
    rcases h.1 with z | ⟨m, z1, z2, z3⟩
    · refine ⟨n, by rw [hL, if_pos (Or.inl z)], hn1, Nat.le_refl _, fun m hm hm2 => ?_, att⟩
      exact absurd (hm.symm.trans z) (en_ne (q := m) (by omega))
    · by_cases hlt : n < m
      · refine ⟨n, ?_, hn1, Nat.le_refl _, fun m2 hm hm2 => ?_, att⟩
        · rw [hL, if_pos (Or.inr (by rw [z1, nu_lt (by omega) (by omega)]; exact hlt))]
        · have : m = m2 := (nu_eq (by omega) (by omega)).mp (z1.symm.trans hm)
          omega
      · refine ⟨m, ?_, z2, by omega, fun m2 hm hm2 => ?_, z3⟩
        · rw [hL, if_neg, z1]
          rintro (q | q)
          · exact en_ne (q := m) (by omega) (z1.symm.trans q)
          · rw [z1, nu_lt (by omega) (by omega)] at q; exact hlt q
        · have : m = m2 := (nu_eq (by omega) (by omega)).mp (z1.symm.trans hm)
          omega
  refine ⟨Or.inr ⟨m', e1, e2, e5⟩, fun C Y k' s' h1 h2 h3 h4 h5 h6 => ?_⟩
  by_cases e : s' = s
  · refine ⟨m', e1, e2, ?_⟩
    rw [e] at h2
    have eC : ∀ i, C i = Cs i := fun i => by
      rw [hC i, h2 i]
      cases c1 : C i with
      | true => rw [(h3 i c1).1]; rfl
      | false => cases T i <;> rfl
    have eC' : C = Cs := funext eC
    subst eC'
    have eY : ∀ v, Y v = Ys v := fun v => by rw [Bool.eq_iff_iff, h4 v, hY v]
    have eY' : Y = Ys := funext eY
    subst eY'
    have := nu_one h6 hk
    omega
  · obtain ⟨m, g1, g2, g3⟩ := h.2 C Y k' s' (by omega) h2 h3 h4 h5 h6
    have := e4 m g1 g2
    exact ⟨m', e1, e2, by omega⟩
