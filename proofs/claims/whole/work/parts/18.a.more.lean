/-! HOW FEW MORE, in naturals: sets C and Y of runs of the two directions that meet all crossings not seen; one guard for each, less one for each two that share one -/
theorem least_of {p : Nat → Prop} : ∀ n, p n → ∃ k, p k ∧ ∀ j, p j → k ≤ j := by
  intro n
  induction n using Nat.strongRecOn with
  | _ n ih =>
    intro hn
    by_cases h : ∃ j, j < n ∧ p j
    · obtain ⟨j, h1, h2⟩ := h
      exact ih j h1 h2
    · exact ⟨n, hn, fun j hj => Nat.le_of_not_lt (fun z => h ⟨j, z, hj⟩)⟩
theorem nu_ex (a b : Nat) (E : Nat → Nat → Prop) (X Y : Nat → Bool) : ∃ m, nu a b E X Y m := by
  obtain ⟨m, ⟨A, B, h1, h2⟩, h3⟩ := least_of (p := fun n => ∃ A B, cov E X Y A B ∧ ct A a + ct B b = n) _ ⟨X, Y, fun k v hk _ _ => Or.inl hk, rfl⟩
  exact ⟨m, ⟨A, B, h1, by omega⟩, fun A B hc => h3 _ ⟨A, B, hc, rfl⟩⟩
theorem cov_swap {E : Nat → Nat → Prop} {X Y A B : Nat → Bool} (h : cov E X Y A B) : cov (fun v k => E k v) Y X B A := fun v k hv hk he => (h k v hk hv he).symm
theorem nu_swap {a b : Nat} {E : Nat → Nat → Prop} {X Y : Nat → Bool} {m : Nat} (h : nu a b E X Y m) : nu b a (fun v k => E k v) Y X m := by
  obtain ⟨⟨A, B, g1, g2⟩, g3⟩ := h
  exact ⟨⟨B, A, cov_swap g1, by omega⟩, fun A B hc => by have := g3 B A (cov_swap hc); omega⟩
theorem ct_union (p q : Nat → Bool) : ∀ n, ct (fun k => p k || q k) n ≤ ct p n + ct q n
  | 0 => Nat.le_refl _
  | n + 1 => by
    unfold ct
    have := ct_union p q n
    cases p n <;> cases q n <;> simp <;> omega
theorem nu_leX {a b : Nat} {E : Nat → Nat → Prop} {X Y : Nat → Bool} {m : Nat} (h : nu a b E X Y m) : m ≤ ct X a := by
  have := h.2 X (fun _ => false) (fun k v hk _ _ => Or.inl hk)
  rw [ct_none (p := fun _ => false) b (fun _ _ => rfl)] at this
  exact this
theorem nu_leY {a b : Nat} {E : Nat → Nat → Prop} {X Y : Nat → Bool} {m : Nat} (h : nu a b E X Y m) : m ≤ ct Y b := nu_leX (nu_swap h)
/-- a greater X costs no less -/
theorem nu_monX {a b : Nat} {E : Nat → Nat → Prop} {X X' Y : Nat → Bool} {m m' : Nat} (h : nu a b E X Y m) (h' : nu a b E X' Y m') (hs : ∀ k, k < a → X k = true → X' k = true) : m' + ct X a ≤ m + ct X' a := by
  obtain ⟨⟨A, B, g1, g2⟩, _⟩ := h
  have := h'.2 (fun k => A k || (X' k && !X k)) B (fun k v hk hv he => by
    cases hx : X k with
    | true =>
      rcases g1 k v hx hv he with g | g
      · exact Or.inl (by simp [g])
      · exact Or.inr g
    | false => exact Or.inl (by simp [hk, hx]))
  have e1 := ct_union A (fun k => X' k && !X k) a
  have e2 := ct_split X' X a
  have e3 : ct X a ≤ ct (fun k => X' k && X k) a := ct_imp a (fun i hi hx => by simp [hx, hs i hi hx])
  omega
theorem nu_monY {a b : Nat} {E : Nat → Nat → Prop} {X Y Y' : Nat → Bool} {m m' : Nat} (h : nu a b E X Y m) (h' : nu a b E X Y' m') (hs : ∀ k, k < b → Y k = true → Y' k = true) : m' + ct Y b ≤ m + ct Y' b := nu_monX (nu_swap h) (nu_swap h') hs
/-- the least number of guards -/
def moN (a b : Nat) (E : Nat → Nat → Prop) (U V : Nat → Bool) (m : Nat) : Prop :=
  (∃ C Y k, cov E U V C Y ∧ nu a b E C Y k ∧ ct C a + ct Y b ≤ m + k) ∧ ∀ C Y k, cov E U V C Y → nu a b E C Y k → m + k ≤ ct C a + ct Y b
theorem mo_one {a b : Nat} {E : Nat → Nat → Prop} {U V : Nat → Bool} {m m' : Nat} (h : moN a b E U V m) (h' : moN a b E U V m') : m = m' := by
  obtain ⟨⟨C, Y, k, g1, g2, g3⟩, g4⟩ := h
  obtain ⟨⟨C', Y', k', g1', g2', g3'⟩, g4'⟩ := h'
  have := g4 _ _ _ g1' g2'
  have := g4' _ _ _ g1 g2
  omega
theorem mo_swap {a b : Nat} {E : Nat → Nat → Prop} {U V : Nat → Bool} {m : Nat} (h : moN a b E U V m) : moN b a (fun v k => E k v) V U m := by
  obtain ⟨⟨C, Y, k, g1, g2, g3⟩, g4⟩ := h
  exact ⟨⟨Y, C, k, cov_swap g1, nu_swap g2, by omega⟩, fun C Y k hc hn => by have := g4 Y C k (cov_swap hc) (nu_swap hn); omega⟩
/-- the class's search: what a call leaves as best -/
def ChS (a b : Nat) (E : Nat → Nat → Prop) (U V : Nat → Bool) (uf : Nat → Nat → Bool) (run : Nat) (C0 Y0 : Nat → Bool) (best best' : Nat) : Prop :=
  best' ≤ best ∧ (best' = best ∨ ∃ C Y k, cov E U V C Y ∧ nu a b E C Y k ∧ ct C a + ct Y b ≤ best' + k) ∧
  ∀ C Y k, (∀ i, i < run → C i = C0 i) → (∀ v, Y v = true ↔ (Y0 v = true ∨ ∃ i, run ≤ i ∧ i < a ∧ C i = false ∧ uf i v = true)) → nu a b E C Y k → best' + k ≤ ct C a + ct Y b
theorem Ch_prune {a b : Nat} {E : Nat → Nat → Prop} {U V : Nat → Bool} {uf : Nat → Nat → Bool} {run : Nat} {C0 Y0 : Nat → Bool} {best : Nat} (hC0 : ∀ i, C0 i = true → i < run) (h : best ≤ ct C0 a ∨ best ≤ ct Y0 b) : ChS a b E U V uf run C0 Y0 best best := by
  refine ⟨Nat.le_refl _, Or.inl rfl, fun C Y k h1 h2 h3 => ?_⟩
  have e1 := nu_leX h3
  have e2 := nu_leY h3
  have e3 : ct C0 a ≤ ct C a := ct_imp a (fun i _ hi => by rw [h1 i (hC0 i hi)]; exact hi)
  have e4 : ct Y0 b ≤ ct Y b := ct_imp b (fun i _ hi => (h2 i).mpr (Or.inl hi))
  omega
theorem Ch_leaf {a b : Nat} {E : Nat → Nat → Prop} {U V : Nat → Bool} {uf : Nat → Nat → Bool} {run : Nat} {C0 Y0 : Nat → Bool} {best best' k : Nat} (hE : ∀ i v, E i v → i < a ∧ v < b) (huf : ∀ i v, uf i v = true ↔ (U i = true ∧ V v = true ∧ E i v)) (hY0 : ∀ i v, i < run → C0 i = false → uf i v = true → Y0 v = true) (hr : a ≤ run)
    (hk : nu a b E C0 Y0 k) (hb : (best' = best ∧ best + k ≤ ct C0 a + ct Y0 b) ∨ (best' ≤ best ∧ best' + k = ct C0 a + ct Y0 b)) : ChS a b E U V uf run C0 Y0 best best' := by
  have hcov : cov E U V C0 Y0 := fun i v hi hv he => by
    cases hc : C0 i with
    | true => exact Or.inl rfl
    | false => exact Or.inr (hY0 i v (by have := (hE i v he).1; omega) hc ((huf i v).mpr ⟨hi, hv, he⟩))
  refine ⟨by omega, ?_, fun C Y k' h1 h2 h3 => ?_⟩
  · rcases hb with ⟨h, _⟩ | ⟨h1, h2⟩
    · exact Or.inl h
    · exact Or.inr ⟨C0, Y0, k, hcov, hk, by omega⟩
  · have h3' := nu_congr (X' := C0) (Y' := Y0) (fun i v he => by
      refine ⟨h1 i (by have := (hE i v he).1; omega), ?_⟩
      rw [Bool.eq_iff_iff, h2]
      exact ⟨fun z => by rcases z with z | ⟨j, z1, z2, _⟩; exact z; omega, fun z => Or.inl z⟩) h3
    have ek := nu_one h3' hk
    have e1 : ct C a = ct C0 a := ct_congr a (fun i hi => h1 i (by omega))
    have e2 : ct Y b = ct Y0 b := ct_congr b (fun v hv => by
      rw [Bool.eq_iff_iff, h2]
      exact ⟨fun z => by rcases z with z | ⟨j, z1, z2, _⟩; exact z; omega, fun z => Or.inl z⟩)
    omega
theorem Ch_two {a b : Nat} {E : Nat → Nat → Prop} {U V : Nat → Bool} {uf : Nat → Nat → Bool} {run : Nat} {C0 C1 Y0 Y1 : Nat → Bool} {best b1 b2 : Nat} (hr : run < a) (hC0 : ∀ i, C0 i = true → i < run) (hC1 : ∀ i, C1 i = true ↔ (C0 i = true ∨ i = run)) (hY1 : ∀ v, Y1 v = true ↔ (Y0 v = true ∨ uf run v = true))
    (h1 : ChS a b E U V uf (run + 1) C0 Y1 best b1) (h2 : ChS a b E U V uf (run + 1) C1 Y0 b1 b2 ∨ (b2 = b1 ∧ ∀ v, uf run v = true → Y0 v = true)) : ChS a b E U V uf run C0 Y0 best b2 := by
  have hle : b2 ≤ b1 := by
    rcases h2 with h | h
    · exact h.1
    · omega
  have c0 : C0 run = false := by
    cases h : C0 run with
    | false => rfl
    | true => have := hC0 run h; omega
  have hfirst : ∀ C Y k, (∀ i, i < run → C i = C0 i) → C run = false → (∀ v, Y v = true ↔ (Y0 v = true ∨ ∃ i, run ≤ i ∧ i < a ∧ C i = false ∧ uf i v = true)) → nu a b E C Y k → b1 + k ≤ ct C a + ct Y b := by
    intro C Y k g1 gr g2 g3
    refine h1.2.2 C Y k (fun i hi => ?_) (fun v => ?_) g3
    · by_cases e : i = run
      · rw [e, gr, c0]
      · exact g1 i (by omega)
    · rw [g2 v, hY1 v]
      constructor
      · rintro (z | ⟨i, z1, z2, z3, z4⟩)
        · exact Or.inl (Or.inl z)
        · by_cases e : i = run
          · rw [e] at z4; exact Or.inl (Or.inr z4)
          · exact Or.inr ⟨i, by omega, z2, z3, z4⟩
      · rintro ((z | z) | ⟨i, z1, z2, z3, z4⟩)
        · exact Or.inl z
        · exact Or.inr ⟨run, Nat.le_refl _, hr, gr, z⟩
        · exact Or.inr ⟨i, by omega, z2, z3, z4⟩
  refine ⟨by have := h1.1; omega, ?_, fun C Y k g1 g2 g3 => ?_⟩
  · rcases h2 with h | ⟨h, _⟩
    · rcases h.2.1 with g | g
      · rw [g]
        rcases h1.2.1 with g' | g'
        · exact Or.inl g'
        · exact Or.inr g'
      · exact Or.inr g
    · rw [h]; exact h1.2.1
  · cases gr : C run with
    | false => have := hfirst C Y k g1 gr g2 g3; omega
    | true =>
      rcases h2 with h | ⟨h, hsub⟩
      · refine h.2.2 C Y k (fun i hi => ?_) (fun v => ?_) g3
        · rw [Bool.eq_iff_iff, hC1]
          by_cases e : i = run
          · rw [e]; exact ⟨fun _ => Or.inr rfl, fun _ => gr⟩
          · rw [g1 i (by omega)]; exact ⟨fun z => Or.inl z, fun z => z.resolve_right e⟩
        · rw [g2 v]
          constructor
          · rintro (z | ⟨i, z1, z2, z3, z4⟩)
            · exact Or.inl z
            · by_cases e : i = run
              · rw [e, gr] at z3; cases z3
              · exact Or.inr ⟨i, by omega, z2, z3, z4⟩
          · rintro (z | ⟨i, z1, z2, z3, z4⟩)
            · exact Or.inl z
            · exact Or.inr ⟨i, by omega, z2, z3, z4⟩
      · obtain ⟨D, hD⟩ := set_of (fun i => C i = true ∧ i ≠ run)
        obtain ⟨k1, hk1⟩ := nu_ex a b E D Y
        have dr : D run = false := by
          cases e : D run with
          | false => rfl
          | true => exact absurd rfl ((hD run).mp e).2
        have dn : ∀ i, i ≠ run → D i = C i := fun i hi => by
          rw [Bool.eq_iff_iff, hD]; exact ⟨fun z => z.1, fun z => ⟨z, hi⟩⟩
        have e1 := hfirst D Y k1 (fun i hi => by rw [dn i (by omega)]; exact g1 i hi) dr (fun v => by
          rw [g2 v]
          constructor
          · rintro (z | ⟨i, z1, z2, z3, z4⟩)
            · exact Or.inl z
            · by_cases e : i = run
              · rw [e, gr] at z3; cases z3
              · exact Or.inr ⟨i, z1, z2, by rw [dn i e]; exact z3, z4⟩
          · rintro (z | ⟨i, z1, z2, z3, z4⟩)
            · exact Or.inl z
            · by_cases e : i = run
              · rw [e] at z4; exact Or.inl (hsub v z4)
              · exact Or.inr ⟨i, z1, z2, by rw [← dn i e]; exact z3, z4⟩) hk1
        have e2 := nu_monX hk1 g3 (fun i _ hi => ((hD i).mp hi).1)
        omega
/-- the whole of the class's search -/
theorem Ch_mo {a b : Nat} {E : Nat → Nat → Prop} {U V : Nat → Bool} {uf : Nat → Nat → Bool} {best best' : Nat} (hE : ∀ i v, E i v → i < a ∧ v < b) (huf : ∀ i v, uf i v = true ↔ (U i = true ∧ V v = true ∧ E i v)) (D : Nat → Bool) (hD : ∀ i, i < a → (D i = true ↔ ∃ v, uf i v = true)) (hb : best = ct D a)
    (h : ChS a b E U V uf 0 (fun _ => false) (fun _ => false) best best') : moN a b E U V best' := by
  refine ⟨?_, fun C Y k hc hn => ?_⟩
  · rcases h.2.1 with g | g
    · obtain ⟨k, hk⟩ := nu_ex a b E D (fun _ => false)
      have e0 : ct (fun _ => false) b = 0 := ct_none b (fun _ _ => rfl)
      refine ⟨D, fun _ => false, k, fun i v hi hv he => Or.inl ((hD i (hE i v he).1).mpr ⟨v, (huf i v).mpr ⟨hi, hv, he⟩⟩), hk, ?_⟩
      rw [e0, g, hb]; omega
    · exact g
  · obtain ⟨Y1, hY1⟩ := set_of (fun v => ∃ i, 0 ≤ i ∧ i < a ∧ C i = false ∧ uf i v = true)
    obtain ⟨k1, hk1⟩ := nu_ex a b E C Y1
    have e1 := h.2.2 C Y1 k1 (fun i hi => absurd hi (by omega)) (fun v => by
      rw [hY1 v]
      exact ⟨fun z => Or.inr z, fun z => by rcases z with z | z; cases z; exact z⟩) hk1
    have e2 := nu_monY hk1 hn (fun v _ hv => by
      obtain ⟨i, _, z2, z3, z4⟩ := (hY1 v).mp hv
      obtain ⟨u1, u2, u3⟩ := (huf i v).mp z4
      rcases hc i v u1 u2 u3 with g | g
      · rw [z3] at g; cases g
      · exact g)
    omega
/-- what the runs outside C still need -/
def nd (a : Nat) (E : Nat → Nat → Prop) (U V C Y : Nat → Bool) : Prop := ∀ v, Y v = true ↔ ∃ i, i < a ∧ C i = false ∧ U i = true ∧ V v = true ∧ E i v
theorem R_grow {a b : Nat} {E : Nat → Nat → Prop} {U V : Nat → Bool} (hE : ∀ i v, E i v → i < a ∧ v < b) : ∀ (t : Nat) (C Y : Nat → Bool) (k : Nat), ct (fun i => U i && !C i) a = t → (∀ i, C i = true → U i = true ∧ i < a) → nd a E U V C Y → nu a b E C Y k →
    ∃ C' Y' k', (∀ i, C' i = true → U i = true ∧ i < a) ∧ nd a E U V C' Y' ∧ nu a b E C' Y' k' ∧ (∀ v, Y' v = true → ∃ i, i < a ∧ (C' i = true ∨ U i = false) ∧ E i v) ∧ ct C' a + ct Y' b + k ≤ k' + ct C a + ct Y b := by
  intro t
  induction t with
  | zero =>
    intro C Y k ht hC hY hk
    refine ⟨C, Y, k, hC, hY, hk, fun v hv => ?_, by omega⟩
    obtain ⟨i, h1, h2, h3, _⟩ := (hY v).mp hv
    have := ct_pos (p := fun i => U i && !C i) a i h1 (by simp [h2, h3])
    omega
  | succ t ih =>
    intro C Y k ht hC hY hk
    by_cases hcl : ∀ v, Y v = true → ∃ i, i < a ∧ (C i = true ∨ U i = false) ∧ E i v
    · exact ⟨C, Y, k, hC, hY, hk, hcl, by omega⟩
    · obtain ⟨v, hv⟩ := Classical.not_forall.mp hcl
      obtain ⟨hv1, hv2⟩ := Classical.not_imp.mp hv
      obtain ⟨i, h1, h2, h3, h4, h5⟩ := (hY v).mp hv1
      obtain ⟨C1, hC1⟩ := set_of (fun j => C j = true ∨ j = i)
      obtain ⟨Y1, hY1⟩ := set_of (fun v => ∃ j, j < a ∧ C1 j = false ∧ U j = true ∧ V v = true ∧ E j v)
      have c1i : C1 i = true := (hC1 i).mpr (Or.inr rfl)
      have c1n : ∀ j, j ≠ i → C1 j = C j := fun j hj => by rw [Bool.eq_iff_iff, hC1]; exact ⟨fun z => z.resolve_right hj, fun z => Or.inl z⟩
      have cnt : ct C1 a = ct C a + 1 := ct_flip (k := i) h2 c1i a h1 (fun j _ hj => c1n j hj)
      have cnt2 : ct (fun j => U j && !C j) a = ct (fun j => U j && !C1 j) a + 1 := ct_flip (k := i) (by simp [c1i]) (by simp [h2, h3]) a h1 (fun j _ hj => by rw [c1n j hj])
      obtain ⟨k1, hk1⟩ := nu_ex a b E C1 Y1
      obtain ⟨k2, hk2⟩ := nu_ex a b E C1 Y
      obtain ⟨C', Y', k', g1, g2, g3, g4, g5⟩ := ih C1 Y1 k1 (by omega) (fun j hj => by
        rcases (hC1 j).mp hj with z | z
        · exact hC j z
        · rw [z]; exact ⟨h3, h1⟩) hY1 hk1
      refine ⟨C', Y', k', g1, g2, g3, g4, ?_⟩
      have e1 := nu_monY hk1 hk2 (fun u _ hu => by
        obtain ⟨j, z1, z2, z3⟩ := (hY1 u).mp hu
        have hji : j ≠ i := fun e => by rw [e, c1i] at z2; cases z2
        rw [c1n j hji] at z2
        exact (hY u).mpr ⟨j, z1, z2, z3⟩)
      have e2 : k + 1 ≤ k2 := by
        obtain ⟨⟨A, B, p1, p2⟩, _⟩ := hk2
        cases hA : A i with
        | true =>
          obtain ⟨A', hA'⟩ := set_of (fun j => A j = true ∧ j ≠ i)
          have q1 := hk.2 A' B (fun j u hj hu he => by
            have hji : j ≠ i := fun e => by rw [e, h2] at hj; cases hj
            rcases p1 j u (by rw [c1n j hji]; exact hj) hu he with g | g
            · exact Or.inl ((hA' j).mpr ⟨g, hji⟩)
            · exact Or.inr g)
          have q2 : ct A a = ct A' a + 1 := ct_flip (k := i) (by
            cases e : A' i with
            | false => rfl
            | true => exact absurd rfl ((hA' i).mp e).2) hA a h1 (fun j _ hj => by rw [Bool.eq_iff_iff, hA']; exact ⟨fun z => ⟨z, hj⟩, fun z => z.1⟩)
          omega
        | false =>
          have hB : B v = true := by
            rcases p1 i v c1i hv1 h5 with g | g
            · rw [hA] at g; cases g
            · exact g
          obtain ⟨B', hB'⟩ := set_of (fun j => B j = true ∧ j ≠ v)
          have q1 := hk.2 A B' (fun j u hj hu he => by
            have hji : j ≠ i := fun e => by rw [e, h2] at hj; cases hj
            rcases p1 j u (by rw [c1n j hji]; exact hj) hu he with g | g
            · exact Or.inl g
            · refine Or.inr ((hB' u).mpr ⟨g, fun e => ?_⟩)
              rw [e] at he
              exact hv2 ⟨j, (hE j v he).1, Or.inl hj, he⟩)
          have q2 : ct B b = ct B' b + 1 := ct_flip (k := v) (by
            cases e : B' v with
            | false => rfl
            | true => exact absurd rfl ((hB' v).mp e).2) hB b (hE i v h5).2 (fun j _ hj => by rw [Bool.eq_iff_iff, hB']; exact ⟨fun z => ⟨z, hj⟩, fun z => z.1⟩)
          omega
      omega
/-- the reference's search -/
theorem R_mo {a b : Nat} {E : Nat → Nat → Prop} {U V : Nat → Bool} {m : Nat} (hE : ∀ i v, E i v → i < a ∧ v < b)
    (h1 : ∃ C Y k, nd a E U V C Y ∧ nu a b E C Y k ∧ ct C a + ct Y b = m + k)
    (h2 : ∀ C Y k, (∀ i, C i = true → U i = true ∧ i < a) → nd a E U V C Y → (∀ v, Y v = true → ∃ i, i < a ∧ (C i = true ∨ U i = false) ∧ E i v) → nu a b E C Y k → m + k ≤ ct C a + ct Y b) : moN a b E U V m := by
  refine ⟨?_, fun C Y k hc hn => ?_⟩
  · obtain ⟨C, Y, k, g1, g2, g3⟩ := h1
    refine ⟨C, Y, k, fun i v hi hv he => ?_, g2, by omega⟩
    cases hC : C i with
    | true => exact Or.inl rfl
    | false => exact Or.inr ((g1 v).mpr ⟨i, (hE i v he).1, hC, hi, hv, he⟩)
  · obtain ⟨C1, hC1⟩ := set_of (fun i => C i = true ∧ U i = true ∧ i < a)
    obtain ⟨Y1, hY1⟩ := set_of (fun v => ∃ j, j < a ∧ C1 j = false ∧ U j = true ∧ V v = true ∧ E j v)
    obtain ⟨k1, hk1⟩ := nu_ex a b E C1 Y1
    obtain ⟨k2, hk2⟩ := nu_ex a b E C1 Y
    have e1 := nu_monX hk2 hn (fun i _ hi => ((hC1 i).mp hi).1)
    have e2 := nu_monY hk1 hk2 (fun v _ hv => by
      obtain ⟨j, z1, z2, z3, z4, z5⟩ := (hY1 v).mp hv
      rcases hc j v z3 z4 z5 with g | g
      · have := (hC1 j).mpr ⟨g, z3, z1⟩; rw [z2] at this; cases this
      · exact g)
    obtain ⟨C', Y', k', g1, g2, g3, g4, g5⟩ := R_grow hE _ C1 Y1 k1 rfl (fun i hi => ((hC1 i).mp hi).2) hY1 hk1
    have := h2 C' Y' k' g1 g2 g4 g3
    omega
/-- the most by which a part of X has more runs than it crosses in Y -/
theorem df_nu {a b D : Nat} {E : Nat → Nat → Prop} {X Y : Nat → Bool} (hE : ∀ i v, E i v → i < a ∧ v < b)
    (h1 : D = 0 ∨ ∃ P Q, (∀ i, P i = true → X i = true) ∧ (∀ v, Q v = true ↔ (Y v = true ∧ ∃ i, P i = true ∧ E i v)) ∧ ct P a = D + ct Q b)
    (h2 : ∀ P Q, (∀ i, P i = true → X i = true ∧ i < a) → (∀ v, Q v = true ↔ (Y v = true ∧ ∃ i, P i = true ∧ E i v)) → ct P a ≤ D + ct Q b) : ∃ k, nu a b E X Y k ∧ k + D = ct X a := by
  have lower : ∀ A B, cov E X Y A B → ct X a ≤ D + (ct A a + ct B b) := fun A B hc => by
    obtain ⟨P, hP⟩ := set_of (fun i => X i = true ∧ A i = false ∧ i < a)
    obtain ⟨Q, hQ⟩ := set_of (fun v => Y v = true ∧ ∃ i, P i = true ∧ E i v)
    have e1 := h2 P Q (fun i hi => ⟨((hP i).mp hi).1, ((hP i).mp hi).2.2⟩) hQ
    have e2 : ct Q b ≤ ct B b := ct_imp b (fun v _ hv => by
      obtain ⟨z1, i, z2, z3⟩ := (hQ v).mp hv
      obtain ⟨y1, y2, _⟩ := (hP i).mp z2
      rcases hc i v y1 z1 z3 with g | g
      · rw [y2] at g; cases g
      · exact g)
    have e3 := ct_split X A a
    have e4 : ct (fun k => X k && A k) a ≤ ct A a := ct_imp a (fun i _ hi => by simp at hi; exact hi.2)
    have e5 : ct (fun k => X k && !A k) a ≤ ct P a := ct_imp a (fun i hi hx => by
      simp only [Bool.and_eq_true, Bool.not_eq_true'] at hx
      exact (hP i).mpr ⟨hx.1, hx.2, hi⟩)
    omega
  have upper : ∃ A B, cov E X Y A B ∧ ct A a + ct B b + D ≤ ct X a := by
    rcases h1 with h | ⟨P, Q, g1, g2, g3⟩
    · exact ⟨X, fun _ => false, fun i v hi _ _ => Or.inl hi, by rw [ct_none (p := fun _ => false) b (fun _ _ => rfl)]; omega⟩
    · refine ⟨fun i => X i && !P i, Q, fun i v hi hv he => ?_, ?_⟩
      · cases hp : P i with
        | true => exact Or.inr ((g2 v).mpr ⟨hv, i, hp, he⟩)
        | false => exact Or.inl (by simp [hi, hp])
      · have e3 := ct_split X P a
        have e4 : ct P a ≤ ct (fun k => X k && P k) a := ct_imp a (fun i _ hi => by simp [hi, g1 i hi])
        omega
  obtain ⟨A, B, u1, u2⟩ := upper
  have := lower A B u1
  exact ⟨ct X a - D, ⟨⟨A, B, u1, by omega⟩, fun A B hc => by have := lower A B hc; omega⟩, by omega⟩
