/-! RUNS, in naturals: cells come by their numbers; st the stride, eg the edge -/
def ct (p : Nat → Bool) : Nat → Nat
  | 0 => 0
  | n + 1 => ct p n + (if p n then 1 else 0)
theorem ct_congr {p q : Nat → Bool} : ∀ (n : Nat), (∀ i, i < n → p i = q i) → ct p n = ct q n
  | 0, _ => rfl
  | n + 1, h => by
    unfold ct
    rw [ct_congr n (fun i hi => h i (by omega)), h n (by omega)]
theorem ct_le (p : Nat → Bool) : ∀ n, ct p n ≤ n
  | 0 => Nat.le_refl _
  | n + 1 => by
    unfold ct
    have := ct_le p n
    split <;> omega
theorem ct_mono (p : Nat → Bool) {a b : Nat} (h : a ≤ b) : ct p a ≤ ct p b := by
  induction h with
  | refl => exact Nat.le_refl _
  | step _ ih =>
    rename_i m _
    show ct p a ≤ ct p m + _
    omega
theorem ct_imp {p q : Nat → Bool} : ∀ (n : Nat), (∀ i, i < n → p i = true → q i = true) → ct p n ≤ ct q n
  | 0, _ => Nat.le_refl _
  | n + 1, h => by
    unfold ct
    have ih := ct_imp n (fun i hi => h i (by omega))
    have h1 := h n (by omega)
    by_cases hp : p n = true
    · rw [hp, h1 hp]; simp; exact ih
    · rw [if_neg hp]; split <;> omega
theorem ct_none {p : Nat → Bool} : ∀ (n : Nat), (∀ i, i < n → p i = false) → ct p n = 0
  | 0, _ => rfl
  | n + 1, h => by
    unfold ct
    rw [ct_none n (fun i hi => h i (by omega)), h n (by omega)]
    rfl
theorem ct_pos {p : Nat → Bool} : ∀ (n i : Nat), i < n → p i = true → 0 < ct p n
  | 0, i, h, _ => absurd h (by omega)
  | n + 1, i, h, hp => by
    unfold ct
    by_cases hi : i = n
    · subst hi; rw [hp]; simp
    · have := ct_pos n i (by omega) hp
      omega
theorem ct_ex {p : Nat → Bool} : ∀ (n : Nat), 0 < ct p n → ∃ i, i < n ∧ p i = true
  | 0, h => absurd h (by unfold ct; omega)
  | n + 1, h => by
    unfold ct at h
    by_cases hp : p n = true
    · exact ⟨n, by omega, hp⟩
    · rw [if_neg hp] at h
      obtain ⟨i, h1, h2⟩ := ct_ex n (by omega)
      exact ⟨i, by omega, h2⟩
theorem ct_add (p : Nat → Bool) (a : Nat) : ∀ k, ct p (a + k) = ct p a + ct (fun i => p (a + i)) k
  | 0 => rfl
  | k + 1 => by
    show ct p (a + k) + (if p (a + k) then 1 else 0) = ct p a + (ct (fun i => p (a + i)) k + (if p (a + k) then 1 else 0))
    rw [ct_add p a k]
    omega
theorem ct_two {p q : Nat → Bool} : ∀ (n : Nat), (∀ i, i < n → ¬ (p i = true ∧ q i = true)) → ct p n + ct q n ≤ n
  | 0, _ => Nat.le_refl _
  | n + 1, h => by
    unfold ct
    have ih := ct_two n (fun i hi => h i (by omega))
    have h1 := h n (by omega)
    by_cases hp : p n = true
    · by_cases hq : q n = true
      · exact absurd ⟨hp, hq⟩ h1
      · rw [if_pos hp, if_neg hq]; omega
    · rw [if_neg hp]; split <;> omega
/-- the run ahead of cell n, if it goes on -/
def rA (st : Nat) (eg : Nat → Bool) (o : Nat → Option Nat) (n : Nat) : Option Nat := if eg n then none else o (n - st)
def rF (op : Nat → Bool) (st : Nat) (eg : Nat → Bool) : Nat → (Nat → Option Nat) × Nat
  | 0 => (fun _ => none, 0)
  | n + 1 => if op n then
      (match rA st eg (rF op st eg n).1 n with
      | none => (fun c => if c = n then some (rF op st eg n).2 else (rF op st eg n).1 c, (rF op st eg n).2 + 1)
      | some r => (fun c => if c = n then some r else (rF op st eg n).1 c, (rF op st eg n).2))
    else rF op st eg n
def rO (op : Nat → Bool) (st : Nat) (eg : Nat → Bool) (n : Nat) : Nat → Option Nat := (rF op st eg n).1
def rC (op : Nat → Bool) (st : Nat) (eg : Nat → Bool) (n : Nat) : Nat := (rF op st eg n).2
/-- whether a run begins in cell n -/
def rS (op : Nat → Bool) (st : Nat) (eg : Nat → Bool) (n : Nat) : Bool := op n && (rA st eg (rO op st eg n) n == none)
def rL (op : Nat → Bool) (st : Nat) (eg : Nat → Bool) : Nat → Nat → Nat
  | 0, _ => 0
  | n + 1, r => if rS op st eg n = true ∧ r = rC op st eg n then n else rL op st eg n r
def rN (op : Nat → Bool) (st : Nat) (eg : Nat → Bool) (n r : Nat) : Nat := ct (fun c => rO op st eg n c == some r) n
section RUNS
variable {op : Nat → Bool} {st : Nat} {eg : Nat → Bool}
theorem rF_shut {n : Nat} (h : op n = false) : rF op st eg (n + 1) = rF op st eg n := by
  rw [rF, h]; rfl
theorem rO_shut {n : Nat} (h : op n = false) : rO op st eg (n + 1) = rO op st eg n := by unfold rO; rw [rF_shut h]
theorem rC_shut {n : Nat} (h : op n = false) : rC op st eg (n + 1) = rC op st eg n := by unfold rC; rw [rF_shut h]
theorem rS_shut {n : Nat} (h : op n = false) : rS op st eg n = false := by unfold rS; rw [h]; rfl
theorem rO_new {n : Nat} (h : op n = true) (ha : rA st eg (rO op st eg n) n = none) (c : Nat) : rO op st eg (n + 1) c = if c = n then some (rC op st eg n) else rO op st eg n c := by
  unfold rO rC
  unfold rO at ha
  rw [rF, h, ha]; rfl
theorem rC_new {n : Nat} (h : op n = true) (ha : rA st eg (rO op st eg n) n = none) : rC op st eg (n + 1) = rC op st eg n + 1 := by
  unfold rC
  unfold rO at ha
  rw [rF, h, ha]; rfl
theorem rS_new {n : Nat} (h : op n = true) (ha : rA st eg (rO op st eg n) n = none) : rS op st eg n = true := by
  unfold rS; rw [h, ha]; rfl
theorem rO_on {n r : Nat} (h : op n = true) (ha : rA st eg (rO op st eg n) n = some r) (c : Nat) : rO op st eg (n + 1) c = if c = n then some r else rO op st eg n c := by
  unfold rO
  unfold rO at ha
  rw [rF, h, ha]; rfl
theorem rC_on {n r : Nat} (h : op n = true) (ha : rA st eg (rO op st eg n) n = some r) : rC op st eg (n + 1) = rC op st eg n := by
  unfold rC
  unfold rO at ha
  rw [rF, h, ha]; rfl
theorem rS_on {n r : Nat} (h : op n = true) (ha : rA st eg (rO op st eg n) n = some r) : rS op st eg n = false := by
  unfold rS; rw [h, ha]; rfl
theorem rC_step (n : Nat) : rC op st eg (n + 1) = rC op st eg n + (if rS op st eg n then 1 else 0) := by
  cases h : op n with
  | false => rw [rC_shut h, rS_shut h]; rfl
  | true =>
    cases ha : rA st eg (rO op st eg n) n with
    | none => rw [rC_new h ha, rS_new h ha]; rfl
    | some r => rw [rC_on h ha, rS_on h ha]; rfl
theorem rC_ct : ∀ n, rC op st eg n = ct (rS op st eg) n
  | 0 => rfl
  | n + 1 => by rw [rC_step, rC_ct n]; rfl
theorem rO_old {n c : Nat} (h : c < n) : rO op st eg (n + 1) c = rO op st eg n c := by
  cases h1 : op n with
  | false => rw [rO_shut h1]
  | true =>
    cases ha : rA st eg (rO op st eg n) n with
    | none => rw [rO_new h1 ha, if_neg (by omega)]
    | some r => rw [rO_on h1 ha, if_neg (by omega)]
theorem rO_out : ∀ (n c : Nat), n ≤ c → rO op st eg n c = none
  | 0, _, _ => rfl
  | n + 1, c, h => by
    have ih := rO_out n c (by omega)
    cases h1 : op n with
    | false => rw [rO_shut h1]; exact ih
    | true =>
      cases ha : rA st eg (rO op st eg n) n with
      | none => rw [rO_new h1 ha, if_neg (by omega)]; exact ih
      | some r => rw [rO_on h1 ha, if_neg (by omega)]; exact ih
theorem rO_far {n : Nat} : ∀ (k c : Nat), c < n → rO op st eg (n + k) c = rO op st eg n c
  | 0, _, _ => rfl
  | k + 1, c, h => by
    rw [← Nat.add_assoc, rO_old (by omega)]
    exact rO_far k c h
theorem rO_lt : ∀ (n c r : Nat), rO op st eg n c = some r → r < rC op st eg n
  | 0, c, r, h => by cases h
  | n + 1, c, r, h => by
    have hs := rC_step (op := op) (st := st) (eg := eg) n
    cases h1 : op n with
    | false => rw [rO_shut h1] at h; have := rO_lt n c r h; omega
    | true =>
      cases ha : rA st eg (rO op st eg n) n with
      | none =>
        rw [rO_new h1 ha] at h
        rw [rC_new h1 ha]
        split at h
        · cases h; omega
        · have := rO_lt n c r h; omega
      | some q =>
        rw [rO_on h1 ha] at h
        rw [rC_on h1 ha]
        split at h
        · cases h
          unfold rA at ha
          split at ha
          · cases ha
          · exact rO_lt n _ _ ha
        · exact rO_lt n c r h
theorem rO_op : ∀ (n c : Nat), c < n → (rO op st eg n c = none ↔ op c = false)
  | 0, c, h => absurd h (by omega)
  | n + 1, c, h => by
    by_cases hc : c = n
    · subst hc
      cases h1 : op c with
      | false => rw [rO_shut h1]; simp [rO_out c c (Nat.le_refl _)]
      | true =>
        cases ha : rA st eg (rO op st eg c) c with
        | none => rw [rO_new h1 ha, if_pos rfl]; simp
        | some r => rw [rO_on h1 ha, if_pos rfl]; simp
    · rw [rO_old (by omega)]
      exact rO_op n c (by omega)
theorem rN_step (n r : Nat) : rN op st eg (n + 1) r = rN op st eg n r + (if rO op st eg (n + 1) n = some r then 1 else 0) := by
  unfold rN
  show ct _ n + _ = _
  rw [ct_congr (q := fun c => rO op st eg n c == some r) n (fun i hi => by rw [rO_old hi])]
  congr 1
  by_cases h : rO op st eg (n + 1) n = some r
  · simp [h]
  · simp [h]
theorem rN_new (n : Nat) : rN op st eg n (rC op st eg n) = 0 := by
  unfold rN
  apply ct_none
  intro i _
  cases h : rO op st eg n i with
  | none => rfl
  | some q =>
    have := rO_lt n i q h
    simp; omega
/-- the cells of a run, one stride behind the other -/
theorem r_cells (hst : 1 ≤ st) (heg : ∀ c, eg c = false → st ≤ c) : ∀ (n r : Nat), r < rC op st eg n → 1 ≤ rN op st eg n r ∧ (∀ i, i < rN op st eg n r → rL op st eg n r + i * st < n ∧ rO op st eg n (rL op st eg n r + i * st) = some r) ∧ (∀ c, rO op st eg n c = some r → ∃ i, i < rN op st eg n r ∧ c = rL op st eg n r + i * st)
  | 0, r, h => absurd h (by unfold rC rF; exact Nat.not_lt_zero r)
  | n + 1, r, h => by
    have hN := rN_step (op := op) (st := st) (eg := eg) n r
    cases h1 : op n with
    | false =>
      have hO : rO op st eg (n + 1) n = none := by rw [rO_shut h1]; exact rO_out n n (Nat.le_refl _)
      rw [hO, if_neg (by simp), Nat.add_zero] at hN
      have hL : rL op st eg (n + 1) r = rL op st eg n r := by rw [rL, if_neg (by rw [rS_shut h1]; simp)]
      rw [rC_shut h1] at h
      obtain ⟨i1, i2, i3⟩ := r_cells hst heg n r h
      rw [hN, hL, rO_shut h1]
      exact ⟨i1, fun i hi => ⟨by have := (i2 i hi).1; omega, (i2 i hi).2⟩, i3⟩
    | true =>
      cases ha : rA st eg (rO op st eg n) n with
      | none =>
        have hO : ∀ c, rO op st eg (n + 1) c = if c = n then some (rC op st eg n) else rO op st eg n c := rO_new h1 ha
        rw [hO n, if_pos rfl] at hN
        by_cases hr : r = rC op st eg n
        · subst hr
          rw [if_pos rfl, rN_new] at hN
          have hL : rL op st eg (n + 1) (rC op st eg n) = n := by unfold rL; rw [if_pos ⟨rS_new h1 ha, rfl⟩]
          rw [hN, hL]
          refine ⟨by omega, fun i hi => ?_, fun c hc => ?_⟩
          · have : i = 0 := by omega
            subst this
            rw [Nat.zero_mul, Nat.add_zero, hO, if_pos rfl]
            exact ⟨by omega, rfl⟩
          · rw [hO] at hc
            split at hc
            · rename_i hcn
              exact ⟨0, by omega, by omega⟩
            · have := rO_lt n c _ hc
              omega
        · have hr2 : ¬ some (rC op st eg n) = some r := fun q => hr (Option.some.inj q).symm
          rw [if_neg hr2, Nat.add_zero] at hN
          have hL : rL op st eg (n + 1) r = rL op st eg n r := by rw [rL, if_neg (fun q => hr q.2)]
          rw [rC_new h1 ha] at h
          obtain ⟨i1, i2, i3⟩ := r_cells hst heg n r (by omega)
          rw [hN, hL]
          refine ⟨i1, fun i hi => ?_, fun c hc => ?_⟩
          · have := i2 i hi
            rw [hO, if_neg (by omega)]
            exact ⟨by omega, this.2⟩
          · rw [hO] at hc
            split at hc
            · exact absurd hc hr2
            · exact i3 c hc
      | some q =>
        have hO : ∀ c, rO op st eg (n + 1) c = if c = n then some q else rO op st eg n c := rO_on h1 ha
        rw [hO n, if_pos rfl] at hN
        have hL : rL op st eg (n + 1) r = rL op st eg n r := by rw [rL, if_neg (by rw [rS_on h1 ha]; simp)]
        rw [rC_on h1 ha] at h
        obtain ⟨i1, i2, i3⟩ := r_cells hst heg n r h
        by_cases hr : q = r
        · subst hr
          rw [if_pos rfl] at hN
          -- the new cell is one stride behind the last
          unfold rA at ha
          split at ha
          · cases ha
          · rename_i he
            have hge : st ≤ n := heg n (by simpa using he)
            obtain ⟨i, hi, hc⟩ := i3 _ ha
            have hnew : n = rL op st eg n q + rN op st eg n q * st := by
              by_cases hlast : i + 1 = rN op st eg n q
              · rw [← hlast, Nat.add_mul]; omega
              · have h2 := (i2 (i + 1) (by omega)).1
                rw [Nat.add_mul] at h2
                omega
            rw [hN, hL]
            refine ⟨by omega, fun j hj => ?_, fun c hc => ?_⟩
            · by_cases hj2 : j < rN op st eg n q
              · have := i2 j hj2
                rw [hO, if_neg (by omega)]
                exact ⟨by omega, this.2⟩
              · have : j = rN op st eg n q := by omega
                subst this
                rw [hO, if_pos hnew.symm]
                exact ⟨by omega, rfl⟩
            · rw [hO] at hc
              split at hc
              · rename_i hcn
                exact ⟨rN op st eg n q, by omega, by omega⟩
              · obtain ⟨j, hj, e⟩ := i3 c hc
                exact ⟨j, by omega, e⟩
        · have hr2 : ¬ some q = some r := fun z => hr (Option.some.inj z)
          rw [if_neg hr2, Nat.add_zero] at hN
          rw [hN, hL]
          refine ⟨i1, fun i hi => ?_, fun c hc => ?_⟩
          · have := i2 i hi
            rw [hO, if_neg (by omega)]
            exact ⟨by omega, this.2⟩
          · rw [hO] at hc
            split at hc
            · exact absurd hc hr2
            · exact i3 c hc
theorem rS_op {n : Nat} (h : rS op st eg n = true) : op n = true := by
  unfold rS at h
  rw [Bool.and_eq_true] at h
  exact h.1
/-- no run begins behind a cell in which one begins -/
theorem rS_next {n : Nat} (hst : 1 ≤ st) (he : eg (n + st) = false) (h1 : rS op st eg n = true) : rS op st eg (n + st) = false := by
  have hop := rS_op h1
  cases h : rS op st eg (n + st) with
  | false => rfl
  | true =>
    unfold rS at h
    rw [Bool.and_eq_true] at h
    have h2 := h.2
    unfold rA at h2
    rw [he] at h2
    have h3 : rO op st eg (n + st) n = none := by simpa using h2
    rw [rO_op (n + st) n (by omega)] at h3
    rw [hop] at h3
    cases h3
end RUNS
/-- at most 32 runs: rows -/
theorem r32_rows {op : Nat → Bool} {W : Nat} (hW1 : 1 ≤ W) (hW : W ≤ 8) : ∀ (y x : Nat), x ≤ W → rC op 1 (fun c => c % W == 0) (y * W + x) ≤ 4 * y + (x + 1) / 2
  | 0, 0, _ => by
    rw [Nat.zero_mul]
    show 0 ≤ _
    omega
  | y + 1, 0, _ => by
    have ih := r32_rows (op := op) hW1 hW y W (Nat.le_refl _)
    rw [Nat.add_mul, Nat.one_mul, Nat.add_zero]
    omega
  | y, 1, hx => by
    have ih := r32_rows (op := op) hW1 hW y 0 (by omega)
    have hs := rC_step (op := op) (st := 1) (eg := fun c => c % W == 0) (y * W + 0)
    rw [show y * W + 0 + 1 = y * W + 1 by omega] at hs
    split at hs <;> omega
  | y, x + 2, hx => by
    have ih := r32_rows (op := op) hW1 hW y (x + 1) (by omega)
    have ih2 := r32_rows (op := op) hW1 hW y x (by omega)
    have hs := rC_step (op := op) (st := 1) (eg := fun c => c % W == 0) (y * W + (x + 1))
    have hs2 := rC_step (op := op) (st := 1) (eg := fun c => c % W == 0) (y * W + x)
    rw [show y * W + x + 1 = y * W + (x + 1) by omega] at hs2
    rw [show y * W + (x + 1) + 1 = y * W + (x + 2) by omega] at hs
    have hn := rS_next (op := op) (st := 1) (eg := fun c => c % W == 0) (n := y * W + x) (Nat.le_refl _) (by
      have : (y * W + x + 1) % W = x + 1 := by
        rw [Nat.add_assoc, Nat.mul_comm, Nat.mul_add_mod, Nat.mod_eq_of_lt (by omega)]
      simp [this])
    rw [show y * W + x + 1 = y * W + (x + 1) by omega] at hn
    cases hb : rS op 1 (fun c => c % W == 0) (y * W + x) with
    | true =>
      rw [hn hb, if_neg (by simp)] at hs
      rw [hb, if_pos rfl] at hs2
      omega
    | false =>
      rw [hb, if_neg (by simp)] at hs2
      split at hs <;> omega
/-- at most 32 runs: columns -/
theorem r32_cols {op : Nat → Bool} {W : Nat} (hW1 : 1 ≤ W) (hW : W ≤ 8) : ∀ y, rC op W (fun c => decide (c < W)) (y * W) ≤ 8 * ((y + 1) / 2) ∧ rC op W (fun c => decide (c < W)) (y * W) ≤ rC op W (fun c => decide (c < W)) ((y - 1) * W) + W
  | 0 => ⟨by rw [Nat.zero_mul]; exact Nat.zero_le _, by rw [Nat.zero_mul]; exact Nat.zero_le _⟩
  | 1 => by
    have h := ct_le (rS op W (fun c => decide (c < W))) (1 * W)
    rw [← rC_ct] at h
    refine ⟨by omega, by omega⟩
  | y + 2 => by
    have ih := r32_cols (op := op) hW1 hW y
    have e1 : (y + 1) * W = y * W + W := by rw [Nat.add_mul, Nat.one_mul]
    have e2 : (y + 2) * W = y * W + W + W := by rw [Nat.add_mul]; omega
    have h1 := ct_add (rS op W (fun c => decide (c < W))) (y * W) W
    have h2 := ct_add (rS op W (fun c => decide (c < W))) (y * W + W) W
    have h3 := ct_two (p := fun i => rS op W (fun c => decide (c < W)) (y * W + i)) (q := fun i => rS op W (fun c => decide (c < W)) (y * W + W + i)) W (fun i hi hh => by
      have := rS_next (op := op) (st := W) (eg := fun c => decide (c < W)) (n := y * W + i) hW1 (by simp) hh.1
      rw [show y * W + i + W = y * W + W + i by omega, hh.2] at this
      cases this)
    have h4 := ct_le (fun i => rS op W (fun c => decide (c < W)) (y * W + W + i)) W
    rw [← rC_ct, ← rC_ct] at h1
    rw [← rC_ct, ← rC_ct] at h2
    rw [show y + 2 - 1 = y + 1 by omega, e1, e2]
    omega
