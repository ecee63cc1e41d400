/-! PACKING, in naturals -/
def bx_ap (sd px py : Nat → Nat) (s k : Nat) : Prop := px k + sd k ≤ px s ∨ px s + sd s ≤ px k ∨ py k + sd k ≤ py s ∨ py s + sd s ≤ py k
def bx_free (sd px py : Nat → Nat) (s : Nat) : Prop := ∀ k, k < s → bx_ap sd px py s k
abbrev bx_fit (A Bh : Nat) (sd px py : Nat → Nat) (s : Nat) : Prop := px s + sd s ≤ A ∧ py s + sd s ≤ Bh
def bx_ax (A : Nat) (sd px : Nat → Nat) (s : Nat) : Nat := if px s + 1 + sd s ≤ A then px s + 1 else 0
def bx_ay (A : Nat) (sd px py : Nat → Nat) (s : Nat) : Nat := if px s + 1 + sd s ≤ A then py s else py s + 1

noncomputable def bx_run (A Bh cnt steps : Nat) (sd : Nat → Nat) : Nat → Nat → (Nat → Nat) → (Nat → Nat) → Nat → Nat × Nat × (Nat → Nat) × (Nat → Nat)
  | 0, _, px, py, tr => (2, tr, px, py)
  | n + 1, s, px, py, tr =>
    if cnt ≤ s then (1, tr, px, py)
    else if ¬ bx_fit A Bh sd px py s then
      (if s = 0 then (0, tr, px, py) else bx_run A Bh cnt steps sd n (s - 1) (upN px (s - 1) (bx_ax A sd px (s - 1))) (upN py (s - 1) (bx_ay A sd px py (s - 1))) tr)
    else if steps ≤ tr then (2, tr, px, py)
    else if @decide (bx_free sd px py s) (Classical.propDecidable _) = true then bx_run A Bh cnt steps sd n (s + 1) (upN px (s + 1) 0) (upN py (s + 1) 0) (tr + 1)
    else bx_run A Bh cnt steps sd n s (upN px s (bx_ax A sd px s)) (upN py s (bx_ay A sd px py s)) (tr + 1)
/-- the taken bits of row y, with s squares laid -/
def bx_t (sd px py : Nat → Nat) : Nat → Nat → Nat
  | 0, _ => 0
  | s + 1, y => if py s ≤ y ∧ y < py s + sd s then bx_t sd px py s y ^^^ bx_br (sd s) (px s) else bx_t sd px py s y
theorem bx_br_bit (s x i : Nat) : (bx_br s x).testBit i = decide (x ≤ i ∧ i < x + s) := by
  unfold bx_br
  rw [← Nat.shiftLeft_eq, Nat.testBit_shiftLeft, Nat.testBit_two_pow_sub_one]
  by_cases h : x ≤ i
  · simp [h]; omega
  · simp [h]
theorem bx_br_lt {s x : Nat} (h : x + s ≤ 12) : bx_br s x < 2 ^ 12 := by
  unfold bx_br
  have h1 : 2 ^ (x + s) ≤ 2 ^ 12 := Nat.pow_le_pow_right (by omega) h
  have h2 : (2 ^ s - 1) * 2 ^ x < 2 ^ s * 2 ^ x := Nat.mul_lt_mul_of_pos_right (by have := Nat.pos_of_ne_zero (Nat.pos_iff_ne_zero.mp (Nat.pow_pos (n := s) (show 0 < 2 by omega))); omega) (Nat.pow_pos (by omega))
  rw [← Nat.pow_add, Nat.add_comm s x] at h2
  omega
theorem bx_t_lt {sd px py : Nat → Nat} : ∀ (s : Nat), (∀ k, k < s → px k + sd k ≤ 12) → ∀ y, bx_t sd px py s y < 2 ^ 12
  | 0, _, _ => by unfold bx_t; omega
  | s + 1, h, y => by
    have ih := bx_t_lt (sd := sd) (px := px) (py := py) s (fun k hk => h k (by omega)) y
    unfold bx_t
    split
    · exact Nat.xor_lt_two_pow ih (bx_br_lt (h s (by omega)))
    · exact ih
theorem bx_t_bit {sd px py : Nat → Nat} : ∀ (s : Nat), (∀ k, k < s → bx_free sd px py k) → ∀ x y, (bx_t sd px py s y).testBit x = true ↔ ∃ k, k < s ∧ px k ≤ x ∧ x < px k + sd k ∧ py k ≤ y ∧ y < py k + sd k
  | 0, _, x, y => by
    unfold bx_t
    simp
  | s + 1, h, x, y => by
    have ih := bx_t_bit (sd := sd) (px := px) (py := py) s (fun k hk => h k (by omega)) x y
    unfold bx_t
    by_cases hy : py s ≤ y ∧ y < py s + sd s
    · rw [if_pos hy, Nat.testBit_xor, bx_br_bit]
      by_cases hx : px s ≤ x ∧ x < px s + sd s
      · have hno : (bx_t sd px py s y).testBit x = false := by
          cases hb : (bx_t sd px py s y).testBit x with
          | false => rfl
          | true =>
            obtain ⟨k, hk, h1, h2, h3, h4⟩ := ih.mp hb
            have := h s (by omega) k hk
            unfold bx_ap at this
            omega
        rw [hno]
        simp only [hx, and_self, decide_true, Bool.false_bne, true_iff]
        exact ⟨s, by omega, hx.1, hx.2, hy.1, hy.2⟩
      · have e : decide (px s ≤ x ∧ x < px s + sd s) = false := by simpa using hx
        rw [e, Bool.xor_false, ih]
        constructor
        · rintro ⟨k, hk, h1⟩; exact ⟨k, by omega, h1⟩
        · rintro ⟨k, hk, h1⟩
          by_cases hks : k = s
          · subst hks; exact absurd ⟨h1.1, h1.2.1⟩ hx
          · exact ⟨k, by omega, h1⟩
    · rw [if_neg hy, ih]
      constructor
      · rintro ⟨k, hk, h1⟩; exact ⟨k, by omega, h1⟩
      · rintro ⟨k, hk, h1⟩
        by_cases hks : k = s
        · subst hks; exact absurd h1.2.2 hy
        · exact ⟨k, by omega, h1⟩
theorem bx_free_iff {sd px py : Nat → Nat} {s : Nat} (h : ∀ k, k < s → bx_free sd px py k) (h1 : ∀ k, k ≤ s → 1 ≤ sd k) : (∀ y, py s ≤ y → y < py s + sd s → bx_t sd px py s y &&& bx_br (sd s) (px s) = 0) ↔ bx_free sd px py s := by
  constructor
  · intro hz k hk
    apply Classical.byContradiction
    intro hn
    unfold bx_ap at hn
    have k1 := h1 k (by omega)
    have s1 := h1 s (by omega)
    have hy := hz (max (py s) (py k)) (by omega) (by omega)
    have hb : (bx_t sd px py s (max (py s) (py k)) &&& bx_br (sd s) (px s)).testBit (max (px s) (px k)) = true := by
      rw [Nat.testBit_and, (bx_t_bit s h _ _).mpr ⟨k, hk, by omega, by omega, by omega, by omega⟩, bx_br_bit]
      simp; omega
    rw [hy] at hb
    simp at hb
  · intro hf y hy1 hy2
    apply Nat.eq_of_testBit_eq
    intro x
    rw [Nat.testBit_and, Nat.zero_testBit, bx_br_bit]
    cases hb : (bx_t sd px py s y).testBit x with
    | false => rfl
    | true =>
      obtain ⟨k, hk, g1, g2, g3, g4⟩ := (bx_t_bit s h _ _).mp hb
      have := hf k hk
      unfold bx_ap at this
      simp; omega
theorem bx_t_congr {sd px py px' py' : Nat → Nat} : ∀ (s : Nat), (∀ k, k < s → px' k = px k ∧ py' k = py k) → ∀ y, bx_t sd px' py' s y = bx_t sd px py s y
  | 0, _, _ => rfl
  | s + 1, h, y => by
    unfold bx_t
    rw [bx_t_congr (sd := sd) s (fun k hk => h k (by omega)) y, (h s (by omega)).1, (h s (by omega)).2]
theorem bx_free_congr {sd px py px' py' : Nat → Nat} {s : Nat} (h : ∀ k, k ≤ s → px' k = px k ∧ py' k = py k) : bx_free sd px' py' s ↔ bx_free sd px py s := by
  unfold bx_free bx_ap
  constructor
  · intro q k hk
    have := q k hk
    rw [(h k (by omega)).1, (h k (by omega)).2, (h s (by omega)).1, (h s (by omega)).2] at this
    exact this
  · intro q k hk
    have := q k hk
    rw [(h k (by omega)).1, (h k (by omega)).2, (h s (by omega)).1, (h s (by omega)).2]
    exact this
theorem bx_run_le (A Bh cnt steps : Nat) (sd : Nat → Nat) : ∀ (n s : Nat) (px py : Nat → Nat) (tr : Nat), (bx_run A Bh cnt steps sd n s px py tr).1 ≤ 2
  | 0, _, _, _, _ => by unfold bx_run; exact Nat.le_refl _
  | n + 1, s, px, py, tr => by
    unfold bx_run
    split
    · show 1 ≤ 2; omega
    · split
      · split
        · show 0 ≤ 2; omega
        · exact bx_run_le A Bh cnt steps sd n _ _ _ _
      · split
        · show 2 ≤ 2; omega
        · split
          · exact bx_run_le A Bh cnt steps sd n _ _ _ _
          · exact bx_run_le A Bh cnt steps sd n _ _ _ _
