/-! SETS OF RUNS in ints -/
theorem ib_and (a b : Nat) : pm_ib 3 (nI a) (nI b) = nI (a &&& b) := by
  apply Int32.toBitVec_inj.mp
  show BitVec.ofNat 32 a &&& BitVec.ofNat 32 b = BitVec.ofNat 32 (a &&& b)
  exact (BitVec.ofNat_and ..).symm
theorem ib_or (a b : Nat) : pm_ib 4 (nI a) (nI b) = nI (a ||| b) := by
  apply Int32.toBitVec_inj.mp
  show BitVec.ofNat 32 a ||| BitVec.ofNat 32 b = BitVec.ofNat 32 (a ||| b)
  exact (BitVec.ofNat_or ..).symm
def dif (s h : Nat) : Nat := s ^^^ (s &&& h)
theorem dif_tb (s h i : Nat) : (dif s h).testBit i = (s.testBit i && !h.testBit i) := by
  unfold dif
  rw [Nat.testBit_xor, Nat.testBit_and]
  cases s.testBit i <;> cases h.testBit i <;> rfl
theorem dif_lt {s h n : Nat} (hs : s < 2 ^ n) : dif s h < 2 ^ n := by
  apply Nat.lt_pow_two_of_testBit
  intro i hi
  rw [dif_tb, Nat.testBit_lt_two_pow (Nat.lt_of_lt_of_le hs (Nat.pow_le_pow_right (by omega) hi))]
  rfl
theorem ib_dif (s h : Nat) : pm_ib 3 (nI s) (pm_ib 5 (nI h) (-1)) = nI (dif s h) := by
  apply Int32.toBitVec_inj.mp
  show BitVec.ofNat 32 s &&& (BitVec.ofNat 32 h ^^^ (-1 : Int32).toBitVec) = BitVec.ofNat 32 (dif s h)
  rw [show (-1 : Int32).toBitVec = BitVec.allOnes 32 by decide]
  apply BitVec.eq_of_getLsbD_eq
  intro i hi
  rw [BitVec.getLsbD_and, BitVec.getLsbD_xor, BitVec.getLsbD_allOnes, BitVec.getLsbD_ofNat, BitVec.getLsbD_ofNat, BitVec.getLsbD_ofNat, dif_tb]
  simp [hi]
theorem ib_shl {k : Nat} (hk : k < 31) : pm_ib 6 1 (nI k) = nI (2 ^ k) := by
  have h : ∀ k : Fin 31, pm_ib 6 1 (nI k.1) = nI (2 ^ k.1) := by decide +kernel
  exact h ⟨k, hk⟩
theorem ib_ful {k : Nat} (hk : k < 31) : pm_ib 1 (pm_ib 6 1 (nI k)) 1 = nI (2 ^ k - 1) := by
  have h : ∀ k : Fin 31, pm_ib 1 (pm_ib 6 1 (nI k.1)) 1 = nI (2 ^ k.1 - 1) := by decide +kernel
  exact h ⟨k, hk⟩
theorem la_2 {A B a b : Nat} (ha : a < 2) (hb : b < 2) : (2 * A + a) &&& (2 * B + b) = 2 * (A &&& B) + (a &&& b) := by
  apply Nat.eq_of_testBit_eq
  intro i
  have hab : a &&& b < 2 ^ 1 := Nat.and_lt_two_pow _ hb
  have e : ∀ C c : Nat, c < 2 → ∀ i, (2 * C + c).testBit i = if i < 1 then c.testBit i else C.testBit (i - 1) := fun C c hc i => Nat.testBit_two_pow_mul_add (i := 1) C hc i
  rw [Nat.testBit_and, e _ _ ha, e _ _ hb, e _ _ hab]
  split
  · rw [Nat.testBit_and]
  · rw [Nat.testBit_and]
/-- the next lower part of S -/
theorem sub_le : ∀ (p q S : Nat), p &&& S = p → q &&& S = q → q < p → q ≤ (p - 1) &&& S := by
  intro p
  induction p using Nat.strongRecOn with
  | _ p ih =>
    intro q S hp hq hlt
    have eS : S = 2 * (S / 2) + S % 2 := by omega
    have ep : p = 2 * (p / 2) + p % 2 := by omega
    have eq : q = 2 * (q / 2) + q % 2 := by omega
    have l1 : (p / 2) &&& (S / 2) = p / 2 ∧ (p % 2) &&& (S % 2) = p % 2 := by
      have h := hp
      rw [ep, eS, la_2 (by omega) (by omega)] at h
      have : (p % 2) &&& (S % 2) ≤ p % 2 := Nat.and_le_left
      omega
    have l2 : (q / 2) &&& (S / 2) = q / 2 ∧ (q % 2) &&& (S % 2) = q % 2 := by
      have h := hq
      rw [eq, eS, la_2 (by omega) (by omega)] at h
      have : (q % 2) &&& (S % 2) ≤ q % 2 := Nat.and_le_left
      omega
    have le : q % 2 ≤ S % 2 := by rw [← l2.2]; exact Nat.and_le_right
    by_cases hb : p % 2 = 1
    · rw [show p - 1 = 2 * (p / 2) + 0 by omega, eS, la_2 (by omega) (by omega), l1.1]
      omega
    · have h2 := ih (p / 2) (by omega) (q / 2) (S / 2) l1.1 l2.1 (by omega)
      have e1 : 1 &&& (S % 2) = S % 2 := by
        rcases Nat.mod_two_eq_zero_or_one S with h | h 
        · rw [h]; decide
        · rw [h]; decide
      rw [show p - 1 = 2 * (p / 2 - 1) + 1 by omega, eS, la_2 (by omega) (by omega), e1]
      omega
theorem nat_of (p : Nat → Bool) : ∀ a, ∃ s, s < 2 ^ a ∧ ∀ i, s.testBit i = (p i && decide (i < a))
  | 0 => ⟨0, by decide, fun i => by simp⟩
  | a + 1 => by
    obtain ⟨s, h1, h2⟩ := nat_of p a
    cases hp : p a with
    | false =>
      refine ⟨s, by rw [Nat.pow_succ]; omega, fun i => ?_⟩
      rw [h2 i]
      by_cases e : i = a
      · rw [e, hp]; rfl
      · have : decide (i < a + 1) = decide (i < a) := by rw [Bool.eq_iff_iff, decide_eq_true_eq, decide_eq_true_eq]; omega
        rw [this]
    | true =>
      refine ⟨2 ^ a + s, by rw [Nat.pow_succ]; omega, fun i => ?_⟩
      by_cases e : i = a
      · rw [e, hp, Nat.testBit_two_pow_add_eq, h2 a]; simp
      · by_cases l : i < a
        · rw [Nat.testBit_two_pow_add_gt l, h2 i]
          simp [l, show i < a + 1 by omega]
        · rw [Nat.testBit_lt_two_pow (x := 2 ^ a + s) (i := i) (by have := Nat.pow_le_pow_right (n := 2) (by omega) (show a + 1 ≤ i by omega); rw [Nat.pow_succ] at this; omega)]
          simp [show ¬ i < a + 1 by omega]
theorem tb_lt {s n i : Nat} (hs : s < 2 ^ n) (hi : s.testBit i = true) : i < n := by
  refine Nat.lt_of_not_le (fun z => ?_)
  rw [Nat.testBit_lt_two_pow (Nat.lt_of_lt_of_le hs (Nat.pow_le_pow_right (by omega) z))] at hi
  cases hi
theorem tb_add {a s i : Nat} (hs : s < 2 ^ a) : (2 ^ a + s).testBit i = (decide (i = a) || s.testBit i) := by
  by_cases e : i = a
  · rw [e, Nat.testBit_two_pow_add_eq, Nat.testBit_lt_two_pow hs]; simp
  · by_cases l : i < a
    · rw [Nat.testBit_two_pow_add_gt l]; simp [e]
    · have h1 : 2 ^ a + s < 2 ^ i := by have := Nat.pow_le_pow_right (n := 2) (by omega) (show a + 1 ≤ i by omega); rw [Nat.pow_succ] at this; omega
      rw [Nat.testBit_lt_two_pow h1, Nat.testBit_lt_two_pow (show s < 2 ^ i by omega)]; simp [e]
theorem or_add {a s : Nat} (hs : s < 2 ^ a) : s ||| 2 ^ a = 2 ^ a + s := by
  apply Nat.eq_of_testBit_eq
  intro i
  rw [Nat.testBit_or, tb_add hs, Nat.testBit_two_pow]
  rw [show decide (a = i) = decide (i = a) by rw [Bool.eq_iff_iff, decide_eq_true_eq, decide_eq_true_eq]; exact eq_comm]
  cases s.testBit i <;> simp
theorem tn_bits {x : Int64} {a : Nat} (h : ∀ k, bS x k = true → k < a) : tn x < 2 ^ a := by
  apply Nat.lt_pow_two_of_testBit
  intro i hi
  cases e : (tn x).testBit i with
  | false => rfl
  | true => have := h i e; omega
theorem tn_255 (x : Int64) : (pm_lb 3 x 255).toInt32 = nI (tn x % 256) := by
  apply Int32.toBitVec_inj.mp
  apply BitVec.eq_of_toNat_eq
  show ((x.toBitVec &&& 255#64).signExtend 32).toNat = (BitVec.ofNat 32 (tn x % 256)).toNat
  rw [BitVec.signExtend_eq_setWidth_of_le _ (by omega), BitVec.toNat_setWidth, BitVec.toNat_and, BitVec.toNat_ofNat]
  show (x.toBitVec.toNat &&& (2 ^ 8 - 1)) % 2 ^ 32 = _
  rw [Nat.and_two_pow_sub_one_eq_mod]
  rfl
theorem tn_l2i (x : Int64) : x.toInt32 = nI (tn x) := by
  apply Int32.toBitVec_inj.mp
  apply BitVec.eq_of_toNat_eq
  show (x.toBitVec.signExtend 32).toNat = (BitVec.ofNat 32 (tn x)).toNat
  rw [BitVec.signExtend_eq_setWidth_of_le _ (by omega), BitVec.toNat_setWidth, BitVec.toNat_ofNat]
  rfl
theorem bS_i2l {p : Nat} (hp : p < 2 ^ 31) (k : Nat) : bS (nI p).toInt64 k = p.testBit k := by
  show ((BitVec.ofNat 32 p).signExtend 64).getLsbD k = _
  have hm : (BitVec.ofNat 32 p).msb = false := by
    rw [BitVec.msb_eq_false_iff_two_mul_lt, BitVec.toNat_ofNat, Nat.mod_eq_of_lt (by omega)]; omega
  rw [BitVec.signExtend_eq_setWidth_of_msb_false hm, BitVec.getLsbD_setWidth, BitVec.getLsbD_ofNat]
  by_cases h : k < 32
  · simp [h, show k < 64 by omega]
  · rw [Nat.testBit_lt_two_pow (x := p) (i := k) (Nat.lt_of_lt_of_le hp (Nat.pow_le_pow_right (by omega) (by omega)))]
    simp
theorem ct_bytes (x : Int64) : ct (bS x) 64 = pc (tn x % 256) + ct (bS (pm_ls 2 x (nI 8))) 64 := by
  rw [show (64 : Nat) = 8 + 56 from rfl, ct_add, ct_add (bS (pm_ls 2 x (nI 8))) 8 56]
  have e1 : ct (bS x) 8 = pc (tn x % 256) := ct_congr 8 (fun i hi => by
    rw [show (256 : Nat) = 2 ^ 8 from rfl, Nat.testBit_mod_two_pow, bS_tn]; simp [hi])
  have e2 := ct_add (bS (pm_ls 2 x (nI 8))) 56 8
  have e3 := ct_add (bS (pm_ls 2 x (nI 8))) 8 56
  rw [show (56 + 8 : Nat) = 8 + 56 from rfl, e3] at e2
  have e4 : ct (fun i => bS x (8 + i)) 56 = ct (bS (pm_ls 2 x (nI 8))) 56 := ct_congr 56 (fun i _ => by rw [bS_shr x (by omega)])
  have e5 : ct (fun i => bS (pm_ls 2 x (nI 8)) (56 + i)) 8 = 0 := ct_none 8 (fun i _ => by rw [bS_shr x (by omega)]; exact bS_out (by omega))
  omega
theorem le_dif {x y D : Nat} (hx : x ≤ 64) (hy : y ≤ 64) (hD : D ≤ 64) : nI x - nI y ≤ nI D ↔ x ≤ D + y := by
  rw [Int32.le_iff_toInt_le, Int32.toInt_sub, show (nI x).toInt = (x : Int) from Int32.toInt_ofNat_of_lt (by omega), show (nI y).toInt = (y : Int) from Int32.toInt_ofNat_of_lt (by omega), show (nI D).toInt = (D : Int) from Int32.toInt_ofNat_of_lt (by omega)]
  rw [Int.bmod_eq_of_le (by omega) (by omega)]
  omega
