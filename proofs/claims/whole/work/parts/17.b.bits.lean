/-! SETS OF RUNS in longs -/
def bS (x : Int64) (k : Nat) : Bool := x.toBitVec.getLsbD k
theorem bS_out {x : Int64} {k : Nat} (h : 64 ≤ k) : bS x k = false := BitVec.getLsbD_of_ge _ _ h
theorem bS_ext {x y : Int64} (h : ∀ k, k < 64 → bS x k = bS y k) : x = y := by
  apply Int64.toBitVec_inj.mp
  exact BitVec.eq_of_getLsbD_eq h
theorem bS_0 (k : Nat) : bS 0 k = false := by
  show (0#64).getLsbD k = false
  exact BitVec.getLsbD_zero
theorem bS_m1 {k : Nat} (h : k < 64) : bS (-1) k = true := by
  have e : (-1 : Int64).toBitVec = BitVec.allOnes 64 := by decide
  unfold bS
  rw [e, BitVec.getLsbD_allOnes]
  exact decide_eq_true h
theorem bS_and (x y : Int64) (k : Nat) : bS (pm_lb 3 x y) k = (bS x k && bS y k) := BitVec.getLsbD_and
theorem bS_or (x y : Int64) (k : Nat) : bS (pm_lb 4 x y) k = (bS x k || bS y k) := BitVec.getLsbD_or
theorem bS_xor (x y : Int64) (k : Nat) : bS (pm_lb 5 x y) k = (bS x k ^^ bS y k) := BitVec.getLsbD_xor
theorem bS_amt {k : Nat} (hk : k < 64) : ((nI k).toInt64 &&& 63).toBitVec.smod 64 = BitVec.ofNat 64 k := by
  have h : ∀ k : Fin 64, ((nI k.1).toInt64 &&& 63).toBitVec.smod 64 = BitVec.ofNat 64 k.1 := by decide +kernel
  exact h ⟨k, hk⟩
theorem bS_amt2 {k : Nat} (hk : k < 64) : (((nI k).toInt64.toUInt64 &&& Int64.toUInt64 63) % 64).toBitVec = BitVec.ofNat 64 k := by
  have h : ∀ k : Fin 64, (((nI k.1).toInt64.toUInt64 &&& Int64.toUInt64 63) % 64).toBitVec = BitVec.ofNat 64 k.1 := by decide +kernel
  exact h ⟨k, hk⟩
theorem bS_shl1 {k : Nat} (hk : k < 64) (j : Nat) : bS (pm_ls 0 1 (nI k)) j = decide (j = k) := by
  show ((1#64) <<< (((nI k).toInt64 &&& 63).toBitVec.smod 64)).getLsbD j = _
  rw [bS_amt hk, BitVec.shiftLeft_eq', BitVec.getLsbD_shiftLeft, BitVec.toNat_ofNat, Nat.mod_eq_of_lt (by omega), BitVec.getLsbD_one]
  by_cases h1 : j < 64
  · by_cases h2 : j < k
    · simp [h1, h2]; omega
    · simp [h1, h2]; omega
  · simp [h1]; omega
theorem bS_shrN (x : Int64) {k : Nat} (hk : k < 64) : (pm_ls 2 x (nI k)).toBitVec.toNat = x.toBitVec.toNat / 2 ^ k := by
  show (x.toBitVec >>> (((nI k).toInt64.toUInt64 &&& Int64.toUInt64 63) % 64).toBitVec).toNat = _
  rw [bS_amt2 hk, BitVec.ushiftRight_eq', BitVec.toNat_ushiftRight, BitVec.toNat_ofNat, Nat.mod_eq_of_lt (by omega), Nat.shiftRight_eq_div_pow]
theorem bS_shr (x : Int64) {k : Nat} (hk : k < 64) (j : Nat) : bS (pm_ls 2 x (nI k)) j = bS x (k + j) := by
  show (x.toBitVec >>> (((nI k).toInt64.toUInt64 &&& Int64.toUInt64 63) % 64).toBitVec).getLsbD j = _
  rw [bS_amt2 hk, BitVec.ushiftRight_eq', BitVec.getLsbD_ushiftRight, BitVec.toNat_ofNat, Nat.mod_eq_of_lt (by omega)]
  rfl
theorem bS_1 (j : Nat) : bS 1 j = decide (j = 0) := by
  show (1#64).getLsbD j = _
  rw [BitVec.getLsbD_one]
  simp
theorem bS_is (x : Int64) {k : Nat} (hk : k < 64) : pm_lb 3 (pm_ls 2 x (nI k)) 1 = if bS x k then 1 else 0 := by
  apply bS_ext
  intro j hj
  rw [bS_and, bS_shr x hk, bS_1]
  by_cases h : j = 0
  · subst h
    cases hb : bS x k <;> simp [hb, bS_0, bS_1]
  · cases hb : bS x k <;> simp [h, bS_0, bS_1]
theorem lc_eq {x : Int64} : lg_cmp x 0 = 0 ↔ x = 0 := by
  unfold lg_cmp
  by_cases h : x = 0
  · subst h; simp
  · by_cases h2 : x > 0
    · simp [h, h2]
    · simp [h, h2]
theorem lc_xy {x y : Int64} : lg_cmp x y = 0 ↔ x = y := by
  unfold lg_cmp
  by_cases h : x = y
  · subst h; simp
  · by_cases h2 : x > y
    · simp [h, h2]
    · simp [h, h2]
/-- is run k in the set -/
theorem bS_tst (x : Int64) {k : Nat} (hk : k < 64) : lg_cmp (pm_lb 3 (pm_ls 2 x (nI k)) 1) 0 = 0 ↔ bS x k = false := by
  rw [lc_eq, bS_is x hk]
  cases bS x k <;> decide
/-- run k goes -/
theorem bS_del (x : Int64) {k : Nat} (hk : k < 64) (j : Nat) : bS (pm_lb 3 x (pm_lb 5 (pm_ls 0 1 (nI k)) (-1))) j = (bS x j && !decide (j = k)) := by
  rw [bS_and, bS_xor, bS_shl1 hk]
  by_cases h : j < 64
  · rw [bS_m1 h]; simp
  · rw [bS_out (x := x) (by omega)]; rfl
theorem bS_add (x : Int64) {k : Nat} (hk : k < 64) (j : Nat) : bS (pm_lb 4 x (pm_ls 0 1 (nI k))) j = (bS x j || decide (j = k)) := by
  rw [bS_or, bS_shl1 hk]
