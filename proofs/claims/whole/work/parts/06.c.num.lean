/-! NUMBERS: ints as naturals -/
theorem nu_add {x y : Int32} (h1 : -2147483648 ≤ x.toInt + y.toInt) (h2 : x.toInt + y.toInt < 2147483648) : (x + y).toInt = x.toInt + y.toInt := by
  rw [Int32.toInt_add]
  exact Int.bmod_eq_of_le (by omega) (by omega)
theorem nu_sub {x y : Int32} (h1 : -2147483648 ≤ x.toInt - y.toInt) (h2 : x.toInt - y.toInt < 2147483648) : (x - y).toInt = x.toInt - y.toInt := by
  rw [Int32.toInt_sub]
  exact Int.bmod_eq_of_le (by omega) (by omega)
theorem nu_0 : (0 : Int32) = nI 0 := by decide
theorem nu_1 : (1 : Int32) = nI 1 := by decide
theorem nu_2 : (2 : Int32) = nI 2 := by decide
theorem nu_8 : (8 : Int32) = nI 8 := by decide
theorem nu_12 : (12 : Int32) = nI 12 := by decide
theorem nu_31 : (31 : Int32) = nI 31 := by decide
theorem nu_32 : (32 : Int32) = nI 32 := by decide
theorem nu_64 : (64 : Int32) = nI 64 := by decide
theorem nu_256 : (256 : Int32) = nI 256 := by decide
theorem nu_le {a b : Nat} (ha : a < 1000000) (hb : b < 1000000) : nI a ≤ nI b ↔ a ≤ b := nI_leI (by omega) (by omega)
theorem nu_lt {a b : Nat} (ha : a < 1000000) (hb : b < 1000000) : nI a < nI b ↔ a < b := nI_ltI (by omega) (by omega)
theorem nu_eq {a b : Nat} (ha : a < 1000000) (hb : b < 1000000) : nI a = nI b ↔ a = b := nI_eq (by omega) (by omega)
theorem nu_cl {a : Nat} (ha : a < 1000000) : (nI a).toNatClampNeg = a := nI_clamp (by omega)
theorem nu_in {a n : Nat} (h : a < n) (hn : n < 1000000) : vp_in (nI a) n := vp_in_nI h (by omega)
theorem nu_ti {a : Nat} (ha : a < 1000000) : (nI a).toInt = (a : Int) := nI_toInt (by omega)
theorem nu_m1 : (-1 : Int32).toInt = -1 := by decide
/-- out of a row: the place is a natural -/
theorem nu_of {x : Int32} {n : Nat} (h : 0 ≤ x.toInt) (h2 : x.toInt < (n : Int)) : ∃ k : Nat, k < n ∧ x = nI k := by
  refine ⟨x.toInt.toNat, by omega, ?_⟩
  apply Int32.toInt_inj.mp
  have h3 : x.toInt < 2 ^ 31 := Int32.toInt_lt x
  rw [show nI x.toInt.toNat = Int32.ofNat x.toInt.toNat from rfl]
  have := nI_toInt (n := x.toInt.toNat) (by omega)
  rw [show nI x.toInt.toNat = Int32.ofNat x.toInt.toNat from rfl] at this
  omega
theorem nu_updS {f : Nat → Int32} {k : Nat} {x : Int32} : upd f k x k = x := pk_us
theorem nu_updN {f : Nat → Int32} {k j : Nat} {x : Int32} (h : j ≠ k) : upd f k x j = f j := pk_un h
theorem nu_upd (f : Nat → Int32) (k : Nat) (x : Int32) (j : Nat) : upd f k x j = if j = k then x else f j := by
  by_cases h : j = k
  · subst h; rw [pk_us, if_pos rfl]
  · rw [pk_un h, if_neg h]
theorem nu_uu (f : Nat → Int32) (k : Nat) (x y : Int32) : upd (upd f k x) k y = upd f k y := by
  funext j
  rw [nu_upd, nu_upd, nu_upd]
  split <;> rfl
/-- naturals in rows -/
def upN (f : Nat → Nat) (k v : Nat) : Nat → Nat := fun j => if j = k then v else f j
theorem upN_ne {f : Nat → Nat} {k v j : Nat} (h : j ≠ k) : upN f k v j = f j := if_neg h
theorem upN_eq {f : Nat → Nat} {k v : Nat} : upN f k v k = v := if_pos rfl
theorem pib0 (x y : Int32) : pm_ib 0 x y = x + y := rfl
theorem pib1 (x y : Int32) : pm_ib 1 x y = x - y := rfl
theorem pib2 (x y : Int32) : pm_ib 2 x y = x * y := rfl
