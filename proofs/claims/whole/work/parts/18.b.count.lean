/-! HOW MANY BITS -/
theorem la_step {A B a b : Nat} (ha : a < 256) (hb : b < 256) : (256 * A + a) &&& (256 * B + b) = 256 * (A &&& B) + (a &&& b) := by
  apply Nat.eq_of_testBit_eq
  intro i
  have hab : a &&& b < 2 ^ 8 := Nat.and_lt_two_pow _ hb
  rw [Nat.testBit_and, show (256 : Nat) = 2 ^ 8 from rfl, Nat.testBit_two_pow_mul_add _ (show a < 2 ^ 8 from ha), Nat.testBit_two_pow_mul_add _ (show b < 2 ^ 8 from hb), Nat.testBit_two_pow_mul_add _ hab]
  split
  · rw [Nat.testBit_and]
  · rw [Nat.testBit_and]
def mk8 (m : Nat) : Nat → Nat
  | 0 => 0
  | n + 1 => 256 * mk8 m n + m
def t1 (n X : Nat) : Nat := X - ((X / 2) &&& mk8 85 n)
def t2 (n X : Nat) : Nat := (X &&& mk8 51 n) + ((X / 4) &&& mk8 51 n)
def t3 (n X : Nat) : Nat := (X + X / 16) &&& mk8 15 n
def u1 (b : Nat) : Nat := b - ((b / 2) &&& 85)
def u2 (c : Nat) : Nat := (c &&& 51) + ((c / 4) &&& 51)
theorem u_all {b : Nat} (hb : b < 256) : u1 b < 256 ∧ u2 (u1 b) ≤ 68 ∧ u2 (u1 b) % 16 ≤ 4 ∧ (u2 (u1 b) + u2 (u1 b) / 16) % 16 = pc b := by
  have h : ∀ b : Fin 256, u1 b.1 < 256 ∧ u2 (u1 b.1) ≤ 68 ∧ u2 (u1 b.1) % 16 ≤ 4 ∧ (u2 (u1 b.1) + u2 (u1 b.1) / 16) % 16 = pc b.1 := by decide +kernel
  exact h ⟨b, hb⟩
theorem t1_step (n Y : Nat) {b : Nat} (hb : b < 256) : t1 (n + 1) (256 * Y + b) = 256 * t1 n Y + u1 b := by
  have h : ∀ e : Fin 2, ∀ b : Fin 256, (128 * e.1 + b.1 / 2) &&& 85 = (b.1 / 2) &&& 85 := by decide +kernel
  have e1 : (256 * Y + b) / 2 = 256 * (Y / 2) + (128 * (Y % 2) + b / 2) := by omega
  have e2 : (128 * (Y % 2) + b / 2) &&& 85 = (b / 2) &&& 85 := h ⟨Y % 2, by omega⟩ ⟨b, hb⟩
  unfold t1 u1
  rw [e1, show mk8 85 (n + 1) = 256 * mk8 85 n + 85 from rfl, la_step (by omega) (by omega), e2]
  have l1 : (b / 2) &&& 85 ≤ b / 2 := Nat.and_le_left
  have l2 : (Y / 2) &&& mk8 85 n ≤ Y / 2 := Nat.and_le_left
  omega
theorem t2_step (n T : Nat) {c : Nat} (hc : c < 256) : t2 (n + 1) (256 * T + c) = 256 * t2 n T + u2 c := by
  have h : ∀ e : Fin 4, ∀ b : Fin 256, (64 * e.1 + b.1 / 4) &&& 51 = (b.1 / 4) &&& 51 := by decide +kernel
  have e1 : (256 * T + c) / 4 = 256 * (T / 4) + (64 * (T % 4) + c / 4) := by omega
  have e2 : (64 * (T % 4) + c / 4) &&& 51 = (c / 4) &&& 51 := h ⟨T % 4, by omega⟩ ⟨c, hc⟩
  unfold t2 u2
  rw [e1, show mk8 51 (n + 1) = 256 * mk8 51 n + 51 from rfl, la_step (by omega) (by omega), la_step (by omega) (by omega), e2]
  omega
theorem la_15 (v : Nat) : v &&& 15 = v % 16 := Nat.and_two_pow_sub_one_eq_mod v 4
theorem t3_step (n T : Nat) {c : Nat} (hc : c ≤ 68) (hT : T % 16 ≤ 4) : t3 (n + 1) (256 * T + c) = 256 * t3 n T + (c + c / 16) % 16 := by
  have e1 : 256 * T + c + (256 * T + c) / 16 = 256 * (T + T / 16) + (c + c / 16 + 16 * (T % 16)) := by omega
  unfold t3
  rw [e1, show mk8 15 (n + 1) = 256 * mk8 15 n + 15 from rfl, la_step (by omega) (by omega), la_15]
  omega
def g8 : Nat → Nat → Nat
  | 0, _ => 0
  | n + 1, X => 256 * g8 n (X / 256) + pc (X % 256)
theorem t_all : ∀ (n X : Nat), X < 256 ^ n → t2 n (t1 n X) % 16 ≤ 4 ∧ t3 n (t2 n (t1 n X)) = g8 n X
  | 0, X, h => by
    have : X = 0 := by omega
    subst this
    decide
  | n + 1, X, h => by
    have hX : X = 256 * (X / 256) + X % 256 := by omega
    have hY : X / 256 < 256 ^ n := by
      rw [Nat.pow_succ] at h
      exact Nat.div_lt_of_lt_mul (by omega)
    obtain ⟨i1, i2⟩ := t_all n (X / 256) hY
    obtain ⟨v1, v2, v3, v4⟩ := u_all (b := X % 256) (Nat.mod_lt _ (by omega))
    have e1 : t1 (n + 1) X = 256 * t1 n (X / 256) + u1 (X % 256) := by
      conv => lhs; rw [hX]
      exact t1_step n (X / 256) (Nat.mod_lt _ (by omega))
    rw [e1, t2_step n _ v1]
    refine ⟨by omega, ?_⟩
    rw [t3_step n _ v2 i1, i2, v4]
    rfl
def sB : Nat → Nat → Nat
  | 0, _ => 0
  | n + 1, X => pc (X % 256) + sB n (X / 256)
theorem sB_ct : ∀ (n X : Nat), ct (fun i => X.testBit i) (8 * n) = sB n X
  | 0, _ => rfl
  | n + 1, X => by
    rw [show 8 * (n + 1) = 8 + 8 * n by omega, ct_add]
    have e1 : ct (fun i => X.testBit i) 8 = pc (X % 256) := ct_congr 8 (fun i hi => by
      rw [show (256 : Nat) = 2 ^ 8 from rfl, Nat.testBit_mod_two_pow]; simp [hi])
    have e2 : ct (fun i => X.testBit (8 + i)) (8 * n) = sB n (X / 256) := by
      rw [← sB_ct n (X / 256)]
      refine ct_congr _ (fun i _ => ?_)
      rw [show (256 : Nat) = 2 ^ 8 from rfl, Nat.testBit_div_two_pow, Nat.add_comm]
    rw [e1, e2]; rfl
def tn (x : Int64) : Nat := x.toBitVec.toNat
theorem tn_lt (x : Int64) : tn x < 2 ^ 64 := x.toBitVec.isLt
theorem tn_and (x y : Int64) : tn (pm_lb 3 x y) = tn x &&& tn y := BitVec.toNat_and ..
theorem tn_add (x y : Int64) (h : tn x + tn y < 2 ^ 64) : tn (pm_lb 0 x y) = tn x + tn y := by
  show (x.toBitVec + y.toBitVec).toNat = _
  rw [BitVec.toNat_add]
  exact Nat.mod_eq_of_lt h
theorem tn_sub (x y : Int64) (h : tn y ≤ tn x) : tn (pm_lb 1 x y) = tn x - tn y := BitVec.toNat_sub_of_le h
theorem tn_shr (x : Int64) {k : Nat} (hk : k < 64) : tn (pm_ls 2 x (nI k)) = tn x / 2 ^ k := bS_shrN x hk
theorem bS_tn (x : Int64) (k : Nat) : bS x k = (tn x).testBit k := rfl
theorem tn_127 (x : Int64) : pm_ib 3 x.toInt32 127 = nI (tn x % 128) := by
  apply Int32.toBitVec_inj.mp
  apply BitVec.eq_of_toNat_eq
  show ((x.toBitVec.signExtend 32) &&& 127#32).toNat = (BitVec.ofNat 32 (tn x % 128)).toNat
  rw [BitVec.toNat_and, BitVec.signExtend_eq_setWidth_of_le _ (by omega), BitVec.toNat_setWidth, BitVec.toNat_ofNat, BitVec.toNat_ofNat]
  show x.toBitVec.toNat % 2 ^ 32 &&& (2 ^ 7 - 1) = _
  rw [Nat.and_two_pow_sub_one_eq_mod]
  unfold tn
  omega
def swar (x : Int64) : Int32 :=
  let a := pm_lb 1 x (pm_lb 3 (pm_ls 2 x 1) 6148914691236517205)
  let b := pm_lb 0 (pm_lb 3 a 3689348814741910323) (pm_lb 3 (pm_ls 2 a 2) 3689348814741910323)
  let c := pm_lb 3 (pm_lb 0 b (pm_ls 2 b 4)) 1085102592571150095
  let e := pm_lb 0 c (pm_ls 2 c 8)
  let f := pm_lb 0 e (pm_ls 2 e 16)
  let g := pm_lb 0 f (pm_ls 2 f 32)
  pm_ib 3 g.toInt32 127
theorem k_85 : tn 6148914691236517205 = mk8 85 8 := by decide
theorem k_51 : tn 3689348814741910323 = mk8 51 8 := by decide
theorem k_15 : tn 1085102592571150095 = mk8 15 8 := by decide
theorem sw_1 (x : Int64) : tn (pm_lb 1 x (pm_lb 3 (pm_ls 2 x 1) 6148914691236517205)) = t1 8 (tn x) := by
  have a1 : tn (pm_lb 3 (pm_ls 2 x 1) 6148914691236517205) = (tn x / 2) &&& mk8 85 8 := by
    rw [tn_and, show (1 : Int32) = nI 1 from rfl, tn_shr (k := 1) x (by omega), k_85]
  have l : (tn x / 2) &&& mk8 85 8 ≤ tn x / 2 := Nat.and_le_left
  rw [tn_sub _ _ (by rw [a1]; omega), a1, t1]
theorem sw_2 (a : Int64) : tn (pm_lb 0 (pm_lb 3 a 3689348814741910323) (pm_lb 3 (pm_ls 2 a 2) 3689348814741910323)) = t2 8 (tn a) ∧ t2 8 (tn a) < 2 ^ 63 := by
  have m51 : mk8 51 8 < 2 ^ 62 := by decide
  have b1 : tn (pm_lb 3 a 3689348814741910323) = tn a &&& mk8 51 8 := by rw [tn_and, k_51]
  have b2 : tn (pm_lb 3 (pm_ls 2 a 2) 3689348814741910323) = (tn a / 4) &&& mk8 51 8 := by
    rw [tn_and, show (2 : Int32) = nI 2 from rfl, tn_shr (k := 2) a (by omega), k_51]
  have l1 : tn a &&& mk8 51 8 ≤ mk8 51 8 := Nat.and_le_right
  have l2 : (tn a / 4) &&& mk8 51 8 ≤ mk8 51 8 := Nat.and_le_right
  have l3 : t2 8 (tn a) < 2 ^ 63 := by unfold t2; omega
  refine ⟨?_, l3⟩
  unfold t2 at l3
  rw [tn_add _ _ (by rw [b1, b2]; omega), b1, b2, t2]
theorem sw_3 (b : Int64) (h : tn b < 2 ^ 63) : tn (pm_lb 3 (pm_lb 0 b (pm_ls 2 b 4)) 1085102592571150095) = t3 8 (tn b) := by
  have c0 : tn (pm_ls 2 b 4) = tn b / 16 := by rw [show (4 : Int32) = nI 4 from rfl, tn_shr (k := 4) b (by omega)]
  rw [tn_and, tn_add _ _ (by rw [c0]; omega), c0, k_15, t3]
theorem by_1 {q0 q1 q2 R0 R1 R2 R3 : Nat} (r0 : R0 = 256 * R1 + q0) (r1 : R1 = 256 * R2 + q1) (r2 : R2 = 256 * R3 + q2) : R0 + R1 = ((q0 + q1) + 256 * (q1 + q2)) + 65536 * (R2 + R3) := by omega
theorem by_2 {S T q : Nat} (h : S = q + 65536 * T) (hq : q < 65536) : S / 2 ^ 16 = T := by
  rw [h, show (2 ^ 16 : Nat) = 65536 from rfl, Nat.add_mul_div_left _ _ (by omega), Nat.div_eq_of_lt hq, Nat.zero_add]
theorem by_3 {S1 S2 S3 S4 A B C : Nat} (h1 : S1 = A + 65536 * S2) (h2 : S2 = B + 65536 * S3) (h3 : S3 = C + 65536 * S4) : S1 + S2 = (A + B + 65536 * (B + C)) + 4294967296 * (S3 + S4) := by omega
theorem by_4 {S T q : Nat} (h : S = q + 4294967296 * T) (hq : q < 4294967296) : S / 2 ^ 32 = T := by
  rw [h, show (2 ^ 32 : Nat) = 4294967296 from rfl, Nat.add_mul_div_left _ _ (by omega), Nat.div_eq_of_lt hq, Nat.zero_add]
theorem by_5 {S1 S2 S3 S4 A B C : Nat} (h : S1 + S2 = (A + B + 65536 * (B + C)) + 4294967296 * (S3 + S4)) (h3 : S3 = C + 65536 * S4) : S1 + S2 + (S3 + S4) = (A + B + C + S4) + 128 * (512 * (B + C) + 33554432 * (S3 + S4) + 512 * S4) := by omega
theorem by_6 {q0 q1 q2 q3 q4 q5 q6 q7 : Nat} : (q0 + q1 + 256 * (q1 + q2)) + (q2 + q3 + 256 * (q3 + q4)) + (q4 + q5 + 256 * (q5 + q6)) + (256 * q7 + q6 + q7) = (q0 + q1 + q2 + q3 + q4 + q5 + q6 + q7) + 128 * (2 * (q1 + q2 + q3 + q4 + q5 + q6 + q7)) := by omega
theorem by_7 {R T q k n : Nat} (h : R = 256 * T + q) (hq : q ≤ 8) (hT : T ≤ k) (hn : 256 * k + 8 ≤ n) : R ≤ n := by omega
theorem by_sum {q0 q1 q2 q3 q4 q5 q6 q7 R0 R1 R2 R3 R4 R5 R6 R7 : Nat} (p0 : q0 ≤ 8) (p1 : q1 ≤ 8) (p2 : q2 ≤ 8) (p3 : q3 ≤ 8) (p4 : q4 ≤ 8) (p5 : q5 ≤ 8) (p6 : q6 ≤ 8) (p7 : q7 ≤ 8)
    (r0 : R0 = 256 * R1 + q0) (r1 : R1 = 256 * R2 + q1) (r2 : R2 = 256 * R3 + q2) (r3 : R3 = 256 * R4 + q3) (r4 : R4 = 256 * R5 + q4) (r5 : R5 = 256 * R6 + q5) (r6 : R6 = 256 * R7 + q6) (r7 : R7 = q7) :
    R0 / 2 ^ 8 = R1 ∧ (R0 + R1) / 2 ^ 16 = R2 + R3 ∧ (R0 + R1 + (R2 + R3)) / 2 ^ 32 = R4 + R5 + (R6 + R7) ∧ (R0 + R1 + (R2 + R3) + (R4 + R5 + (R6 + R7))) % 128 = q0 + q1 + q2 + q3 + q4 + q5 + q6 + q7 ∧ R0 + R1 + (R2 + R3) + (R4 + R5 + (R6 + R7)) < 2 ^ 64 := by
  have b7 : R7 ≤ 8 := by rw [r7]; exact p7
  have b6 : R6 ≤ 2056 := by_7 r6 p6 b7 (by decide)
  have b5 : R5 ≤ 526344 := by_7 r5 p5 b6 (by decide)
  have b4 : R4 ≤ 134744072 := by_7 r4 p4 b5 (by decide)
  have b3 : R3 ≤ 34494482440 := by_7 r3 p3 b4 (by decide)
  have b2 : R2 ≤ 8830587504648 := by_7 r2 p2 b3 (by decide)
  have b1 : R1 ≤ 2260630401189896 := by_7 r1 p1 b2 (by decide)
  have b0 : R0 ≤ 578721382704613384 := by_7 r0 p0 b1 (by decide)
  have x1 := by_1 r0 r1 r2
  have x2 := by_1 r2 r3 r4
  have x3 := by_1 r4 r5 r6
  have y1 := by_3 x1 x2 x3
  have y2 := by_5 y1 x3
  have z1 : R0 / 2 ^ 8 = R1 := by
    clear y1 y2 x1 x2 x3 b0 b1 b2 b3 b4 b5 b6 b7 r1 r2 r3 r4 r5 r6 r7 p1 p2 p3 p4 p5 p6 p7
    omega
  have z2 : (R0 + R1) / 2 ^ 16 = R2 + R3 := by_2 x1 (by
    clear y1 y2 x1 x2 x3 b0 b1 b2 b3 b4 b5 b6 b7 r0 r1 r2 r3 r4 r5 r6 r7 p3 p4 p5 p6 p7 z1
    omega)
  have z3 : (R0 + R1 + (R2 + R3)) / 2 ^ 32 = R4 + R5 + (R6 + R7) := by_4 y1 (by
    clear y1 y2 x1 x2 x3 b0 b1 b2 b3 b4 b5 b6 b7 r0 r1 r2 r3 r4 r5 r6 r7 z1 z2
    omega)
  have z4 : (R0 + R1 + (R2 + R3) + (R4 + R5 + (R6 + R7))) % 128 = q0 + q1 + q2 + q3 + q4 + q5 + q6 + q7 := by
    rw [y2, Nat.add_mul_mod_self_left, r6, r7, by_6, Nat.add_mul_mod_self_left]
    clear y1 y2 x1 x2 x3 b0 b1 b2 b3 b4 b5 b6 b7 r0 r1 r2 r3 r4 r5 r6 r7 z1 z2 z3
    exact Nat.mod_eq_of_lt (by omega)
  refine ⟨z1, z2, z3, z4, ?_⟩
  clear y1 y2 x1 x2 x3 r0 r1 r2 r3 r4 r5 r6 r7 z1 z2 z3 z4 p1 p2 p3 p4 p5 p6 p7
  omega
theorem sw_4 (c : Int64) (X : Nat) (hc : tn c = g8 8 X) : tn (pm_lb 0 (pm_lb 0 (pm_lb 0 c (pm_ls 2 c 8)) (pm_ls 2 (pm_lb 0 c (pm_ls 2 c 8)) 16)) (pm_ls 2 (pm_lb 0 (pm_lb 0 c (pm_ls 2 c 8)) (pm_ls 2 (pm_lb 0 c (pm_ls 2 c 8)) 16)) 32)) % 128 = sB 8 X := by
  have st : ∀ n Y, g8 (n + 1) Y = 256 * g8 n (Y / 256) + pc (Y % 256) := fun _ _ => rfl
  have l7 : ∀ Y, g8 1 Y = pc (Y % 256) := fun Y => by rw [st 0]; show 256 * 0 + _ = _; omega
  obtain ⟨d1, d2, d3, d4, d5⟩ := by_sum (pc_le _) (pc_le _) (pc_le _) (pc_le _) (pc_le _) (pc_le _) (pc_le _) (pc_le _) (st 7 X) (st 6 _) (st 5 _) (st 4 _) (st 3 _) (st 2 _) (st 1 _) (l7 _)
  rw [show (8 : Nat) = 7 + 1 from rfl] at hc
  revert hc d1 d2 d3 d4 d5
  generalize g8 (7 + 1) X = R0
  generalize g8 7 (X / 256) = R1
  intro hc
  generalize hT : g8 6 _ + g8 5 _ = T
  intro d1 d2
  generalize hU : g8 4 _ + g8 3 _ + (g8 2 _ + g8 1 _) = U
  intro d3 d4 d5
  clear hT hU st l7
  have e8 : tn (pm_ls 2 c 8) = R1 := by rw [show (8 : Int32) = nI 8 from rfl, tn_shr (k := 8) c (by omega), hc, d1]
  have e1 : tn (pm_lb 0 c (pm_ls 2 c 8)) = R0 + R1 := by rw [tn_add _ _ (by rw [e8, hc]; clear d1 d2 d3 d4; omega), e8, hc]
  generalize pm_lb 0 c (pm_ls 2 c 8) = e at *
  have e16 : tn (pm_ls 2 e 16) = T := by rw [show (16 : Int32) = nI 16 from rfl, tn_shr (k := 16) e (by omega), e1, d2]
  have f1 := tn_add e (pm_ls 2 e 16) (by rw [e16, e1]; clear d1 d2 d3 d4; omega)
  rw [e16, e1] at f1
  generalize pm_lb 0 e (pm_ls 2 e 16) = f at *
  have e32 : tn (pm_ls 2 f 32) = U := by rw [show (32 : Int32) = nI 32 from rfl, tn_shr (k := 32) f (by omega), f1, d3]
  have g1 := tn_add f (pm_ls 2 f 32) (by rw [e32, f1]; clear d1 d2 d3 d4; omega)
  rw [g1, e32, f1, d4]
  show _ = pc _ + (pc _ + (pc _ + (pc _ + (pc _ + (pc _ + (pc _ + (pc _ + 0)))))))
  simp only [Nat.add_assoc, Nat.add_zero]
theorem swar_eq (x : Int64) : swar x = nI (ct (bS x) 64) := by
  have hs : ct (bS x) 64 = sB 8 (tn x) := sB_ct 8 (tn x)
  unfold swar
  dsimp only
  have a2 := sw_1 x
  generalize pm_lb 1 x (pm_lb 3 (pm_ls 2 x 1) 6148914691236517205) = a at *
  obtain ⟨b3, b4⟩ := sw_2 a
  generalize pm_lb 0 (pm_lb 3 a 3689348814741910323) (pm_lb 3 (pm_ls 2 a 2) 3689348814741910323) = b at *
  have c1 := sw_3 b (by rw [b3]; exact b4)
  generalize pm_lb 3 (pm_lb 0 b (pm_ls 2 b 4)) 1085102592571150095 = c at *
  rw [b3, a2, (t_all 8 (tn x) (tn_lt x)).2] at c1
  have d1 := sw_4 c (tn x) c1
  rw [tn_127, d1, hs]
