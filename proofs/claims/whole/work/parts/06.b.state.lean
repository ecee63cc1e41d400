/-! THE STATE: what the cells hold. Cells by their references: 1 GuardPacks, 2 Hall, 3 open, 4 guarded, 5 rows (6 of, 7 least, 8 length, 9 guards), 10 columns (11 .. 14), 15 Pairing (16 farOf, 17 nearOf, 18 reachedFrom, 19 waiting), 20 Watch (21 unseenFar), 22 Box (23 side, 24 atX, 25 atY, 26 taken), 27 the reference (28 shut, 29 guards, 30 runOf, 31 runMany, 32 runSize, 33 sides, 34 atX, 35 atY, 36 bits, 37 crossed, 38 partner, 39 cameFrom, 40 waiting) -/
abbrev tA : Type := Nat → Int32
abbrev tH : Type := Int32 × Int32 × Int32 × tA × tA
abbrev tR : Type := Int32 × Int32 × tA × tA × tA × tA
abbrev tP : Type := Value × Value × tA × tA × tA × tA
abbrev tW : Type := Value × Value × Int32 × (Nat → Int64)
abbrev tB : Type := Int32 × Int32 × Int32 × Int32 × Int32 × tA × tA × tA × tA
/-- the reference's hall: wide, high, shut, guards, guardMany, runOf, runMany, runSize, isParted -/
abbrev tM : Type := Int32 × Int32 × tA × tA × Int32 × tA × tA × tA × Int32
/-- the reference's box: boxA, boxB, squares, sides, atX, atY, isPacked, tried -/
abbrev tN : Type := Int32 × Int32 × Int32 × tA × tA × tA × Int32 × Int32
/-- the reference's rows: bits, crossed, partner, cameFrom, waiting -/
abbrev tO : Type := tA × (Nat → Int64) × tA × tA × tA
abbrev aI (n : Nat) (f : tA) : pm_E := .inl (0, n, .inl f)
abbrev aZ (n : Nat) (f : tA) : pm_E := .inl (1, n, .inl f)
abbrev aL (n : Nat) (f : Nat → Int64) : pm_E := .inl (2, n, .inr (.inl f))
def hp (H : tH) (r c : tR) (P : tP) (w : tW) (B : tB) (M : tM) (N : tN) (O : tO) : pm_H :=
  [.inr (5, [.ref 2, .ref 22]),
   .inr (1, [.int H.1, .int H.2.1, .int H.2.2.1, .ref 3, .ref 4, .ref 5, .ref 10, .ref 15, .ref 20]), aZ 64 H.2.2.2.1, aZ 64 H.2.2.2.2,
   .inr (3, [.int r.1, .int r.2.1, .ref 6, .ref 7, .ref 8, .ref 9]), aI 64 r.2.2.1, aI 64 r.2.2.2.1, aI 64 r.2.2.2.2.1, aI 64 r.2.2.2.2.2,
   .inr (3, [.int c.1, .int c.2.1, .ref 11, .ref 12, .ref 13, .ref 14]), aI 64 c.2.2.1, aI 64 c.2.2.2.1, aI 64 c.2.2.2.2.1, aI 64 c.2.2.2.2.2,
   .inr (2, [P.1, P.2.1, .ref 16, .ref 17, .ref 18, .ref 19]), aI 64 P.2.2.1, aI 64 P.2.2.2.1, aI 64 P.2.2.2.2.1, aI 64 P.2.2.2.2.2,
   .inr (4, [w.1, w.2.1, .int w.2.2.1, .ref 21, .ref 15]), aL 12 w.2.2.2,
   .inr (0, [.int B.1, .int B.2.1, .int B.2.2.1, .int B.2.2.2.1, .int B.2.2.2.2.1, .ref 23, .ref 24, .ref 25, .ref 26]), aI 8 B.2.2.2.2.2.1, aI 8 B.2.2.2.2.2.2.1, aI 8 B.2.2.2.2.2.2.2.1, aI 12 B.2.2.2.2.2.2.2.2,
   .inr (6, [.int M.1, .int M.2.1, .ref 28, .ref 29, .int M.2.2.2.2.1, .ref 30, .ref 31, .ref 32, .int M.2.2.2.2.2.2.2.2, .int N.1, .int N.2.1, .int N.2.2.1, .ref 33, .ref 34, .ref 35, .int N.2.2.2.2.2.2.1, .int N.2.2.2.2.2.2.2, .ref 36, .ref 37, .ref 38, .ref 39, .ref 40]),
   aZ 64 M.2.2.1, aZ 64 M.2.2.2.1, aI 128 M.2.2.2.2.2.1, aI 2 M.2.2.2.2.2.2.1, aI 64 M.2.2.2.2.2.2.2.1, aI 8 N.2.2.2.1, aI 8 N.2.2.2.2.1, aI 8 N.2.2.2.2.2.1, aI 256 O.1, aL 4096 O.2.1, aI 32 O.2.2.1, aI 32 O.2.2.2.1, aI 32 O.2.2.2.2]
