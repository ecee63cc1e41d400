/-! A PURE MACHINE: a few opcodes over a list of cells; the class's, the reference's and the law's code stands in tables (pm_cd); part 04 proves that what it does, the JVM does. -/
abbrev pm_E : Type := (Nat × vp_A) ⊕ (Nat × List Value)
abbrev pm_H : Type := List pm_E
abbrev pm_L : Type := List (Option Value)
abbrev pm_S : Type := Nat × pm_L × List Value × pm_H
abbrev pm_C : Type := Nat → List Value → pm_H → Option Value → pm_H → Prop
def pm_get (h : pm_H) (r : Nat) : Option pm_E := match r with
  | 0 => none
  | k + 1 => h[k]?
def pm_set (h : pm_H) (r : Nat) (x : pm_E) : pm_H := match r with
  | 0 => h
  | k + 1 => h.set k x
def pm_kd (b : Nat) (w : Value) : Bool := match b, w with
  | 0, .int _ => true
  | 1, .long _ => true
  | 2, .ref _ => true
  | 2, .null => true
  | _, _ => false
def pm_clr (ls : pm_L) (i : Nat) : pm_L := match i with
  | 0 => ls
  | j + 1 => match ls[j]? with
    | some (some w) => match Nat.beq w.category 2 with
      | true => ls.set j none
      | false => ls
    | _ => ls
def pm_sto (ls : pm_L) (i : Nat) (w : Value) : pm_L := match Nat.beq w.category 2 with
  | true => ((pm_clr ls i).set (i + 1) none).set i (some w)
  | false => (pm_clr ls i).set i (some w)
def pm_ib (b : Nat) (x y : Int32) : Int32 := match b with
  | 0 => x + y
  | 1 => x - y
  | 2 => x * y
  | 3 => x &&& y
  | 4 => x ||| y
  | 5 => x ^^^ y
  | 6 => x <<< (y &&& 31)
  | 7 => x >>> (y &&& 31)
  | _ => (x.toUInt32 >>> (y.toUInt32 &&& Int32.toUInt32 31)).toInt32
def pm_lb (b : Nat) (x y : Int64) : Int64 := match b with
  | 0 => x + y
  | 1 => x - y
  | 2 => x * y
  | 3 => x &&& y
  | 4 => x ||| y
  | _ => x ^^^ y
def pm_ls (b : Nat) (x : Int64) (y : Int32) : Int64 := match b with
  | 0 => x <<< (y.toInt64 &&& 63)
  | 1 => x >>> (y.toInt64 &&& 63)
  | _ => (x.toUInt64 >>> (y.toInt64.toUInt64 &&& Int64.toUInt64 63)).toInt64
def pm_br (b : Nat) (x y : Int32) (A B : Prop) : Prop := match b with
  | 0 => (x = y → A) ∧ (¬ x = y → B)
  | 1 => (¬ x = y → A) ∧ (x = y → B)
  | 2 => (x < y → A) ∧ (¬ x < y → B)
  | 3 => (y ≤ x → A) ∧ (¬ y ≤ x → B)
  | 4 => (y < x → A) ∧ (¬ y < x → B)
  | _ => (x ≤ y → A) ∧ (¬ x ≤ y → B)
/-- a class's receiver check -/
def pm_rcv (tl : List Nat) (st : List Value) (na : Nat) (h : pm_H) : Bool := match tl with
  | [] => true
  | ci :: _ => match st[na - 1]? with
    | some (.ref o) => match pm_get h o with
      | some (.inr (cj, _)) => Nat.beq ci cj
      | _ => false
    | _ => false
def pm_cat (st : List Value) : Nat := (st.map fun v => v.category).sum
def pm_rk (a : Nat) (st : List Value) (F : Option Value → Prop) : Prop := match a with
  | 0 => match st with
    | [] => F none
    | _ => False
  | 1 => match st with
    | [.int x] => F (some (.int x))
    | _ => False
  | 2 => match st with
    | [.int x] => (x = 0 ∨ x = 1) ∧ F (some (.int x))
    | _ => False
  | 3 => match st with
    | [.long x] => F (some (.long x))
    | _ => False
  | 4 => match st with
    | [.ref o] => F (some (.ref o))
    | [.null] => F (some .null)
    | _ => False
  | _ => False
/-- a store in a field: kind 3 is boolean -/
def pm_fk (b : Nat) (w : Value) (A : Prop) : Prop := match b with
  | 3 => match w with
    | .int x => (x = 0 ∨ x = 1) ∧ A
    | _ => False
  | _ => match pm_kd b w with
    | true => A
    | false => False
/-- a load from an array -/
def pm_al (sc : Nat × (Nat → Int32)) (b : Nat) (h : pm_H) (o : Nat) (i : Int32) (K : Value → Prop) : Prop := match o with
  | 0 => match b with
    | 0 => vp_in i sc.1 ∧ K (.int (sc.2 i.toNatClampNeg))
    | _ => False
  | o' + 1 => match h[o']? with
    | some (.inl (kk, n, .inl f)) => match Nat.beq kk b && Nat.ble b 1 with
      | true => vp_in i n ∧ K (.int (f i.toNatClampNeg))
      | false => False
    | some (.inl (kk, n, .inr (.inl f))) => match Nat.beq kk b && Nat.beq b 2 with
      | true => vp_in i n ∧ K (.long (f i.toNatClampNeg))
      | false => False
    | _ => False
/-- a store in an array -/
def pm_as (b : Nat) (h : pm_H) (o : Nat) (i : Int32) (w : Value) (K : pm_H → Prop) : Prop := match o with
  | 0 => False
  | o' + 1 => match h[o']? with
    | some (.inl (kk, n, .inl f)) => match w with
      | .int x => match Nat.beq kk b with
        | true => match b with
          | 0 => vp_in i n ∧ K (h.set o' (.inl (kk, n, .inl (upd f i.toNatClampNeg x))))
          | 1 => vp_in i n ∧ (x = 0 ∨ x = 1) ∧ K (h.set o' (.inl (kk, n, .inl (upd f i.toNatClampNeg x))))
          | _ => False
        | false => False
      | _ => False
    | some (.inl (kk, n, .inr (.inl f))) => match w with
      | .long x => match Nat.beq kk b && Nat.beq b 2 with
        | true => vp_in i n ∧ K (h.set o' (.inl (kk, n, .inr (.inl (vp_updL f i.toNatClampNeg x)))))
        | false => False
      | _ => False
    | _ => False
def pm_len (sc : Nat × (Nat → Int32)) (_ : pm_H) (o : Nat) : Option Nat := match o with
  | 0 => some sc.1
  | _ => none
def pm_zero (k n : Nat) : pm_E := match k with
  | 2 => .inl (2, n, .inr (.inl (fun _ => 0)))
  | k => .inl (k, n, .inl (fun _ => 0))
def pm_fl (av : List Value) : pm_L := match av with
  | [] => []
  | v :: r => match Nat.beq v.category 2 with
    | true => some v :: none :: pm_fl r
    | false => some v :: pm_fl r
/-- one instruction: K takes the state behind it, F what is returned -/
def pm_sk (sc : Nat × (Nat → Int32)) (Cl : pm_C) (e : pm_I) (s : pm_S) (K : pm_S → Prop) (F : Option Value → pm_H → Prop) : Prop :=
  match e with
  | (op, a, b, v, tl) => match s with
    | (k, ls, st, h) => match op with
      | 0 => K (k + 1, ls, v :: st, h)
      | 1 => match ls[a]? with
        | some (some w) => match pm_kd b w with
          | true => K (k + 1, ls, w :: st, h)
          | false => False
        | _ => False
      | 2 => match st with
        | w :: r => match pm_kd b w && Nat.blt (a + b % 2) ls.length with
          | true => K (k + 1, pm_sto ls a w, r, h)
          | false => False
        | _ => False
      | 3 => match ls[a]? with
        | some (some (.int x)) => match v with
          | .int c => K (k + 1, pm_sto ls a (.int (x + c)), st, h)
          | _ => False
        | _ => False
      | 4 => match st with
        | .int y :: .int x :: r => K (k + 1, ls, .int (pm_ib b x y) :: r, h)
        | _ => False
      | 6 => match st with
        | .long y :: .long x :: r => K (k + 1, ls, .long (pm_lb b x y) :: r, h)
        | _ => False
      | 7 => match st with
        | .int y :: .long x :: r => K (k + 1, ls, .long (pm_ls b x y) :: r, h)
        | _ => False
      | 8 => match st with
        | .int x :: r => K (k + 1, ls, .long x.toInt64 :: r, h)
        | _ => False
      | 9 => match st with
        | .long x :: r => K (k + 1, ls, .int x.toInt32 :: r, h)
        | _ => False
      | 10 => match st with
        | .long y :: .long x :: r => K (k + 1, ls, .int (lg_cmp x y) :: r, h)
        | _ => False
      | 11 => match st with
        | w :: r => match Nat.beq w.category 1 with
          | true => K (k + 1, ls, w :: w :: r, h)
          | false => False
        | _ => False
      | 12 => match st with
        | w :: z :: r => match Nat.beq w.category 1 && Nat.beq z.category 1 with
          | true => K (k + 1, ls, w :: z :: w :: r, h)
          | false => False
        | _ => False
      | 13 => match st with
        | w :: z :: r => match Nat.beq w.category 1 && Nat.beq z.category 1 with
          | true => K (k + 1, ls, w :: z :: w :: z :: r, h)
          | false => False
        | _ => False
      | 15 => match st with
        | .int x :: r => pm_br b x 0 (K (a, ls, r, h)) (K (k + 1, ls, r, h))
        | _ => False
      | 16 => match st with
        | .int y :: .int x :: r => pm_br b x y (K (a, ls, r, h)) (K (k + 1, ls, r, h))
        | _ => False
      | 17 => K (a, ls, st, h)
      | 18 => match st with
        | .ref o :: r => match pm_get h o with
          | some (.inr (ci, fs)) => match Nat.beq ci a with
            | true => match fs[b]? with
              | some w => K (k + 1, ls, w :: r, h)
              | none => False
            | false => False
          | _ => False
        | _ => False
      | 19 => match st with
        | w :: .ref o :: r => match pm_get h o with
          | some (.inr (ci, fs)) => match Nat.beq ci a && Nat.blt b fs.length with
            | true => pm_fk (tl.headD 9) w (K (k + 1, ls, r, pm_set h o (.inr (ci, fs.set b w))))
            | false => False
          | _ => False
        | _ => False
      | 20 => match st with
        | .int i :: .ref o :: r => pm_al sc b h o i (fun w => K (k + 1, ls, w :: r, h))
        | _ => False
      | 21 => match st with
        | w :: .int i :: .ref o :: r => pm_as b h o i w (fun h' => K (k + 1, ls, r, h'))
        | _ => False
      | 22 => match st with
        | .ref o :: r => match pm_len sc h o with
          | some n => K (k + 1, ls, .int (Int32.ofNat n) :: r, h)
          | none => False
        | _ => False
      | 23 => K (k + 1, ls, .ref (h.length + 1) :: st, h ++ [.inr (a, pm_df a)])
      | 24 => match st with
        | .int n :: r => match decide (n = Int32.ofNat b) && Nat.ble b 100000 with
          | true => K (k + 1, ls, .ref (h.length + 1) :: r, h ++ [pm_zero a b])
          | false => False
        | _ => False
      | 25 => match Nat.ble b st.length && pm_rcv tl st b h && Nat.ble (pm_cat (st.drop b)) 8 && Nat.ble (pm_fl (st.take b).reverse).length (pm_nl a) with
        | true => ∃ (rv : Option Value) (h2 : pm_H), Cl a (st.take b).reverse h rv h2 ∧ K (k + 1, ls, rv.toList ++ st.drop b, h2)
        | false => False
      | 26 => pm_rk a st (fun w => F w h)
      | 28 => match st with
        | .ref _ :: r => match Nat.ble (pm_cat r) 8 with
          | true => K (k + 1, ls, r, h)
          | false => False
        | _ => False
      | 29 => match st with
        | .int x :: r => match Nat.ble tl.length 1000 with
          | true => (∀ j : Nat, j < tl.length → x = Int32.ofNat j → K (tl.getD j 0, ls, r, h)) ∧ ((x.toInt < 0 ∨ (tl.length : Int) ≤ x.toInt) → K (a, ls, r, h))
          | false => False
        | _ => False
      | 30 => match st with
        | .int y :: .int x :: r => match Nat.ble (pm_cat r) 8 with
          | true => K (k + 1, ls, .int (if y < x then y else x) :: r, h)
          | false => False
        | _ => False
      | 31 => match st with
        | .int y :: .int x :: r => (¬ y = 0) ∧ K (k + 1, ls, .int (x / y) :: r, h)
        | _ => False
      | 32 => match st with
        | .int y :: .int x :: r => (¬ y = 0) ∧ K (k + 1, ls, .int (x - x / y * y) :: r, h)
        | _ => False
      | _ => False
def pm_ent (av : List Value) (n : Nat) : pm_L := pm_fl av ++ List.replicate (n - (pm_fl av).length) none
def pm_st (sc : Nat × (Nat → Int32)) (Cl : pm_C) (cd : List pm_I) (s : pm_S) (K : pm_S → Prop) (F : Option Value → pm_H → Prop) : Prop := match cd[s.1]? with
  | some e => pm_sk sc Cl e s K F
  | none => False
def pm_ev (sc : Nat × (Nat → Int32)) (Cl : pm_C) (cd : List pm_I) : Nat → pm_S → Option Value → pm_H → Prop
  | 0, _, _, _ => False
  | n + 1, s, r, h' => pm_st sc Cl cd s (fun s' => pm_ev sc Cl cd n s' r h') (fun w hh => w = r ∧ hh = h')
def pm_D (sc : Nat × (Nat → Int32)) : Nat → pm_C
  | 0 => fun _ _ _ _ _ => False
  | d + 1 => fun mi av h r h' => ∃ n, pm_ev sc (pm_D sc d) (pm_cd mi) n (0, pm_ent av (pm_nl mi), [], h) r h'
/-- how many fields and elements -/
def pm_sz1 (x : pm_E) : Nat := match x with
  | .inl a => a.2.1
  | .inr o => o.2.length
def pm_sz (h : pm_H) : Nat := (h.map pm_sz1).sum
/-! WHAT AN ENTRY OF THE TABLES SAYS OF THE CLASS FILE: the bytes at its place are that instruction; what it links is among the tables' words -/
def pm_cnd (b : Nat) : ClassFile.Cond := match b with
  | 0 => .eq
  | 1 => .ne
  | 2 => .lt
  | 3 => .ge
  | 4 => .gt
  | _ => .le
def pm_ibi (b : Nat) : Instr := match b with
  | 0 => .iadd
  | 1 => .isub
  | 2 => .imul
  | 3 => .iand
  | 4 => .ior
  | 5 => .ixor
  | 6 => .ishl
  | 7 => .ishr
  | _ => .iushr
def pm_lbi (b : Nat) : Instr := match b with
  | 0 => .ladd
  | 1 => .lsub
  | 2 => .lmul
  | 3 => .land
  | 4 => .lor
  | _ => .lxor
def pm_lsi (b : Nat) : Instr := match b with
  | 0 => .lshl
  | 1 => .lshr
  | _ => .lushr
def pm_ali (b : Nat) : Instr := match b with
  | 0 => .iaload
  | 1 => .baload
  | _ => .laload
def pm_asi (b : Nat) : Instr := match b with
  | 0 => .iastore
  | 1 => .bastore
  | _ => .lastore
def pm_aty (a : Nat) : ArrayType := match a with
  | 0 => .int
  | 1 => .boolean
  | _ => .long
def pm_fty (kd : Nat) (ty : FieldType) : Bool := match kd, ty with
  | 0, .int => true
  | 1, .long => true
  | 3, .boolean => true
  | 2, .object _ => true
  | 2, .array _ => true
  | _, _ => false
def pm_ok (mi k : Nat) (e : pm_I) : Prop :=
  match e with
  | (op, a, b, v, tl) => match op with
    | 0 => (∃ n : Int, decode (pm_b mi) (pm_pc mi k) = .ok (.iconst n, 1) ∧ v = .int (Int32.ofInt n) ∧ pm_pc mi (k + 1) = pm_pc mi k + 1) ∨ (∃ n : Int, decode (pm_b mi) (pm_pc mi k) = .ok (.bipush n, 2) ∧ v = .int (Int8.ofInt n).toInt32 ∧ pm_pc mi (k + 1) = pm_pc mi k + 2) ∨ (∃ n : Int, decode (pm_b mi) (pm_pc mi k) = .ok (.sipush n, 3) ∧ v = .int (Int16.ofInt n).toInt32 ∧ pm_pc mi (k + 1) = pm_pc mi k + 3) ∨ (∃ n : Fin 2, decode (pm_b mi) (pm_pc mi k) = .ok (.lconst n, 1) ∧ v = .long (Int64.ofNat (n : Nat)) ∧ pm_pc mi (k + 1) = pm_pc mi k + 1) ∨ (∃ (i : Nat) (c : Int32), decode (pm_b mi) (pm_pc mi k) = .ok (.ldc i, 2) ∧ Jvm.Cond.constant (pm_y mi).cls i c ∈ pm_tbl ∧ v = .int c ∧ pm_pc mi (k + 1) = pm_pc mi k + 2) ∨ (∃ (i : Nat) (c : Int64), decode (pm_b mi) (pm_pc mi k) = .ok (.ldc2_w i, 3) ∧ Jvm.Cond.constantLong (pm_y mi).cls i c ∈ pm_tbl ∧ v = .long c ∧ pm_pc mi (k + 1) = pm_pc mi k + 3)
    | 1 => match b with
      | 0 => (∃ n : Fin 4, decode (pm_b mi) (pm_pc mi k) = .ok (.iload_n n, 1) ∧ (n : Nat) = a ∧ pm_pc mi (k + 1) = pm_pc mi k + 1) ∨ (decode (pm_b mi) (pm_pc mi k) = .ok (.iload a, 2) ∧ pm_pc mi (k + 1) = pm_pc mi k + 2)
      | 1 => (∃ n : Fin 4, decode (pm_b mi) (pm_pc mi k) = .ok (.lload_n n, 1) ∧ (n : Nat) = a ∧ pm_pc mi (k + 1) = pm_pc mi k + 1) ∨ (decode (pm_b mi) (pm_pc mi k) = .ok (.lload a, 2) ∧ pm_pc mi (k + 1) = pm_pc mi k + 2)
      | 2 => (∃ n : Fin 4, decode (pm_b mi) (pm_pc mi k) = .ok (.aload_n n, 1) ∧ (n : Nat) = a ∧ pm_pc mi (k + 1) = pm_pc mi k + 1) ∨ (decode (pm_b mi) (pm_pc mi k) = .ok (.aload a, 2) ∧ pm_pc mi (k + 1) = pm_pc mi k + 2)
      | _ => False
    | 2 => match b with
      | 0 => (∃ n : Fin 4, decode (pm_b mi) (pm_pc mi k) = .ok (.istore_n n, 1) ∧ (n : Nat) = a ∧ pm_pc mi (k + 1) = pm_pc mi k + 1) ∨ (decode (pm_b mi) (pm_pc mi k) = .ok (.istore a, 2) ∧ pm_pc mi (k + 1) = pm_pc mi k + 2)
      | 1 => (∃ n : Fin 4, decode (pm_b mi) (pm_pc mi k) = .ok (.lstore_n n, 1) ∧ (n : Nat) = a ∧ pm_pc mi (k + 1) = pm_pc mi k + 1) ∨ (decode (pm_b mi) (pm_pc mi k) = .ok (.lstore a, 2) ∧ pm_pc mi (k + 1) = pm_pc mi k + 2)
      | 2 => (∃ n : Fin 4, decode (pm_b mi) (pm_pc mi k) = .ok (.astore_n n, 1) ∧ (n : Nat) = a ∧ pm_pc mi (k + 1) = pm_pc mi k + 1) ∨ (decode (pm_b mi) (pm_pc mi k) = .ok (.astore a, 2) ∧ pm_pc mi (k + 1) = pm_pc mi k + 2)
      | _ => False
    | 3 => ∃ n : Int, decode (pm_b mi) (pm_pc mi k) = .ok (.iinc a n, 3) ∧ v = .int (Int32.ofInt n) ∧ pm_pc mi (k + 1) = pm_pc mi k + 3
    | 4 => decode (pm_b mi) (pm_pc mi k) = .ok (pm_ibi b, 1) ∧ pm_pc mi (k + 1) = pm_pc mi k + 1
    | 6 => decode (pm_b mi) (pm_pc mi k) = .ok (pm_lbi b, 1) ∧ pm_pc mi (k + 1) = pm_pc mi k + 1
    | 7 => decode (pm_b mi) (pm_pc mi k) = .ok (pm_lsi b, 1) ∧ pm_pc mi (k + 1) = pm_pc mi k + 1
    | 8 => decode (pm_b mi) (pm_pc mi k) = .ok (.i2l, 1) ∧ pm_pc mi (k + 1) = pm_pc mi k + 1
    | 9 => decode (pm_b mi) (pm_pc mi k) = .ok (.l2i, 1) ∧ pm_pc mi (k + 1) = pm_pc mi k + 1
    | 10 => decode (pm_b mi) (pm_pc mi k) = .ok (.lcmp, 1) ∧ pm_pc mi (k + 1) = pm_pc mi k + 1
    | 11 => decode (pm_b mi) (pm_pc mi k) = .ok (.dup, 1) ∧ pm_pc mi (k + 1) = pm_pc mi k + 1
    | 12 => decode (pm_b mi) (pm_pc mi k) = .ok (.dup_x1, 1) ∧ pm_pc mi (k + 1) = pm_pc mi k + 1
    | 13 => decode (pm_b mi) (pm_pc mi k) = .ok (.dup2, 1) ∧ pm_pc mi (k + 1) = pm_pc mi k + 1
    | 15 => ∃ off : Int, decode (pm_b mi) (pm_pc mi k) = .ok (.ifCond (pm_cnd b) off, 3) ∧ (pm_pc mi k : Int) + off = (pm_pc mi a : Int) ∧ pm_pc mi (k + 1) = pm_pc mi k + 3
    | 16 => ∃ off : Int, decode (pm_b mi) (pm_pc mi k) = .ok (.if_icmp (pm_cnd b) off, 3) ∧ (pm_pc mi k : Int) + off = (pm_pc mi a : Int) ∧ pm_pc mi (k + 1) = pm_pc mi k + 3
    | 17 => ∃ off : Int, decode (pm_b mi) (pm_pc mi k) = .ok (.goto off, 3) ∧ (pm_pc mi k : Int) + off = (pm_pc mi a : Int)
    | 18 => ∃ (i : Nat) (C : String) (T : u_T) (N : Nat), decode (pm_b mi) (pm_pc mi k) = .ok (.getfield i, 3) ∧ pm_pc mi (k + 1) = pm_pc mi k + 3 ∧ pm_cl[a]? = some (C, T, N) ∧ b < N ∧ (∀ w ∈ u_ws C T N, w ∈ pm_tbl) ∧ (Jvm.Cond.fieldLink (pm_y mi).cls i (T b).1 (T b).2.1 (T b).2.2.1 ∈ pm_tbl ∨ ∃ host : String, Jvm.Cond.fieldLinkNest (pm_y mi).cls i (T b).1 (T b).2.1 (T b).2.2.1 host ∈ pm_tbl)
    | 19 => ∃ (i : Nat) (C : String) (T : u_T) (N : Nat) (ty : Nat → FieldType), decode (pm_b mi) (pm_pc mi k) = .ok (.putfield i, 3) ∧ pm_pc mi (k + 1) = pm_pc mi k + 3 ∧ pm_cl[a]? = some (C, T, N) ∧ b < N ∧ (∀ w ∈ u_ws C T N, w ∈ pm_tbl) ∧ (∀ k, k < N → parseFieldDescriptor (T k).2.2.1 = some (ty k)) ∧ (∀ a, a < N → ∀ b, b < N → a ≠ b → (T a).2.1 ≠ (T b).2.1) ∧ pm_fty (tl.headD 9) (ty b) = true ∧ (((T b).2.2.2 = false ∧ (Jvm.Cond.fieldLink (pm_y mi).cls i (T b).1 (T b).2.1 (T b).2.2.1 ∈ pm_tbl ∨ ∃ host : String, Jvm.Cond.fieldLinkNest (pm_y mi).cls i (T b).1 (T b).2.1 (T b).2.2.1 host ∈ pm_tbl)) ∨ ((T b).2.2.2 = true ∧ (pm_y mi).name = "<init>" ∧ (T b).1 = (pm_y mi).cls ∧ Jvm.Cond.fieldLink (pm_y mi).cls i (T b).1 (T b).2.1 (T b).2.2.1 ∈ pm_tbl))
    | 20 => decode (pm_b mi) (pm_pc mi k) = .ok (pm_ali b, 1) ∧ pm_pc mi (k + 1) = pm_pc mi k + 1
    | 21 => decode (pm_b mi) (pm_pc mi k) = .ok (pm_asi b, 1) ∧ pm_pc mi (k + 1) = pm_pc mi k + 1
    | 22 => decode (pm_b mi) (pm_pc mi k) = .ok (.arraylength, 1) ∧ pm_pc mi (k + 1) = pm_pc mi k + 1
    | 23 => ∃ (i : Nat) (C : String) (T : u_T) (N : Nat) (ty : Nat → FieldType), decode (pm_b mi) (pm_pc mi k) = .ok (.new i, 3) ∧ pm_pc mi (k + 1) = pm_pc mi k + 3 ∧ pm_cl[a]? = some (C, T, N) ∧ (∀ w ∈ u_ws C T N, w ∈ pm_tbl) ∧ (∀ k, k < N → parseFieldDescriptor (T k).2.2.1 = some (ty k)) ∧ (∀ j, j < N → defaultValue (ty j) = vp_V (pm_df a) j) ∧ (pm_df a).length = N ∧ Jvm.Cond.classLink (pm_y mi).cls i C ∈ pm_tbl ∧ Jvm.Cond.instantiable C N ∈ pm_tbl ∧ Jvm.Cond.initialized C ∈ pm_tbl
    | 24 => a < 3 ∧ decode (pm_b mi) (pm_pc mi k) = .ok (.newarray (pm_aty a), 2) ∧ pm_pc mi (k + 1) = pm_pc mi k + 2 ∧ Jvm.Cond.arrayClass (newarray.typeOf (pm_aty a)) ∈ pm_tbl
    | 25 => ∃ i : Nat, a < 106 ∧ pm_pc mi (k + 1) = pm_pc mi k + 3 ∧ (Jvm.Cond.methodLink (pm_y mi).cls i (pm_y a) ∈ pm_tbl ∨ ∃ host : String, Jvm.Cond.methodLinkNest (pm_y mi).cls i (pm_y a) host ∈ pm_tbl) ∧
      ((decode (pm_b mi) (pm_pc mi k) = .ok (.invokevirtual i, 3) ∧ ∃ (ci : Nat) (T : u_T) (N : Nat), tl = [ci] ∧ pm_cl[ci]? = some ((pm_y a).cls, T, N) ∧ 1 ≤ b ∧ (parseMethodDescriptor (pm_y a).desc).map (fun d => d.parameters.length) = some (b - 1) ∧ Jvm.Cond.instanceMethod (pm_y a) ∈ pm_tbl ∧ Jvm.Cond.selects (pm_y a).cls (pm_y a) (pm_y a) ∈ pm_tbl)
      ∨ (decode (pm_b mi) (pm_pc mi k) = .ok (.invokespecial i, 3) ∧ ∃ ci : Nat, tl = [ci] ∧ (pm_y a).name = "<init>" ∧ pm_r a = none ∧ 1 ≤ b ∧ (parseMethodDescriptor (pm_y a).desc).map (fun d => d.parameters.length) = some (b - 1) ∧ Jvm.Cond.instanceMethod (pm_y a) ∈ pm_tbl)
      ∨ (decode (pm_b mi) (pm_pc mi k) = .ok (.invokestatic i, 3) ∧ tl = [] ∧ (parseMethodDescriptor (pm_y a).desc).map (fun d => d.parameters.length) = some b ∧ Jvm.Cond.static (pm_y a) ∈ pm_tbl))
    | 26 => match a with
      | 0 => decode (pm_b mi) (pm_pc mi k) = .ok (.return_, 1) ∧ pm_r mi = none
      | 1 => decode (pm_b mi) (pm_pc mi k) = .ok (.ireturn, 1) ∧ pm_r mi = some .int
      | 2 => decode (pm_b mi) (pm_pc mi k) = .ok (.ireturn, 1) ∧ pm_r mi = some .boolean
      | 3 => decode (pm_b mi) (pm_pc mi k) = .ok (.lreturn, 1) ∧ pm_r mi = some .long
      | 4 => decode (pm_b mi) (pm_pc mi k) = .ok (.areturn, 1) ∧ ∃ C : String, pm_r mi = some (.object C)
      | _ => False
    | 28 => ∃ i : Nat, decode (pm_b mi) (pm_pc mi k) = .ok (.invokespecial i, 3) ∧ pm_pc mi (k + 1) = pm_pc mi k + 3 ∧ Jvm.Cond.methodLink (pm_y mi).cls i Lib.objectInit ∈ pm_tbl ∧ Jvm.Cond.instanceMethod Lib.objectInit ∈ pm_tbl ∧ Jvm.Cond.code Lib.objectInit ⟨#[0xb1]⟩ 1 none ∈ pm_tbl
    | 29 => ∃ (df hi : Int) (offs : Array Int) (len : Nat), decode (pm_b mi) (pm_pc mi k) = .ok (.tableswitch df 0 hi offs, len) ∧ (pm_pc mi k : Int) + df = (pm_pc mi a : Int) ∧ hi + 1 = (tl.length : Int) ∧ ∀ j : Nat, j < tl.length → (offs[j]?).map (fun o => (pm_pc mi k : Int) + o) = some ((pm_pc mi (tl.getD j 0) : Nat) : Int)
    | 30 => ∃ i : Nat, decode (pm_b mi) (pm_pc mi k) = .ok (.invokestatic i, 3) ∧ pm_pc mi (k + 1) = pm_pc mi k + 3 ∧ Jvm.Cond.methodLink (pm_y mi).cls i Lib.Math.min.name ∈ pm_tbl ∧ Jvm.Cond.static Lib.Math.min.name ∈ pm_tbl ∧ Jvm.Cond.code Lib.Math.min.name Lib.Math.min.code 2 (some .int) ∈ pm_tbl ∧ Jvm.Cond.initialized "java/lang/Math" ∈ pm_tbl
    | 31 => decode (pm_b mi) (pm_pc mi k) = .ok (.idiv, 1) ∧ pm_pc mi (k + 1) = pm_pc mi k + 1
    | 32 => decode (pm_b mi) (pm_pc mi k) = .ok (.irem, 1) ∧ pm_pc mi (k + 1) = pm_pc mi k + 1
    | _ => False
def pm_oks (mi : Nat) : Nat → List pm_I → Prop
  | _, [] => True
  | k, e :: l => pm_ok mi k e ∧ pm_oks mi (k + 1) l
theorem pm_oks_at {mi : Nat} : ∀ (l : List pm_I) (k j : Nat) (e : pm_I), pm_oks mi k l → l[j]? = some e → pm_ok mi (k + j) e
  | [], _, _, _, _, h => by simp at h
  | x :: l, k, 0, e, h, hj => by
    have : x = e := by simpa using hj
    subst this
    exact h.1
  | x :: l, k, j + 1, e, h, hj => by
    have h1 := pm_oks_at l (k + 1) j e h.2 (by simpa using hj)
    rw [show k + (j + 1) = k + 1 + j by omega]
    exact h1
/-- of a method that is called -/
def pm_okm (mi : Nat) : Prop := plainName (pm_y mi).cls = true ∧ Jvm.Cond.code (pm_y mi) (pm_b mi) (pm_nl mi) (pm_r mi) ∈ pm_tbl ∧ Jvm.Cond.initialized (pm_y mi).cls ∈ pm_tbl ∧ (pm_y mi).cls ≠ "java/lang/invoke/MethodHandle" ∧ (pm_y mi).cls ≠ "java/lang/invoke/VarHandle" ∧ pm_nl mi ≤ 20 ∧ pm_pc mi 0 = 0
