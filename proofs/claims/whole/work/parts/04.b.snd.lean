def pm_tys (dA : Nat → ClassId) : List (ClassId × FieldType) := [(dA 0, .int), (dA 1, .boolean), (dA 2, .long)]
/-- what holds while method mi runs -/
def pm_X (p : Program) (s : State) (m : MethodId) (args : Array Value) (meth : Method) (c : Code) (D : va_G) (dA : Nat → ClassId) (b n0 : Nat) (sc : Nat × (Nat → Int32)) (h0 : pm_H) (mi : Nat) : Prop :=
  p.tables.exec = Jvm.exec ∧ c.code = pm_b mi ∧ c.maxLocals = pm_nl mi ∧ s.vm.findClass (pm_y mi).cls = some m.cls ∧ (∀ w ∈ pm_tbl, w.before args s = true) ∧ va_K D pm_cl (pm_tys dA) s ∧ va_X b sc.1 sc.2 s s.heap ∧ b < n0 ∧ s.heap.size = n0 + h0.length ∧ ((pm_y mi).name = "<init>" → meth.name = "<init>")
/-- the JVM goes on from the state t -/
def pm_G (p : Program) (l : Launch) (e : Env) (R : Room) (s : State) (m : MethodId) (args : Array Value) (below : List Frame) (meth : Method) (c : Code) (Q : State → Prop) (D : va_G) (dA : Nat → ClassId) (b n0 : Nat) (h0 : pm_H) (mi : Nat) (t : pm_S) : Prop :=
  ∀ (H : Heap) (locs : List Loc) (rls : Array Slot) (cells slots : Nat), va_P D pm_cl (pm_wo dA b n0 t.2.2.2) H → va_S (fun q => n0 ≤ q) s.heap H locs → pm_lo b n0 rls (pm_nl mi) t.2.1 → cells + h0.length = t.2.2.2.length → slots + pm_sz h0 = pm_sz t.2.2.2 →
    W p l e R s m args below meth c H locs cells slots Q (F0 m (pm_pc mi t.1) rls (t.2.2.1.map (pm_sh b n0)))
section PMW
variable {p : Program} {l : Launch} {e : Env} {R : Room} {s : State} {m : MethodId} {args : Array Value} {below : List Frame} {meth : Method} {c : Code} {Q : State → Prop}
variable {D : va_G} {dA : Nat → ClassId} {b n0 : Nat} {h0 : pm_H} {sc : Nat × (Nat → Int32)} {mi : Nat} {Cl : pm_C} {K : pm_S → Prop} {F : Option Value → pm_H → Prop}
variable {k a bb : Nat} {v : Value} {tl : List Nat} {ls : pm_L} {st : List Value} {h : pm_H}
theorem pm_size {H : Heap} {locs : List Loc} {cells slots : Nat} {g : JFrame} (kk : H.size ≤ s.heap.size + cells → W p l e R s m args below meth c H locs cells slots Q g) : W p l e R s m args below meth c H locs cells slots Q g :=
  fun T hT X => kk (by rw [← hT]; exact X.heapSize) T hT X
theorem pm_w0 (X : pm_X p s m args meth c D dA b n0 sc h0 mi) (ok : pm_ok mi k (0, a, bb, v, tl)) (hs : pm_sk sc Cl (0, a, bb, v, tl) (k, ls, st, h) K F) (hK : ∀ t, K t → pm_G p l e R s m args below meth c Q D dA b n0 h0 mi t) : pm_G p l e R s m args below meth c Q D dA b n0 h0 mi (k, ls, st, h) := by
  obtain ⟨hx, hb, hml, hown, hts, -⟩ := X
  intro H locs rls cells slots hP hS hl hc hz
  have hW := hK _ hs H locs rls cells slots hP hS hl hc hz
  dsimp only at hW ⊢
  rcases ok with ⟨n, hd, rfl, hp⟩ | ⟨n, hd, rfl, hp⟩ | ⟨n, hd, rfl, hp⟩ | ⟨n, hd, rfl, hp⟩ | ⟨i, cc, hd, hm, rfl, hp⟩ | ⟨i, cc, hd, hm, rfl, hp⟩
  · rw [hp] at hW
    exact lv_iconst hx hb hd rfl hW
  · rw [hp] at hW
    exact lv_bipush hx hb hd rfl hW
  · rw [hp] at hW
    exact lv_sipush hx hb hd rfl hW
  · rw [hp] at hW
    exact lv_lconst hx hb hd rfl hW
  · rw [hp] at hW
    exact lv_ldc hx hb hown (hts _ hm) hd hW
  · rw [hp] at hW
    exact lv_ldc2 hx hb hown (hts _ hm) hd hW
theorem pm_w1 (X : pm_X p s m args meth c D dA b n0 sc h0 mi) (ok : pm_ok mi k (1, a, bb, v, tl)) (hs : pm_sk sc Cl (1, a, bb, v, tl) (k, ls, st, h) K F) (hK : ∀ t, K t → pm_G p l e R s m args below meth c Q D dA b n0 h0 mi t) : pm_G p l e R s m args below meth c Q D dA b n0 h0 mi (k, ls, st, h) := by
  obtain ⟨hx, hb, hml, hown, hts, -⟩ := X
  intro H locs rls cells slots hP hS hl hc hz
  obtain ⟨w, hw, hkd, hs⟩ : ∃ w, ls[a]? = some (some w) ∧ pm_kd bb w = true ∧ K (k + 1, ls, w :: st, h) := by
    simp only [pm_sk] at hs
    split at hs
    · rename_i w hw
      split at hs
      · rename_i hkd
        exact ⟨w, hw, hkd, hs⟩
      · exact hs.elim
    · exact hs.elim
  have hW := hK _ hs H locs rls cells slots hP hS hl hc hz
  have hr := hl.at hw
  dsimp only at hW ⊢
  match bb, hkd, ok with
  | 0, hkd, ok =>
    cases w <;> try (simp [pm_kd] at hkd; done)
    rcases ok with ⟨n, hd, hn, hp⟩ | ⟨hd, hp⟩
    · rw [hp] at hW
      exact lv_iload_n hx hb hd hn hr hW
    · rw [hp] at hW
      exact lv_iload hx hb hd hr hW
  | 1, hkd, ok =>
    cases w <;> try (simp [pm_kd] at hkd; done)
    rcases ok with ⟨n, hd, hn, hp⟩ | ⟨hd, hp⟩
    · rw [hp] at hW
      exact lv_lload_n hx hb hd hn hr hW
    · rw [hp] at hW
      exact lv_lload hx hb hd hr hW
  | 2, hkd, ok =>
    cases w <;> try (simp [pm_kd] at hkd; done)
    · rcases ok with ⟨n, hd, hn, hp⟩ | ⟨hd, hp⟩
      · rw [hp] at hW
        exact lv_aload_nN hx hb hd hn hr hW
      · rw [hp] at hW
        exact lv_aloadN hx hb hd hr hW
    · rcases ok with ⟨n, hd, hn, hp⟩ | ⟨hd, hp⟩
      · rw [hp] at hW
        exact lv_aload_n hx hb hd hn hr hW
      · rw [hp] at hW
        exact lv_aload hx hb hd hr hW
theorem pm_w2 (X : pm_X p s m args meth c D dA b n0 sc h0 mi) (ok : pm_ok mi k (2, a, bb, v, tl)) (hs : pm_sk sc Cl (2, a, bb, v, tl) (k, ls, st, h) K F) (hK : ∀ t, K t → pm_G p l e R s m args below meth c Q D dA b n0 h0 mi t) : pm_G p l e R s m args below meth c Q D dA b n0 h0 mi (k, ls, st, h) := by
  obtain ⟨hx, hb, hml, hown, hts, -⟩ := X
  intro H locs rls cells slots hP hS hl hc hz
  obtain ⟨w, r, rfl, hkd, hlt, hs⟩ : ∃ w r, st = w :: r ∧ pm_kd bb w = true ∧ a + bb % 2 < ls.length ∧ K (k + 1, pm_sto ls a w, r, h) := by
    simp only [pm_sk] at hs
    split at hs
    · rename_i w r
      split at hs
      · rename_i hkd
        rw [Bool.and_eq_true] at hkd
        exact ⟨w, r, rfl, hkd.1, Nat.le_of_ble_eq_true hkd.2, hs⟩
      · exact hs.elim
    · exact hs.elim
  have hG := hK _ hs
  have hlt' : a + bb % 2 < pm_nl mi := by rw [← hl.1]; exact hlt
  have hW1 : ∀ rls', w.category = 1 → lv_has rls' (pm_nl mi) ((a, pm_sh b n0 w) :: (pm_pr b n0 ls).filter (fun q => !(q.1 == a) && !(q.1 + 1 == a && q.2.category == 2))) → W p l e R s m args below meth c H locs cells slots Q (F0 m (pm_pc mi (k + 1)) rls' (r.map (pm_sh b n0))) :=
    fun rls' hc1 h' => hG H locs rls' cells slots hP hS (hl.sto1 hc1 h') hc hz
  have hW2 : ∀ rls', w.category = 2 → lv_has rls' (pm_nl mi) ((a, pm_sh b n0 w) :: (pm_pr b n0 ls).filter (fun q => !(q.1 == a) && (!(q.1 == a + 1) && !(q.1 + 1 == a && q.2.category == 2)))) → W p l e R s m args below meth c H locs cells slots Q (F0 m (pm_pc mi (k + 1)) rls' (r.map (pm_sh b n0))) :=
    fun rls' hc1 h' => hG H locs rls' cells slots hP hS (hl.sto2 hc1 h') hc hz
  dsimp only
  match bb, hkd, ok, hlt' with
  | 0, hkd, ok, hlt' =>
    cases w <;> try (simp [pm_kd] at hkd; done)
    rcases ok with ⟨n, hd, hn, hp⟩ | ⟨hd, hp⟩
    · rw [hp] at hW1
      exact lv_istore_n hx hb hd hn hl.2 hlt' rfl (fun rls' h' => hW1 rls' rfl h')
    · rw [hp] at hW1
      exact lv_istore hx hb hd hl.2 hlt' rfl (fun rls' h' => hW1 rls' rfl h')
  | 1, hkd, ok, hlt' =>
    cases w <;> try (simp [pm_kd] at hkd; done)
    rcases ok with ⟨n, hd, hn, hp⟩ | ⟨hd, hp⟩
    · rw [hp] at hW2
      exact lv_lstore_n hx hb hd hn hl.2 hlt' rfl (fun rls' h' => hW2 rls' rfl h')
    · rw [hp] at hW2
      exact lv_lstore hx hb hd hl.2 hlt' rfl (fun rls' h' => hW2 rls' rfl h')
  | 2, hkd, ok, hlt' =>
    cases w <;> try (simp [pm_kd] at hkd; done)
    · rcases ok with ⟨n, hd, hn, hp⟩ | ⟨hd, hp⟩
      · rw [hp] at hW1
        exact lv_astore_nN hx hb hd hn hl.2 hlt' rfl (fun rls' h' => hW1 rls' rfl h')
      · rw [hp] at hW1
        exact lv_astoreN hx hb hd hl.2 hlt' rfl (fun rls' h' => hW1 rls' rfl h')
    · rcases ok with ⟨n, hd, hn, hp⟩ | ⟨hd, hp⟩
      · rw [hp] at hW1
        exact lv_astore_n hx hb hd hn hl.2 hlt' rfl (fun rls' h' => hW1 rls' rfl h')
      · rw [hp] at hW1
        exact lv_astore hx hb hd hl.2 hlt' rfl (fun rls' h' => hW1 rls' rfl h')
theorem pm_w3 (X : pm_X p s m args meth c D dA b n0 sc h0 mi) (ok : pm_ok mi k (3, a, bb, v, tl)) (hs : pm_sk sc Cl (3, a, bb, v, tl) (k, ls, st, h) K F) (hK : ∀ t, K t → pm_G p l e R s m args below meth c Q D dA b n0 h0 mi t) : pm_G p l e R s m args below meth c Q D dA b n0 h0 mi (k, ls, st, h) := by
  obtain ⟨hx, hb, hml, hown, hts, -⟩ := X
  intro H locs rls cells slots hP hS hl hc hz
  obtain ⟨n, hd, rfl, hp⟩ := ok
  obtain ⟨x, hw, hs⟩ : ∃ x, ls[a]? = some (some (.int x)) ∧ K (k + 1, pm_sto ls a (.int (x + Int32.ofInt n)), st, h) := by
    simp only [pm_sk] at hs
    split at hs
    · rename_i x hx
      exact ⟨x, hx, hs⟩
    · exact hs.elim
  have hlt' : a < pm_nl mi := by rw [← hl.1]; exact (List.getElem?_eq_some_iff.mp hw).1
  obtain ⟨j, hj⟩ := List.getElem?_of_mem (pm_pr_mem (b := b) (n0 := n0).mpr ⟨_, hw, rfl⟩)
  dsimp only
  refine lv_iinc hx hb hd hl.2 hj rfl hlt' rfl (fun rls' h' => ?_)
  have hl' : pm_lo b n0 rls' (pm_nl mi) (pm_sto ls a (.int (x + Int32.ofInt n))) := pm_lo.sto1 (ls := ls) hl rfl h'
  have hW := hK _ hs H locs rls' cells slots hP hS hl' hc hz
  dsimp only at hW
  rw [hp] at hW
  exact hW
theorem pm_w4 (X : pm_X p s m args meth c D dA b n0 sc h0 mi) (ok : pm_ok mi k (4, a, bb, v, tl)) (hs : pm_sk sc Cl (4, a, bb, v, tl) (k, ls, st, h) K F) (hK : ∀ t, K t → pm_G p l e R s m args below meth c Q D dA b n0 h0 mi t) : pm_G p l e R s m args below meth c Q D dA b n0 h0 mi (k, ls, st, h) := by
  obtain ⟨hx, hb, hml, hown, hts, -⟩ := X
  intro H locs rls cells slots hP hS hl hc hz
  obtain ⟨x, y, r, rfl, hs⟩ : ∃ (x y : Int32) (r : List Value), st = .int y :: .int x :: r ∧ K (k + 1, ls, .int (pm_ib bb x y) :: r, h) := by
    simp only [pm_sk] at hs
    split at hs
    · exact ⟨_, _, _, rfl, hs⟩
    · exact hs.elim
  have hW := hK _ hs H locs rls cells slots hP hS hl hc hz
  obtain ⟨hd, hp⟩ := ok
  dsimp only at hW ⊢
  rw [hp] at hW
  match bb, hd, hW with
  | 0, hd, hW => exact lv_iadd hx hb hd hW
  | 1, hd, hW => exact lv_isub hx hb hd hW
  | 2, hd, hW => exact lv_imul hx hb hd hW
  | 3, hd, hW => exact lv_iand hx hb hd hW
  | 4, hd, hW => exact lv_ior hx hb hd hW
  | 5, hd, hW => exact lv_ixor hx hb hd hW
  | 6, hd, hW => exact lv_ishl hx hb hd hW
  | 7, hd, hW => exact lv_ishr hx hb hd hW
  | n + 8, hd, hW => exact lv_iushr hx hb hd rfl hW
theorem pm_w6 (X : pm_X p s m args meth c D dA b n0 sc h0 mi) (ok : pm_ok mi k (6, a, bb, v, tl)) (hs : pm_sk sc Cl (6, a, bb, v, tl) (k, ls, st, h) K F) (hK : ∀ t, K t → pm_G p l e R s m args below meth c Q D dA b n0 h0 mi t) : pm_G p l e R s m args below meth c Q D dA b n0 h0 mi (k, ls, st, h) := by
  obtain ⟨hx, hb, hml, hown, hts, -⟩ := X
  intro H locs rls cells slots hP hS hl hc hz
  obtain ⟨x, y, r, rfl, hs⟩ : ∃ (x y : Int64) (r : List Value), st = .long y :: .long x :: r ∧ K (k + 1, ls, .long (pm_lb bb x y) :: r, h) := by
    simp only [pm_sk] at hs
    split at hs
    · exact ⟨_, _, _, rfl, hs⟩
    · exact hs.elim
  have hW := hK _ hs H locs rls cells slots hP hS hl hc hz
  obtain ⟨hd, hp⟩ := ok
  dsimp only at hW ⊢
  rw [hp] at hW
  match bb, hd, hW with
  | 0, hd, hW => exact lv_ladd hx hb hd hW
  | 1, hd, hW => exact lv_lsub hx hb hd hW
  | 2, hd, hW => exact lv_lmul hx hb hd hW
  | 3, hd, hW => exact lv_land hx hb hd hW
  | 4, hd, hW => exact lv_lor hx hb hd hW
  | n + 5, hd, hW => exact lv_lxor hx hb hd hW
theorem pm_w7 (X : pm_X p s m args meth c D dA b n0 sc h0 mi) (ok : pm_ok mi k (7, a, bb, v, tl)) (hs : pm_sk sc Cl (7, a, bb, v, tl) (k, ls, st, h) K F) (hK : ∀ t, K t → pm_G p l e R s m args below meth c Q D dA b n0 h0 mi t) : pm_G p l e R s m args below meth c Q D dA b n0 h0 mi (k, ls, st, h) := by
  obtain ⟨hx, hb, hml, hown, hts, -⟩ := X
  intro H locs rls cells slots hP hS hl hc hz
  obtain ⟨x, y, r, rfl, hs⟩ : ∃ (x : Int64) (y : Int32) (r : List Value), st = .int y :: .long x :: r ∧ K (k + 1, ls, .long (pm_ls bb x y) :: r, h) := by
    simp only [pm_sk] at hs
    split at hs
    · exact ⟨_, _, _, rfl, hs⟩
    · exact hs.elim
  have hW := hK _ hs H locs rls cells slots hP hS hl hc hz
  obtain ⟨hd, hp⟩ := ok
  dsimp only at hW ⊢
  rw [hp] at hW
  match bb, hd, hW with
  | 0, hd, hW => exact lv_lshl hx hb hd rfl hW
  | 1, hd, hW => exact lv_lshr hx hb hd rfl hW
  | n + 2, hd, hW => exact lv_lushr hx hb hd rfl hW
theorem pm_w8 (X : pm_X p s m args meth c D dA b n0 sc h0 mi) (ok : pm_ok mi k (8, a, bb, v, tl)) (hs : pm_sk sc Cl (8, a, bb, v, tl) (k, ls, st, h) K F) (hK : ∀ t, K t → pm_G p l e R s m args below meth c Q D dA b n0 h0 mi t) : pm_G p l e R s m args below meth c Q D dA b n0 h0 mi (k, ls, st, h) := by
  obtain ⟨hx, hb, hml, hown, hts, -⟩ := X
  intro H locs rls cells slots hP hS hl hc hz
  obtain ⟨x, r, rfl, hs⟩ : ∃ (x : Int32) (r : List Value), st = .int x :: r ∧ K (k + 1, ls, .long x.toInt64 :: r, h) := by
    simp only [pm_sk] at hs
    split at hs
    · exact ⟨_, _, rfl, hs⟩
    · exact hs.elim
  have hW := hK _ hs H locs rls cells slots hP hS hl hc hz
  obtain ⟨hd, hp⟩ := ok
  dsimp only at hW ⊢
  rw [hp] at hW
  exact lv_i2l hx hb hd rfl hW
theorem pm_w9 (X : pm_X p s m args meth c D dA b n0 sc h0 mi) (ok : pm_ok mi k (9, a, bb, v, tl)) (hs : pm_sk sc Cl (9, a, bb, v, tl) (k, ls, st, h) K F) (hK : ∀ t, K t → pm_G p l e R s m args below meth c Q D dA b n0 h0 mi t) : pm_G p l e R s m args below meth c Q D dA b n0 h0 mi (k, ls, st, h) := by
  obtain ⟨hx, hb, hml, hown, hts, -⟩ := X
  intro H locs rls cells slots hP hS hl hc hz
  obtain ⟨x, r, rfl, hs⟩ : ∃ (x : Int64) (r : List Value), st = .long x :: r ∧ K (k + 1, ls, .int x.toInt32 :: r, h) := by
    simp only [pm_sk] at hs
    split at hs
    · exact ⟨_, _, rfl, hs⟩
    · exact hs.elim
  have hW := hK _ hs H locs rls cells slots hP hS hl hc hz
  obtain ⟨hd, hp⟩ := ok
  dsimp only at hW ⊢
  rw [hp] at hW
  exact lv_l2i hx hb hd rfl hW
theorem pm_w10 (X : pm_X p s m args meth c D dA b n0 sc h0 mi) (ok : pm_ok mi k (10, a, bb, v, tl)) (hs : pm_sk sc Cl (10, a, bb, v, tl) (k, ls, st, h) K F) (hK : ∀ t, K t → pm_G p l e R s m args below meth c Q D dA b n0 h0 mi t) : pm_G p l e R s m args below meth c Q D dA b n0 h0 mi (k, ls, st, h) := by
  obtain ⟨hx, hb, hml, hown, hts, -⟩ := X
  intro H locs rls cells slots hP hS hl hc hz
  obtain ⟨x, y, r, rfl, hs⟩ : ∃ (x y : Int64) (r : List Value), st = .long y :: .long x :: r ∧ K (k + 1, ls, .int (lg_cmp x y) :: r, h) := by
    simp only [pm_sk] at hs
    split at hs
    · exact ⟨_, _, _, rfl, hs⟩
    · exact hs.elim
  have hW := hK _ hs H locs rls cells slots hP hS hl hc hz
  obtain ⟨hd, hp⟩ := ok
  dsimp only at hW ⊢
  rw [hp] at hW
  exact W.lcmp hx hb hd hW
theorem pm_w31 (X : pm_X p s m args meth c D dA b n0 sc h0 mi) (ok : pm_ok mi k (31, a, bb, v, tl)) (hs : pm_sk sc Cl (31, a, bb, v, tl) (k, ls, st, h) K F) (hK : ∀ t, K t → pm_G p l e R s m args below meth c Q D dA b n0 h0 mi t) : pm_G p l e R s m args below meth c Q D dA b n0 h0 mi (k, ls, st, h) := by
  obtain ⟨hx, hb, hml, hown, hts, -⟩ := X
  intro H locs rls cells slots hP hS hl hc hz
  obtain ⟨x, y, r, rfl, hne, hs⟩ : ∃ (x y : Int32) (r : List Value), st = .int y :: .int x :: r ∧ (¬ y = 0) ∧ K (k + 1, ls, .int (x / y) :: r, h) := by
    simp only [pm_sk] at hs
    split at hs
    · exact ⟨_, _, _, rfl, hs⟩
    · exact hs.elim
  have hW := hK _ hs H locs rls cells slots hP hS hl hc hz
  obtain ⟨hd, hp⟩ := ok
  dsimp only at hW ⊢
  rw [hp] at hW
  exact lv_idiv hx hb hd hne hW
theorem pm_w32 (X : pm_X p s m args meth c D dA b n0 sc h0 mi) (ok : pm_ok mi k (32, a, bb, v, tl)) (hs : pm_sk sc Cl (32, a, bb, v, tl) (k, ls, st, h) K F) (hK : ∀ t, K t → pm_G p l e R s m args below meth c Q D dA b n0 h0 mi t) : pm_G p l e R s m args below meth c Q D dA b n0 h0 mi (k, ls, st, h) := by
  obtain ⟨hx, hb, hml, hown, hts, -⟩ := X
  intro H locs rls cells slots hP hS hl hc hz
  obtain ⟨x, y, r, rfl, hne, hs⟩ : ∃ (x y : Int32) (r : List Value), st = .int y :: .int x :: r ∧ (¬ y = 0) ∧ K (k + 1, ls, .int (x - x / y * y) :: r, h) := by
    simp only [pm_sk] at hs
    split at hs
    · exact ⟨_, _, _, rfl, hs⟩
    · exact hs.elim
  have hW := hK _ hs H locs rls cells slots hP hS hl hc hz
  obtain ⟨hd, hp⟩ := ok
  dsimp only at hW ⊢
  rw [hp] at hW
  exact lv_irem hx hb hd hne hW
theorem pm_w11 (X : pm_X p s m args meth c D dA b n0 sc h0 mi) (ok : pm_ok mi k (11, a, bb, v, tl)) (hs : pm_sk sc Cl (11, a, bb, v, tl) (k, ls, st, h) K F) (hK : ∀ t, K t → pm_G p l e R s m args below meth c Q D dA b n0 h0 mi t) : pm_G p l e R s m args below meth c Q D dA b n0 h0 mi (k, ls, st, h) := by
  obtain ⟨hx, hb, hml, hown, hts, -⟩ := X
  intro H locs rls cells slots hP hS hl hc hz
  obtain ⟨w, r, rfl, hcat, hs⟩ : ∃ (w : Value) (r : List Value), st = w :: r ∧ Nat.beq w.category 1 = true ∧ K (k + 1, ls, w :: w :: r, h) := by
    simp only [pm_sk] at hs
    split at hs
    · split at hs
      · rename_i hcat
        exact ⟨_, _, rfl, hcat, hs⟩
      · exact hs.elim
    · exact hs.elim
  have hW := hK _ hs H locs rls cells slots hP hS hl hc hz
  obtain ⟨hd, hp⟩ := ok
  dsimp only at hW ⊢
  rw [hp] at hW
  exact lv_dup hx hb hd (by rw [pm_sh_cat]; exact Nat.eq_of_beq_eq_true hcat) hW
theorem pm_w12 (X : pm_X p s m args meth c D dA b n0 sc h0 mi) (ok : pm_ok mi k (12, a, bb, v, tl)) (hs : pm_sk sc Cl (12, a, bb, v, tl) (k, ls, st, h) K F) (hK : ∀ t, K t → pm_G p l e R s m args below meth c Q D dA b n0 h0 mi t) : pm_G p l e R s m args below meth c Q D dA b n0 h0 mi (k, ls, st, h) := by
  obtain ⟨hx, hb, hml, hown, hts, -⟩ := X
  intro H locs rls cells slots hP hS hl hc hz
  obtain ⟨w, z, r, rfl, hcat, hs⟩ : ∃ (w z : Value) (r : List Value), st = w :: z :: r ∧ (Nat.beq w.category 1 && Nat.beq z.category 1) = true ∧ K (k + 1, ls, w :: z :: w :: r, h) := by
    simp only [pm_sk] at hs
    split at hs
    · split at hs
      · rename_i hcat
        exact ⟨_, _, _, rfl, hcat, hs⟩
      · exact hs.elim
    · exact hs.elim
  rw [Bool.and_eq_true] at hcat
  have hW := hK _ hs H locs rls cells slots hP hS hl hc hz
  obtain ⟨hd, hp⟩ := ok
  dsimp only at hW ⊢
  rw [hp] at hW
  exact lv_dup_x1 hx hb hd (by rw [pm_sh_cat]; exact Nat.eq_of_beq_eq_true hcat.1) (by rw [pm_sh_cat]; exact Nat.eq_of_beq_eq_true hcat.2) hW
theorem pm_w13 (X : pm_X p s m args meth c D dA b n0 sc h0 mi) (ok : pm_ok mi k (13, a, bb, v, tl)) (hs : pm_sk sc Cl (13, a, bb, v, tl) (k, ls, st, h) K F) (hK : ∀ t, K t → pm_G p l e R s m args below meth c Q D dA b n0 h0 mi t) : pm_G p l e R s m args below meth c Q D dA b n0 h0 mi (k, ls, st, h) := by
  obtain ⟨hx, hb, hml, hown, hts, -⟩ := X
  intro H locs rls cells slots hP hS hl hc hz
  obtain ⟨w, z, r, rfl, hcat, hs⟩ : ∃ (w z : Value) (r : List Value), st = w :: z :: r ∧ (Nat.beq w.category 1 && Nat.beq z.category 1) = true ∧ K (k + 1, ls, w :: z :: w :: z :: r, h) := by
    simp only [pm_sk] at hs
    split at hs
    · split at hs
      · rename_i hcat
        exact ⟨_, _, _, rfl, hcat, hs⟩
      · exact hs.elim
    · exact hs.elim
  rw [Bool.and_eq_true] at hcat
  have hW := hK _ hs H locs rls cells slots hP hS hl hc hz
  obtain ⟨hd, hp⟩ := ok
  dsimp only at hW ⊢
  rw [hp] at hW
  exact lv_dup2_11 hx hb hd (by rw [pm_sh_cat]; exact Nat.eq_of_beq_eq_true hcat.1) (by rw [pm_sh_cat]; exact Nat.eq_of_beq_eq_true hcat.2) hW
theorem pm_w15 (X : pm_X p s m args meth c D dA b n0 sc h0 mi) (ok : pm_ok mi k (15, a, bb, v, tl)) (hs : pm_sk sc Cl (15, a, bb, v, tl) (k, ls, st, h) K F) (hK : ∀ t, K t → pm_G p l e R s m args below meth c Q D dA b n0 h0 mi t) : pm_G p l e R s m args below meth c Q D dA b n0 h0 mi (k, ls, st, h) := by
  obtain ⟨hx, hb, hml, hown, hts, -⟩ := X
  intro H locs rls cells slots hP hS hl hc hz
  obtain ⟨x, r, rfl, hs⟩ : ∃ (x : Int32) (r : List Value), st = .int x :: r ∧ pm_br bb x 0 (K (a, ls, r, h)) (K (k + 1, ls, r, h)) := by
    simp only [pm_sk] at hs
    split at hs
    · exact ⟨_, _, rfl, hs⟩
    · exact hs.elim
  have hW1 := fun q => hK (a, ls, r, h) q H locs rls cells slots hP hS hl hc hz
  have hW2 := fun q => hK (k + 1, ls, r, h) q H locs rls cells slots hP hS hl hc hz
  obtain ⟨off, hd, ht, hp⟩ := ok
  dsimp only at hW1 hW2 ⊢
  rw [hp] at hW2
  match bb, hd, hs with
  | 0, hd, hs => exact lv_if_eq hx hb hd ht (fun q => hW1 (hs.1 q)) (fun q => hW2 (hs.2 q))
  | 1, hd, hs => exact lv_if_ne hx hb hd ht (fun q => hW1 (hs.1 q)) (fun q => hW2 (hs.2 q))
  | 2, hd, hs => exact lv_if_lt hx hb hd ht (fun q => hW1 (hs.1 q)) (fun q => hW2 (hs.2 q))
  | 3, hd, hs => exact lv_if_ge hx hb hd ht (fun q => hW1 (hs.1 q)) (fun q => hW2 (hs.2 q))
  | 4, hd, hs => exact lv_if_gt hx hb hd ht (fun q => hW1 (hs.1 q)) (fun q => hW2 (hs.2 q))
  | n + 5, hd, hs => exact lv_if_le hx hb hd ht (fun q => hW1 (hs.1 q)) (fun q => hW2 (hs.2 q))
theorem pm_w16 (X : pm_X p s m args meth c D dA b n0 sc h0 mi) (ok : pm_ok mi k (16, a, bb, v, tl)) (hs : pm_sk sc Cl (16, a, bb, v, tl) (k, ls, st, h) K F) (hK : ∀ t, K t → pm_G p l e R s m args below meth c Q D dA b n0 h0 mi t) : pm_G p l e R s m args below meth c Q D dA b n0 h0 mi (k, ls, st, h) := by
  obtain ⟨hx, hb, hml, hown, hts, -⟩ := X
  intro H locs rls cells slots hP hS hl hc hz
  obtain ⟨x, y, r, rfl, hs⟩ : ∃ (x y : Int32) (r : List Value), st = .int y :: .int x :: r ∧ pm_br bb x y (K (a, ls, r, h)) (K (k + 1, ls, r, h)) := by
    simp only [pm_sk] at hs
    split at hs
    · exact ⟨_, _, _, rfl, hs⟩
    · exact hs.elim
  have hW1 := fun q => hK (a, ls, r, h) q H locs rls cells slots hP hS hl hc hz
  have hW2 := fun q => hK (k + 1, ls, r, h) q H locs rls cells slots hP hS hl hc hz
  obtain ⟨off, hd, ht, hp⟩ := ok
  dsimp only at hW1 hW2 ⊢
  rw [hp] at hW2
  match bb, hd, hs with
  | 0, hd, hs => exact lv_icmp_eq hx hb hd ht (fun q => hW1 (hs.1 q)) (fun q => hW2 (hs.2 q))
  | 1, hd, hs => exact lv_icmp_ne hx hb hd ht (fun q => hW1 (hs.1 q)) (fun q => hW2 (hs.2 q))
  | 2, hd, hs => exact lv_icmp_lt hx hb hd ht (fun q => hW1 (hs.1 q)) (fun q => hW2 (hs.2 q))
  | 3, hd, hs => exact lv_icmp_ge hx hb hd ht (fun q => hW1 (hs.1 q)) (fun q => hW2 (hs.2 q))
  | 4, hd, hs => exact lv_icmp_gt hx hb hd ht (fun q => hW1 (hs.1 q)) (fun q => hW2 (hs.2 q))
  | n + 5, hd, hs => exact lv_icmp_le hx hb hd ht (fun q => hW1 (hs.1 q)) (fun q => hW2 (hs.2 q))
theorem pm_w17 (X : pm_X p s m args meth c D dA b n0 sc h0 mi) (ok : pm_ok mi k (17, a, bb, v, tl)) (hs : pm_sk sc Cl (17, a, bb, v, tl) (k, ls, st, h) K F) (hK : ∀ t, K t → pm_G p l e R s m args below meth c Q D dA b n0 h0 mi t) : pm_G p l e R s m args below meth c Q D dA b n0 h0 mi (k, ls, st, h) := by
  obtain ⟨hx, hb, hml, hown, hts, -⟩ := X
  intro H locs rls cells slots hP hS hl hc hz
  have hW := hK _ hs H locs rls cells slots hP hS hl hc hz
  obtain ⟨off, hd, ht⟩ := ok
  exact lv_goto hx hb hd ht hW
end PMW
