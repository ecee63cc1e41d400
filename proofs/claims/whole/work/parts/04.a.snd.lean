/-! WHAT THE PURE MACHINE DOES, THE JVM DOES. Cell i + 1 of the pure heap lies at address n0 + i; reference 0 is the law's script, at b. -/
def pm_ad (b n0 i : Nat) : Nat := match i with
  | 0 => b
  | k + 1 => n0 + k
def pm_sh (b n0 : Nat) (v : Value) : Value := match v with
  | .ref i => .ref (pm_ad b n0 i)
  | .int x => .int x
  | .long x => .long x
  | .float x => .float x
  | .double x => .double x
  | .null => .null
  | .retAddr x => .retAddr x
def pm_tr (dA : Nat → ClassId) (b n0 : Nat) (x : pm_E) : va_E := match x with
  | .inl q => .inl (dA q.1, q.2)
  | .inr o => .inr (o.1, o.2.map (pm_sh b n0))
def pm_wo (dA : Nat → ClassId) (b n0 : Nat) (h : pm_H) : va_W := h.mapIdx (fun i x => (n0 + i, pm_tr dA b n0 x))
theorem pm_sh_cat (b n0 : Nat) (v : Value) : (pm_sh b n0 v).category = v.category := by cases v <;> rfl
theorem pm_wo_at (dA : Nat → ClassId) (b n0 : Nat) (h : pm_H) (i : Nat) : (pm_wo dA b n0 h)[i]? = (h[i]?).map (fun x => (n0 + i, pm_tr dA b n0 x)) := by
  simp [pm_wo]
theorem pm_wo_some {dA : Nat → ClassId} {b n0 : Nat} {h : pm_H} {i : Nat} {x : pm_E} (e : h[i]? = some x) : (pm_wo dA b n0 h)[i]? = some (n0 + i, pm_tr dA b n0 x) := by
  rw [pm_wo_at, e]; rfl
theorem pm_wo_len (dA : Nat → ClassId) (b n0 : Nat) (h : pm_H) : (pm_wo dA b n0 h).length = h.length := by simp [pm_wo]
theorem pm_wo_set (dA : Nat → ClassId) (b n0 : Nat) (h : pm_H) (i : Nat) (x : pm_E) : pm_wo dA b n0 (h.set i x) = (pm_wo dA b n0 h).set i (n0 + i, pm_tr dA b n0 x) := by
  apply List.ext_getElem?
  intro j
  rw [pm_wo_at, List.getElem?_set, List.getElem?_set, pm_wo_at, pm_wo_len]
  by_cases hij : i = j
  · subst hij
    by_cases hl : i < h.length
    · simp [hl]
    · simp [hl]
  · simp [hij]
theorem pm_wo_app (dA : Nat → ClassId) (b n0 : Nat) (h : pm_H) (x : pm_E) : pm_wo dA b n0 (h ++ [x]) = pm_wo dA b n0 h ++ [(n0 + h.length, pm_tr dA b n0 x)] := by
  simp [pm_wo, List.mapIdx_concat]
theorem pm_wo_D (dA : Nat → ClassId) (b n0 : Nat) (h : pm_H) : va_D (fun q => n0 ≤ q) (pm_wo dA b n0 h) := by
  refine ⟨fun i j p q hi hj hpq => ?_, fun k q hk => ?_⟩
  · rw [pm_wo_at, Option.map_eq_some_iff] at hi hj
    obtain ⟨x, -, rfl⟩ := hi
    obtain ⟨y, -, rfl⟩ := hj
    have : n0 + i = n0 + j := hpq
    omega
  · rw [pm_wo_at, Option.map_eq_some_iff] at hk
    obtain ⟨x, -, rfl⟩ := hk
    exact Nat.le_add_right _ _
/-- the heap reaches behind the world's last cell -/
theorem pm_wo_le {D : va_G} {dA : Nat → ClassId} {b n0 : Nat} {h : pm_H} {H : Heap} (hn : n0 ≤ H.size) (hP : va_P D pm_cl (pm_wo dA b n0 h) H) : n0 + h.length ≤ H.size := by
  by_cases h0 : h.length = 0
  · omega
  · have hl : h.length - 1 < h.length := by omega
    have h1 := (hP (h.length - 1) _ (pm_wo_some (List.getElem?_eq_getElem hl))).lt
    have h2 : n0 + (h.length - 1) < H.size := h1
    omega
/-- locals -/
def pm_pr (b n0 : Nat) (ls : pm_L) : List (Nat × Value) := (List.range ls.length).filterMap (fun i => match ls[i]? with
  | some (some w) => some (i, pm_sh b n0 w)
  | _ => none)
theorem pm_pr_mem {b n0 : Nat} {ls : pm_L} {i : Nat} {v : Value} : (i, v) ∈ pm_pr b n0 ls ↔ ∃ w, ls[i]? = some (some w) ∧ v = pm_sh b n0 w := by
  constructor
  · intro h
    obtain ⟨j, hj, he⟩ := List.mem_filterMap.mp h
    split at he
    · rename_i w hw
      cases he
      exact ⟨w, hw, rfl⟩
    · cases he
  · rintro ⟨w, hw, rfl⟩
    refine List.mem_filterMap.mpr ⟨i, List.mem_range.mpr (List.getElem?_eq_some_iff.mp hw).1, ?_⟩
    rw [hw]
def pm_lo (b n0 : Nat) (rls : Array Slot) (nL : Nat) (ls : pm_L) : Prop := ls.length = nL ∧ lv_has rls nL (pm_pr b n0 ls)
theorem pm_lo.at {b n0 : Nat} {rls : Array Slot} {nL : Nat} {ls : pm_L} (h : pm_lo b n0 rls nL ls) {a : Nat} {w : Value} (e : ls[a]? = some (some w)) : rls[a]? = some (.val (pm_sh b n0 w)) :=
  h.2.2.2 (a, pm_sh b n0 w) (pm_pr_mem.mpr ⟨w, e, rfl⟩)
theorem pm_clr_len (ls : pm_L) (a : Nat) : (pm_clr ls a).length = ls.length := by
  unfold pm_clr
  split
  · rfl
  · split
    · split <;> simp
    · rfl
theorem pm_clr_at {ls : pm_L} {a i : Nat} {w : Value} (h : (pm_clr ls a)[i]? = some (some w)) : ls[i]? = some (some w) ∧ ¬ (i + 1 = a ∧ w.category = 2) := by
  unfold pm_clr at h
  split at h
  · exact ⟨h, by omega⟩
  · rename_i j
    split at h
    · rename_i z hz
      split at h
      · rename_i hb
        rw [List.getElem?_set] at h
        by_cases hij : j = i
        · subst hij
          rw [if_pos rfl] at h
          split at h
          · cases h
          · cases h
        · rw [if_neg hij] at h
          exact ⟨h, by omega⟩
      · rename_i hb
        refine ⟨h, fun q => ?_⟩
        have hij : i = j := by omega
        subst hij
        rw [hz] at h
        cases h
        rw [q.2] at hb
        cases hb
    · rename_i hz
      refine ⟨h, fun q => ?_⟩
      have hij : i = j := by omega
      subst hij
      exact hz w h
theorem pm_lo.sto1 {b n0 : Nat} {rls rls' : Array Slot} {nL : Nat} {ls : pm_L} {a : Nat} {w : Value} (h : pm_lo b n0 rls nL ls) (hc : w.category = 1)
    (h' : lv_has rls' nL ((a, pm_sh b n0 w) :: (pm_pr b n0 ls).filter (fun q => !(q.1 == a) && !(q.1 + 1 == a && q.2.category == 2)))) : pm_lo b n0 rls' nL (pm_sto ls a w) := by
  have e : pm_sto ls a w = (pm_clr ls a).set a (some w) := by
    unfold pm_sto
    rw [hc]
  rw [e]
  refine ⟨by rw [List.length_set, pm_clr_len]; exact h.1, h'.1, h'.2.1, fun q hq => h'.2.2 q ?_⟩
  obtain ⟨i, v⟩ := q
  obtain ⟨z, hz, rfl⟩ := pm_pr_mem.mp hq
  rw [List.getElem?_set] at hz
  by_cases hia : a = i
  · subst hia
    rw [if_pos rfl] at hz
    split at hz
    · cases hz
      exact List.mem_cons_self
    · cases hz
  · rw [if_neg hia] at hz
    obtain ⟨h1, h2⟩ := pm_clr_at hz
    refine List.mem_cons_of_mem _ (List.mem_filter.mpr ⟨pm_pr_mem.mpr ⟨z, h1, rfl⟩, ?_⟩)
    have n1 : (i == a) = false := by simpa using Ne.symm hia
    simp only [n1, Bool.not_false, Bool.true_and, Bool.not_eq_true', Bool.and_eq_false_iff, beq_eq_false_iff_ne, ne_eq]
    by_cases h3 : i + 1 = a
    · right
      rw [pm_sh_cat]
      exact fun q => h2 ⟨h3, q⟩
    · exact Or.inl h3
theorem pm_lo.sto2 {b n0 : Nat} {rls rls' : Array Slot} {nL : Nat} {ls : pm_L} {a : Nat} {w : Value} (h : pm_lo b n0 rls nL ls) (hc : w.category = 2)
    (h' : lv_has rls' nL ((a, pm_sh b n0 w) :: (pm_pr b n0 ls).filter (fun q => !(q.1 == a) && (!(q.1 == a + 1) && !(q.1 + 1 == a && q.2.category == 2))))) : pm_lo b n0 rls' nL (pm_sto ls a w) := by
  have e : pm_sto ls a w = ((pm_clr ls a).set (a + 1) none).set a (some w) := by
    unfold pm_sto
    rw [hc]
  rw [e]
  refine ⟨by rw [List.length_set, List.length_set, pm_clr_len]; exact h.1, h'.1, h'.2.1, fun q hq => h'.2.2 q ?_⟩
  obtain ⟨i, v⟩ := q
  obtain ⟨z, hz, rfl⟩ := pm_pr_mem.mp hq
  rw [List.getElem?_set] at hz
  by_cases hia : a = i
  · subst hia
    rw [if_pos rfl] at hz
    split at hz
    · cases hz
      exact List.mem_cons_self
    · cases hz
  · rw [if_neg hia, List.getElem?_set] at hz
    by_cases hib : a + 1 = i
    · rw [if_pos hib] at hz
      split at hz <;> cases hz
    · rw [if_neg hib] at hz
      obtain ⟨h1, h2⟩ := pm_clr_at hz
      refine List.mem_cons_of_mem _ (List.mem_filter.mpr ⟨pm_pr_mem.mpr ⟨z, h1, rfl⟩, ?_⟩)
      have n1 : (i == a) = false := by simpa using Ne.symm hia
      have n2 : (i == a + 1) = false := by simpa using Ne.symm hib
      simp only [n1, n2, Bool.not_false, Bool.true_and, Bool.not_eq_true', Bool.and_eq_false_iff, beq_eq_false_iff_ne, ne_eq]
      by_cases h3 : i + 1 = a
      · right
        rw [pm_sh_cat]
        exact fun q => h2 ⟨h3, q⟩
      · exact Or.inl h3
theorem pm_fl_len (b n0 : Nat) : ∀ av : List Value, (lg_sl (av.map (pm_sh b n0))).length = (pm_fl av).length
  | [] => rfl
  | v :: r => by
    have ih := pm_fl_len b n0 r
    unfold pm_fl
    have h1 : lg_sl ((v :: r).map (pm_sh b n0)) = (if (pm_sh b n0 v).category = 2 then [Slot.val (pm_sh b n0 v), Slot.second] else [Slot.val (pm_sh b n0 v)]) ++ lg_sl (r.map (pm_sh b n0)) := by
      simp [lg_sl]
    rw [h1, pm_sh_cat]
    rcases lv_cat v with hv | hv
    · rw [hv]; simp [ih]
    · rw [hv]; simp [ih]
theorem pm_fl_args (b n0 : Nat) : ∀ (av : List Value) (j i : Nat) (w : Value), (pm_fl av)[i]? = some (some w) → (j + i, pm_sh b n0 w) ∈ lv_args j (av.map (pm_sh b n0))
  | [], _, _, _, h => by simp [pm_fl] at h
  | v :: r, j, i, w, h => by
    unfold pm_fl at h
    show _ ∈ (j, pm_sh b n0 v) :: lv_args (if (pm_sh b n0 v).category = 2 then j + 2 else j + 1) (r.map (pm_sh b n0))
    rw [pm_sh_cat]
    rcases lv_cat v with hv | hv
    · rw [hv] at h ⊢
      match i, h with
      | 0, h =>
        have : v = w := by simpa using h
        subst this
        exact List.mem_cons_self
      | i + 1, h =>
        refine List.mem_cons_of_mem _ ?_
        have h2 : (pm_fl r)[i]? = some (some w) := h
        have := pm_fl_args b n0 r (j + 1) i w h2
        rw [show j + (i + 1) = j + 1 + i by omega]
        simpa using this
    · rw [hv] at h ⊢
      match i, h with
      | 0, h =>
        have : v = w := by simpa using h
        subst this
        exact List.mem_cons_self
      | 1, h => exact absurd h (by simp)
      | i + 2, h =>
        refine List.mem_cons_of_mem _ ?_
        have h2 : (pm_fl r)[i]? = some (some w) := h
        have := pm_fl_args b n0 r (j + 2) i w h2
        rw [show j + (i + 2) = j + 2 + i by omega]
        simpa using this
theorem pm_lo_ent (b n0 : Nat) {av : List Value} {n : Nat} (h : (pm_fl av).length ≤ n) : pm_lo b n0 ((lg_sl (av.map (pm_sh b n0)) ++ List.replicate (n - (lg_sl (av.map (pm_sh b n0))).length) Slot.unset).toArray) n (pm_ent av n) := by
  have h1 := lv_entry (av.map (pm_sh b n0)) (n := n) (by rw [pm_fl_len]; exact h)
  refine ⟨by unfold pm_ent; simp; omega, h1.1, h1.2.1, fun q hq => h1.2.2 q ?_⟩
  obtain ⟨i, v⟩ := q
  obtain ⟨z, hz, rfl⟩ := pm_pr_mem.mp hq
  unfold pm_ent at hz
  by_cases hi : i < (pm_fl av).length
  · rw [List.getElem?_append_left hi] at hz
    have := pm_fl_args b n0 av 0 i z hz
    simpa using this
  · rw [List.getElem?_append_right (by omega), List.getElem?_replicate] at hz
    split at hz <;> cases hz
