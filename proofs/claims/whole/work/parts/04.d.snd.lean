theorem pm_br_cases {bb : Nat} {x y : Int32} {A B : Prop} (h : pm_br bb x y A B) : (A ∧ ∀ A' B' : Prop, A' → pm_br bb x y A' B') ∨ (B ∧ ∀ A' B' : Prop, B' → pm_br bb x y A' B') := by
  match bb, h with
  | 0, h =>
    by_cases q : x = y
    · exact Or.inl ⟨h.1 q, fun A' B' a => ⟨fun _ => a, fun n => absurd q n⟩⟩
    · exact Or.inr ⟨h.2 q, fun A' B' a => ⟨fun n => absurd n q, fun _ => a⟩⟩
  | 1, h =>
    by_cases q : x = y
    · exact Or.inr ⟨h.2 q, fun A' B' a => ⟨fun n => absurd q n, fun _ => a⟩⟩
    · exact Or.inl ⟨h.1 q, fun A' B' a => ⟨fun _ => a, fun n => absurd n q⟩⟩
  | 2, h =>
    by_cases q : x < y
    · exact Or.inl ⟨h.1 q, fun A' B' a => ⟨fun _ => a, fun n => absurd q n⟩⟩
    · exact Or.inr ⟨h.2 q, fun A' B' a => ⟨fun n => absurd n q, fun _ => a⟩⟩
  | 3, h =>
    by_cases q : y ≤ x
    · exact Or.inl ⟨h.1 q, fun A' B' a => ⟨fun _ => a, fun n => absurd q n⟩⟩
    · exact Or.inr ⟨h.2 q, fun A' B' a => ⟨fun n => absurd n q, fun _ => a⟩⟩
  | 4, h =>
    by_cases q : y < x
    · exact Or.inl ⟨h.1 q, fun A' B' a => ⟨fun _ => a, fun n => absurd q n⟩⟩
    · exact Or.inr ⟨h.2 q, fun A' B' a => ⟨fun n => absurd n q, fun _ => a⟩⟩
  | n + 5, h =>
    by_cases q : x ≤ y
    · exact Or.inl ⟨h.1 q, fun A' B' a => ⟨fun _ => a, fun n => absurd q n⟩⟩
    · exact Or.inr ⟨h.2 q, fun A' B' a => ⟨fun n => absurd n q, fun _ => a⟩⟩
theorem pm_fk_det {kd : Nat} {w : Value} {A : Prop} (h : pm_fk kd w A) : A ∧ ∀ A' : Prop, A' → pm_fk kd w A' := by
  unfold pm_fk at h
  split at h
  · split at h
    · exact ⟨h.2, fun A' a => ⟨h.1, a⟩⟩
    · exact h.elim
  · rename_i h3
    split at h
    · rename_i hk
      refine ⟨h, fun A' a => ?_⟩
      unfold pm_fk
      split
      · exact absurd rfl h3
      · rw [hk]; exact a
    · exact h.elim
theorem pm_al_det {sc : Nat × (Nat → Int32)} {bb : Nat} {h : pm_H} {o : Nat} {i : Int32} {KK : Value → Prop} (hs : pm_al sc bb h o i KK) : ∃ w, KK w ∧ ∀ KK' : Value → Prop, KK' w → pm_al sc bb h o i KK' := by
  rcases pm_al_cases hs with ⟨rfl, rfl, hin, hs⟩ | ⟨o', n, f, rfl, hb1, ho, hin, hs⟩ | ⟨o', n, f, rfl, rfl, ho, hin, hs⟩
  · exact ⟨_, hs, fun KK' q => ⟨hin, q⟩⟩
  · refine ⟨_, hs, fun KK' q => ?_⟩
    have e : (Nat.beq bb bb && Nat.ble bb 1) = true := by rw [Nat.beq_refl, Nat.ble_eq_true_of_le hb1]; rfl
    simp only [pm_al, ho, e]
    exact ⟨hin, q⟩
  · refine ⟨_, hs, fun KK' q => ?_⟩
    simp only [pm_al, ho]
    exact ⟨hin, q⟩
theorem pm_as_det {bb : Nat} {h : pm_H} {o : Nat} {i : Int32} {w : Value} {KK : pm_H → Prop} (hs : pm_as bb h o i w KK) : ∃ h', KK h' ∧ (h.length ≤ h'.length ∧ pm_sz h ≤ pm_sz h') ∧ ∀ KK' : pm_H → Prop, KK' h' → pm_as bb h o i w KK' := by
  rcases pm_as_cases hs with ⟨o', n, f, x, rfl, rfl, hb1, ho, hin, hs⟩ | ⟨o', n, f, x, rfl, rfl, rfl, ho, hin, hs⟩
  · refine ⟨_, hs, ⟨by rw [List.length_set]; exact Nat.le_refl _, by rw [pm_sz_set ho (by simp [pm_sz1])]; exact Nat.le_refl _⟩, fun KK' q => ?_⟩
    rcases hb1 with rfl | ⟨rfl, h01⟩
    · simp only [pm_as, ho]
      exact ⟨hin, q⟩
    · simp only [pm_as, ho]
      exact ⟨hin, h01, q⟩
  · refine ⟨_, hs, ⟨by rw [List.length_set]; exact Nat.le_refl _, by rw [pm_sz_set ho (by simp [pm_sz1])]; exact Nat.le_refl _⟩, fun KK' q => ?_⟩
    simp only [pm_as, ho]
    exact ⟨hin, q⟩
theorem pm_rk_det {a : Nat} {st : List Value} {F : Option Value → Prop} (hs : pm_rk a st F) : ∃ w, F w ∧ ∀ F' : Option Value → Prop, F' w → pm_rk a st F' := by
  unfold pm_rk at hs
  split at hs
  · split at hs
    · exact ⟨_, hs, fun F' q => q⟩
    · exact hs.elim
  · split at hs
    · exact ⟨_, hs, fun F' q => q⟩
    · exact hs.elim
  · split at hs
    · exact ⟨_, hs.2, fun F' q => ⟨hs.1, q⟩⟩
    · exact hs.elim
  · split at hs
    · exact ⟨_, hs, fun F' q => q⟩
    · exact hs.elim
  · split at hs
    · exact ⟨_, hs, fun F' q => q⟩
    · exact ⟨_, hs, fun F' q => q⟩
    · exact hs.elim
  · exact hs.elim
/-- one instruction goes one way -/
theorem pm_det {sc : Nat × (Nat → Int32)} {Cl : pm_C} (hCl : ∀ (cal : Nat) (av : List Value) (h : pm_H) (rv : Option Value) (h2 : pm_H), Cl cal av h rv h2 → h.length ≤ h2.length ∧ pm_sz h ≤ pm_sz h2) (e : pm_I) (t : pm_S) (K : pm_S → Prop) (F : Option Value → pm_H → Prop) (hs : pm_sk sc Cl e t K F) :
    (∃ t' : pm_S, K t' ∧ (t.2.2.2.length ≤ t'.2.2.2.length ∧ pm_sz t.2.2.2 ≤ pm_sz t'.2.2.2) ∧ ∀ (K' : pm_S → Prop) (F' : Option Value → pm_H → Prop), K' t' → pm_sk sc Cl e t K' F') ∨ (∃ w : Option Value, F w t.2.2.2 ∧ ∀ (K' : pm_S → Prop) (F' : Option Value → pm_H → Prop), F' w t.2.2.2 → pm_sk sc Cl e t K' F') := by
  obtain ⟨op, a, b, v, tl⟩ := e
  obtain ⟨k, ls, st, h⟩ := t
  have hr : h.length ≤ h.length ∧ pm_sz h ≤ pm_sz h := ⟨Nat.le_refl _, Nat.le_refl _⟩
  match op, hs with
  | 0, hs => exact Or.inl ⟨_, hs, hr, fun _ _ q => q⟩
  | 1, hs =>
    simp only [pm_sk] at hs
    split at hs
    · rename_i w hw
      split at hs
      · rename_i hk
        exact Or.inl ⟨_, hs, hr, fun _ _ q => by simp only [pm_sk, hw, hk]; exact q⟩
      · exact hs.elim
    · exact hs.elim
  | 2, hs =>
    simp only [pm_sk] at hs
    split at hs
    · split at hs
      · rename_i hk
        exact Or.inl ⟨_, hs, hr, fun _ _ q => by simp only [pm_sk, hk]; exact q⟩
      · exact hs.elim
    · exact hs.elim
  | 3, hs =>
    simp only [pm_sk] at hs
    split at hs
    · rename_i w hw
      split at hs
      · exact Or.inl ⟨_, hs, hr, fun _ _ q => by simp only [pm_sk, hw]; exact q⟩
      · exact hs.elim
    · exact hs.elim
  | 4, hs | 6, hs | 7, hs | 8, hs | 9, hs | 10, hs =>
    simp only [pm_sk] at hs
    split at hs
    · exact Or.inl ⟨_, hs, hr, fun _ _ q => q⟩
    · exact hs.elim
  | 11, hs | 12, hs | 13, hs | 28, hs | 30, hs =>
    simp only [pm_sk] at hs
    split at hs
    · split at hs
      · rename_i hk
        exact Or.inl ⟨_, hs, hr, fun _ _ q => by simp only [pm_sk, hk]; exact q⟩
      · exact hs.elim
    · exact hs.elim
  | 31, hs | 32, hs =>
    simp only [pm_sk] at hs
    split at hs
    · exact Or.inl ⟨_, hs.2, hr, fun _ _ q => ⟨hs.1, q⟩⟩
    · exact hs.elim
  | 15, hs | 16, hs =>
    simp only [pm_sk] at hs
    split at hs
    · rcases pm_br_cases hs with ⟨h1, h2⟩ | ⟨h1, h2⟩
      · exact Or.inl ⟨_, h1, hr, fun _ _ q => h2 _ _ q⟩
      · exact Or.inl ⟨_, h1, hr, fun _ _ q => h2 _ _ q⟩
    · exact hs.elim
  | 17, hs => exact Or.inl ⟨_, hs, hr, fun _ _ q => q⟩
  | 18, hs =>
    simp only [pm_sk] at hs
    split at hs
    · split at hs
      · rename_i hg
        split at hs
        · rename_i hb
          split at hs
          · rename_i hw
            exact Or.inl ⟨_, hs, hr, fun _ _ q => by simp only [pm_sk, hg, hb, hw]; exact q⟩
          · exact hs.elim
        · exact hs.elim
      · exact hs.elim
    · exact hs.elim
  | 19, hs =>
    simp only [pm_sk] at hs
    split at hs
    · split at hs
      · rename_i ci fs hg
        split at hs
        · rename_i hb
          obtain ⟨h1, h2⟩ := pm_fk_det hs
          obtain ⟨o', rfl, ho⟩ := pm_get_some hg
          refine Or.inl ⟨_, h1, ⟨?_, ?_⟩, fun _ _ q => by simp only [pm_sk, hg, hb]; exact h2 _ q⟩
          · show h.length ≤ (h.set o' _).length
            rw [List.length_set]; exact Nat.le_refl _
          · show pm_sz h ≤ pm_sz (h.set o' _)
            rw [pm_sz_set ho (by simp [pm_sz1])]; exact Nat.le_refl _
        · exact hs.elim
      · exact hs.elim
    · exact hs.elim
  | 20, hs =>
    simp only [pm_sk] at hs
    split at hs
    · obtain ⟨w, h1, h2⟩ := pm_al_det hs
      exact Or.inl ⟨_, h1, hr, fun K' _ q => h2 (fun w => K' (k + 1, ls, w :: _, h)) q⟩
    · exact hs.elim
  | 21, hs =>
    simp only [pm_sk] at hs
    split at hs
    · obtain ⟨h', h1, hle, h2⟩ := pm_as_det hs
      exact Or.inl ⟨_, h1, hle, fun K' _ q => h2 (fun h' => K' (k + 1, ls, _, h')) q⟩
    · exact hs.elim
  | 22, hs =>
    simp only [pm_sk] at hs
    split at hs
    · split at hs
      · rename_i hk
        exact Or.inl ⟨_, hs, hr, fun _ _ q => by simp only [pm_sk, hk]; exact q⟩
      · exact hs.elim
    · exact hs.elim
  | 23, hs =>
    refine Or.inl ⟨_, hs, ⟨?_, ?_⟩, fun _ _ q => q⟩
    · show h.length ≤ (h ++ [_]).length
      rw [List.length_append]; exact Nat.le_add_right _ _
    · show pm_sz h ≤ pm_sz (h ++ [_])
      rw [pm_sz_app]; exact Nat.le_add_right _ _
  | 24, hs =>
    simp only [pm_sk] at hs
    split at hs
    · split at hs
      · rename_i hk
        refine Or.inl ⟨_, hs, ⟨?_, ?_⟩, fun _ _ q => by simp only [pm_sk, hk]; exact q⟩
        · show h.length ≤ (h ++ [_]).length
          rw [List.length_append]; exact Nat.le_add_right _ _
        · show pm_sz h ≤ pm_sz (h ++ [_])
          rw [pm_sz_app]; exact Nat.le_add_right _ _
      · exact hs.elim
    · exact hs.elim
  | 25, hs =>
    simp only [pm_sk] at hs
    split at hs
    · rename_i hk
      obtain ⟨rv, h2, hc, hs⟩ := hs
      exact Or.inl ⟨_, hs, hCl _ _ _ _ _ hc, fun _ _ q => by simp only [pm_sk, hk]; exact ⟨rv, h2, hc, q⟩⟩
    · exact hs.elim
  | 26, hs =>
    obtain ⟨w, h1, h2⟩ := pm_rk_det (show pm_rk a st (fun w => F w h) from hs)
    exact Or.inr ⟨w, h1, fun _ F' q => h2 (fun w => F' w h) q⟩
  | 29, hs =>
    simp only [pm_sk] at hs
    obtain ⟨x, r, rfl, hq⟩ : ∃ (x : Int32) (r : List Value), st = .int x :: r ∧ (match Nat.ble tl.length 1000 with
      | true => (∀ j : Nat, j < tl.length → x = Int32.ofNat j → K (tl.getD j 0, ls, r, h)) ∧ ((x.toInt < 0 ∨ (tl.length : Int) ≤ x.toInt) → K (a, ls, r, h))
      | false => False) := by
      split at hs
      · exact ⟨_, _, rfl, hs⟩
      · exact hs.elim
    · split at hq
      · rename_i hk
        have hle : tl.length ≤ 1000 := Nat.le_of_ble_eq_true hk
        obtain ⟨hs1, hs2⟩ := hq
        have hof : ∀ j : Nat, j < tl.length → (Int32.ofNat j).toInt = (j : Int) := fun j hj => nI_toInt (by omega)
        by_cases hin : x.toInt < 0 ∨ (tl.length : Int) ≤ x.toInt
        · refine Or.inl ⟨_, hs2 hin, hr, fun _ _ q => ?_⟩
          simp only [pm_sk, hk]
          refine ⟨fun j hj hx => ?_, fun _ => q⟩
          have h2 := hof j hj
          rw [← hx] at h2
          omega
        · have hj : ∃ j : Nat, x.toInt = (j : Int) ∧ j < tl.length := ⟨x.toInt.toNat, by omega, by omega⟩
          obtain ⟨j, hj1, hj2⟩ := hj
          have hxj : x = Int32.ofNat j := by
            apply Int32.toInt_inj.mp
            rw [hj1]
            exact (hof j hj2).symm
          refine Or.inl ⟨_, hs1 j hj2 hxj, hr, fun _ _ q => ?_⟩
          simp only [pm_sk, hk]
          refine ⟨fun i hi hx => ?_, fun n => absurd n hin⟩
          have h2 := hof i hi
          rw [← hx] at h2
          have : i = j := by omega
          subst this
          exact q
      · exact hq.elim
  | 5, hs | 14, hs | 27, hs => exact hs.elim
  | n + 33, hs => exact hs.elim

theorem pm_sk_cl {sc : Nat × (Nat → Int32)} {Cl Cl' : pm_C} (hCl : ∀ (cal : Nat) (av : List Value) (h : pm_H) (rv : Option Value) (h2 : pm_H), Cl cal av h rv h2 → Cl' cal av h rv h2) (e : pm_I) (t : pm_S) (K : pm_S → Prop) (F : Option Value → pm_H → Prop) (hs : pm_sk sc Cl e t K F) : pm_sk sc Cl' e t K F := by
  obtain ⟨op, a, b, v, tl⟩ := e
  obtain ⟨k, ls, st, h⟩ := t
  match op, hs with
  | 25, hs =>
    simp only [pm_sk] at hs
    split at hs
    · rename_i hk
      obtain ⟨rv, h2, hc, hs⟩ := hs
      simp only [pm_sk, hk]
      exact ⟨rv, h2, hCl _ _ _ _ _ hc, hs⟩
    · exact hs.elim
  | 0, hs => exact hs
  | 1, hs => exact hs
  | 2, hs => exact hs
  | 3, hs => exact hs
  | 4, hs => exact hs
  | 5, hs => exact hs
  | 6, hs => exact hs
  | 7, hs => exact hs
  | 8, hs => exact hs
  | 9, hs => exact hs
  | 10, hs => exact hs
  | 11, hs => exact hs
  | 12, hs => exact hs
  | 13, hs => exact hs
  | 14, hs => exact hs
  | 15, hs => exact hs
  | 16, hs => exact hs
  | 17, hs => exact hs
  | 18, hs => exact hs
  | 19, hs => exact hs
  | 20, hs => exact hs
  | 21, hs => exact hs
  | 22, hs => exact hs
  | 23, hs => exact hs
  | 24, hs => exact hs
  | 26, hs => exact hs
  | 27, hs => exact hs
  | 28, hs => exact hs
  | 29, hs => exact hs
  | 30, hs => exact hs
  | 31, hs => exact hs
  | 32, hs => exact hs
  | n + 33, hs => exact hs
/-- the calls of a relation never shrink the heap -/
def pm_Up (Cl : pm_C) : Prop := ∀ (cal : Nat) (av : List Value) (h : pm_H) (rv : Option Value) (h2 : pm_H), Cl cal av h rv h2 → h.length ≤ h2.length ∧ pm_sz h ≤ pm_sz h2
theorem pm_ev_up {sc : Nat × (Nat → Int32)} {Cl : pm_C} (hCl : pm_Up Cl) {cd : List pm_I} : ∀ (n : Nat) (t : pm_S) (r : Option Value) (h' : pm_H), pm_ev sc Cl cd n t r h' → t.2.2.2.length ≤ h'.length ∧ pm_sz t.2.2.2 ≤ pm_sz h'
  | 0, _, _, _, h => h.elim
  | n + 1, t, r, h', h => by
    unfold pm_ev pm_st at h
    split at h
    · rcases pm_det hCl _ _ _ _ h with ⟨t', h1, h2, -⟩ | ⟨w, h1, -⟩
      · have h3 := pm_ev_up hCl n t' r h' h1
        exact ⟨Nat.le_trans h2.1 h3.1, Nat.le_trans h2.2 h3.2⟩
      · rw [h1.2]
        exact ⟨Nat.le_refl _, Nat.le_refl _⟩
    · exact h.elim
theorem pm_D_up (sc : Nat × (Nat → Int32)) : ∀ d, pm_Up (pm_D sc d)
  | 0 => fun _ _ _ _ _ h => h.elim
  | d + 1 => fun mi av h r h' hh => by
    obtain ⟨n, hn⟩ := hh
    exact pm_ev_up (pm_D_up sc d) n _ r h' hn
theorem pm_ev_cl {sc : Nat × (Nat → Int32)} {Cl Cl' : pm_C} (hU : pm_Up Cl) (hCl : ∀ (cal : Nat) (av : List Value) (h : pm_H) (rv : Option Value) (h2 : pm_H), Cl cal av h rv h2 → Cl' cal av h rv h2) {cd : List pm_I} : ∀ (n : Nat) (t : pm_S) (r : Option Value) (h' : pm_H), pm_ev sc Cl cd n t r h' → pm_ev sc Cl' cd n t r h'
  | 0, _, _, _, h => h.elim
  | n + 1, t, r, h', h => by
    unfold pm_ev pm_st at h ⊢
    split at h
    · refine pm_sk_cl hCl _ _ _ _ ?_
      rcases pm_det hU _ _ _ _ h with ⟨t', h1, -, h2⟩ | ⟨w, h1, h2⟩
      · exact h2 _ _ (pm_ev_cl hU hCl n t' r h' h1)
      · exact h2 _ _ h1
    · exact h.elim
theorem pm_D_succ (sc : Nat × (Nat → Int32)) : ∀ (d mi : Nat) (av : List Value) (h : pm_H) (r : Option Value) (h' : pm_H), pm_D sc d mi av h r h' → pm_D sc (d + 1) mi av h r h'
  | 0, _, _, _, _, _, h => h.elim
  | d + 1, mi, av, h, r, h', hh => by
    obtain ⟨n, hn⟩ := hh
    exact ⟨n, pm_ev_cl (pm_D_up sc d) (pm_D_succ sc d) n _ r h' hn⟩
theorem pm_D_le {sc : Nat × (Nat → Int32)} {d d' mi : Nat} {av : List Value} {h : pm_H} {r : Option Value} {h' : pm_H} (hh : pm_D sc d mi av h r h') (hd : d ≤ d') : pm_D sc d' mi av h r h' := by
  induction hd with
  | refl => exact hh
  | step _ ih => exact pm_D_succ sc _ mi av h r h' ih
