/-! REASONING OVER THE PURE MACHINE: from a state it comes to an end that F takes (pm_Go); a stretch of code without its stops (pm_wp), which reduces by itself -/
def pm_Go (sc : Nat × (Nat → Int32)) (d : Nat) (cd : List pm_I) (t : pm_S) (F : Option Value → pm_H → Prop) : Prop := ∃ (n : Nat) (r : Option Value) (h' : pm_H), pm_ev sc (pm_D sc d) cd n t r h' ∧ F r h'
def pm_wp (sc : Nat × (Nat → Int32)) (d : Nat) (cd : List pm_I) (S : List Nat) : Nat → pm_S → (pm_S → Prop) → (Option Value → pm_H → Prop) → Prop
  | 0, s, K, _ => K s
  | n + 1, s, K, F => match S.elem s.1 with
    | true => K s
    | false => pm_st sc (pm_D sc d) cd s (fun s' => pm_wp sc d cd S n s' K F) F
theorem pm_go_st {sc : Nat × (Nat → Int32)} {d : Nat} {cd : List pm_I} {t : pm_S} {F : Option Value → pm_H → Prop} (h : pm_st sc (pm_D sc d) cd t (fun s' => pm_Go sc d cd s' F) F) : pm_Go sc d cd t F := by
  unfold pm_st at h
  split at h
  · rename_i e he
    rcases pm_det (pm_D_up sc d) _ _ _ _ h with ⟨t', ⟨n, r, h', h1, h2⟩, -, h3⟩ | ⟨w, h1, h3⟩
    · refine ⟨n + 1, r, h', ?_, h2⟩
      unfold pm_ev pm_st
      rw [he]
      exact h3 _ _ h1
    · refine ⟨1, w, t.2.2.2, ?_, h1⟩
      unfold pm_ev pm_st
      rw [he]
      exact h3 _ _ ⟨rfl, rfl⟩
  · exact h.elim
theorem pm_st_mono {sc : Nat × (Nat → Int32)} {d : Nat} {cd : List pm_I} {t : pm_S} {K K' : pm_S → Prop} {F : Option Value → pm_H → Prop} (hk : ∀ s, K s → K' s) (h : pm_st sc (pm_D sc d) cd t K F) : pm_st sc (pm_D sc d) cd t K' F := by
  unfold pm_st at h ⊢
  split at h
  · rcases pm_det (pm_D_up sc d) _ _ _ _ h with ⟨t', h1, -, h3⟩ | ⟨w, h1, h3⟩
    · exact h3 _ _ (hk _ h1)
    · exact h3 _ _ h1
  · exact h.elim
theorem pm_go {sc : Nat × (Nat → Int32)} {d : Nat} {cd : List pm_I} {F : Option Value → pm_H → Prop} (S : List Nat) : ∀ (n : Nat) {t : pm_S}, pm_wp sc d cd S n t (fun s' => pm_Go sc d cd s' F) F → pm_Go sc d cd t F
  | 0, _, h => h
  | n + 1, t, h => by
    unfold pm_wp at h
    split at h
    · exact h
    · exact pm_go_st (pm_st_mono (fun s hs => pm_go S n hs) h)
/-- ... the first instruction is no stop -/
theorem pm_go1 {sc : Nat × (Nat → Int32)} {d : Nat} {cd : List pm_I} {F : Option Value → pm_H → Prop} (S : List Nat) (n : Nat) {t : pm_S} (h : pm_st sc (pm_D sc d) cd t (fun s => pm_wp sc d cd S n s (fun s' => pm_Go sc d cd s' F) F) F) : pm_Go sc d cd t F :=
  pm_go_st (pm_st_mono (fun _ hs => pm_go S n hs) h)
theorem pm_in {sc : Nat × (Nat → Int32)} {d mi : Nat} {av : List Value} {h : pm_H} {r : Option Value} {h' : pm_H} (hg : pm_Go sc d (pm_cd mi) (0, pm_ent av (pm_nl mi), [], h) (fun r2 h2 => r2 = r ∧ h2 = h')) : pm_D sc (d + 1) mi av h r h' := by
  obtain ⟨n, r2, h2, h1, rfl, rfl⟩ := hg
  exact ⟨n, h1⟩
theorem pm_inE {sc : Nat × (Nat → Int32)} {d mi : Nat} {av : List Value} {h : pm_H} {F : Option Value → pm_H → Prop} (hg : pm_Go sc d (pm_cd mi) (0, pm_ent av (pm_nl mi), [], h) F) : ∃ (r : Option Value) (h' : pm_H), pm_D sc (d + 1) mi av h r h' ∧ F r h' := by
  obtain ⟨n, r2, h2, h1, h3⟩ := hg
  exact ⟨r2, h2, ⟨n, h1⟩, h3⟩
theorem pm_goF {sc : Nat × (Nat → Int32)} {d : Nat} {cd : List pm_I} {t : pm_S} {F F' : Option Value → pm_H → Prop} (h : pm_Go sc d cd t F) (hf : ∀ r h, F r h → F' r h) : pm_Go sc d cd t F' := by
  obtain ⟨n, r, h', h1, h2⟩ := h
  exact ⟨n, r, h', h1, hf r h' h2⟩
