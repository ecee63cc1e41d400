theorem pm_sz_set {h : pm_H} {i : Nat} {x y : pm_E} (hy : h[i]? = some y) (he : pm_sz1 x = pm_sz1 y) : pm_sz (h.set i x) = pm_sz h := by
  induction h generalizing i with
  | nil => simp at hy
  | cons z t ih =>
    cases i with
    | zero =>
      have : z = y := by simpa using hy
      subst this
      show pm_sz1 x + pm_sz t = pm_sz1 z + pm_sz t
      rw [he]
    | succ i =>
      have h1 := ih (i := i) (by simpa using hy)
      show pm_sz1 z + pm_sz (t.set i x) = pm_sz1 z + pm_sz t
      rw [h1]
theorem pm_sz_app (h : pm_H) (x : pm_E) : pm_sz (h ++ [x]) = pm_sz h + pm_sz1 x := by simp [pm_sz]
theorem pm_get_some {h : pm_H} {o : Nat} {x : pm_E} (e : pm_get h o = some x) : ∃ o', o = o' + 1 ∧ h[o']? = some x := by
  cases o with
  | zero => cases e
  | succ o' => exact ⟨o', rfl, e⟩
theorem pm_df_sh (b n0 : Nat) : ∀ c : Nat, (pm_df c).map (pm_sh b n0) = pm_df c := by
  intro c
  unfold pm_df
  split <;> rfl
theorem pm_fk_ok {b n0 kd : Nat} {w : Value} {A : Prop} {ty : FieldType} (hk : pm_fk kd w A) (hf : pm_fty kd ty = true) : narrow ty (pm_sh b n0 w) = pm_sh b n0 w ∧ fits ty (pm_sh b n0 w) = true ∧ A := by
  match kd, hk, hf with
  | 0, hk, hf =>
    simp only [pm_fk] at hk
    cases w <;> cases ty <;> simp [pm_kd, pm_fty] at hk hf
    exact ⟨rfl, rfl, hk⟩
  | 1, hk, hf =>
    simp only [pm_fk] at hk
    cases w <;> cases ty <;> simp [pm_kd, pm_fty] at hk hf
    exact ⟨rfl, rfl, hk⟩
  | 2, hk, hf =>
    simp only [pm_fk] at hk
    cases w <;> cases ty <;> simp [pm_kd, pm_fty] at hk hf <;> exact ⟨rfl, rfl, hk⟩
  | 3, hk, hf =>
    simp only [pm_fk] at hk
    cases w <;> cases ty <;> simp [pm_fty] at hk hf
    obtain ⟨h01, hA⟩ := hk
    rcases h01 with rfl | rfl
    · exact ⟨rfl, rfl, hA⟩
    · exact ⟨rfl, rfl, hA⟩
  | n + 4, hk, hf =>
    cases ty <;> simp [pm_fty] at hf
theorem pm_al_cases {sc : Nat × (Nat → Int32)} {bb : Nat} {h : pm_H} {o : Nat} {i : Int32} {KK : Value → Prop} (hs : pm_al sc bb h o i KK) :
    (o = 0 ∧ bb = 0 ∧ vp_in i sc.1 ∧ KK (.int (sc.2 i.toNatClampNeg))) ∨ (∃ (o' n : Nat) (f : Nat → Int32), o = o' + 1 ∧ bb ≤ 1 ∧ h[o']? = some (.inl (bb, n, .inl f)) ∧ vp_in i n ∧ KK (.int (f i.toNatClampNeg))) ∨ (∃ (o' n : Nat) (f : Nat → Int64), o = o' + 1 ∧ bb = 2 ∧ h[o']? = some (.inl (2, n, .inr (.inl f))) ∧ vp_in i n ∧ KK (.long (f i.toNatClampNeg))) := by
  unfold pm_al at hs
  split at hs
  · split at hs
    · exact Or.inl ⟨rfl, rfl, hs.1, hs.2⟩
    · exact hs.elim
  · split at hs
    · rename_i kk n f hh
      split at hs
      · rename_i hb
        rw [Bool.and_eq_true] at hb
        have e := Nat.eq_of_beq_eq_true hb.1
        subst e
        exact Or.inr (Or.inl ⟨_, _, _, rfl, Nat.le_of_ble_eq_true hb.2, hh, hs.1, hs.2⟩)
      · exact hs.elim
    · rename_i kk n f hh
      split at hs
      · rename_i hb
        rw [Bool.and_eq_true] at hb
        have e := Nat.eq_of_beq_eq_true hb.1
        have e2 := Nat.eq_of_beq_eq_true hb.2
        subst e
        subst e2
        exact Or.inr (Or.inr ⟨_, _, _, rfl, rfl, hh, hs.1, hs.2⟩)
      · exact hs.elim
    · exact hs.elim
theorem pm_as_cases {bb : Nat} {h : pm_H} {o : Nat} {i : Int32} {w : Value} {KK : pm_H → Prop} (hs : pm_as bb h o i w KK) :
    (∃ (o' n : Nat) (f : Nat → Int32) (x : Int32), o = o' + 1 ∧ w = .int x ∧ (bb = 0 ∨ (bb = 1 ∧ (x = 0 ∨ x = 1))) ∧ h[o']? = some (.inl (bb, n, .inl f)) ∧ vp_in i n ∧ KK (h.set o' (.inl (bb, n, .inl (upd f i.toNatClampNeg x))))) ∨ (∃ (o' n : Nat) (f : Nat → Int64) (x : Int64), o = o' + 1 ∧ w = .long x ∧ bb = 2 ∧ h[o']? = some (.inl (2, n, .inr (.inl f))) ∧ vp_in i n ∧ KK (h.set o' (.inl (2, n, .inr (.inl (vp_updL f i.toNatClampNeg x)))))) := by
  unfold pm_as at hs
  split at hs
  · exact hs.elim
  · split at hs
    · rename_i kk n f hh
      split at hs
      · split at hs
        · rename_i hb
          have e := Nat.eq_of_beq_eq_true hb
          subst e
          split at hs
          · exact Or.inl ⟨_, _, _, _, rfl, rfl, Or.inl rfl, hh, hs.1, hs.2⟩
          · exact Or.inl ⟨_, _, _, _, rfl, rfl, Or.inr ⟨rfl, hs.2.1⟩, hh, hs.1, hs.2.2⟩
          · exact hs.elim
        · exact hs.elim
      · exact hs.elim
    · rename_i kk n f hh
      split at hs
      · split at hs
        · rename_i hb
          rw [Bool.and_eq_true] at hb
          have e := Nat.eq_of_beq_eq_true hb.1
          have e2 := Nat.eq_of_beq_eq_true hb.2
          subst e
          subst e2
          exact Or.inr ⟨_, _, _, _, rfl, rfl, rfl, hh, hs.1, hs.2⟩
        · exact hs.elim
      · exact hs.elim
    · exact hs.elim
section PMH
variable {p : Program} {l : Launch} {e : Env} {R : Room} {s : State} {m : MethodId} {args : Array Value} {below : List Frame} {meth : Method} {c : Code} {Q : State → Prop}
variable {D : va_G} {dA : Nat → ClassId} {b n0 : Nat} {h0 : pm_H} {sc : Nat × (Nat → Int32)} {mi : Nat} {Cl : pm_C} {K : pm_S → Prop} {F : Option Value → pm_H → Prop}
variable {k a bb : Nat} {v : Value} {tl : List Nat} {ls : pm_L} {st : List Value} {h : pm_H}
theorem pm_w18 (X : pm_X p s m args meth c D dA b n0 sc h0 mi) (ok : pm_ok mi k (18, a, bb, v, tl)) (hs0 : pm_sk sc Cl (18, a, bb, v, tl) (k, ls, st, h) K F) (hK : ∀ t, K t → pm_G p l e R s m args below meth c Q D dA b n0 h0 mi t) : pm_G p l e R s m args below meth c Q D dA b n0 h0 mi (k, ls, st, h) := by
  obtain ⟨hx, hb, hml, hown, hts, hKv, -⟩ := X
  intro H locs rls cells slots hP hS hl hc hz
  obtain ⟨o, r, fs, w, rfl, ho, hfs, hs⟩ : ∃ (o : Nat) (r fs : List Value) (w : Value), st = .ref o :: r ∧ pm_get h o = some (.inr (a, fs)) ∧ fs[bb]? = some w ∧ K (k + 1, ls, w :: r, h) := by
    simp only [pm_sk] at hs0
    split at hs0
    · split at hs0
      · rename_i ci fs hg
        split at hs0
        · rename_i hb
          have e := Nat.eq_of_beq_eq_true hb
          subst e
          split at hs0
          · rename_i w hw
            exact ⟨_, _, fs, w, rfl, hg, hw, hs0⟩
          · exact hs0.elim
        · exact hs0.elim
      · exact hs0.elim
    · exact hs0.elim
  obtain ⟨o', rfl, ho⟩ := pm_get_some ho
  have hW := hK _ hs H locs rls cells slots hP hS hl hc hz
  have he := pm_wo_some (dA := dA) (b := b) (n0 := n0) ho
  have hv : (fs.map (pm_sh b n0))[bb]? = some (pm_sh b n0 w) := by rw [List.getElem?_map, hfs]; rfl
  obtain ⟨i, C, T, N, hd, hp, hc', hbN, hin, hlk⟩ := ok
  dsimp only at hW ⊢
  rw [hp] at hW
  rcases hlk with hlk | ⟨host, hlk⟩
  · exact va_get (D := D) hx hb hts hin hown hKv hP o' he hc' bb hbN (hts _ hlk) (fun _ h9 => h9) hv hd hW
  · exact va_getN (D := D) (host := host) hx hb hts hin hown hKv hP o' he hc' bb hbN (hts _ hlk) (fun _ h9 => h9) hv hd hW
theorem pm_w19 (X : pm_X p s m args meth c D dA b n0 sc h0 mi) (ok : pm_ok mi k (19, a, bb, v, tl)) (hs0 : pm_sk sc Cl (19, a, bb, v, tl) (k, ls, st, h) K F) (hK : ∀ t, K t → pm_G p l e R s m args below meth c Q D dA b n0 h0 mi t) : pm_G p l e R s m args below meth c Q D dA b n0 h0 mi (k, ls, st, h) := by
  obtain ⟨hx, hb, hml, hown, hts, hKv, -, -, -, hini⟩ := X
  intro H locs rls cells slots hP hS hl hc hz
  obtain ⟨o, r, fs, w, rfl, ho, hfs, hs⟩ : ∃ (o : Nat) (r fs : List Value) (w : Value), st = w :: .ref o :: r ∧ pm_get h o = some (.inr (a, fs)) ∧ bb < fs.length ∧ pm_fk (tl.headD 9) w (K (k + 1, ls, r, pm_set h o (.inr (a, fs.set bb w)))) := by
    simp only [pm_sk] at hs0
    split at hs0
    · split at hs0
      · rename_i ci fs hg
        split at hs0
        · rename_i hb
          rw [Bool.and_eq_true] at hb
          have e := Nat.eq_of_beq_eq_true hb.1
          subst e
          exact ⟨_, _, fs, _, rfl, hg, Nat.le_of_ble_eq_true hb.2, hs0⟩
        · exact hs0.elim
      · exact hs0.elim
    · exact hs0.elim
  obtain ⟨o', rfl, ho⟩ := pm_get_some ho
  obtain ⟨i, C, T, N, ty, hd, hp, hc', hbN, hin, hty, hnm, hft, hlk⟩ := ok
  obtain ⟨hn, hfit, hs⟩ := pm_fk_ok (b := b) (n0 := n0) hs hft
  have he := pm_wo_some (dA := dA) (b := b) (n0 := n0) ho
  have kk : ∀ (H1 : Heap) (locs1 : List Loc), va_P D pm_cl ((pm_wo dA b n0 h).set o' (n0 + o', .inr (a, (fs.map (pm_sh b n0)).set bb (pm_sh b n0 w)))) H1 → va_D (fun q => n0 ≤ q) ((pm_wo dA b n0 h).set o' (n0 + o', .inr (a, (fs.map (pm_sh b n0)).set bb (pm_sh b n0 w)))) → va_S (fun q => n0 ≤ q) s.heap H1 locs1 → W p l e R s m args below meth c H1 locs1 cells slots Q (F0 m (pm_pc mi k + 3) rls (r.map (pm_sh b n0))) := by
    intro H1 locs1 hP1 _ hS1
    have hW := hK _ hs H1 locs1 rls cells slots (by
      show va_P D pm_cl (pm_wo dA b n0 (h.set o' (.inr (a, fs.set bb w)))) H1
      rw [pm_wo_set]
      show va_P D pm_cl ((pm_wo dA b n0 h).set o' (n0 + o', .inr (a, (fs.set bb w).map (pm_sh b n0)))) H1
      rw [List.map_set]
      exact hP1) hS1 hl (by show cells + h0.length = (h.set o' _).length; rw [List.length_set]; exact hc) (by
      show slots + pm_sz h0 = pm_sz (h.set o' _)
      rw [pm_sz_set ho (by simp [pm_sz1])]
      exact hz)
    dsimp only at hW
    rw [hp] at hW
    exact hW
  have hlen : bb < (fs.map (pm_sh b n0)).length := by rw [List.length_map]; exact hfs
  dsimp only
  rcases hlk with ⟨hfin, hlk | ⟨host, hlk⟩⟩ | ⟨hfin, hnm1, hdecl, hlk⟩
  · exact va_put (D := D) (ty := ty bb) hx hb hts hin ty hty hnm hown hKv hP (pm_wo_D dA b n0 h) hS o' he hc' bb hbN (hts _ hlk) (fun _ h9 => h9) hfin (hty bb hbN) hn hfit hlen hd kk
  · exact va_putN (D := D) (host := host) (ty := ty bb) hx hb hts hin ty hty hnm hown hKv hP (pm_wo_D dA b n0 h) hS o' he hc' bb hbN (hts _ hlk) (fun _ h9 => h9) hfin (hty bb hbN) hn hfit hlen hd kk
  · exact va_putF (D := D) (ty := ty bb) hx hb hts hin ty hty hnm hown hKv hP (pm_wo_D dA b n0 h) hS o' he hc' bb hbN (hts _ hlk) (fun _ h9 => h9) hfin (hini hnm1) hdecl (hty bb hbN) hn hfit hlen hd kk
theorem pm_w20 (X : pm_X p s m args meth c D dA b n0 sc h0 mi) (ok : pm_ok mi k (20, a, bb, v, tl)) (hs0 : pm_sk sc Cl (20, a, bb, v, tl) (k, ls, st, h) K F) (hK : ∀ t, K t → pm_G p l e R s m args below meth c Q D dA b n0 h0 mi t) : pm_G p l e R s m args below meth c Q D dA b n0 h0 mi (k, ls, st, h) := by
  obtain ⟨hx, hb, hml, hown, hts, hKv, hX, hbn, hsz, -⟩ := X
  intro H locs rls cells slots hP hS hl hc hz
  obtain ⟨i, o, r, rfl, hs⟩ : ∃ (i : Int32) (o : Nat) (r : List Value), st = .int i :: .ref o :: r ∧ pm_al sc bb h o i (fun w => K (k + 1, ls, w :: r, h)) := by
    simp only [pm_sk] at hs0
    split at hs0
    · exact ⟨_, _, _, rfl, hs0⟩
    · exact hs0.elim
  obtain ⟨hd, hp⟩ := ok
  dsimp only
  rcases pm_al_cases hs with ⟨rfl, rfl, hin, hs⟩ | ⟨o', n, f, rfl, hb1, ho, hin, hs⟩ | ⟨o', n, f, rfl, rfl, ho, hin, hs⟩
  · have hW := hK _ hs H locs rls cells slots hP hS hl hc hz
    dsimp only at hW
    rw [hp] at hW
    exact va_sld hx hb hX (by omega) (by show ¬ n0 ≤ b; omega) hS hin hd hW
  · have hW := hK _ hs H locs rls cells slots hP hS hl hc hz
    dsimp only at hW
    rw [hp] at hW
    have he := pm_wo_some (dA := dA) (b := b) (n0 := n0) ho
    match bb, hb1, hd, he with
    | 0, _, hd, he => exact va_iald (D := D) hx hb hKv hP o' 0 he rfl hin hd hW
    | 1, _, hd, he => exact va_zald (D := D) hx hb hKv hP o' 1 he rfl hin hd hW
  · have hW := hK _ hs H locs rls cells slots hP hS hl hc hz
    dsimp only at hW
    rw [hp] at hW
    have he := pm_wo_some (dA := dA) (b := b) (n0 := n0) ho
    exact va_lald (D := D) hx hb hKv hP o' 2 he rfl hin hd hW
theorem pm_nar_b {x : Int32} (h : x = 0 ∨ x = 1) : vp_nar .boolean x = x := by
  rcases h with rfl | rfl <;> decide
theorem pm_w21 (X : pm_X p s m args meth c D dA b n0 sc h0 mi) (ok : pm_ok mi k (21, a, bb, v, tl)) (hs0 : pm_sk sc Cl (21, a, bb, v, tl) (k, ls, st, h) K F) (hK : ∀ t, K t → pm_G p l e R s m args below meth c Q D dA b n0 h0 mi t) : pm_G p l e R s m args below meth c Q D dA b n0 h0 mi (k, ls, st, h) := by
  obtain ⟨hx, hb, hml, hown, hts, hKv, hX, hbn, hsz, -⟩ := X
  intro H locs rls cells slots hP hS hl hc hz
  obtain ⟨w, i, o, r, rfl, hs⟩ : ∃ (w : Value) (i : Int32) (o : Nat) (r : List Value), st = w :: .int i :: .ref o :: r ∧ pm_as bb h o i w (fun h' => K (k + 1, ls, r, h')) := by
    simp only [pm_sk] at hs0
    split at hs0
    · exact ⟨_, _, _, _, rfl, hs0⟩
    · exact hs0.elim
  obtain ⟨hd, hp⟩ := ok
  dsimp only
  rcases pm_as_cases hs with ⟨o', n, f, x, rfl, rfl, hb1, ho, hin, hs⟩ | ⟨o', n, f, x, rfl, rfl, rfl, ho, hin, hs⟩
  · have he := pm_wo_some (dA := dA) (b := b) (n0 := n0) ho
    have kk : ∀ (H1 : Heap) (locs1 : List Loc), va_P D pm_cl ((pm_wo dA b n0 h).set o' (n0 + o', .inl (dA bb, n, .inl (upd f i.toNatClampNeg x)))) H1 → va_S (fun q => n0 ≤ q) s.heap H1 locs1 → W p l e R s m args below meth c H1 locs1 cells slots Q (F0 m (pm_pc mi k + 1) rls (r.map (pm_sh b n0))) := by
      intro H1 locs1 hP1 hS1
      have hW := hK _ hs H1 locs1 rls cells slots (by
        show va_P D pm_cl (pm_wo dA b n0 (h.set o' _)) H1
        rw [pm_wo_set]
        exact hP1) hS1 hl (by show cells + h0.length = (h.set o' _).length; rw [List.length_set]; exact hc) (by
        show slots + pm_sz h0 = pm_sz (h.set o' _)
        rw [pm_sz_set ho (by simp [pm_sz1])]
        exact hz)
      dsimp only at hW
      rw [hp] at hW
      exact hW
    rcases hb1 with rfl | ⟨rfl, h01⟩
    · exact va_iast (D := D) hx hb hKv hP (pm_wo_D dA b n0 h) hS o' 0 he rfl hin hd (fun H1 locs1 hP1 _ hS1 => kk H1 locs1 hP1 hS1)
    · refine va_zast (D := D) hx hb hKv hP (pm_wo_D dA b n0 h) hS o' 1 he rfl hin hd (fun H1 locs1 hP1 _ hS1 => kk H1 locs1 ?_ hS1)
      rw [pm_nar_b h01] at hP1
      exact hP1
  · have he := pm_wo_some (dA := dA) (b := b) (n0 := n0) ho
    have kk : ∀ (H1 : Heap) (locs1 : List Loc), va_P D pm_cl ((pm_wo dA b n0 h).set o' (n0 + o', .inl (dA 2, n, .inr (.inl (vp_updL f i.toNatClampNeg x))))) H1 → va_S (fun q => n0 ≤ q) s.heap H1 locs1 → W p l e R s m args below meth c H1 locs1 cells slots Q (F0 m (pm_pc mi k + 1) rls (r.map (pm_sh b n0))) := by
      intro H1 locs1 hP1 hS1
      have hW := hK _ hs H1 locs1 rls cells slots (by
        show va_P D pm_cl (pm_wo dA b n0 (h.set o' _)) H1
        rw [pm_wo_set]
        exact hP1) hS1 hl (by show cells + h0.length = (h.set o' _).length; rw [List.length_set]; exact hc) (by
        show slots + pm_sz h0 = pm_sz (h.set o' _)
        rw [pm_sz_set ho (by simp [pm_sz1])]
        exact hz)
      dsimp only at hW
      rw [hp] at hW
      exact hW
    exact va_last (D := D) hx hb hKv hP (pm_wo_D dA b n0 h) hS o' 2 he rfl hin hd (fun H1 locs1 hP1 _ hS1 => kk H1 locs1 hP1 hS1)
theorem pm_w22 (X : pm_X p s m args meth c D dA b n0 sc h0 mi) (ok : pm_ok mi k (22, a, bb, v, tl)) (hs0 : pm_sk sc Cl (22, a, bb, v, tl) (k, ls, st, h) K F) (hK : ∀ t, K t → pm_G p l e R s m args below meth c Q D dA b n0 h0 mi t) : pm_G p l e R s m args below meth c Q D dA b n0 h0 mi (k, ls, st, h) := by
  obtain ⟨hx, hb, hml, hown, hts, hKv, hX, hbn, hsz, -⟩ := X
  intro H locs rls cells slots hP hS hl hc hz
  obtain ⟨r, rfl, hs⟩ : ∃ (r : List Value), st = .ref 0 :: r ∧ K (k + 1, ls, .int (Int32.ofNat sc.1) :: r, h) := by
    simp only [pm_sk] at hs0
    split at hs0
    · rename_i o r
      cases o with
      | zero => exact ⟨_, rfl, hs0⟩
      | succ o => exact hs0.elim
    · exact hs0.elim
  have hW := hK _ hs H locs rls cells slots hP hS hl hc hz
  obtain ⟨hd, hp⟩ := ok
  dsimp only at hW ⊢
  rw [hp] at hW
  exact va_slen (b := b) hx hb hX (by omega) (by show ¬ n0 ≤ b; omega) hS hd hW
/-- the address of a new cell -/
theorem pm_new_at {H1 : Heap} {q : Nat} {x : va_E} (hP1 : va_P D pm_cl (pm_wo dA b n0 h ++ [(q, x)]) H1) (hD1 : va_D (fun q => n0 ≤ q) (pm_wo dA b n0 h ++ [(q, x)])) (hz : H1.size ≤ n0 + h.length + 1) : q = n0 + h.length := by
  have hat : (pm_wo dA b n0 h ++ [(q, x)])[h.length]? = some (q, x) := by
    rw [List.getElem?_append_right (by rw [pm_wo_len]; exact Nat.le_refl _), pm_wo_len, Nat.sub_self]
    rfl
  have h1 : q < H1.size := (hP1 _ _ hat).lt
  have h2 : n0 ≤ q := hD1.2 _ _ hat
  by_cases h3 : q = n0 + h.length
  · exact h3
  · have hlt : q - n0 < h.length := by omega
    have hat2 : (pm_wo dA b n0 h ++ [(q, x)])[q - n0]? = some (n0 + (q - n0), pm_tr dA b n0 h[q - n0]) := by
      rw [List.getElem?_append_left (by rw [pm_wo_len]; exact hlt)]
      exact pm_wo_some (List.getElem?_eq_getElem hlt)
    have := hD1.1 _ _ _ _ hat2 hat (by show n0 + (q - n0) = q; omega)
    omega
theorem pm_w23 (X : pm_X p s m args meth c D dA b n0 sc h0 mi) (ok : pm_ok mi k (23, a, bb, v, tl)) (hs0 : pm_sk sc Cl (23, a, bb, v, tl) (k, ls, st, h) K F) (hK : ∀ t, K t → pm_G p l e R s m args below meth c Q D dA b n0 h0 mi t) (hB : ∀ t, K t → t.2.2.2.length ≤ R.cells + h0.length ∧ pm_sz t.2.2.2 ≤ R.slots + pm_sz h0) : pm_G p l e R s m args below meth c Q D dA b n0 h0 mi (k, ls, st, h) := by
  obtain ⟨hx, hb, hml, hown, hts, hKv, hX, hbn, hsz, -⟩ := X
  intro H locs rls cells slots hP hS hl hc hz
  obtain ⟨i, C, T, N, ty, hd, hp, hc', hin, hty, hdf, hdl, h1, h2, h3⟩ := ok
  have hs : K (k + 1, ls, .ref (h.length + 1) :: st, h ++ [.inr (a, pm_df a)]) := hs0
  have hb1 := hB _ hs
  dsimp only at hb1 hc hz ⊢
  rw [List.length_append, pm_sz_app] at hb1
  have e1 : pm_sz1 (.inr (a, pm_df a)) = N := hdl
  rw [e1] at hb1
  have e2 : ([(.inr (a, pm_df a) : pm_E)]).length = 1 := rfl
  rw [e2] at hb1
  refine va_new (D := D) (fs := pm_df a) hx hb hts hin ty hty hown (hts _ h1) (hts _ h2) (hts _ h3) hKv hP (pm_wo_D dA b n0 h) hS (fun q hq => by show n0 ≤ q; omega) hc' hdf (by omega) (by omega) hd (fun q H1 hP1 hD1 hS1 => ?_)
  refine pm_size (fun hsz1 => ?_)
  have hq := pm_new_at (h := h) hP1 hD1 (by omega)
  subst hq
  have hW := hK _ hs H1 locs rls (cells + 1) (slots + N) (by
    show va_P D pm_cl (pm_wo dA b n0 (h ++ [_])) H1
    rw [pm_wo_app]
    show va_P D pm_cl (pm_wo dA b n0 h ++ [(n0 + h.length, .inr (a, (pm_df a).map (pm_sh b n0)))]) H1
    rw [pm_df_sh]
    exact hP1) hS1 hl (by show cells + 1 + h0.length = (h ++ [_]).length; rw [List.length_append, e2]; omega) (by
    show slots + N + pm_sz h0 = pm_sz (h ++ [_])
    rw [pm_sz_app, e1]
    omega)
  dsimp only at hW
  rw [hp] at hW
  exact hW
theorem pm_w24 (X : pm_X p s m args meth c D dA b n0 sc h0 mi) (ok : pm_ok mi k (24, a, bb, v, tl)) (hs0 : pm_sk sc Cl (24, a, bb, v, tl) (k, ls, st, h) K F) (hK : ∀ t, K t → pm_G p l e R s m args below meth c Q D dA b n0 h0 mi t) (hB : ∀ t, K t → t.2.2.2.length ≤ R.cells + h0.length ∧ pm_sz t.2.2.2 ≤ R.slots + pm_sz h0) : pm_G p l e R s m args below meth c Q D dA b n0 h0 mi (k, ls, st, h) := by
  obtain ⟨hx, hb, hml, hown, hts, hKv, hX, hbn, hsz, -⟩ := X
  intro H locs rls cells slots hP hS hl hc hz
  obtain ⟨ha3, hd, hp, hm⟩ := ok
  obtain ⟨n, r, rfl, rfl, hle, hs⟩ : ∃ (n : Int32) (r : List Value), st = .int n :: r ∧ n = Int32.ofNat bb ∧ bb ≤ 100000 ∧ K (k + 1, ls, .ref (h.length + 1) :: r, h ++ [pm_zero a bb]) := by
    simp only [pm_sk] at hs0
    split at hs0
    · split at hs0
      · rename_i hb
        rw [Bool.and_eq_true, decide_eq_true_eq] at hb
        exact ⟨_, _, rfl, hb.1, Nat.le_of_ble_eq_true hb.2, hs0⟩
      · exact hs0.elim
    · exact hs0.elim
  have hb1 := hB _ hs
  dsimp only at hb1 hc hz ⊢
  rw [List.length_append, pm_sz_app] at hb1
  have e2 : ([pm_zero a bb]).length = 1 := rfl
  rw [e2] at hb1
  have hpos : ¬ Int32.ofNat bb < 0 := nI_pos (by omega)
  have hcl : (Int32.ofNat bb).toNatClampNeg = bb := nI_clamp (by omega)
  have key : ∀ (kd : Nat) (a0 : vp_A) (ty : FieldType), pm_zero a bb = .inl (kd, a0) → (pm_tys dA)[kd]? = some (dA kd, ty) → kd < 3 → newarray.typeOf (pm_aty a) = ty → a0.1 = bb → (∀ cA : ClassId, vp_cell cA a0 = arrV cA bb (fun _ => defaultValue ty)) → bb * componentBytes ty ≤ 536870912 → (∀ cA : ClassId, va_RA s cA ty → va_RA s (dA kd) ty → cA = dA kd) →
      W p l e R s m args below meth c H locs cells slots Q (F0 m (pm_pc mi k) rls ((Value.int (Int32.ofNat bb) :: r).map (pm_sh b n0))) := by
    intro kd a0 ty hzero hty hk3 hte ha0 hcell hby huniq
    have e1 : pm_sz1 (pm_zero a bb) = bb := by rw [hzero]; exact ha0
    rw [e1] at hb1
    refine va_newa (D := D) (a0 := a0) hx hb (hts _ hm) hte hKv hP (pm_wo_D dA b n0 h) hS (fun q hq => by show n0 ≤ q; omega) hcell hpos hcl hby (by omega) (by omega) hd (fun q cA H1 hK1 hP1 hD1 hS1 => ?_)
    have hcA : cA = dA kd := huniq cA (hK1.2 3 (cA, ty) rfl).2 (hKv.2 kd _ hty).2
    subst hcA
    refine pm_size (fun hsz1 => ?_)
    have hq := pm_new_at (h := h) hP1 hD1 (by omega)
    subst hq
    have hW := hK _ hs H1 locs rls (cells + 1) (slots + bb) (by
      show va_P D pm_cl (pm_wo dA b n0 (h ++ [_])) H1
      rw [pm_wo_app, hzero]
      exact hP1) hS1 hl (by show cells + 1 + h0.length = (h ++ [_]).length; rw [List.length_append, e2]; omega) (by
      show slots + bb + pm_sz h0 = pm_sz (h ++ [_])
      rw [pm_sz_app, e1]
      omega)
    dsimp only at hW
    rw [hp] at hW
    exact hW
  match a, ha3, key with
  | 0, _, key => exact key 0 _ .int rfl rfl (by omega) rfl rfl (fun _ => rfl) (by show bb * 4 ≤ _; omega) (fun cA h1 h2 => Option.some.inj (Eq.trans (Eq.symm h1) h2))
  | 1, _, key => exact key 1 _ .boolean rfl rfl (by omega) rfl rfl (fun _ => rfl) (by show bb * 1 ≤ _; omega) (fun cA h1 h2 => Option.some.inj (Eq.trans (Eq.symm h1) h2))
  | 2, _, key => exact key 2 _ .long rfl rfl (by omega) rfl rfl (fun _ => rfl) (by show bb * 8 ≤ _; omega) (fun cA h1 h2 => Option.some.inj (Eq.trans (Eq.symm h1) h2))
theorem pm_w28 (X : pm_X p s m args meth c D dA b n0 sc h0 mi) (ok : pm_ok mi k (28, a, bb, v, tl)) (hs0 : pm_sk sc Cl (28, a, bb, v, tl) (k, ls, st, h) K F) (hK : ∀ t, K t → pm_G p l e R s m args below meth c Q D dA b n0 h0 mi t) (hR : 1 ≤ R.frames ∧ 40 ≤ R.locals) : pm_G p l e R s m args below meth c Q D dA b n0 h0 mi (k, ls, st, h) := by
  obtain ⟨hx, hb, hml, hown, hts, hKv, hX, hbn, hsz, -⟩ := X
  intro H locs rls cells slots hP hS hl hc hz
  obtain ⟨o, r, rfl, hcat, hs⟩ : ∃ (o : Nat) (r : List Value), st = .ref o :: r ∧ pm_cat r ≤ 8 ∧ K (k + 1, ls, r, h) := by
    simp only [pm_sk] at hs0
    split at hs0
    · split at hs0
      · rename_i hb
        exact ⟨_, _, rfl, Nat.le_of_ble_eq_true hb, hs0⟩
      · exact hs0.elim
    · exact hs0.elim
  have hW := hK _ hs H locs rls cells slots hP hS hl hc hz
  obtain ⟨i, hd, hp, h1, h2, h3⟩ := ok
  have hcat2 : ((r.map (pm_sh b n0)).map fun v => v.category).sum = pm_cat r := by
    unfold pm_cat
    rw [List.map_map]
    congr 1
    apply List.map_congr_left
    intro v _
    exact pm_sh_cat b n0 v
  dsimp only at hW ⊢
  rw [hp] at hW
  refine W.objInit hx hb hown (hts _ h1) (hts _ h2) (hts _ h3) rfl (by rw [hml]; exact hl.2.1) rfl hd hR.1 ?_ hW
  show 2 * 0 + ((r.map (pm_sh b n0)).map fun v => v.category).sum + 12 ≤ R.locals
  omega
theorem pm_w29 (X : pm_X p s m args meth c D dA b n0 sc h0 mi) (ok : pm_ok mi k (29, a, bb, v, tl)) (hs0 : pm_sk sc Cl (29, a, bb, v, tl) (k, ls, st, h) K F) (hK : ∀ t, K t → pm_G p l e R s m args below meth c Q D dA b n0 h0 mi t) : pm_G p l e R s m args below meth c Q D dA b n0 h0 mi (k, ls, st, h) := by
  obtain ⟨hx, hb, hml, hown, hts, hKv, hX, hbn, hsz, -⟩ := X
  intro H locs rls cells slots hP hS hl hc hz
  obtain ⟨x, r, rfl, hs1, hs2⟩ : ∃ (x : Int32) (r : List Value), st = .int x :: r ∧ (∀ j : Nat, j < tl.length → x = Int32.ofNat j → K (tl.getD j 0, ls, r, h)) ∧ ((x.toInt < 0 ∨ (tl.length : Int) ≤ x.toInt) → K (a, ls, r, h)) := by
    simp only [pm_sk] at hs0
    split at hs0
    · split at hs0
      · exact ⟨_, _, rfl, hs0.1, hs0.2⟩
      · exact hs0.elim
    · exact hs0.elim
  obtain ⟨df, hi, offs, len, hd, ht, hhi, hoff⟩ := ok
  dsimp only
  by_cases hin : x.toInt < 0 ∨ (tl.length : Int) ≤ x.toInt
  · have hW := hK _ (hs2 hin) H locs rls cells slots hP hS hl hc hz
    exact lv_tableOut hx hb hd (by omega) ht hW
  · have hj : ∃ j : Nat, x.toInt = (j : Int) ∧ j < tl.length := ⟨x.toInt.toNat, by omega, by omega⟩
    obtain ⟨j, hj1, hj2⟩ := hj
    have hxj : x = Int32.ofNat j := by
      apply Int32.toInt_inj.mp
      rw [hj1]
      have : x.toInt < 2 ^ 31 := Int32.toInt_lt x
      exact (nI_toInt (by omega)).symm
    have hW := hK _ (hs1 j hj2 hxj) H locs rls cells slots hP hS hl hc hz
    have h3 := hoff j hj2
    rw [Option.map_eq_some_iff] at h3
    obtain ⟨off, ho1, ho2⟩ := h3
    exact lv_tableIn hx hb hd (by omega) (by omega) (by rw [hj1]; simpa using ho1) ho2 hW
theorem pm_w30 (X : pm_X p s m args meth c D dA b n0 sc h0 mi) (ok : pm_ok mi k (30, a, bb, v, tl)) (hs0 : pm_sk sc Cl (30, a, bb, v, tl) (k, ls, st, h) K F) (hK : ∀ t, K t → pm_G p l e R s m args below meth c Q D dA b n0 h0 mi t) (hR : 1 ≤ R.frames ∧ 40 ≤ R.locals) (hB : ∀ t, K t → t.2.2.2.length ≤ R.cells + h0.length ∧ pm_sz t.2.2.2 ≤ R.slots + pm_sz h0) : pm_G p l e R s m args below meth c Q D dA b n0 h0 mi (k, ls, st, h) := by
  obtain ⟨hx, hb, hml, hown, hts, hKv, hX, hbn, hsz, -⟩ := X
  intro H locs rls cells slots hP hS hl hc hz
  obtain ⟨x, y, r, rfl, hcat, hs⟩ : ∃ (x y : Int32) (r : List Value), st = .int y :: .int x :: r ∧ pm_cat r ≤ 8 ∧ K (k + 1, ls, .int (if y < x then y else x) :: r, h) := by
    simp only [pm_sk] at hs0
    split at hs0
    · split at hs0
      · rename_i hb
        exact ⟨_, _, _, rfl, Nat.le_of_ble_eq_true hb, hs0⟩
      · exact hs0.elim
    · exact hs0.elim
  have hW := hK _ hs H locs rls cells slots hP hS hl hc hz
  have hb1 := hB _ hs
  obtain ⟨i, hd, hp, h1, h2, h3, h4⟩ := ok
  have hcat2 : ((r.map (pm_sh b n0)).map fun v => v.category).sum = pm_cat r := by
    unfold pm_cat
    rw [List.map_map]
    congr 1
    apply List.map_congr_left
    intro v _
    exact pm_sh_cat b n0 v
  dsimp only at hW hb1 hc hz ⊢
  rw [hp] at hW
  exact va_mmin hx hb (by rw [hml]; exact hl.2.1.symm) hown (hts _ h1) (hts _ h2) (hts _ h4) (hts _ h3) hR.1 (by omega) (by omega) (by omega) hd hW
end PMH
