def pm_g : List Jvm.Cond := lw_tbl.filter goodWord
def pm_ws (mi : Nat) : List Jvm.Cond := Jvm.Cond.code (pm_y mi) (pm_b mi) (pm_nl mi) (pm_r mi) :: pm_g
def pm_rm (d mc ms : Nat) : Room := { frames := d, cells := mc, slots := ms, locals := 40 * d }
theorem pm_N_on {w : Jvm.Cond} (hw : pm_isN w = true) : w.onTables = true := by
  cases w <;> first | (simp [pm_isN] at hw; done) | rfl
theorem pm_N_warm {w : Jvm.Cond} (hw : pm_isN w = true) {s U : State} (hW : s.WarmedH U.vm) (h : va_Nw w s) : va_Nw w U := by
  cases w <;> first | (simp [pm_isN] at hw; done) | exact va_Nw.warmF hW h | exact va_Nw.warmM hW h
def pm_Pc (D : va_G) (dA : Nat → ClassId) (b n0 : Nat) (sc : Nat × (Nat → Int32)) (av : List Value) (h : pm_H) : Array Value → State → Prop := fun A U =>
  A = (av.map (pm_sh b n0)).toArray ∧ U.heap.size = n0 + h.length ∧ va_P D pm_cl (pm_wo dA b n0 h) U.heap ∧ va_K D pm_cl (pm_tys dA) U ∧ va_X b sc.1 sc.2 U U.heap ∧ b < n0 ∧ ∀ w ∈ pm_tbl, pm_isN w = true → va_Nw w U
def pm_Qc (D : va_G) (dA : Nat → ClassId) (b n0 : Nat) (r : Option Value) (h' : pm_H) : Array Value → State → Outcome → State → Prop := fun _ st oc t =>
  oc = .returned (r.map (pm_sh b n0)) ∧ va_P D pm_cl (pm_wo dA b n0 h') t.heap ∧ va_F (fun q => n0 ≤ q) st t
def pm_M (l : Launch) (D : va_G) (dA : Nat → ClassId) (b n0 : Nat) (sc : Nat × (Nat → Int32)) (d mi : Nat) (av : List Value) (h : pm_H) (r : Option Value) (h' : pm_H) : Prop :=
  Met l (pm_y mi) (pm_ws mi) (pm_rm d (h'.length - h.length) (pm_sz h' - pm_sz h)) (pm_Pc D dA b n0 sc av h) (pm_Qc D dA b n0 r h') (h'.length - h.length) (pm_sz h' - pm_sz h) (fun q => n0 ≤ q)
theorem pm_Pc_blind (D : va_G) (dA : Nat → ClassId) (b n0 : Nat) (sc : Nat × (Nat → Int32)) (av : List Value) (h : pm_H) : FrameBlind (pm_Pc D dA b n0 sc av h) := fun a U g mk q => by
  obtain ⟨q0, q1, q2, q3, q4, q5, q6⟩ := q
  exact ⟨q0, q1, q2, va_K.moved (u := U) (U := U.calling g mk a) (Vm.Alike.refl U.vm) q3, va_X.moved (u := U) (U := U.calling g mk a) (Vm.Alike.refl U.vm) q4, q5, fun w hw hn => va_Nw.same (u := U) (U := U.calling g mk a) (pm_N_on hn) rfl (q6 w hw hn)⟩
theorem pm_good {a : Nat} (hc : Jvm.Cond.code (pm_y a) (pm_b a) (pm_nl a) (pm_r a) ∈ pm_tbl) : GoodIn pm_tbl (pm_ws a) := fun w hw => by
  rcases List.mem_cons.mp hw with rfl | hw
  · have h2 := (List.mem_filter.mp hc).2
    exact ⟨hc, good_of_word (by simpa [pm_use, pm_isN] using h2)⟩
  · have h2 := List.mem_filter.mp hw
    exact ⟨List.mem_filter.mpr ⟨h2.1, by unfold pm_use; rw [h2.2]; rfl⟩, good_of_word h2.2⟩
theorem pm_take : ∀ (st : List Value) (n : Nat) (v : Value), st[n]? = some v → st.take (n + 1) = st.take n ++ [v]
  | [], n, v, h => by simp at h
  | x :: t, 0, v, h => by
    have : x = v := by simpa using h
    simp [this]
  | x :: t, n + 1, v, h => by
    have h1 := pm_take t n v (by simpa using h)
    show x :: t.take (n + 1) = x :: t.take n ++ [v]
    rw [h1]
    rfl
theorem pm_cat_sh (b n0 : Nat) (r : List Value) : ((r.map (pm_sh b n0)).map fun v => v.category).sum = pm_cat r := by
  unfold pm_cat
  rw [List.map_map]
  congr 1
  apply List.map_congr_left
  intro v _
  exact pm_sh_cat b n0 v
section PMC
variable {p : Program} {l : Launch} {e : Env} {R : Room} {s : State} {m : MethodId} {args : Array Value} {below : List Frame} {meth : Method} {c : Code} {Q : State → Prop}
variable {D : va_G} {dA : Nat → ClassId} {b n0 : Nat} {h0 : pm_H} {sc : Nat × (Nat → Int32)} {mi : Nat} {Cl : pm_C} {K : pm_S → Prop} {F : Option Value → pm_H → Prop}
variable {k a bb : Nat} {v : Value} {tl : List Nat} {ls : pm_L} {st : List Value} {h : pm_H}
/-- behind a call -/
theorem pm_cont {H : Heap} {locs : List Loc} {cells slots mc ms pc : Nat} {rls : Array Slot} {st0 rest : List Value} {A : Array Value} {rv : Option Value} {h2 : pm_H}
    (hr : va_Run p l e R s m args below meth c H locs cells slots mc ms (F0 m pc rls st0) rest (pm_Qc D dA b n0 rv h2 A) (fun q => n0 ≤ q)) (hS : va_S (fun q => n0 ≤ q) s.heap H locs)
    (kk : ∀ (H1 : Heap) (locs1 : List Loc), va_P D pm_cl (pm_wo dA b n0 h2) H1 → va_S (fun q => n0 ≤ q) s.heap H1 locs1 → W p l e R s m args below meth c H1 locs1 (cells + mc) (slots + ms) Q (F0 m (pc + 3) rls ((rv.map (pm_sh b n0)).toList ++ rest))) : W p l e R s m args below meth c H locs cells slots Q (F0 m pc rls st0) := by
  intro T hT X
  obtain ⟨v, st₀, t, T', L, e0, X', hL, e1, e2, ⟨hv, hP1, hz, hk⟩, st⟩ := hr T hT X
  cases hv
  rw [e0] at hz hk
  obtain ⟨t2, a1, b1⟩ := kk T'.heap (locs ++ L) (by rw [e1]; exact hP1)
    ⟨Nat.le_trans hS.1 (by rw [e1]; exact hz), fun q h1 h2 => by rw [e1, hk q (Nat.lt_of_lt_of_le h1 hS.1) h2]; exact hS.2.1 q h1 h2, fun q hq => by
      rcases List.mem_append.mp hq with h | h
      · exact hS.2.2 q h
      · exact hL q h⟩ T' rfl X'
  exact ⟨t2, st t2 a1, b1⟩
theorem pm_w25 {d : Nat} (X : pm_X p s m args meth c D dA b n0 sc h0 mi) (ok : pm_ok mi k (25, a, bb, v, tl)) (hs0 : pm_sk sc Cl (25, a, bb, v, tl) (k, ls, st, h) K F) (hK : ∀ t, K t → pm_G p l e R s m args below meth c Q D dA b n0 h0 mi t) (hB : ∀ t, K t → t.2.2.2.length ≤ R.cells + h0.length ∧ pm_sz t.2.2.2 ≤ R.slots + pm_sz h0)
    (okm : ∀ a, a < 106 → pm_okm a) (hU : pm_Up Cl) (hM : ∀ (cal : Nat) (av : List Value) (h : pm_H) (rv : Option Value) (h2 : pm_H), Cl cal av h rv h2 → (pm_fl av).length ≤ pm_nl cal → cal < 106 → pm_M l D dA b n0 sc d cal av h rv h2) (hR : d + 1 ≤ R.frames ∧ 40 * d + 40 ≤ R.locals) : pm_G p l e R s m args below meth c Q D dA b n0 h0 mi (k, ls, st, h) := by
  obtain ⟨hx, hb, hml, hown, hts, hKv, hX, hbn, hsz, -⟩ := X
  intro H locs rls cells slots hP hS hl hc hz
  dsimp only at hP hl hc hz ⊢
  obtain ⟨hble, hrcv, hcat, hfl, rv, h2, hcl, hs⟩ : bb ≤ st.length ∧ pm_rcv tl st bb h = true ∧ pm_cat (st.drop bb) ≤ 8 ∧ (pm_fl (st.take bb).reverse).length ≤ pm_nl a ∧ ∃ (rv : Option Value) (h2 : pm_H), Cl a (st.take bb).reverse h rv h2 ∧ K (k + 1, ls, rv.toList ++ st.drop bb, h2) := by
    simp only [pm_sk] at hs0
    split at hs0
    · rename_i hk
      rw [Bool.and_eq_true, Bool.and_eq_true, Bool.and_eq_true] at hk
      obtain ⟨⟨⟨k1, k2⟩, k3⟩, k4⟩ := hk
      exact ⟨Nat.le_of_ble_eq_true k1, k2, Nat.le_of_ble_eq_true k3, Nat.le_of_ble_eq_true k4, hs0⟩
    · exact hs0.elim
  clear hs0
  obtain ⟨i, ha, hp, hlk, hcase⟩ := ok
  obtain ⟨hpl, hcode, hinit, hn1, hn2, hnl, hpc0⟩ := okm a ha
  have hMet := hM _ _ _ _ _ hcl hfl ha
  have hup := hU _ _ _ _ _ hcl
  have hb1 := hB _ hs
  dsimp only at hb1
  have cont : ∀ (H1 : Heap) (locs1 : List Loc), va_P D pm_cl (pm_wo dA b n0 h2) H1 → va_S (fun q => n0 ≤ q) s.heap H1 locs1 → W p l e R s m args below meth c H1 locs1 (cells + (h2.length - h.length)) (slots + (pm_sz h2 - pm_sz h)) Q (F0 m (pm_pc mi k + 3) rls ((rv.map (pm_sh b n0)).toList ++ (st.drop bb).map (pm_sh b n0))) := by
    intro H1 locs1 hP1 hS1
    have hW := hK _ hs H1 locs1 rls (cells + (h2.length - h.length)) (slots + (pm_sz h2 - pm_sz h)) hP1 hS1 hl (by show _ = h2.length; omega) (by show _ = pm_sz h2; omega)
    dsimp only at hW
    rw [hp, List.map_append] at hW
    cases rv with
    | none => exact hW
    | some w => exact hW
  have hf : cells + (h2.length - h.length) ≤ R.cells ∧ slots + (pm_sz h2 - pm_sz h) ≤ R.slots := by omega
  have hRm : (pm_rm d (h2.length - h.length) (pm_sz h2 - pm_sz h)).frames + 1 ≤ R.frames ∧ 8 + (pm_nl a + 11) + (pm_rm d (h2.length - h.length) (pm_sz h2 - pm_sz h)).locals ≤ R.locals := by
    refine ⟨hR.1, ?_⟩
    show 8 + (pm_nl a + 11) + 40 * d ≤ R.locals
    omega
  have hG := pm_good hcode
  have hroom : 2 * (F0 m (pm_pc mi k) rls (st.map (pm_sh b n0))).monitorRoom + (((st.drop bb).map (pm_sh b n0)).map fun v => v.category).sum ≤ 8 := lv_room (by rw [pm_cat_sh]; exact hcat)
  refine pm_size (fun hsz1 => ?_)
  have hHsz : H.size = n0 + h.length := by
    have h1 := pm_wo_le (n0 := n0) (Nat.le_trans (by omega) hS.1) hP
    omega
  have pre : ∀ U : State, U.heap = H → s.WarmedH U.vm → pm_Pc D dA b n0 sc (st.take bb).reverse h (((st.take bb).reverse).map (pm_sh b n0)).toArray U := fun U hU hW =>
    ⟨rfl, by rw [hU]; exact hHsz, by rw [hU]; exact hP, va_K.moved hW.alike hKv, by rw [hU]; exact va_X.moved hW.alike (hX.kept (hS.2.1 b (by omega) (by show ¬ n0 ≤ b; omega))), hbn, fun w hw hn => pm_N_warm hn hW (va_Nw.of (pm_N_on hn) (hts w hw))⟩
  have hspl : st.map (pm_sh b n0) = (st.take bb).map (pm_sh b n0) ++ (st.drop bb).map (pm_sh b n0) := by
    rw [← List.map_append, List.take_append_drop]
  have hrecv : ∀ ci : Nat, tl = [ci] → 1 ≤ bb → ∃ (o' : Nat) (fs : List Value), (pm_wo dA b n0 h)[o']? = some (n0 + o', .inr (ci, fs)) ∧ ((st.take bb).reverse).map (pm_sh b n0) = .ref (n0 + o') :: (((st.take (bb - 1)).reverse).map (pm_sh b n0)) ∧ st.map (pm_sh b n0) = (((st.take (bb - 1)).reverse).map (pm_sh b n0)).reverse ++ .ref (n0 + o') :: (st.drop bb).map (pm_sh b n0) := by
    intro ci htl h1
    subst htl
    unfold pm_rcv at hrcv
    dsimp only at hrcv
    split at hrcv
    · rename_i o ho
      split at hrcv
      · rename_i cj fs hg
        have e := Nat.eq_of_beq_eq_true hrcv
        subst e
        obtain ⟨o', rfl, hg⟩ := pm_get_some hg
        have ht := pm_take st (bb - 1) _ ho
        rw [show bb - 1 + 1 = bb by omega] at ht
        refine ⟨o', _, pm_wo_some hg, ?_, ?_⟩
        · rw [ht, List.reverse_append]
          rfl
        · rw [hspl, ht, List.map_append, List.map_reverse, List.reverse_reverse, List.append_assoc]
          rfl
      · cases hrcv
    · cases hrcv
  rcases hcase with ⟨hd, ci, T, N, htl, hcl', h1b, hparse, hinst, hsel⟩ | ⟨hd, ci, htl, hnm, hrn, h1b, hparse, hinst⟩ | ⟨hd, htl, hparse, hstat⟩
  · obtain ⟨o', fs, he, hav, hst⟩ := hrecv ci htl h1b
    rw [hav] at pre
    have hlen : (((st.take (bb - 1)).reverse).map (pm_sh b n0)).length = bb - 1 := by
      rw [List.length_map, List.length_reverse, List.length_take]; omega
    rcases hlk with hlk | ⟨host, hlk⟩
    · exact pm_cont (va_runV ⟨hx, hb, hml, hown, hts⟩ hMet ⟨callB_of (bb - 1) hts hG rfl rfl rfl (hts _ hinit) (hts _ hlk) ⟨hn1, hn2, hparse⟩ hRm, hts _ hinst, hts _ hsel⟩ ⟨pm_Pc_blind _ _ _ _ _ _ _, va_recv hKv hP hcl' he, pre⟩ rfl hlen hl.2.1 hst hroom hd hf) hS cont
    · exact pm_cont (va_runVN ⟨hx, hb, hml, hown, hts⟩ hMet ⟨va_cnB (bb - 1) hts hG rfl rfl rfl (va_Nw.of rfl (hts _ hlk)) (hts _ hinit) ⟨hn1, hn2, hparse⟩ hRm, hts _ hinst, hts _ hsel⟩ ⟨pm_Pc_blind _ _ _ _ _ _ _, va_recv hKv hP hcl' he, pre⟩ rfl hlen hl.2.1 hst hroom hd hf) hS cont
  · obtain ⟨o', fs, he, hav, hst⟩ := hrecv ci htl h1b
    rw [hav] at pre
    have hlen : (((st.take (bb - 1)).reverse).map (pm_sh b n0)).length = bb - 1 := by
      rw [List.length_map, List.length_reverse, List.length_take]; omega
    have hws : pm_ws a = Jvm.Cond.code (pm_y a) (pm_b a) (pm_nl a) none :: pm_g := by unfold pm_ws; rw [hrn]
    rcases hlk with hlk | ⟨host, hlk⟩
    · exact pm_cont (va_runI ⟨hx, hb, hml, hown, hts⟩ hMet ⟨callB_of (bb - 1) hts hG hws rfl rfl (hts _ hinit) (hts _ hlk) ⟨hn1, hn2, hparse⟩ hRm, hnm, hts _ hinst⟩ ⟨pm_Pc_blind _ _ _ _ _ _ _, pre⟩ rfl hlen hl.2.1 hst hroom hd hf) hS cont
    · exact pm_cont (va_runIN ⟨hx, hb, hml, hown, hts⟩ hMet ⟨va_cnB (bb - 1) hts hG hws rfl rfl (va_Nw.of rfl (hts _ hlk)) (hts _ hinit) ⟨hn1, hn2, hparse⟩ hRm, hnm, hts _ hinst⟩ ⟨pm_Pc_blind _ _ _ _ _ _ _, pre⟩ rfl hlen hl.2.1 hst hroom hd hf) hS cont
  · have hlen : (((st.take bb).reverse).map (pm_sh b n0)).length = bb := by
      rw [List.length_map, List.length_reverse, List.length_take]; omega
    have hst : st.map (pm_sh b n0) = (((st.take bb).reverse).map (pm_sh b n0)).reverse ++ (st.drop bb).map (pm_sh b n0) := by
      rw [hspl, List.map_reverse, List.reverse_reverse]
    rcases hlk with hlk | ⟨host, hlk⟩
    · exact pm_cont (va_runS ⟨hx, hb, hml, hown, hts⟩ hMet ⟨callB_of bb hts hG rfl rfl rfl (hts _ hinit) (hts _ hlk) ⟨hn1, hn2, hparse⟩ hRm, hts _ hstat⟩ ⟨pm_Pc_blind _ _ _ _ _ _ _, pre⟩ rfl hlen hl.2.1 hst hroom hd hf) hS cont
    · exact pm_cont (va_runSN ⟨hx, hb, hml, hown, hts⟩ hMet ⟨va_cnB bb hts hG rfl rfl rfl (va_Nw.of rfl (hts _ hlk)) (hts _ hinit) ⟨hn1, hn2, hparse⟩ hRm, hts _ hstat, trivial⟩ ⟨pm_Pc_blind _ _ _ _ _ _ _, pre⟩ rfl hlen hl.2.1 hst hroom hd hf) hS cont
/-- a method's end -/
theorem pm_w26 {r : Option Value} {h' : pm_H} (X : pm_X p s m args meth c D dA b n0 sc h0 mi) (hret : meth.sig.returnType = pm_r mi) (hlocks : meth.locks = false) (ok : pm_ok mi k (26, a, bb, v, tl)) (hs : pm_rk a st (fun w => w = r ∧ h = h')) :
    pm_G p l e R s m args below meth c (MQ below (pm_Qc D dA b n0 r h') args s (h'.length - h0.length) (pm_sz h' - pm_sz h0) (fun q => n0 ≤ q)) D dA b n0 h0 mi (k, ls, st, h) := by
  obtain ⟨hx, hb, hml, hown, hts, hKv, hX, hbn, hsz, -⟩ := X
  intro H locs rls cells slots hP hS hl hc hz
  dsimp only at hP hl hc hz ⊢
  have hq : h = h' → ∀ t : State, t.heap = H → s.WarmedH t.vm → pm_Qc D dA b n0 r h' args s (.returned (r.map (pm_sh b n0))) t := fun e t ht hW => ⟨rfl, by rw [ht, ← e]; exact hP, hS.F ht⟩
  have hcs : h = h' → cells = h'.length - h0.length ∧ slots = pm_sz h' - pm_sz h0 := fun e => by subst e; omega
  match a, ok, hs with
  | 0, ok, hs =>
    simp only [pm_rk] at hs
    split at hs
    · obtain ⟨hr, e⟩ := hs
      obtain ⟨e1, e2⟩ := hcs e
      subst e1; subst e2; subst hr
      exact W.vret hx hb (hret.trans ok.2) (hq e) hS.2.2 ok.1
    · exact hs.elim
  | 1, ok, hs =>
    simp only [pm_rk] at hs
    split at hs
    · obtain ⟨hr, e⟩ := hs
      obtain ⟨e1, e2⟩ := hcs e
      subst e1; subst e2; subst hr
      exact W.iret hx hb (hret.trans ok.2) (hq e) hS.2.2 ok.1
    · exact hs.elim
  | 2, ok, hs =>
    simp only [pm_rk] at hs
    split at hs
    · obtain ⟨h01, hr, e⟩ := hs
      obtain ⟨e1, e2⟩ := hcs e
      subst e1; subst e2; subst hr
      exact W.zret hx hb (hret.trans ok.2) (by rcases h01 with rfl | rfl <;> rfl) (hq e) hS.2.2 ok.1
    · exact hs.elim
  | 3, ok, hs =>
    simp only [pm_rk] at hs
    split at hs
    · obtain ⟨hr, e⟩ := hs
      obtain ⟨e1, e2⟩ := hcs e
      subst e1; subst e2; subst hr
      exact W.lret hx hb (hret.trans ok.2) (hq e) hS.2.2 ok.1
    · exact hs.elim
  | 4, ok, hs =>
    obtain ⟨hd, C, hrt⟩ := ok
    simp only [pm_rk] at hs
    split at hs
    · obtain ⟨hr, e⟩ := hs
      obtain ⟨e1, e2⟩ := hcs e
      subst e1; subst e2; subst hr
      exact W.aret hx hb (hret.trans hrt) (Or.inl ⟨_, rfl⟩) (Or.inr ⟨_, rfl⟩) (hq e) hS.2.2 hd
    · obtain ⟨hr, e⟩ := hs
      obtain ⟨e1, e2⟩ := hcs e
      subst e1; subst e2; subst hr
      exact W.aret hx hb (hret.trans hrt) (Or.inl ⟨_, rfl⟩) (Or.inl rfl) (hq e) hS.2.2 hd
    · exact hs.elim
  | n + 5, ok, hs => exact hs.elim
/-- a method's body: what the pure machine comes to, the JVM comes to -/
theorem pm_main {d : Nat} {r : Option Value} {h' : pm_H} (X : pm_X p s m args meth c D dA b n0 sc h0 mi) (oks : pm_oks mi 0 (pm_cd mi)) (okm : ∀ a, a < 106 → pm_okm a) (hU : pm_Up Cl) (hM : ∀ (cal : Nat) (av : List Value) (h : pm_H) (rv : Option Value) (h2 : pm_H), Cl cal av h rv h2 → (pm_fl av).length ≤ pm_nl cal → cal < 106 → pm_M l D dA b n0 sc d cal av h rv h2) (hR : d + 1 ≤ R.frames ∧ 40 * d + 40 ≤ R.locals)
    (hB : h'.length ≤ R.cells + h0.length ∧ pm_sz h' ≤ R.slots + pm_sz h0)
    (hend : ∀ (k a bb : Nat) (v : Value) (tl : List Nat) (ls : pm_L) (st : List Value) (h : pm_H), pm_ok mi k (26, a, bb, v, tl) → pm_rk a st (fun w => w = r ∧ h = h') → pm_G p l e R s m args below meth c Q D dA b n0 h0 mi (k, ls, st, h)) :
    ∀ (n : Nat) (t : pm_S), pm_ev sc Cl (pm_cd mi) n t r h' → pm_G p l e R s m args below meth c Q D dA b n0 h0 mi t
  | 0, _, h => h.elim
  | n + 1, t, hev => by
    have ih := pm_main X oks okm hU hM hR hB hend n
    have hB' : ∀ t, pm_ev sc Cl (pm_cd mi) n t r h' → t.2.2.2.length ≤ R.cells + h0.length ∧ pm_sz t.2.2.2 ≤ R.slots + pm_sz h0 := fun t ht => by
      have h1 := pm_ev_up hU n t r h' ht
      omega
    have hR1 : 1 ≤ R.frames ∧ 40 ≤ R.locals := by omega
    unfold pm_ev pm_st at hev
    split at hev
    · rename_i en hf
      have ok := pm_oks_at _ 0 _ _ oks hf
      rw [Nat.zero_add] at ok
      obtain ⟨op, a, bb, v, tl⟩ := en
      obtain ⟨k, ls, st, h⟩ := t
      match op, ok, hev with
      | 0, ok, hs => exact pm_w0 X ok hs ih
      | 1, ok, hs => exact pm_w1 X ok hs ih
      | 2, ok, hs => exact pm_w2 X ok hs ih
      | 3, ok, hs => exact pm_w3 X ok hs ih
      | 4, ok, hs => exact pm_w4 X ok hs ih
      | 6, ok, hs => exact pm_w6 X ok hs ih
      | 7, ok, hs => exact pm_w7 X ok hs ih
      | 8, ok, hs => exact pm_w8 X ok hs ih
      | 9, ok, hs => exact pm_w9 X ok hs ih
      | 10, ok, hs => exact pm_w10 X ok hs ih
      | 11, ok, hs => exact pm_w11 X ok hs ih
      | 12, ok, hs => exact pm_w12 X ok hs ih
      | 13, ok, hs => exact pm_w13 X ok hs ih
      | 15, ok, hs => exact pm_w15 X ok hs ih
      | 16, ok, hs => exact pm_w16 X ok hs ih
      | 17, ok, hs => exact pm_w17 X ok hs ih
      | 18, ok, hs => exact pm_w18 X ok hs ih
      | 19, ok, hs => exact pm_w19 X ok hs ih
      | 20, ok, hs => exact pm_w20 X ok hs ih
      | 21, ok, hs => exact pm_w21 X ok hs ih
      | 22, ok, hs => exact pm_w22 X ok hs ih
      | 23, ok, hs => exact pm_w23 X ok hs ih hB'
      | 24, ok, hs => exact pm_w24 X ok hs ih hB'
      | 25, ok, hs => exact pm_w25 X ok hs ih hB' okm hU hM hR
      | 26, ok, hs => exact hend k a bb v tl ls st h ok hs
      | 28, ok, hs => exact pm_w28 X ok hs ih hR1
      | 29, ok, hs => exact pm_w29 X ok hs ih
      | 30, ok, hs => exact pm_w30 X ok hs ih hR1 hB'
      | 31, ok, hs => exact pm_w31 X ok hs ih
      | 32, ok, hs => exact pm_w32 X ok hs ih
      | 5, ok, hs => exact hs.elim
      | 14, ok, hs => exact hs.elim
      | 27, ok, hs => exact hs.elim
      | n + 33, ok, hs => exact hs.elim
    · exact hev.elim
end PMC
/-- a called method -/
theorem pm_met (l : Launch) (D : va_G) (dA : Nat → ClassId) (b n0 : Nat) (sc : Nat × (Nat → Int32)) (okall : ∀ mi, mi < 107 → pm_oks mi 0 (pm_cd mi)) (okm : ∀ a, a < 106 → pm_okm a) :
    ∀ (d mi : Nat) (av : List Value) (h : pm_H) (r : Option Value) (h' : pm_H), pm_D sc d mi av h r h' → (pm_fl av).length ≤ pm_nl mi → mi < 106 → pm_M l D dA b n0 sc d mi av h r h'
  | 0, _, _, _, _, _, hd, _, _ => hd.elim
  | d + 1, mi, av, h, r, h', hd, hfl, hmi => by
    have hM := pm_met l D dA b n0 sc okall okm d
    have hup := pm_D_up sc (d + 1) _ _ _ _ _ hd
    obtain ⟨n, hev⟩ := hd
    obtain ⟨hpl, hcode, hinit, hn1, hn2, hnl, hpc0⟩ := okm mi hmi
    refine Met.ofW (cc := pm_b mi) (maxL := pm_nl mi) (ret := pm_r mi) hpl rfl ?_
    intro p e s m args below meth c s₁ B hml hv
    obtain ⟨rfl, hsz, hP, hK, hX, hbn, hN⟩ := hv
    have hts0 := atoms_spec (ws := pm_ws mi) B.pre
    have hts : ∀ w ∈ pm_tbl, w.before ((av.map (pm_sh b n0)).toArray) s = true := fun w hw => by
      by_cases hg : goodWord w = true
      · exact hts0 w (List.mem_cons_of_mem _ (List.mem_filter.mpr ⟨(List.mem_filter.mp hw).1, hg⟩))
      · have h2 := (List.mem_filter.mp hw).2
        unfold pm_use at h2
        have hn : pm_isN w = true := by
          cases hgw : goodWord w with
          | true => exact absurd hgw hg
          | false => rw [hgw] at h2; exact h2
        exact va_Nw.use (pm_N_on hn) (hN w hw hn)
    have hown : s.vm.findClass (pm_y mi).cls = some m.cls := findClass_of_methodNamed B.named
    have X : pm_X p s m ((av.map (pm_sh b n0)).toArray) meth c D dA b n0 sc h mi := ⟨B.exec, B.bytes, hml, hown, hts, hK, hX, hbn, hsz, fun hi => by rw [← hi]; exact (name_of_methodNamed B.named B.method).1⟩
    have hG := pm_main (l := l) (e := e) (below := below) (R := (headSpec (pm_ws mi) (pm_rm (d + 1) (h'.length - h.length) (pm_sz h' - pm_sz h))).room) (Q := MQ below (pm_Qc D dA b n0 r h') ((av.map (pm_sh b n0)).toArray) s (h'.length - h.length) (pm_sz h' - pm_sz h) (fun q => n0 ≤ q)) X (okall mi (by omega)) okm (pm_D_up sc d) hM ⟨Nat.le_refl _, by show 40 * d + 40 ≤ 40 * (d + 1); omega⟩ (by
        show h'.length ≤ (h'.length - h.length) + h.length ∧ pm_sz h' ≤ (pm_sz h' - pm_sz h) + pm_sz h
        omega) (fun k a bb v tl ls st hh ok hs => pm_w26 X B.returns B.notSynchronized ok hs) n _ hev
    have hW := hG s.heap [] _ 0 0 hP va_S.rf (pm_lo_ent b n0 hfl) (Nat.zero_add _) (Nat.zero_add _)
    dsimp only at hW
    rw [hpc0] at hW
    rw [lg_entry_eq]
    exact hW
