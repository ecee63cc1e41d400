/-! PAIRS, in naturals: sets of runs by their signs, the least cover of the crossings between two sets, and what a grown pairing shows -/
theorem set_of (p : Nat → Prop) : ∃ f : Nat → Bool, ∀ k, f k = true ↔ p k := by
  classical
  exact ⟨fun k => decide (p k), fun k => by simp⟩
theorem ct_inj {p : Nat → Bool} {R : Nat → Nat → Prop} (hR : ∀ i i' j, R i j → R i' j → i = i') (m : Nat) : ∀ (n : Nat) (q : Nat → Bool), (∀ i, i < n → p i = true → ∃ j, j < m ∧ q j = true ∧ R i j) → ct p n ≤ ct q m
  | 0, _, _ => Nat.zero_le _
  | n + 1, q, h => by
    show ct p n + (if p n then 1 else 0) ≤ _
    by_cases hp : p n = true
    · obtain ⟨j, h1, h2, h3⟩ := h n (by omega) hp
      have ih := ct_inj hR m n (fun k => if k = j then false else q k) (fun i hi hpi => by
        obtain ⟨j', g1, g2, g3⟩ := h i (by omega) hpi
        refine ⟨j', g1, ?_, g3⟩
        by_cases e : j' = j
        · subst e; have := hR _ _ _ h3 g3; omega
        · rw [if_neg e]; exact g2)
      have e := ct_flip (p := fun k => if k = j then false else q k) (p' := q) (k := j) (if_pos rfl) h2 m h1 (fun i _ hne => (if_neg hne).symm)
      rw [if_pos hp]; omega
    · rw [if_neg hp]; exact ct_inj hR m n q (fun i hi => h i (by omega))
theorem ct_all : ∀ n, ct (fun _ => true) n = n
  | 0 => rfl
  | n + 1 => by unfold ct; rw [ct_all n]; rfl
theorem ct_split (p q : Nat → Bool) : ∀ n, ct p n = ct (fun k => p k && q k) n + ct (fun k => p k && !q k) n
  | 0 => rfl
  | n + 1 => by
    unfold ct
    rw [ct_split p q n]
    cases p n <;> cases q n <;> simp <;> omega
/-- all crossings between X and Y meet A or B -/
def cov (E : Nat → Nat → Prop) (X Y A B : Nat → Bool) : Prop := ∀ r v, X r = true → Y v = true → E r v → A r = true ∨ B v = true
/-- the least such -/
def nu (a b : Nat) (E : Nat → Nat → Prop) (X Y : Nat → Bool) (m : Nat) : Prop :=
  (∃ A B, cov E X Y A B ∧ ct A a + ct B b ≤ m) ∧ ∀ A B, cov E X Y A B → m ≤ ct A a + ct B b
theorem nu_one {a b : Nat} {E : Nat → Nat → Prop} {X Y : Nat → Bool} {m k : Nat} (h1 : nu a b E X Y m) (h2 : nu a b E X Y k) : m = k := by
  obtain ⟨⟨A, B, g1, g2⟩, g3⟩ := h1
  obtain ⟨⟨A', B', g1', g2'⟩, g3'⟩ := h2
  have := g3 _ _ g1'
  have := g3' _ _ g1
  omega
/-- a pairing: q from far to near, fo from near to far -/
def Mt (a b : Nat) (E : Nat → Nat → Prop) (X Y : Nat → Bool) (q fo : Nat → Option Nat) : Prop :=
  (∀ v r, q v = some r → v < b ∧ r < a ∧ X r = true ∧ Y v = true ∧ E r v) ∧ (∀ v r, q v = some r ↔ fo r = some v)
def szq (q : Nat → Option Nat) (b : Nat) : Nat := ct (fun v => (q v).isSome) b
def upO (f : Nat → Option Nat) (k : Nat) (o : Option Nat) : Nat → Option Nat := fun j => if j = k then o else f j
theorem upO_eq {f : Nat → Option Nat} {k : Nat} {o : Option Nat} : upO f k o k = o := if_pos rfl
theorem upO_ne {f : Nat → Option Nat} {k : Nat} {o : Option Nat} {j : Nat} (h : j ≠ k) : upO f k o j = f j := if_neg h
/-- runs without a pair lie in P, whose crossings are all paired into P -/
def PC (E : Nat → Nat → Prop) (Y P : Nat → Bool) (q : Nat → Option Nat) : Prop := ∀ r v, P r = true → Y v = true → E r v → ∃ r', q v = some r' ∧ P r' = true
def Ce (E : Nat → Nat → Prop) (X Y : Nat → Bool) (h : Nat) (P : Nat → Bool) (q fo : Nat → Option Nat) : Prop :=
  (∀ r, r < h → X r = true → fo r = none → P r = true) ∧ PC E Y P q ∧ ∀ k, h ≤ k → fo k = none
theorem mt_nu {a b : Nat} {E : Nat → Nat → Prop} {X Y P : Nat → Bool} {q fo : Nat → Option Nat} (h1 : Mt a b E X Y q fo) (h2 : Ce E X Y a P q fo) : nu a b E X Y (szq q b) := by
  obtain ⟨B, hB⟩ := set_of (fun v => ∃ r, q v = some r ∧ P r = true)
  constructor
  · refine ⟨fun r => X r && !P r, B, fun r v hr hv he => ?_, ?_⟩
    · cases hp : P r with
      | false => exact Or.inl (by simp [hr, hp])
      | true => exact Or.inr ((hB v).mpr (h2.2.1 r v hp hv he))
    · unfold szq
      rw [ct_split (fun v => (q v).isSome) B b]
      have e1 : ct B b ≤ ct (fun k => (q k).isSome && B k) b := ct_imp b (fun i _ hi => by
        obtain ⟨r, g1, _⟩ := (hB i).mp hi
        simp [g1, hi])
      have e2 : ct (fun r => X r && !P r) a ≤ ct (fun k => (q k).isSome && !B k) b := ct_inj (R := fun r v => q v = some r) (fun i i' j g g' => by rw [g] at g'; exact Option.some.inj g') b a _ (fun r hr hx => by
        simp only [Bool.and_eq_true, Bool.not_eq_true'] at hx
        cases hf : fo r with
        | none => have := h2.1 r hr hx.1 hf; rw [hx.2] at this; cases this
        | some v =>
          have hq := (h1.2 v r).mpr hf
          refine ⟨v, (h1.1 v r hq).1, ?_, hq⟩
          have : ¬ B v = true := fun z => by
            obtain ⟨r', g1, g2⟩ := (hB v).mp z
            rw [hq] at g1
            cases g1
            rw [hx.2] at g2; cases g2
          simp [hq, this])
      omega
  · intro A B' hc
    unfold szq
    rw [ct_split (fun v => (q v).isSome) B' b]
    have e1 : ct (fun k => (q k).isSome && B' k) b ≤ ct B' b := ct_imp b (fun i _ hi => by simp at hi; exact hi.2)
    have e2 : ct (fun k => (q k).isSome && !B' k) b ≤ ct A a := ct_inj (R := fun v r => q v = some r) (fun i i' j g g' => by
        have g := (h1.2 _ _).mp g
        have g' := (h1.2 _ _).mp g'
        rw [g] at g'; exact Option.some.inj g') a b _ (fun v hv hx => by
        simp only [Bool.and_eq_true, Bool.not_eq_true'] at hx
        obtain ⟨r, hq⟩ := Option.isSome_iff_exists.mp hx.1
        obtain ⟨g1, g2, g3, g4, g5⟩ := h1.1 v r hq
        refine ⟨r, g2, ?_, hq⟩
        rcases hc r v g3 g4 g5 with g | g
        · exact g
        · rw [hx.2] at g; cases g)
    omega
/-- the tree of ways from the start -/
def BT (a b : Nat) (E : Nat → Nat → Prop) (X Y : Nat → Bool) (q fo : Nat → Option Nat) (w : Nat → Nat) (n : Nat) (rc : Nat → Bool) (rf : Nat → Nat) : Prop :=
  0 < n ∧ fo (w 0) = none ∧ (∀ j, 0 < j → j < n → ∃ v i, i < j ∧ rc v = true ∧ q v = some (w j) ∧ rf v = w i) ∧ (∀ v, rc v = true → v < b ∧ Y v = true ∧ E (rf v) v ∧ ∃ j, j < n ∧ q v = some (w j)) ∧
  (∀ i j, i < n → j < n → w i = w j → i = j) ∧ (∀ j, j < n → w j < a ∧ X (w j) = true)
theorem BT_size {a b : Nat} {E : Nat → Nat → Prop} {X Y : Nat → Bool} {q fo : Nat → Option Nat} {w : Nat → Nat} {n : Nat} {rc : Nat → Bool} {rf : Nat → Nat} (h : BT a b E X Y q fo w n rc rf) : n ≤ a := by
  obtain ⟨_, _, _, _, h5, h6⟩ := h
  have := ct_inj (p := fun _ => true) (R := fun i j => i < n ∧ w i = j) (fun i i' j g g' => h5 i i' g.1 g'.1 (by rw [g.2, g'.2])) a n (fun _ => true) (fun i hi _ => ⟨w i, (h6 i hi).1, rfl, hi, rfl⟩)
  rw [ct_all, ct_all] at this
  exact this
theorem BT_new {a b : Nat} {E : Nat → Nat → Prop} {X Y : Nat → Bool} {q fo : Nat → Option Nat} {w : Nat → Nat} (rf : Nat → Nat) (hs : fo (w 0) = none) (ha : w 0 < a) (hx : X (w 0) = true) : BT a b E X Y q fo w 1 (fun _ => false) rf :=
  ⟨by omega, hs, fun j h1 h2 => by omega, fun v h => (by cases h), fun i j h1 h2 _ => by omega, fun j h => by rw [show j = 0 by omega]; exact ⟨ha, hx⟩⟩
theorem BT_add {a b : Nat} {E : Nat → Nat → Prop} {X Y : Nat → Bool} {q fo : Nat → Option Nat} {w w' : Nat → Nat} {n : Nat} {rc rc' : Nat → Bool} {rf rf' : Nat → Nat} {i v r : Nat} (hM : Mt a b E X Y q fo) (h : BT a b E X Y q fo w n rc rf) (hi : i < n) (hY : Y v = true) (he : E (w i) v) (hv : v < b) (hr : rc v = false) (hq : q v = some r)
    (hw1 : w' n = r) (wlt : ∀ j, j < n → w' j = w j) (hc1 : rc' v = true) (hc2 : ∀ u, u ≠ v → rc' u = rc u) (hf1 : rf' v = w i) (hf2 : ∀ u, u ≠ v → rf' u = rf u) : BT a b E X Y q fo w' (n + 1) rc' rf' := by
  obtain ⟨h1, h2, h3, h4, h5, h6⟩ := h
  have hnew : ∀ j, j < n → w j ≠ r := by
    intro j hj e
    by_cases hj0 : j = 0
    · have := (hM.2 v r).mp hq
      rw [← e, hj0, h2] at this; cases this
    · obtain ⟨v', i', _, g2, g3, _⟩ := h3 j (by omega) hj
      rw [e] at g3
      have e1 := (hM.2 _ _).mp g3
      have e2 := (hM.2 _ _).mp hq
      rw [e1] at e2
      cases e2
      rw [hr] at g2; cases g2
  refine ⟨by omega, by rw [wlt 0 h1]; exact h2, fun j hj0 hj => ?_, fun u hu => ?_, fun j j' hj hj' e => ?_, fun j hj => ?_⟩
  · by_cases hjn : j = n
    · subst hjn
      exact ⟨v, i, hi, hc1, by rw [hw1]; exact hq, by rw [hf1, wlt i hi]⟩
    · obtain ⟨v', i', g1, g2, g3, g4⟩ := h3 j hj0 (by omega)
      have hne : v' ≠ v := fun e => by rw [e, hr] at g2; cases g2
      exact ⟨v', i', g1, by rw [hc2 v' hne]; exact g2, by rw [wlt j (by omega)]; exact g3, by rw [hf2 v' hne, wlt i' (by omega)]; exact g4⟩
  · by_cases hu' : u = v
    · subst hu'
      exact ⟨hv, hY, by rw [hf1]; exact he, n, by omega, by rw [hw1]; exact hq⟩
    · rw [hc2 u hu'] at hu
      obtain ⟨g1, g2, g3, j, g4, g5⟩ := h4 u hu
      exact ⟨g1, g2, by rw [hf2 u hu']; exact g3, j, by omega, by rw [wlt j g4]; exact g5⟩
  · by_cases hjn : j = n
    · by_cases hjn' : j' = n
      · omega
      · rw [hjn, hw1, wlt j' (by omega)] at e
        exact absurd e.symm (hnew j' (by omega))
    · by_cases hjn' : j' = n
      · rw [hjn', hw1, wlt j (by omega)] at e
        exact absurd e (hnew j (by omega))
      · rw [wlt j (by omega), wlt j' (by omega)] at e
        exact h5 j j' (by omega) (by omega) e
  · by_cases hjn : j = n
    · rw [hjn, hw1]; have := hM.1 v r hq; exact ⟨this.2.1, this.2.2.1⟩
    · rw [wlt j (by omega)]; exact h6 j (by omega)
/-- no way: the tree joins P -/
theorem BT_fail {a b : Nat} {E : Nat → Nat → Prop} {X Y P : Nat → Bool} {q fo : Nat → Option Nat} {w : Nat → Nat} {n : Nat} {rc : Nat → Bool} {rf : Nat → Nat} {h : Nat} (hT : BT a b E X Y q fo w n rc rf) (hw : w 0 = h) (hall : ∀ i v, i < n → Y v = true → E (w i) v → rc v = true) (hC : Ce E X Y h P q fo) : ∃ P', Ce E X Y (h + 1) P' q fo := by
  obtain ⟨P', hP⟩ := set_of (fun r => P r = true ∨ ∃ j, j < n ∧ w j = r)
  refine ⟨P', fun r hr hx hf => ?_, fun r v hr hv he => ?_, fun k hk => hC.2.2 k (by omega)⟩
  · rw [hP]
    by_cases e : r = h
    · exact Or.inr ⟨0, hT.1, by rw [hw, e]⟩
    · exact Or.inl (hC.1 r (by omega) hx hf)
  · rcases (hP r).mp hr with g | ⟨j, g1, g2⟩
    · obtain ⟨r', e1, e2⟩ := hC.2.1 r v g hv he
      exact ⟨r', e1, (hP r').mpr (Or.inl e2)⟩
    · subst g2
      obtain ⟨_, _, _, j', e1, e2⟩ := hT.2.2.2.1 v (hall j v g1 hv he)
      exact ⟨w j', e2, (hP _).mpr (Or.inr ⟨j', e1, rfl⟩)⟩
/-- turning the pairs on the way back: v is to be paired with w k -/
def FI (a b : Nat) (E : Nat → Nat → Prop) (X Y P : Nat → Bool) (fo0 : Nat → Option Nat) (w : Nat → Nat) (m : Nat) (q fo : Nat → Option Nat) (v k : Nat) : Prop :=
  v < b ∧ Y v = true ∧ E (w k) v ∧ Mt a b E X Y (upO q v none) fo ∧ szq (upO q v none) b = m ∧ PC E Y P q ∧ (∀ r, P r = true → ¬ E r v) ∧ (∀ j, j ≤ k → fo (w j) = fo0 (w j)) ∧ (∀ r, fo r = none ↔ fo0 r = none) ∧ q v ≠ some (w k)
theorem FI_new {a b : Nat} {E : Nat → Nat → Prop} {X Y P : Nat → Bool} {q fo : Nat → Option Nat} {w : Nat → Nat} {h v i : Nat} (hM : Mt a b E X Y q fo) (hC : Ce E X Y h P q fo) (hY : Y v = true) (he : E (w i) v) (hv : v < b) (hq : q v = none) : FI a b E X Y P fo w (szq q b) q fo v i := by
  have e : upO q v none = q := by
    funext j
    unfold upO
    split
    · rename_i h; rw [h, hq]
    · rfl
  refine ⟨hv, hY, he, by rw [e]; exact hM, by rw [e], hC.2.1, fun r hr hE => ?_, fun _ _ => rfl, fun _ => Iff.rfl, by rw [hq]; simp⟩
  obtain ⟨r', g, _⟩ := hC.2.1 r v hr hY hE
  rw [hq] at g; cases g
theorem FI_q {q : Nat → Option Nat} {v v' r : Nat} (hq : q v ≠ some r) : q v' = some r ↔ upO q v none v' = some r := by
  by_cases e : v' = v
  · subst e; rw [upO_eq]; exact ⟨fun z => absurd z hq, fun z => by cases z⟩
  · rw [upO_ne e]
theorem FI_end {a b : Nat} {E : Nat → Nat → Prop} {X Y P : Nat → Bool} {fo0 q fo : Nat → Option Nat} {w : Nat → Nat} {m h v : Nat} (hF : FI a b E X Y P fo0 w m q fo v 0) (hw : w 0 = h) (hs : fo0 (w 0) = none) (ha : h < a) (hx : X h = true) (hC0 : ∀ r, r < h → X r = true → fo0 r = none → P r = true) (hC1 : ∀ k, h ≤ k → fo0 k = none) : Mt a b E X Y (upO q v (some h)) (upO fo h (some v)) ∧ szq (upO q v (some h)) b = m + 1 ∧ Ce E X Y (h + 1) P (upO q v (some h)) (upO fo h (some v)) := by
  obtain ⟨h1, h2, h3, h4, h5, h6, h7, h8, h9, h10⟩ := hF
  have hfo : fo h = none := by rw [← hw, h8 0 (by omega)]; exact hs
  rw [hw] at h3
  have qv : upO q v none v = none := upO_eq
  have nv : ∀ r, fo r ≠ some v := fun r z => by rw [(h4.2 v r).mpr z] at qv; cases qv
  refine ⟨⟨fun v' r hq => ?_, fun v' r => ?_⟩, ?_, fun r hr hxr hf => ?_, fun r v' hr hv' he => ?_, fun k hk => by rw [upO_ne (by omega)]; exact (h9 k).mpr (hC1 k (by omega))⟩
  · by_cases e : v' = v
    · subst e; rw [upO_eq] at hq; cases hq; exact ⟨h1, ha, hx, h2, h3⟩
    · rw [upO_ne e] at hq
      exact h4.1 v' r (by rw [upO_ne e]; exact hq)
  · by_cases e : v' = v
    · subst e
      rw [upO_eq]
      by_cases er : r = h
      · subst er; rw [upO_eq]; exact ⟨fun _ => rfl, fun _ => rfl⟩
      · rw [upO_ne er]; exact ⟨fun z => (by cases z; exact absurd rfl er), fun z => absurd z (nv r)⟩
    · have := h4.2 v' r
      rw [upO_ne e] at this
      rw [upO_ne e, this]
      by_cases er : r = h
      · subst er; rw [upO_eq, hfo]; exact ⟨fun z => (by cases z), fun z => by cases z; exact absurd rfl e⟩
      · rw [upO_ne er]
  · rw [← h5]
    exact ct_flip (k := v) (by rw [qv]; rfl) (by rw [upO_eq]; rfl) b h1 (fun i _ hne => by rw [upO_ne hne, upO_ne hne])
  · by_cases er : r = h
    · rw [er, upO_eq] at hf; cases hf
    · rw [upO_ne er] at hf
      exact hC0 r (by omega) hxr ((h9 r).mp hf)
  · have hne : v' ≠ v := fun e => h7 r hr (by rw [← e]; exact he)
    rw [upO_ne hne]
    exact h6 r v' hr hv' he
theorem FI_go {a b : Nat} {E : Nat → Nat → Prop} {X Y P : Nat → Bool} {q0 fo0 q fo : Nat → Option Nat} {w : Nat → Nat} {n m v k : Nat} {rc : Nat → Bool} {rf : Nat → Nat} (hM0 : Mt a b E X Y q0 fo0) (hT : BT a b E X Y q0 fo0 w n rc rf) (hF : FI a b E X Y P fo0 w m q fo v k) (hk0 : 0 < k) (hk : k < n) :
    ∃ v' k', fo (w k) = some v' ∧ (∀ u, q u = some (w k) ↔ u = v') ∧ v' < b ∧ k' < k ∧ rc v' = true ∧ rf v' = w k' ∧ FI a b E X Y P fo0 w m (upO q v (some (w k))) (upO fo (w k) (some v)) v' k' := by
  obtain ⟨h1, h2, h3, h4, h5, h6, h7, h8, h9, h10⟩ := hF
  obtain ⟨t1, t2, t3, t4, t5, t6⟩ := hT
  obtain ⟨v', k', g1, g2, g3, g4⟩ := t3 k hk0 hk
  have g5 := (hM0.2 _ _).mp g3
  have hfo : fo (w k) = some v' := by rw [h8 k (by omega)]; exact g5
  have hqv' := (h4.2 v' (w k)).mpr hfo
  have hne : v' ≠ v := fun e => by rw [e, upO_eq] at hqv'; cases hqv'
  have hqv : q v' = some (w k) := by rw [upO_ne hne] at hqv'; exact hqv'
  obtain ⟨g6, g7, g8, _⟩ := t4 v' g2
  rw [g4] at g8
  have hwne : ∀ j, j ≤ k' → w j ≠ w k := fun j hj e => by have := t5 j k (by omega) hk e; omega
  have qv : upO q v none v = none := upO_eq
  have nv : ∀ r, fo r ≠ some v := fun r z => by rw [(h4.2 v r).mpr z] at qv; cases qv
  have hfin : ∀ u, q u = some (w k) ↔ u = v' := fun u => by
    rw [FI_q h10, h4.2, hfo]
    exact ⟨fun z => (Option.some.inj z).symm, fun z => by rw [z]⟩
  have hval : ∀ x, upO (upO q v (some (w k))) v' none x = if x = v' then none else if x = v then some (w k) else q x := fun x => rfl
  refine ⟨v', k', hfo, hfin, g6, g1, g2, g4, g6, g7, g8, ⟨fun x r hx => ?_, fun x r => ?_⟩, ?_, fun r x hr hx he => ?_, fun r hr he => ?_, fun j hj => ?_, fun r => ?_, ?_⟩
  · rw [hval] at hx
    by_cases e1 : x = v'
    · rw [if_pos e1] at hx; cases hx
    · rw [if_neg e1] at hx
      by_cases e2 : x = v
      · rw [if_pos e2] at hx; cases hx; subst e2; have := t6 k hk; exact ⟨h1, this.1, this.2, h2, h3⟩
      · rw [if_neg e2] at hx
        exact h4.1 x r (by rw [upO_ne e2]; exact hx)
  · rw [hval]
    by_cases er : r = w k
    · subst er
      rw [upO_eq]
      by_cases e1 : x = v'
      · rw [if_pos e1]; exact ⟨fun z => (by cases z), fun z => by cases z; exact absurd e1.symm hne⟩
      · rw [if_neg e1]
        by_cases e2 : x = v
        · rw [if_pos e2, e2]; exact ⟨fun _ => rfl, fun _ => rfl⟩
        · rw [if_neg e2]
          exact ⟨fun z => absurd ((hfin x).mp z) e1, fun z => by cases z; exact absurd rfl e2⟩
    · rw [upO_ne er, ← h4.2 x r]
      by_cases e1 : x = v'
      · rw [if_pos e1, e1, upO_ne hne, hqv]; exact ⟨fun z => (by cases z), fun z => by cases z; exact absurd rfl er⟩
      · rw [if_neg e1]
        by_cases e2 : x = v
        · rw [if_pos e2, e2, upO_eq]; exact ⟨fun z => (by cases z; exact absurd rfl er), fun z => by cases z⟩
        · rw [if_neg e2, upO_ne e2]
  · have c1 : szq (upO q v (some (w k))) b = szq (upO q v none) b + 1 := ct_flip (k := v) (by rw [qv]; rfl) (by rw [upO_eq]; rfl) b h1 (fun i _ hne => by rw [upO_ne hne, upO_ne hne])
    have c2 : szq (upO q v (some (w k))) b = szq (upO (upO q v (some (w k))) v' none) b + 1 := ct_flip (k := v') (by rw [upO_eq]; rfl) (by rw [upO_ne hne, hqv]; rfl) b g6 (fun i _ hne => by rw [upO_ne hne])
    omega
  · have hxv : x ≠ v := fun e => h7 r hr (by rw [← e]; exact he)
    rw [upO_ne hxv]
    exact h6 r x hr hx he
  · obtain ⟨r', e1, e2⟩ := h6 r v' hr g7 he
    rw [hqv] at e1
    cases e1
    exact h7 _ e2 h3
  · rw [upO_ne (hwne j hj)]
    exact h8 j (by omega)
  · by_cases er : r = w k
    · rw [er, upO_eq, g5]; exact ⟨fun z => (by cases z), fun z => by cases z⟩
    · rw [upO_ne er]; exact h9 r
  · rw [upO_ne hne, hqv]
    intro e
    exact hwne k' (Nat.le_refl _) (Option.some.inj e).symm
