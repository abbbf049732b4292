/-! the world that a state of our machine stands for -/
def cv (ad adR : Nat → Nat) (v : PV) : Value := match v with
  | .inl x => .int x
  | .inr (.inl x) => .long x
  | .inr (.inr (0, _, _)) => .null
  | .inr (.inr (4, _, a)) => .ref (adR a)
  | .inr (.inr (_, _, a)) => .ref (ad a)
def roN (E : Nat × (Nat → Int32)) (a : Nat) : Nat := match a with
  | 0 => E.1
  | 1 => 8
  | _ => 32
def okV (E : Nat × (Nat → Int32)) (v : PV) : Prop := match v with
  | .inl _ => True
  | .inr (.inl _) => True
  | .inr (.inr (0, _, _)) => True
  | .inr (.inr (4, n, a)) => a < 3 ∧ n = roN E a
  | .inr (.inr (k, n, a)) => (a, k, n) ∈ cellsL
def okO (E : Nat × (Nat → Int32)) (r : Option PV) : Prop := ∀ v, r = some v → okV E v
def okS (E : Nat × (Nat → Int32)) (st : List PV) : Prop := ∀ v ∈ st, okV E v
def okL (E : Nat × (Nat → Int32)) (ls : PL) : Prop := ∀ (i : Nat) (v : PV), ls[i]? = some (some v) → okV E v
def fval (ad : Nat → Nat) (σ : PS) (ci a k : Nat) : Value := match fk ci k with
  | (0, _) => .int (σ.1 a k)
  | (1, _) => .int (σ.1 a k)
  | (4, _) => .ref (ad ((lk orL (a * 100 + k)).getD 0))
  | _ => .ref (ad (a + 1 + k))
def conc (ad : Nat → Nat) (kA : Nat → ClassId) (σ : PS) (q : Nat × Nat × Nat) : va_E := match q.2.1 with
  | 1 => .inr (q.2.2, (List.range (fN q.2.2)).map (fval ad σ q.2.2 q.1))
  | 2 => .inl (kA q.1, q.2.2, .inl (σ.1 q.1))
  | 3 => .inl (kA q.1, q.2.2, .inr (.inl (σ.2 q.1)))
  | _ => .inl (kA q.1, q.2.2, .inr (.inr (.inr (.inr (fun i => some (ad (q.1 + 1 + i)))))))
def wsO (ad : Nat → Nat) (kA : Nat → ClassId) (σ : PS) : va_W := cellsL.map (fun q => (ad q.1, conc ad kA σ q))
def WF (ad : Nat → Nat) (kA : Nat → ClassId) (tys : List (ClassId × FieldType)) : Prop := (∀ (i j : Nat) (p q : Nat × Nat × Nat), cellsL[i]? = some p → cellsL[j]? = some q → ad p.1 = ad q.1 → i = j) ∧ (∀ q ∈ cellsL, q.2.1 = 2 → ∃ t : Nat, tys[t]? = some (kA q.1, FieldType.int)) ∧ (∀ q ∈ cellsL, q.2.1 = 3 → ∃ t : Nat, tys[t]? = some (kA q.1, FieldType.long)) ∧ (∀ q ∈ cellsL, q.2.1 = 5 → ∃ t : Nat, tys[t]? = some (kA q.1, FieldType.array .long))
theorem nd_spec : ∀ (l : List Nat), ndL l = true → ∀ (i j a : Nat), l[i]? = some a → l[j]? = some a → i = j
  | [], _, i, _, a, h, _ => by simp at h
  | b :: t, hn, i, j, a, hi, hj => by
    simp only [ndL, Bool.and_eq_true, Bool.not_eq_true'] at hn
    have hb : b ∉ t := by
      intro hm
      have : t.elem b = true := List.elem_eq_true_of_mem hm
      rw [this] at hn
      exact absurd hn.1 (by simp)
    match i, j, hi, hj with
    | 0, 0, _, _ => rfl
    | 0, j + 1, hi, hj =>
      simp at hi hj
      subst hi
      exact absurd (List.mem_of_getElem? hj) hb
    | i + 1, 0, hi, hj =>
      simp at hi hj
      subst hj
      exact absurd (List.mem_of_getElem? hi) hb
    | i + 1, j + 1, hi, hj =>
      simp at hi hj
      rw [nd_spec t hn.2 i j a hi hj]
theorem cell_nd {i j : Nat} {p q : Nat × Nat × Nat} (hi : cellsL[i]? = some p) (hj : cellsL[j]? = some q) (h : p.1 = q.1) : i = j := by
  refine nd_spec _ cells_nd i j p.1 ?_ ?_
  · rw [List.getElem?_map, hi]; rfl
  · rw [List.getElem?_map, hj, h]; rfl
theorem cell_fun {p q : Nat × Nat × Nat} (hp : p ∈ cellsL) (hq : q ∈ cellsL) (h : p.1 = q.1) : p = q := by
  obtain ⟨i, hi⟩ := List.getElem?_of_mem hp
  obtain ⟨j, hj⟩ := List.getElem?_of_mem hq
  have := cell_nd hi hj h
  subst this
  exact Option.some.inj (hi.symm.trans hj)
theorem ws_get {ad : Nat → Nat} {kA : Nat → ClassId} (σ : PS) {q : Nat × Nat × Nat} (h : q ∈ cellsL) : ∃ i : Nat, cellsL[i]? = some q ∧ (wsO ad kA σ)[i]? = some (ad q.1, conc ad kA σ q) := by
  obtain ⟨i, hi⟩ := List.getElem?_of_mem h
  refine ⟨i, hi, ?_⟩
  unfold wsO
  rw [List.getElem?_map, hi]
  rfl
theorem ws_set {ad : Nat → Nat} {kA : Nat → ClassId} {σ σ' : PS} {i : Nat} {q : Nat × Nat × Nat} (h : cellsL[i]? = some q) (hq : ∀ r ∈ cellsL, r.1 ≠ q.1 → conc ad kA σ' r = conc ad kA σ r) : (wsO ad kA σ).set i (ad q.1, conc ad kA σ' q) = wsO ad kA σ' := by
  apply List.ext_getElem?
  intro j
  rw [List.getElem?_set]
  unfold wsO
  rw [List.getElem?_map, List.getElem?_map, List.length_map]
  by_cases e : i = j
  · subst e
    rw [if_pos rfl, h]
    have hl : i < cellsL.length := (List.getElem?_eq_some_iff.mp h).1
    simp [hl]
  · rw [if_neg e]
    cases hj : cellsL[j]? with
    | none => rfl
    | some r =>
      show some (ad r.1, conc ad kA σ r) = some (ad r.1, conc ad kA σ' r)
      rw [hq r (List.mem_of_getElem? hj) (fun z => e (cell_nd h hj z.symm))]
theorem ws_D {ad : Nat → Nat} {kA : Nat → ClassId} {tys : List (ClassId × FieldType)} {A : Nat → Prop} (hw : WF ad kA tys) (hA : ∀ q ∈ cellsL, A (ad q.1)) (σ : PS) : va_D A (wsO ad kA σ) := by
  have key : ∀ (i : Nat) (p : Nat × va_E), (wsO ad kA σ)[i]? = some p → ∃ q, cellsL[i]? = some q ∧ p.1 = ad q.1 := by
    intro i p h
    unfold wsO at h
    rw [List.getElem?_map] at h
    cases hj : cellsL[i]? with
    | none => rw [hj] at h; cases h
    | some r => rw [hj] at h; cases h; exact ⟨r, rfl, rfl⟩
  refine ⟨fun i j p q hi hj e => ?_, fun k q hk => ?_⟩
  · obtain ⟨a, ha, e1⟩ := key i p hi
    obtain ⟨b, hb, e2⟩ := key j q hj
    exact hw.1 i j a b ha hb (by rw [← e1, ← e2, e])
  · obtain ⟨a, ha, e1⟩ := key k q hk
    rw [e1]
    exact hA a (List.mem_of_getElem? ha)
/-! what the helpers take -/
theorem p1_inv {st : List PV} {f : Int32 → List PV → PR} {x : Option PV × PS} (h : p1 st f = some x) : ∃ a r, st = vI a :: r ∧ f a r = some x := match st, h with
  | .inl a :: r, h => ⟨a, r, rfl, h⟩
theorem p2_inv {st : List PV} {f : Int32 → Int32 → List PV → PR} {x : Option PV × PS} (h : p2 st f = some x) : ∃ a b r, st = vI b :: vI a :: r ∧ f a b r = some x := match st, h with
  | .inl b :: .inl a :: r, h => ⟨a, b, r, rfl, h⟩
theorem q1_inv {st : List PV} {f : Int64 → List PV → PR} {x : Option PV × PS} (h : q1 st f = some x) : ∃ a r, st = vL a :: r ∧ f a r = some x := match st, h with
  | .inr (.inl a) :: r, h => ⟨a, r, rfl, h⟩
theorem q2_inv {st : List PV} {f : Int64 → Int64 → List PV → PR} {x : Option PV × PS} (h : q2 st f = some x) : ∃ a b r, st = vL b :: vL a :: r ∧ f a b r = some x := match st, h with
  | .inr (.inl b) :: .inr (.inl a) :: r, h => ⟨a, b, r, rfl, h⟩
theorem a1_inv {st : List PV} {f : Nat → Nat → Nat → List PV → PR} {x : Option PV × PS} (h : a1 st f = some x) : ∃ k n a r, st = vR k n a :: r ∧ f k n a r = some x := match st, h with
  | .inr (.inr (k, n, a)) :: r, h => ⟨k, n, a, r, rfl, h⟩
theorem getD_some {ls : PL} {i : Nat} {v : PV} (h : ls.getD i none = some v) : ls[i]? = some (some v) := by
  rw [List.getD_eq_getElem?_getD] at h
  cases hq : ls[i]? with
  | none => rw [hq] at h; cases h
  | some w => rw [hq] at h; exact congrArg some h
theorem gI_inv {ls : PL} {i : Nat} {f : Int32 → PR} {x : Option PV × PS} (h : gI ls i f = some x) : ∃ a, ls[i]? = some (some (vI a)) ∧ f a = some x := by
  unfold gI at h
  cases hq : ls.getD i none with
  | none => rw [hq] at h; cases h
  | some v =>
    rw [hq] at h
    match v, h with
    | .inl a, h => exact ⟨a, getD_some hq, h⟩
theorem gL_inv {ls : PL} {i : Nat} {f : Int64 → PR} {x : Option PV × PS} (h : gL ls i f = some x) : ∃ a, ls[i]? = some (some (vL a)) ∧ f a = some x := by
  unfold gL at h
  cases hq : ls.getD i none with
  | none => rw [hq] at h; cases h
  | some v =>
    rw [hq] at h
    match v, h with
    | .inr (.inl a), h => exact ⟨a, getD_some hq, h⟩
theorem gA_inv {ls : PL} {i : Nat} {f : Nat → Nat → Nat → PR} {x : Option PV × PS} (h : gA ls i f = some x) : ∃ k n a, ls[i]? = some (some (vR k n a)) ∧ f k n a = some x := by
  unfold gA at h
  cases hq : ls.getD i none with
  | none => rw [hq] at h; cases h
  | some v =>
    rw [hq] at h
    match v, h with
    | .inr (.inr (k, n, a)), h => exact ⟨k, n, a, getD_some hq, h⟩
theorem bif_inv {b : Bool} {y : PR} {x : Option PV × PS} (h : (bif b then y else none) = some x) : b = true ∧ y = some x := match b, h with
  | true, h => ⟨rfl, h⟩
theorem ite_inv {c : Prop} [Decidable c] {y : PR} {x : Option PV × PS} (h : (if c then y else none) = some x) : c ∧ y = some x := by
  by_cases hc : c
  · rw [if_pos hc] at h; exact ⟨hc, h⟩
  · rw [if_neg hc] at h; cases h
theorem blt_iff {a b : Nat} (h : Nat.blt a b = true) : a < b := by
  have := Nat.le_of_ble_eq_true h
  exact this
theorem jp_inv {pc : Nat} {off : Int} {f : Nat → PR} {x : Option PV × PS} (h : jp pc off f = some x) : ∃ t : Nat, (pc : Int) + off = (t : Int) ∧ f t = some x := by
  unfold jp at h
  cases hq : (pc : Int) + off with
  | ofNat t => rw [hq] at h; exact ⟨t, rfl, h⟩
  | negSucc t => rw [hq] at h; cases h
/-! locals -/
def lr (ad adR : Nat → Nat) (ls : PL) (lm : Array Slot) : Prop := lm.size = ls.length ∧ lv_wf lm ∧ ∀ (i : Nat) (v : PV), ls[i]? = some (some v) → lm[i]? = some (Slot.val (cv ad adR v))
def lvl (ad adR : Nat → Nat) : Nat → PL → List (Nat × Value)
  | _, [] => []
  | i, none :: t => lvl ad adR (i + 1) t
  | i, some v :: t => (i, cv ad adR v) :: lvl ad adR (i + 1) t
theorem lvl_mem {ad adR : Nat → Nat} : ∀ {ls : PL} {j : Nat} {q : Nat × Value}, q ∈ lvl ad adR j ls → ∃ i v, q = (j + i, cv ad adR v) ∧ ls[i]? = some (some v)
  | [], _, _, h => by cases h
  | none :: t, j, q, h => by
    obtain ⟨i, v, e, hv⟩ := lvl_mem (ls := t) h
    exact ⟨i + 1, v, by rw [e]; congr 1; omega, by simpa using hv⟩
  | some w :: t, j, q, h => by
    rcases List.mem_cons.mp h with rfl | h
    · exact ⟨0, w, rfl, by simp⟩
    · obtain ⟨i, v, e, hv⟩ := lvl_mem (ls := t) h
      exact ⟨i + 1, v, by rw [e]; congr 1; omega, by simpa using hv⟩
theorem mem_lvl {ad adR : Nat → Nat} : ∀ {ls : PL} {j i : Nat} {v : PV}, ls[i]? = some (some v) → (j + i, cv ad adR v) ∈ lvl ad adR j ls
  | [], _, _, _, h => by simp at h
  | none :: t, j, 0, v, h => by simp at h
  | none :: t, j, i + 1, v, h => by
    have := mem_lvl (ad := ad) (adR := adR) (ls := t) (j := j + 1) (i := i) (v := v) (by simpa using h)
    rw [show j + (i + 1) = j + 1 + i by omega]
    exact this
  | some w :: t, j, 0, v, h => by
    have : w = v := by simpa using h
    subst this
    exact List.mem_cons_self
  | some w :: t, j, i + 1, v, h => by
    have := mem_lvl (ad := ad) (adR := adR) (ls := t) (j := j + 1) (i := i) (v := v) (by simpa using h)
    rw [show j + (i + 1) = j + 1 + i by omega]
    exact List.mem_cons_of_mem _ this
theorem lr_has {ad adR : Nat → Nat} {ls : PL} {lm : Array Slot} (h : lr ad adR ls lm) : lv_has lm ls.length (lvl ad adR 0 ls) := by
  refine ⟨h.1, h.2.1, fun q hq => ?_⟩
  obtain ⟨i, v, e, hv⟩ := lvl_mem hq
  rw [e, Nat.zero_add]
  exact h.2.2 i v hv
theorem cat_cv (ad adR : Nat → Nat) (v : PV) : (cv ad adR v).category = wd v := by
  rcases v with x | x | ⟨k, n, a⟩
  · rfl
  · rfl
  · match k with
    | 0 => rfl
    | 1 => rfl
    | 2 => rfl
    | 3 => rfl
    | 4 => rfl
    | j + 5 => rfl
theorem noL_spec {ls : PL} {i j : Nat} {v : PV} (h : noL ls i = true) (hj : ls[j]? = some (some v)) (e : j + 1 = i) : wd v ≠ 2 := by
  subst e
  have h : (match ls.getD j none with
    | some (.inr (.inl _)) => false
    | _ => true) = true := h
  have hg : ls.getD j none = some v := by rw [List.getD_eq_getElem?_getD, hj]; rfl
  rw [hg] at h
  rcases v with x | x | x
  · exact fun q => by cases q
  · cases h
  · exact fun q => by cases q
theorem lr_set {ad adR : Nat → Nat} {ls : PL} {lm' : Array Slot} {i : Nat} {v : PV} (hi : i < ls.length) (hn : noL ls i = true) (h : lv_has lm' ls.length ((i, cv ad adR v) :: (lvl ad adR 0 ls).filter (fun q => !(q.1 == i) && !(q.1 + 1 == i && q.2.category == 2)))) : lr ad adR (ls.set i (some v)) lm' := by
  refine ⟨by rw [List.length_set]; exact h.1, h.2.1, fun j w hj => ?_⟩
  rw [List.getElem?_set] at hj
  by_cases e : i = j
  · subst e
    rw [if_pos rfl, if_pos hi] at hj
    have : v = w := by simpa using hj
    subst this
    exact h.2.2 _ List.mem_cons_self
  · rw [if_neg e] at hj
    refine h.2.2 (j, cv ad adR w) (List.mem_cons_of_mem _ (List.mem_filter.mpr ⟨?_, ?_⟩))
    · have := mem_lvl (ad := ad) (adR := adR) (j := 0) hj
      rwa [Nat.zero_add] at this
    · have h1 : ¬ j = i := fun q => e q.symm
      by_cases h2 : j + 1 = i
      · have := noL_spec hn hj h2
        simp [h1, cat_cv, this]
      · simp [h1, h2]
theorem lr_set2 {ad adR : Nat → Nat} {ls : PL} {lm' : Array Slot} {i : Nat} {v : PV} (hi : i + 1 < ls.length) (hn : noL ls i = true) (h : lv_has lm' ls.length ((i, cv ad adR v) :: (lvl ad adR 0 ls).filter (fun q => !(q.1 == i) && (!(q.1 == i + 1) && !(q.1 + 1 == i && q.2.category == 2))))) : lr ad adR ((ls.set i (some v)).set (i + 1) none) lm' := by
  refine ⟨by rw [List.length_set, List.length_set]; exact h.1, h.2.1, fun j w hj => ?_⟩
  rw [List.getElem?_set, List.getElem?_set, List.length_set] at hj
  by_cases e1 : i + 1 = j
  · rw [if_pos e1, if_pos hi] at hj
    simp at hj
  · rw [if_neg e1] at hj
    by_cases e : i = j
    · subst e
      rw [if_pos rfl, if_pos (by omega)] at hj
      have : v = w := by simpa using hj
      subst this
      exact h.2.2 _ List.mem_cons_self
    · rw [if_neg e] at hj
      refine h.2.2 (j, cv ad adR w) (List.mem_cons_of_mem _ (List.mem_filter.mpr ⟨?_, ?_⟩))
      · have := mem_lvl (ad := ad) (adR := adR) (j := 0) hj
        rwa [Nat.zero_add] at this
      · have h1 : ¬ j = i := fun q => e q.symm
        have h3 : ¬ j = i + 1 := fun q => e1 q.symm
        by_cases h2 : j + 1 = i
        · have := noL_spec hn hj h2
          simp [h1, h3, cat_cv, this]
        · simp [h1, h2, h3]
theorem okL_set {E : Nat × (Nat → Int32)} {ls : PL} {i : Nat} {v : PV} (h : okL E ls) (hv : okV E v) : okL E (ls.set i (some v)) := by
  intro j w hj
  rw [List.getElem?_set] at hj
  by_cases e : i = j
  · rw [if_pos e] at hj
    by_cases hl : i < ls.length
    · rw [if_pos hl] at hj
      have : v = w := by simpa using hj
      exact this ▸ hv
    · rw [if_neg hl] at hj; cases hj
  · rw [if_neg e] at hj
    exact h j w hj
theorem okL_set0 {E : Nat × (Nat → Int32)} {ls : PL} {i : Nat} (h : okL E ls) : okL E (ls.set i none) := by
  intro j w hj
  rw [List.getElem?_set] at hj
  by_cases e : i = j
  · rw [if_pos e] at hj
    by_cases hl : i < ls.length
    · rw [if_pos hl] at hj; simp at hj
    · rw [if_neg hl] at hj; cases hj
  · rw [if_neg e] at hj
    exact h j w hj
theorem sum_cv (ad adR : Nat → Nat) (l : List PV) : ((l.map (cv ad adR)).map fun v => v.category).sum = (l.map wd).sum := by
  rw [List.map_map]
  congr 1
  apply List.map_congr_left
  intro v _
  exact cat_cv ad adR v
