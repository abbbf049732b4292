/-! the constructors' machine: rows of longs -/
/-- the outer array when i rows are in it, a row, and the states on the way -/
def mO (cA : ClassId) (h n i : Nat) : Cell := arrV cA n (fun j => if j < i then .ref (h + 1 + j) else .null)
def mI (cC : ClassId) (k : Nat) : Cell := arrV cC k (fun _ => .long 0)
theorem mO_step (cA : ClassId) (h n i : Nat) : (mO cA h n i).setSlot i (.ref (h + 1 + i)) = mO cA h n (i + 1) := by
  unfold mO
  rw [arrV_store]
  congr 1
  funext j
  unfold updV
  by_cases e : j = i
  · subst e
    rw [if_pos rfl, if_pos (Nat.lt_succ_self j)]
  · rw [if_neg e]
    dsimp only
    by_cases g : j < i
    · rw [if_pos g, if_pos (by omega)]
    · rw [if_neg g, if_neg (by omega)]
theorem mO_size (cA : ClassId) (h n i : Nat) : (mO cA h n i).slots.size = n := arrV_size _ _ _
theorem mI_size (cC : ClassId) (k : Nat) : (mI cC k).slots.size = k := arrV_size _ _ _
def mT (T : State) (cA cC : ClassId) (n k : Nat) : Nat → State
  | 0 => T.pushCell (mO cA T.heap.size n 0)
  | i + 1 => ((mT T cA cC n k i).pushCell (mI cC k)).setCell T.heap.size (mO cA T.heap.size n (i + 1))
theorem mT_facts (T : State) (cA cC : ClassId) (n k : Nat) : ∀ i : Nat, (mT T cA cC n k i).heap.size = T.heap.size + 1 + i ∧ (mT T cA cC n k i).heap[T.heap.size]? = some (mO cA T.heap.size n i) ∧ (mT T cA cC n k i).vm = T.vm ∧ (mT T cA cC n k i).slotsUsed = T.slotsUsed + n + i * k ∧ (∀ a : Nat, a < T.heap.size → (mT T cA cC n k i).heap[a]? = T.heap[a]?) ∧ ∀ j : Nat, j < i → (mT T cA cC n k i).heap[T.heap.size + 1 + j]? = some (mI cC k)
  | 0 => by
    refine ⟨by simp [mT], by simp [mT], rfl, by simp [mT, mO_size], fun a ha => State.heap_pushCell_of_lt _ _ ha, fun j hj => absurd hj (by omega)⟩
  | i + 1 => by
    obtain ⟨f1, f2, f3, f4, f5, f6⟩ := mT_facts T cA cC n k i
    have hlt : T.heap.size < (mT T cA cC n k i).heap.size := by omega
    have hb : ((mT T cA cC n k i).pushCell (mI cC k)).heap[T.heap.size]? = some (mO cA T.heap.size n i) := by rw [State.heap_pushCell_of_lt (h := hlt)]; exact f2
    refine ⟨?_, State.heap_setCell_self hb, by simp [mT, f3], ?_, fun a ha => ?_, fun j hj => ?_⟩
    · simp [mT, State.setCell, f1]; omega
    · simp [mT, f4, mI_size, Nat.succ_mul]; omega
    · show (((mT T cA cC n k i).pushCell (mI cC k)).setCell T.heap.size _).heap[a]? = _
      rw [State.heap_setCell_other (Nat.ne_of_gt ha), State.heap_pushCell_of_lt (h := Nat.lt_trans ha hlt)]
      exact f5 a ha
    · show (((mT T cA cC n k i).pushCell (mI cC k)).setCell T.heap.size _).heap[T.heap.size + 1 + j]? = _
      rw [State.heap_setCell_other (show T.heap.size ≠ T.heap.size + 1 + j by omega)]
      by_cases e : j < i
      · have hj2 : T.heap.size + 1 + j < (mT T cA cC n k i).heap.size := by rw [f1]; omega
        rw [State.heap_pushCell_of_lt (h := hj2)]
        exact f6 j e
      · have : j = i := by omega
        subst this
        rw [← f1]
        exact State.heap_pushCell_size _ _
theorem mT_top (T : State) (f : JFrame) (cA cC : ClassId) (n k : Nat) : ∀ i : Nat, mT (T.setTop f) cA cC n k i = (mT T cA cC n k i).setTop f
  | 0 => rfl
  | i + 1 => by simp only [mT, mT_top T f cA cC n k i, State.heap_setTop, State.pushCell_setTop, State.setCell_setTop]
section MA
variable {E : CtlPost} {e : Env} {d : Bool} {acts : List Action} {s : State}
theorem wp_newB {c comp : ClassId} {k : Class} {type : FieldType} {len : Nat} {init : Value} (hk : s.vm.classes[c]? = some k) (hkind : k.kind = .array comp type) (hl : ¬ len > e.platform.arrayLengthLimit) (hh : ¬ len * componentBytes type > e.platform.maxHeapBytes) (hfit : fits type init = true) (hdef : init.isDefault = true) {Q : Addr → Pre} (h1 : s.heap.size < e.platform.maxCells) (h2 : s.slotsUsed + len ≤ e.platform.maxSlots)
    (hq : Q s.heap.size d acts (s.pushCell (arrV c len (fun _ => init)))) : wp (Jvm.newArray c len init) Q E e d acts s := by
  have ha : allocActs (Array.replicate len init) s.heap.size acts = acts := by
    unfold allocActs
    rw [if_pos]
    rw [Array.all_replicate]
    split <;> simp [hdef]
  have hf : ∀ i v, (Array.replicate len init)[i]? = some v → s.fitsSlot c .none i v = true := by
    intro i v hv
    rw [Array.getElem?_replicate] at hv
    split at hv
    · cases hv
      simp [State.fitsSlot, State.slotType?, hk, hkind, hfit]
    · cases hv
  rw [← arrV_new] at hq
  simp only [Jvm.newArray, Jvm.arrayFits, wp_bind', W.ask, W.ite, hl, if_false, wp_pure', W.theClass, hk, hkind, hh, W.alloc, W.stop, Option.some.injEq, exists_eq_left', Array.size_replicate, ha]
  rw [if_neg (by omega)]
  exact ⟨h1, h2, hf, hq⟩
theorem wp_makeB {cA cC cc : ClassId} {kA kC : Class} {x y : Int32} (hkA : s.vm.classes[cA]? = some kA) (hA : kA.kind = .array cC (.array .long)) (hkC : s.vm.classes[cC]? = some kC) (hC : kC.kind = .array cc .long) (hx : ¬ x < 0) (hy : ¬ y < 0) (l1 : ¬ x.toNatClampNeg > e.platform.arrayLengthLimit) (l2 : ¬ x.toNatClampNeg * 4 > e.platform.maxHeapBytes) (l3 : ¬ y.toNatClampNeg > e.platform.arrayLengthLimit) (l4 : ¬ y.toNatClampNeg * 8 > e.platform.maxHeapBytes)
    (hc : s.heap.size + 1 + x.toNatClampNeg ≤ e.platform.maxCells) (hs : s.slotsUsed + x.toNatClampNeg + x.toNatClampNeg * y.toNatClampNeg ≤ e.platform.maxSlots) {Q : Addr → Pre} (hq : ∀ d' acts', Q s.heap.size d' acts' (mT s cA cC x.toNatClampNeg y.toNatClampNeg x.toNatClampNeg)) : wp (multianewarray.make cA [x, y]) Q E e d acts s := by
  have hf : ([y].find? (· < 0)) = none := by simp [hy]
  have hp := Nat.zero_le (x.toNatClampNeg * y.toNatClampNeg)
  rw [multianewarray.make]
  simp only [wp_bind', W.ite, hx, if_false, wp_pure', W.theClass, hkA, hA, Option.some.injEq, exists_eq_left']
  refine wp_newB hkA hA l1 l2 rfl rfl (by omega) (by omega) ?_
  simp only [hf]
  rw [ite_self, wp_bind', Std.Legacy.Range.forIn_eq_forIn_range']
  have hz : ([:x.toNatClampNeg] : Std.Legacy.Range).size = x.toNatClampNeg := by simp [Std.Legacy.Range.size]
  rw [hz]
  show wp (forIn (List.range' 0 x.toNatClampNeg 1) PUnit.unit _) _ E e d acts _
  refine wp_forIn_inv (fun rest s' => ∃ i, i ≤ x.toNatClampNeg ∧ rest = List.range' i (x.toNatClampNeg - i) ∧ s' = mT s cA cC x.toNatClampNeg y.toNatClampNeg i) _ _ ⟨0, Nat.zero_le _, rfl, ?_⟩ ?_ ?_
  · show _ = s.pushCell (mO cA s.heap.size x.toNatClampNeg 0)
    congr 1
  · rintro j rest s' d' acts' Q' ⟨i, hi, hl, rfl⟩ hnext
    cases hm : x.toNatClampNeg - i with
    | zero => rw [hm] at hl; simp at hl
    | succ r =>
      rw [hm, List.range'_succ] at hl
      obtain ⟨e1, e2⟩ := List.cons.inj hl
      subst e1
      obtain ⟨f1, f2, f3, f4, f5, f6⟩ := mT_facts s cA cC x.toNatClampNeg y.toNatClampNeg j
      have hmul : j * y.toNatClampNeg + y.toNatClampNeg ≤ x.toNatClampNeg * y.toNatClampNeg := by
        have := Nat.mul_le_mul_right y.toNatClampNeg (show j + 1 ≤ x.toNatClampNeg by omega)
        rw [Nat.succ_mul] at this; exact this
      simp only [wp_bind']
      rw [multianewarray.make]
      simp only [wp_bind', W.ite, hy, if_false, wp_pure', W.theClass, f3, hkC, hC, Option.some.injEq, exists_eq_left']
      refine wp_newB (by rw [f3]; exact hkC) hC l3 l4 rfl rfl (by rw [f1]; omega) (by rw [f4]; omega) ?_
      have hlt : s.heap.size < (mT s cA cC x.toNatClampNeg y.toNatClampNeg j).heap.size := by omega
      simp only [wp_bind', W.writeLoc, wp_pure']
      refine ⟨mO cA s.heap.size x.toNatClampNeg j, by rw [State.heap_pushCell_of_lt (h := hlt)]; exact f2, by simp [mO, arrV], by rw [mO_size]; omega, ?_, hnext _ _ _ ⟨j + 1, by omega, by rw [e2]; congr 1; omega, ?_⟩⟩
      · simp [State.fitsSlot, State.slotType?, mO, arrV, f3, hkA, hA]
        rfl
      · rw [f1, mO_step]; rfl
  · rintro s' d' acts' ⟨i, hi, hl, rfl⟩
    have hi2 : i = x.toNatClampNeg := by
      cases hm : x.toNatClampNeg - i with
      | zero => omega
      | succ r => rw [hm, List.range'_succ] at hl; cases hl
    subst hi2
    simp only [wp_pure']
    exact hq _ _
end MA
section BORN4
variable {p : Program} {l : Launch} {e : Env} {R : Room} {s : State} {m : MethodId} {args : Array Value} {below : List Frame} {meth : Method} {c : Code} {Q : State → Prop} {D : va_G} {A : Nat → Prop} {ad0 : Nat → Nat} {kA0 : Nat → ClassId} {nx0 : Nat}
theorem mT_stand {T : State} {locs : List Loc} {cells slots : Nat} (X : Stand p l e R s m args below meth c T locs cells slots) (cA cC : ClassId) (n k : Nat) : ∀ i : Nat, Stand p l e R s m args below meth c (mT T cA cC n k i) (locs ++ (List.range i).map fun j => ⟨T.heap.size, j⟩) (cells + 1 + i) (slots + n + i * k)
  | 0 => by
    have h := X.pushed (mO cA T.heap.size n 0)
    rw [mO_size] at h
    simpa [mT] using h
  | i + 1 => by
    have Y := mT_stand X cA cC n k i
    obtain ⟨f1, f2, f3, f4, f5, f6⟩ := mT_facts T cA cC n k i
    have hlt : T.heap.size < (mT T cA cC n k i).heap.size := by omega
    have hb : ((mT T cA cC n k i).pushCell (mI cC k)).heap[T.heap.size]? = some (mO cA T.heap.size n i) := by rw [State.heap_pushCell_of_lt (h := hlt)]; exact f2
    have h := (Y.pushed (mI cC k)).stored hb i (.ref (T.heap.size + 1 + i))
    rw [mI_size, mO_step] at h
    have e2 : (locs ++ (List.range (i + 1)).map fun j => (⟨T.heap.size, j⟩ : Loc)) = (locs ++ (List.range i).map fun j => (⟨T.heap.size, j⟩ : Loc)) ++ [⟨T.heap.size, i⟩] := by simp [List.range_succ, List.append_assoc]
    rw [e2, show slots + n + (i + 1) * k = slots + n + i * k + k by rw [Nat.succ_mul]; omega]
    exact h
theorem over_B {args : Array Value} {s : State} (h : (Cond.arrayOver (.array .long)).before args s = true) : OvB s := by
  have e1 : (FieldType.array .long).toString = "[J" := by decide
  have e2 : "[" ++ (FieldType.array .long).toString = "[[J" := by decide
  simp only [Cond.before, Cond.holds, Cond.value, beq_iff_eq] at h
  cases hc : s.vm.findClass (FieldType.array .long).toString with
  | none => simp [hc] at h
  | some cC =>
    simp only [hc, Option.bind_some, Option.bind_eq_some_iff, Option.map_eq_some_iff] at h
    obtain ⟨cA, hi, kA, hk, hb⟩ := h
    obtain ⟨hlt, hp, -⟩ := Array.findIdx?_eq_some_iff_getElem.mp hi
    rw [(Array.getElem?_eq_some_iff.mp hk).2] at hp
    cases hkind : kA.kind with
    | array c2 ty =>
      rw [hkind] at hb hp
      simp at hb hp
      exact ⟨cC, cA, kA, by rw [← e1]; exact hc, hk, by rw [hkind, hp, hb.1], by rw [← e2]; exact hb.2⟩
    | _ => rw [hkind] at hb; simp at hb
theorem arrV_congr {cA : ClassId} {n : Nat} {f g : Nat → Value} (h : ∀ j, j < n → f j = g j) : arrV cA n f = arrV cA n g := by
  unfold arrV
  have : (Array.ofFn (n := n) fun j => f j.val) = Array.ofFn (n := n) fun j => g j.val := by
    congr 1
    funext j
    exact h j.val j.isLt
  rw [this]
set_option maxHeartbeats 1000000 in
theorem W_ma {H : Heap} {locs : List Loc} {cells slots : Nat} (hexec : p.tables.exec = Jvm.exec) {own : String} (hown : s.vm.findClass own = some m.cls) (hcl0 : (Cond.classLink own 18 "[[J").before args s = true) (hov : OvB s) (har : (Cond.arrayClass .long).before args s = true)
    {pc : Nat} {lm : Array Slot} {x y : Int32} {rest : List Value} (hdg : decode c.code pc = .ok (.multianewarray 18 2, 4)) (hx : ¬ x < 0) (hy : ¬ y < 0) (hbx : ix x * 8 ≤ 536870912) (hby : ix y * 8 ≤ 536870912) (hcells : cells + (1 + ix x) ≤ R.cells) (hslots : slots + (ix x + ix x * ix y) ≤ R.slots)
    (kk : ∀ (cA cC : ClassId) (H1 : Heap), s.vm.findClass "[[J" = some cA → ArrOfT s cA (.array .long) → s.vm.findClass "[J" = some cC → ArrOfT s cC .long → H1.size = H.size + 1 + ix x → H1[H.size]? = some (mO cA H.size (ix x) (ix x)) → (∀ a : Nat, a < H.size → H1[a]? = H[a]?) → (∀ j : Nat, j < ix x → H1[H.size + 1 + j]? = some (mI cC (ix y))) → W p l e R s m args below meth c H1 (locs ++ (List.range (ix x)).map fun j => ⟨H.size, j⟩) (cells + 1 + ix x) (slots + ix x + ix x * ix y) Q (F0 m (pc + 4) lm (.ref H.size :: rest))) : W p l e R s m args below meth c H locs cells slots Q (F0 m pc lm (.int y :: .int x :: rest)) := by
  intro T hT X
  subst hT
  unfold ix at *
  have hpl : e.platform.magicAccessors = ({} : Platform).magicAccessors := by rw [X.admits.platform]
  obtain ⟨cC, cA, kA, hcC, hkA, hA, hcA⟩ := hov
  obtain ⟨cC', kC, cc, hcC', hkC, hC⟩ := Cond.arrayClass_spec har
  have ecC : cC' = cC := Option.some.inj ((show s.vm.findClass "[J" = some cC' from hcC').symm.trans hcC)
  subst ecC
  obtain ⟨c0, hfc0, hcl⟩ := Cond.classLink_spec hown hcl0 e.platform hpl
  cases hcA.symm.trans hfc0
  obtain ⟨hg1, hw1, hr1⟩ := State.classEntry (e := e) X.warmed hcl
  generalize T.vm.noted m.cls 18 (.cls cA) = vm1 at hg1 hw1 hr1
  obtain ⟨kA1, hkA1, heA⟩ := hw1.alike.2.2 _ _ hkA
  obtain ⟨kC1, hkC1, heC⟩ := hw1.alike.2.2 _ _ hkC
  have hA1 : kA1.kind = .array cC' (.array .long) := by rw [heA]; exact hA
  have hC1 : kC1.kind = .array cc .long := by rw [heC]; exact hC
  have X1 := X.noted hw1
  obtain ⟨r1, r2⟩ := X.roomAbove hcells hslots
  have XF := mT_stand X1 cA cC' x.toNatClampNeg y.toNatClampNeg x.toNatClampNeg
  obtain ⟨f1, f2, f3, f4, f5, f6⟩ := mT_facts (T.setVm vm1) cA cC' x.toNatClampNeg y.toNatClampNeg x.toNatClampNeg
  have l1 : ¬ x.toNatClampNeg > e.platform.arrayLengthLimit := by rw [Launch.admits_arrayLengthLimit X.admits]; omega
  have l2 : ¬ x.toNatClampNeg * 4 > e.platform.maxHeapBytes := by rw [Launch.admits_maxHeapBytes X.admits]; omega
  have l3 : ¬ y.toNatClampNeg > e.platform.arrayLengthLimit := by rw [Launch.admits_arrayLengthLimit X.admits]; omega
  have l4 : ¬ y.toNatClampNeg * 8 > e.platform.maxHeapBytes := by rw [Launch.admits_maxHeapBytes X.admits]; omega
  obtain ⟨t, b1, b2⟩ := kk cA cC' (mT (T.setVm vm1) cA cC' x.toNatClampNeg y.toNatClampNeg x.toNatClampNeg).heap hcA (fun n z => ⟨fun k h => (by cases h), kA, hkA, cC', hA⟩) hcC (fun n z => ⟨fun k h => (by cases h), kC, hkC, cc, hC⟩) f1 f2 f5 f6 _ rfl XF
  refine ⟨t, ?_, b2⟩
  jvm_step X.here [hexec, hdg]
  simp only [multianewarray.sem, wp_bind', W.resolveClassAt_links (State.method?_setTop (F0 m pc lm (.int y :: .int x :: rest)) X.here.top) hg1]
  rw [W.popN, if_neg (by decide)]
  refine ⟨F0 m pc lm (.int y :: .int x :: rest), State.topJava?_setTop' (s := T.setVm vm1) _ X.here.top, [.int x, .int y], rest, rfl, rfl, ?_⟩
  simp only [List.mapM_cons, List.mapM_nil, wp_bind', wp_pure']
  refine wp_makeB (kA := kA1) (kC := kC1) (cC := cC') (cc := cc) hkA1 hA1 hkC1 hC1 hx hy l1 l2 l3 l4 (by show T.heap.size + 1 + _ ≤ _; omega) (by show T.slotsUsed + _ + _ ≤ _; omega) (fun d' acts' => ?_)
  have eS : ((T.setTop (F0 m pc lm (.int y :: .int x :: rest))).setVm vm1).setTop { F0 m pc lm (.int y :: .int x :: rest) with stack := rest } = (T.setVm vm1).setTop { F0 m pc lm (.int y :: .int x :: rest) with stack := rest } := by
    show ((T.setVm vm1).setTop _).setTop _ = _
    rw [State.setTop_setTop]
  rw [eS, mT_top]
  simp only [wp_bind', W.mark, W.pushRef, State.topJava?_setTop' _ XF.here.top, Option.some.injEq, exists_eq_left', State.setTop_setTop, State.heap_setTop]
  intro acts
  simp [jvm, XF.here.top]
  exact b1
theorem GB_ma {q : BI} {d : Nat} (hF : FB p R s m args c A q d) {pc : Nat} {x y : Int32} {ls : BL} {r : List BV} {w : BW} {nx cc ss : Nat} (hd : decode q.1.2.1 pc = .ok (.multianewarray 18 2, 4)) (hc6 : q.1.2.2.2.2.1 = 6) (hx0 : 0 < x.toInt) (hy0 : 0 ≤ y.toInt) (hbx : ix x * 8 ≤ 536870912) (hby : ix y * 8 ≤ 536870912) (hcc : cc + 1 + ix x ≤ q.2.1) (hss : ss + ix x + ix x * ix y ≤ q.2.2.1)
    (k : GB p l e R s m args below meth c Q D A ad0 kA0 nx0 q (pc + 4) ls (.inr (some nx) :: r) (w ++ (nx, .inr (5, ix x, nx + 1, [])) :: (List.range (ix x)).map (fun i => (nx + 1 + i, .inr (3, ix y, 0, [])))) (nx + 1 + ix x) (cc + 1 + ix x) (ss + ix x + ix x * ix y)) : GB p l e R s m args below meth c Q D A ad0 kA0 nx0 q pc ls (.inl y :: .inl x :: r) w nx cc ss := by
  obtain ⟨hx, hb, hml, hcl, hown, hts, hnw, hA, hcells, hslots, hfr, hlo⟩ := hF
  intro h1 h2 h3 h4 ad kA tys H locs lm a1 a2 a3 a4 a5 a6 a7
  have z0 : (0 : Int32).toInt = 0 := rfl
  have hxn : ¬ x < 0 := by rw [Int32.lt_iff_toInt_lt]; omega
  have hyn : ¬ y < 0 := by rw [Int32.lt_iff_toInt_lt]; omega
  have hN : 0 < ix x := by
    unfold ix
    simp only [Int32.toNatClampNeg]
    omega
  rw [hc6] at hown
  refine W_ma hx hown (hts _ (gw_of (p := bML) (by decide +kernel) (by decide +kernel))) hnw.2 (hts _ bAL_ok) (by rw [hb]; exact hd) hxn hyn hbx hby (by omega) (by omega) (fun cA cC H1 hfA hAA hfC hAC e1 e2 e3 e4 => ?_)
  generalize hNe : ix x = N at *
  generalize hKe : ix y = K at *
  -- the new numbers: nx is the outer array, nx + 1 + i the rows
  let adn : Nat → Nat := fun c => if c < nx then ad c else H.size + (c - nx)
  let kAn : Nat → ClassId := fun c => if c < nx then kA c else if c = nx then cA else cC
  have hg : agr nx ad adn kA kAn := fun c hc => ⟨if_pos hc, if_pos hc⟩
  have n0 : adn nx = H.size := by show (if nx < nx then _ else _) = _; rw [if_neg (by omega)]; omega
  have k0 : kAn nx = cA := by show (if nx < nx then _ else _) = _; rw [if_neg (by omega), if_pos rfl]
  have n1 : ∀ i : Nat, adn (nx + 1 + i) = H.size + 1 + i := fun i => by show (if nx + 1 + i < nx then _ else _) = _; rw [if_neg (by omega)]; omega
  have k1 : ∀ i : Nat, kAn (nx + 1 + i) = cC := fun i => by show (if nx + 1 + i < nx then _ else _) = _; rw [if_neg (by omega), if_neg (by omega)]
  let wn : BW := (nx, .inr (5, N, nx + 1, [])) :: (List.range N).map (fun i => (nx + 1 + i, .inr (3, K, 0, [])))
  have hold : ∀ (k : Nat) (q : Nat × va_E), (w.map (cbQ ad kA))[k]? = some q → H1[q.1]? = H[q.1]? := fun k q hk => e3 q.1 (a5 k q hk).lt
  have hwn : ∀ q ∈ wn, q = (nx, (.inr (5, N, nx + 1, []) : BE)) ∨ ∃ i, i < N ∧ q = (nx + 1 + i, (.inr (3, K, 0, []) : BE)) := by
    intro q hq
    rcases List.mem_cons.mp hq with h | h
    · exact Or.inl h
    · obtain ⟨i, hi, rfl⟩ := List.mem_map.mp h
      exact Or.inr ⟨i, List.mem_range.mp hi, rfl⟩
  have hPn : va_P D clsL (wn.map (cbQ adn kAn)) H1 := by
    intro j q hq
    obtain ⟨q0, hq0, rfl⟩ := List.mem_map.mp (List.mem_of_getElem? hq)
    rcases hwn q0 hq0 with rfl | ⟨i, hi, rfl⟩
    · show H1[adn nx]? = some (vp_cell (kAn nx) (N, .inr (.inr (.inr (.inr (fun i => some (adn (nx + 1 + i % N))))))))
      rw [n0, k0, e2, vp_cell_q]
      unfold mO
      congr 1
      apply arrV_congr
      intro j hj
      rw [if_pos hj, n1, Nat.mod_eq_of_lt hj]
      rfl
    · show H1[adn (nx + 1 + i)]? = some (vp_cell (kAn (nx + 1 + i)) (K, .inr (.inl (fun _ => 0))))
      rw [n1, k1, e4 i hi]
      rfl
  have hDn : va_D A (wn.map (cbQ adn kAn)) := by
    refine ⟨fun i j p q hi hj e => ?_, fun j q hq => ?_⟩
    · have key : ∀ (i : Nat) (p : Nat × va_E), (wn.map (cbQ adn kAn))[i]? = some p → p.1 = H.size + i := by
        intro i p hi
        rw [List.getElem?_map] at hi
        cases i with
        | zero =>
          cases hi
          exact n0
        | succ i =>
          have hw : wn[i + 1]? = ((List.range N).map (fun i => ((nx + 1 + i, .inr (3, K, 0, [])) : Nat × BE)))[i]? := rfl
          rw [hw, List.getElem?_map] at hi
          by_cases hiN : i < N
          · rw [List.getElem?_range hiN] at hi
            cases hi
            show adn (nx + 1 + i) = _
            rw [n1]; omega
          · rw [List.getElem?_eq_none (by rw [List.length_range]; omega)] at hi
            cases hi
      have := key i p hi
      have := key j q hj
      omega
    · obtain ⟨q0, hq0, rfl⟩ := List.mem_map.mp (List.mem_of_getElem? hq)
      have hs := a7.1
      rcases hwn q0 hq0 with rfl | ⟨i, hi, rfl⟩
      · exact hA _ (by show _ ≤ adn nx; rw [n0]; exact hs)
      · exact hA _ (by show _ ≤ adn (nx + 1 + i); rw [n1]; omega)
  have hW : (w ++ wn).map (cbQ adn kAn) = w.map (cbQ ad kA) ++ wn.map (cbQ adn kAn) := by rw [List.map_append, cbW_ext hg h3]
  have hP1 : va_P D clsL ((w ++ wn).map (cbQ adn kAn)) H1 := by
    rw [hW]
    exact (a5.kept hold).app hPn
  have hD1 : va_D A ((w ++ wn).map (cbQ adn kAn)) := by
    rw [hW]
    refine a6.app hDn (fun i j p q hi hj e => ?_)
    have h5 := (a5 i p hi).lt
    obtain ⟨q0, hq0, rfl⟩ := List.mem_map.mp (List.mem_of_getElem? hj)
    rcases hwn q0 hq0 with rfl | ⟨i, hi, rfl⟩
    · have : p.1 = adn nx := e
      rw [n0] at this; omega
    · have : p.1 = adn (nx + 1 + i) := e
      rw [n1] at this; omega
  have hgoal : F0 m (pc + 4) lm (.ref H.size :: r.map (cb ad)) = F0 m (pc + 4) lm ((.inr (some nx) :: r : List BV).map (cb adn)) := by
    rw [← cbs_ext hg (fun v hv => h2 v (List.mem_cons_of_mem _ (List.mem_cons_of_mem _ hv)))]
    show _ = F0 m (pc + 4) lm (.ref (adn nx) :: _)
    rw [n0]
  have hS1 : va_S A s.heap H1 (locs ++ (List.range N).map fun j => ⟨H.size, j⟩) := by
    refine ⟨by have := a7.1; omega, fun q hq1 hq2 => (e3 q (Nat.lt_of_lt_of_le hq1 a7.1)).trans (a7.2.1 q hq1 hq2), fun q hq => ?_⟩
    rcases List.mem_append.mp hq with h | h
    · exact a7.2.2 q h
    · obtain ⟨j, -, rfl⟩ := List.mem_map.mp h
      exact hA _ a7.1
  have hK1 : va_K D clsL (tys ++ [(cA, .array .long), (cC, .long)]) s := by
    refine a3.app ⟨a3.1, fun t q ht => ?_⟩
    match t, ht with
    | 0, ht => cases ht; exact ⟨hAA, hfA⟩
    | 1, ht => cases ht; exact ⟨hAC, hfC⟩
    | t + 2, ht => simp at ht
  have hr2 : (fun i => ((nx + 1 + i, .inr (3, K, 0, [])) : Nat × BE)) = (fun i => ((nx + 1 + i, .inr (3, K, 0, [])) : Nat × BE)) := rfl
  show W p l e R s m args below meth c H1 _ (cc + 1 + N) (ss + N + N * K) Q (F0 m (pc + 4) lm (.ref H.size :: r.map (cb ad)))
  rw [hgoal]
  refine k (fun v hv => (h1 v hv).up (by omega)) (fun v hv => ?_) (okBW_app (h3.up (by omega)) (fun q hq => ?_)) (by omega) adn kAn (tys ++ [(cA, .array .long), (cC, .long)]) H1 _ lm (a1.tra hg h4) (by rw [cbL_ext hg h1]; exact a2) hK1 (tysB_app (tysB_mono a4 (fun v hv => (hg v.1 (h3 v hv).1).2)) (fun q hq kd n b ov he => ?_)) hP1 hD1 hS1
  · rcases List.mem_cons.mp hv with rfl | hv
    · show nx < nx + 1 + N
      omega
    · exact (h2 v (List.mem_cons_of_mem _ (List.mem_cons_of_mem _ hv))).up (by omega)
  · rcases hwn q hq with rfl | ⟨i, hi, rfl⟩
    · exact ⟨by show nx < nx + 1 + N; omega, Or.inr ⟨hN, Nat.le_refl _⟩⟩
    · exact ⟨by show nx + 1 + i < nx + 1 + N; omega, Or.inl (Or.inr rfl)⟩
  · rcases hwn q hq with rfl | ⟨i, hi, rfl⟩
    · cases he
      exact ⟨tys.length, by rw [List.getElem?_append_right (Nat.le_refl _), Nat.sub_self, k0]; rfl⟩
    · cases he
      exact ⟨tys.length + 1, by rw [List.getElem?_append_right (by omega), show tys.length + 1 - tys.length = 1 by omega, k1]; rfl⟩
end BORN4
