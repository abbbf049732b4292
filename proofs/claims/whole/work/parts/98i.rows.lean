/-! the constructors' machine: rows of longs -/
/-- the outer array when i rows are in it, a row, and the states on the way -/
def mO (cA : ClassId) (h n i : Nat) : Cell := arrV cA n (fun j => if j < i then .ref (h + 1 + j) else .null)
def mI (cC : ClassId) (k : Nat) : Cell := arrV cC k (fun _ => .long 0)
theorem mO_step (cA : ClassId) (h n i : Nat) : (mO cA h n i).setSlot i (.ref (h + 1 + i)) = mO cA h n (i + 1) := by
  unfold mO
  rw [arrV_store]
  congr 1
  funext j
  unfold updV
  by_cases e : j = i
  · subst e
    rw [if_pos rfl, if_pos (Nat.lt_succ_self j)]
  · rw [if_neg e]
    dsimp only
    by_cases g : j < i
    · rw [if_pos g, if_pos (by omega)]
    · rw [if_neg g, if_neg (by omega)]
theorem mO_size (cA : ClassId) (h n i : Nat) : (mO cA h n i).slots.size = n := arrV_size _ _ _
theorem mI_size (cC : ClassId) (k : Nat) : (mI cC k).slots.size = k := arrV_size _ _ _
def mT (T : State) (cA cC : ClassId) (n k : Nat) : Nat → State
  | 0 => T.pushCell (mO cA T.heap.size n 0)
  | i + 1 => ((mT T cA cC n k i).pushCell (mI cC k)).setCell T.heap.size (mO cA T.heap.size n (i + 1))
theorem mT_facts (T : State) (cA cC : ClassId) (n k : Nat) : ∀ i : Nat, (mT T cA cC n k i).heap.size = T.heap.size + 1 + i ∧ (mT T cA cC n k i).heap[T.heap.size]? = some (mO cA T.heap.size n i) ∧ (mT T cA cC n k i).vm = T.vm ∧ (mT T cA cC n k i).slotsUsed = T.slotsUsed + n + i * k ∧ (∀ a : Nat, a < T.heap.size → (mT T cA cC n k i).heap[a]? = T.heap[a]?) ∧ ∀ j : Nat, j < i → (mT T cA cC n k i).heap[T.heap.size + 1 + j]? = some (mI cC k)
  | 0 => by
    refine ⟨by simp [mT], by simp [mT], rfl, by simp [mT, mO_size], fun a ha => State.heap_pushCell_of_lt _ _ ha, fun j hj => absurd hj (by omega)⟩
  | i + 1 => by
    obtain ⟨f1, f2, f3, f4, f5, f6⟩ := mT_facts T cA cC n k i
    have hlt : T.heap.size < (mT T cA cC n k i).heap.size := by omega
    have hb : ((mT T cA cC n k i).pushCell (mI cC k)).heap[T.heap.size]? = some (mO cA T.heap.size n i) := by rw [State.heap_pushCell_of_lt (h := hlt)]; exact f2
    refine ⟨?_, State.heap_setCell_self hb, by simp [mT, f3], ?_, fun a ha => ?_, fun j hj => ?_⟩
    · simp [mT, State.setCell, f1]; omega
    · simp [mT, f4, mI_size, Nat.succ_mul]; omega
    · show (((mT T cA cC n k i).pushCell (mI cC k)).setCell T.heap.size _).heap[a]? = _
      rw [State.heap_setCell_other (Nat.ne_of_gt ha), State.heap_pushCell_of_lt (h := Nat.lt_trans ha hlt)]
      exact f5 a ha
    · show (((mT T cA cC n k i).pushCell (mI cC k)).setCell T.heap.size _).heap[T.heap.size + 1 + j]? = _
      rw [State.heap_setCell_other (show T.heap.size ≠ T.heap.size + 1 + j by omega)]
      by_cases e : j < i
      · have hj2 : T.heap.size + 1 + j < (mT T cA cC n k i).heap.size := by rw [f1]; omega
        rw [State.heap_pushCell_of_lt (h := hj2)]
        exact f6 j e
      · have : j = i := by omega
        subst this
        rw [← f1]
        exact State.heap_pushCell_size _ _
theorem mT_top (T : State) (f : JFrame) (cA cC : ClassId) (n k : Nat) : ∀ i : Nat, mT (T.setTop f) cA cC n k i = (mT T cA cC n k i).setTop f
  | 0 => rfl
  | i + 1 => by simp only [mT, mT_top T f cA cC n k i, State.heap_setTop, State.pushCell_setTop, State.setCell_setTop]
section MA
variable {E : CtlPost} {e : Env} {d : Bool} {acts : List Action} {s : State}
theorem wp_newB {c comp : ClassId} {k : Class} {type : FieldType} {len : Nat} {init : Value} (hk : s.vm.classes[c]? = some k) (hkind : k.kind = .array comp type) (hl : ¬ len > e.platform.arrayLengthLimit) (hh : ¬ len * componentBytes type > e.platform.maxHeapBytes) (hfit : fits type init = true) (hdef : init.isDefault = true) {Q : Addr → Pre} (h1 : s.heap.size < e.platform.maxCells) (h2 : s.slotsUsed + len ≤ e.platform.maxSlots)
    (hq : Q s.heap.size d acts (s.pushCell (arrV c len (fun _ => init)))) : wp (Jvm.newArray c len init) Q E e d acts s := by
  have ha : allocActs (Array.replicate len init) s.heap.size acts = acts := by
    unfold allocActs
    rw [if_pos]
    rw [Array.all_replicate]
    split <;> simp [hdef]
  have hf : ∀ i v, (Array.replicate len init)[i]? = some v → s.fitsSlot c .none i v = true := by
    intro i v hv
    rw [Array.getElem?_replicate] at hv
    split at hv
    · cases hv
      simp [State.fitsSlot, State.slotType?, hk, hkind, hfit]
    · cases hv
  rw [← arrV_new] at hq
  simp only [Jvm.newArray, Jvm.arrayFits, wp_bind', W.ask, W.ite, hl, if_false, wp_pure', W.theClass, hk, hkind, hh, W.alloc, W.stop, Option.some.injEq, exists_eq_left', Array.size_replicate, ha]
  rw [if_neg (by omega)]
  exact ⟨h1, h2, hf, hq⟩
theorem wp_makeB {cA cC cc : ClassId} {kA kC : Class} {x y : Int32} (hkA : s.vm.classes[cA]? = some kA) (hA : kA.kind = .array cC (.array .long)) (hkC : s.vm.classes[cC]? = some kC) (hC : kC.kind = .array cc .long) (hx : ¬ x < 0) (hy : ¬ y < 0) (l1 : ¬ x.toNatClampNeg > e.platform.arrayLengthLimit) (l2 : ¬ x.toNatClampNeg * 4 > e.platform.maxHeapBytes) (l3 : ¬ y.toNatClampNeg > e.platform.arrayLengthLimit) (l4 : ¬ y.toNatClampNeg * 8 > e.platform.maxHeapBytes)
    (hc : s.heap.size + 1 + x.toNatClampNeg ≤ e.platform.maxCells) (hs : s.slotsUsed + x.toNatClampNeg + x.toNatClampNeg * y.toNatClampNeg ≤ e.platform.maxSlots) {Q : Addr → Pre} (hq : ∀ d' acts', Q s.heap.size d' acts' (mT s cA cC x.toNatClampNeg y.toNatClampNeg x.toNatClampNeg)) : wp (multianewarray.make cA [x, y]) Q E e d acts s := by
  have hf : ([y].find? (· < 0)) = none := by simp [hy]
  have hp := Nat.zero_le (x.toNatClampNeg * y.toNatClampNeg)
  rw [multianewarray.make]
  simp only [wp_bind', W.ite, hx, if_false, wp_pure', W.theClass, hkA, hA, Option.some.injEq, exists_eq_left']
  refine wp_newB hkA hA l1 l2 rfl rfl (by omega) (by omega) ?_
  simp only [hf]
  rw [ite_self, wp_bind', Std.Legacy.Range.forIn_eq_forIn_range']
  have hz : ([:x.toNatClampNeg] : Std.Legacy.Range).size = x.toNatClampNeg := by simp [Std.Legacy.Range.size]
  rw [hz]
  show wp (forIn (List.range' 0 x.toNatClampNeg 1) PUnit.unit _) _ E e d acts _
  refine wp_forIn_inv (fun rest s' => ∃ i, i ≤ x.toNatClampNeg ∧ rest = List.range' i (x.toNatClampNeg - i) ∧ s' = mT s cA cC x.toNatClampNeg y.toNatClampNeg i) _ _ ⟨0, Nat.zero_le _, rfl, ?_⟩ ?_ ?_
  · show _ = s.pushCell (mO cA s.heap.size x.toNatClampNeg 0)
    congr 1
  · rintro j rest s' d' acts' Q' ⟨i, hi, hl, rfl⟩ hnext
    cases hm : x.toNatClampNeg - i with
    | zero => rw [hm] at hl; simp at hl
    | succ r =>
      rw [hm, List.range'_succ] at hl
      obtain ⟨e1, e2⟩ := List.cons.inj hl
      subst e1
      obtain ⟨f1, f2, f3, f4, f5, f6⟩ := mT_facts s cA cC x.toNatClampNeg y.toNatClampNeg j
      have hmul : j * y.toNatClampNeg + y.toNatClampNeg ≤ x.toNatClampNeg * y.toNatClampNeg := by
        have := Nat.mul_le_mul_right y.toNatClampNeg (show j + 1 ≤ x.toNatClampNeg by omega)
        rw [Nat.succ_mul] at this; exact this
      simp only [wp_bind']
      rw [multianewarray.make]
      simp only [wp_bind', W.ite, hy, if_false, wp_pure', W.theClass, f3, hkC, hC, Option.some.injEq, exists_eq_left']
      refine wp_newB (by rw [f3]; exact hkC) hC l3 l4 rfl rfl (by rw [f1]; omega) (by rw [f4]; omega) ?_
      have hlt : s.heap.size < (mT s cA cC x.toNatClampNeg y.toNatClampNeg j).heap.size := by omega
      simp only [wp_bind', W.writeLoc, wp_pure']
      refine ⟨mO cA s.heap.size x.toNatClampNeg j, by rw [State.heap_pushCell_of_lt (h := hlt)]; exact f2, by simp [mO, arrV], by rw [mO_size]; omega, ?_, hnext _ _ _ ⟨j + 1, by omega, by rw [e2]; congr 1; omega, ?_⟩⟩
      · simp [State.fitsSlot, State.slotType?, mO, arrV, f3, hkA, hA]
        rfl
      · rw [f1, mO_step]; rfl
  · rintro s' d' acts' ⟨i, hi, hl, rfl⟩
    have hi2 : i = x.toNatClampNeg := by
      cases hm : x.toNatClampNeg - i with
      | zero => omega
      | succ r => rw [hm, List.range'_succ] at hl; cases hl
    subst hi2
    simp only [wp_pure']
    exact hq _ _
end MA
section BORN4
variable {p : Program} {l : Launch} {e : Env} {R : Room} {s : State} {m : MethodId} {args : Array Value} {below : List Frame} {meth : Method} {c : Code} {Q : State → Prop} {D : va_G} {A : Nat → Prop} {ad0 : Nat → Nat} {kA0 : Nat → ClassId} {nx0 : Nat}
theorem mT_stand {T : State} {locs : List Loc} {cells slots : Nat} (X : Stand p l e R s m args below meth c T locs cells slots) (cA cC : ClassId) (n k : Nat) : ∀ i : Nat, Stand p l e R s m args below meth c (mT T cA cC n k i) (locs ++ (List.range i).map fun j => ⟨T.heap.size, j⟩) (cells + 1 + i) (slots + n + i * k)
  | 0 => by
    have h := X.pushed (mO cA T.heap.size n 0)
    rw [mO_size] at h
    simpa [mT] using h
  | i + 1 => by
    have Y := mT_stand X cA cC n k i
    obtain ⟨f1, f2, f3, f4, f5, f6⟩ := mT_facts T cA cC n k i
    have hlt : T.heap.size < (mT T cA cC n k i).heap.size := by omega
    have hb : ((mT T cA cC n k i).pushCell (mI cC k)).heap[T.heap.size]? = some (mO cA T.heap.size n i) := by rw [State.heap_pushCell_of_lt (h := hlt)]; exact f2
    have h := (Y.pushed (mI cC k)).stored hb i (.ref (T.heap.size + 1 + i))
    rw [mI_size, mO_step] at h
    have e2 : (locs ++ (List.range (i + 1)).map fun j => (⟨T.heap.size, j⟩ : Loc)) = (locs ++ (List.range i).map fun j => (⟨T.heap.size, j⟩ : Loc)) ++ [⟨T.heap.size, i⟩] := by simp [List.range_succ, List.append_assoc]
    rw [e2, show slots + n + (i + 1) * k = slots + n + i * k + k by rw [Nat.succ_mul]; omega]
    exact h
theorem over_B {args : Array Value} {s : State} (h : (Cond.arrayOver (.array .long)).before args s = true) : ∃ cC cA kA, s.vm.findClass "[J" = some cC ∧ s.vm.classes[cA]? = some kA ∧ kA.kind = .array cC (.array .long) ∧ s.vm.findClass "[[J" = some cA := by
  have e1 : (FieldType.array .long).toString = "[J" := by decide
  have e2 : "[" ++ (FieldType.array .long).toString = "[[J" := by decide
  simp only [Cond.before, Cond.holds, Cond.value, beq_iff_eq] at h
  cases hc : s.vm.findClass (FieldType.array .long).toString with
  | none => simp [hc] at h
  | some cC =>
    simp only [hc, Option.bind_some, Option.bind_eq_some_iff, Option.map_eq_some_iff] at h
    obtain ⟨cA, hi, kA, hk, hb⟩ := h
    obtain ⟨hlt, hp, -⟩ := Array.findIdx?_eq_some_iff_getElem.mp hi
    rw [(Array.getElem?_eq_some_iff.mp hk).2] at hp
    cases hkind : kA.kind with
    | array c2 ty =>
      rw [hkind] at hb hp
      simp at hb hp
      exact ⟨cC, cA, kA, by rw [← e1]; exact hc, hk, by rw [hkind, hp, hb.1], by rw [← e2]; exact hb.2⟩
    | _ => rw [hkind] at hb; simp at hb
set_option maxHeartbeats 1000000 in
theorem W_ma {H : Heap} {locs : List Loc} {cells slots : Nat} (hexec : p.tables.exec = Jvm.exec) {own : String} (hown : s.vm.findClass own = some m.cls) (hcl0 : (Cond.classLink own 18 "[[J").before args s = true) (hov : (Cond.arrayOver (.array .long)).before args s = true) (har : (Cond.arrayClass .long).before args s = true)
    {pc : Nat} {lm : Array Slot} {x y : Int32} {rest : List Value} (hdg : decode c.code pc = .ok (.multianewarray 18 2, 4)) (hx : ¬ x < 0) (hy : ¬ y < 0) (hbx : ix x * 8 ≤ 536870912) (hby : ix y * 8 ≤ 536870912) (hcells : cells + (1 + ix x) ≤ R.cells) (hslots : slots + (ix x + ix x * ix y) ≤ R.slots)
    (kk : ∀ (cA cC : ClassId) (H1 : Heap), s.vm.findClass "[[J" = some cA → ArrOfT s cA (.array .long) → s.vm.findClass "[J" = some cC → ArrOfT s cC .long → H1.size = H.size + 1 + ix x → H1[H.size]? = some (mO cA H.size (ix x) (ix x)) → (∀ a : Nat, a < H.size → H1[a]? = H[a]?) → (∀ j : Nat, j < ix x → H1[H.size + 1 + j]? = some (mI cC (ix y))) → W p l e R s m args below meth c H1 (locs ++ (List.range (ix x)).map fun j => ⟨H.size, j⟩) (cells + 1 + ix x) (slots + ix x + ix x * ix y) Q (F0 m (pc + 4) lm (.ref H.size :: rest))) : W p l e R s m args below meth c H locs cells slots Q (F0 m pc lm (.int y :: .int x :: rest)) := by
  intro T hT X
  subst hT
  unfold ix at *
  have hpl : e.platform.magicAccessors = ({} : Platform).magicAccessors := by rw [X.admits.platform]
  obtain ⟨cC, cA, kA, hcC, hkA, hA, hcA⟩ := over_B hov
  obtain ⟨cC', kC, cc, hcC', hkC, hC⟩ := Cond.arrayClass_spec har
  have ecC : cC' = cC := Option.some.inj ((show s.vm.findClass "[J" = some cC' from hcC').symm.trans hcC)
  subst ecC
  obtain ⟨c0, hfc0, hcl⟩ := Cond.classLink_spec hown hcl0 e.platform hpl
  cases hcA.symm.trans hfc0
  obtain ⟨hg1, hw1, hr1⟩ := State.classEntry (e := e) X.warmed hcl
  generalize T.vm.noted m.cls 18 (.cls cA) = vm1 at hg1 hw1 hr1
  obtain ⟨kA1, hkA1, heA⟩ := hw1.alike.2.2 _ _ hkA
  obtain ⟨kC1, hkC1, heC⟩ := hw1.alike.2.2 _ _ hkC
  have hA1 : kA1.kind = .array cC' (.array .long) := by rw [heA]; exact hA
  have hC1 : kC1.kind = .array cc .long := by rw [heC]; exact hC
  have X1 := X.noted hw1
  obtain ⟨r1, r2⟩ := X.roomAbove hcells hslots
  have XF := mT_stand X1 cA cC' x.toNatClampNeg y.toNatClampNeg x.toNatClampNeg
  obtain ⟨f1, f2, f3, f4, f5, f6⟩ := mT_facts (T.setVm vm1) cA cC' x.toNatClampNeg y.toNatClampNeg x.toNatClampNeg
  have l1 : ¬ x.toNatClampNeg > e.platform.arrayLengthLimit := by rw [Launch.admits_arrayLengthLimit X.admits]; omega
  have l2 : ¬ x.toNatClampNeg * 4 > e.platform.maxHeapBytes := by rw [Launch.admits_maxHeapBytes X.admits]; omega
  have l3 : ¬ y.toNatClampNeg > e.platform.arrayLengthLimit := by rw [Launch.admits_arrayLengthLimit X.admits]; omega
  have l4 : ¬ y.toNatClampNeg * 8 > e.platform.maxHeapBytes := by rw [Launch.admits_maxHeapBytes X.admits]; omega
  obtain ⟨t, b1, b2⟩ := kk cA cC' (mT (T.setVm vm1) cA cC' x.toNatClampNeg y.toNatClampNeg x.toNatClampNeg).heap hcA (fun n z => ⟨fun k h => (by cases h), kA, hkA, cC', hA⟩) hcC (fun n z => ⟨fun k h => (by cases h), kC, hkC, cc, hC⟩) f1 f2 f5 f6 _ rfl XF
  refine ⟨t, ?_, b2⟩
  jvm_step X.here [hexec, hdg]
  simp only [multianewarray.sem, wp_bind', W.resolveClassAt_links (State.method?_setTop (F0 m pc lm (.int y :: .int x :: rest)) X.here.top) hg1]
  rw [W.popN, if_neg (by decide)]
  refine ⟨F0 m pc lm (.int y :: .int x :: rest), State.topJava?_setTop' (s := T.setVm vm1) _ X.here.top, [.int x, .int y], rest, rfl, rfl, ?_⟩
  simp only [List.mapM_cons, List.mapM_nil, wp_bind', wp_pure']
  refine wp_makeB (kA := kA1) (kC := kC1) (cC := cC') (cc := cc) hkA1 hA1 hkC1 hC1 hx hy l1 l2 l3 l4 (by show T.heap.size + 1 + _ ≤ _; omega) (by show T.slotsUsed + _ + _ ≤ _; omega) (fun d' acts' => ?_)
  have eS : ((T.setTop (F0 m pc lm (.int y :: .int x :: rest))).setVm vm1).setTop { F0 m pc lm (.int y :: .int x :: rest) with stack := rest } = (T.setVm vm1).setTop { F0 m pc lm (.int y :: .int x :: rest) with stack := rest } := by
    show ((T.setVm vm1).setTop _).setTop _ = _
    rw [State.setTop_setTop]
  rw [eS, mT_top]
  simp only [wp_bind', W.mark, W.pushRef, State.topJava?_setTop' _ XF.here.top, Option.some.injEq, exists_eq_left', State.setTop_setTop, State.heap_setTop]
  intro acts
  simp [jvm, XF.here.top]
  exact b1
theorem GB_ma {q : BI} {d : Nat} (hF : FB p R s m args c A q d) {pc : Nat} {x y : Int32} {ls : BL} {r : List BV} {w : BW} {nx cc ss : Nat} (hd : decode q.1.2.1 pc = .ok (.multianewarray 18 2, 4)) (hc6 : q.1.2.2.2.2.1 = 6) (hx0 : 0 < x.toInt) (hy0 : 0 ≤ y.toInt) (hbx : ix x * 8 ≤ 536870912) (hby : ix y * 8 ≤ 536870912) (hcc : cc + 1 + ix x ≤ q.2.1) (hss : ss + ix x + ix x * ix y ≤ q.2.2.1)
    (k : GB p l e R s m args below meth c Q D A ad0 kA0 nx0 q (pc + 4) ls (.inr (some nx) :: r) (w ++ (nx, .inr (5, ix x, nx + 1, [])) :: (List.range (ix x)).map (fun i => (nx + 1 + i, .inr (3, ix y, 0, [])))) (nx + 1 + ix x) (cc + 1 + ix x) (ss + ix x + ix x * ix y)) : GB p l e R s m args below meth c Q D A ad0 kA0 nx0 q pc ls (.inl y :: .inl x :: r) w nx cc ss := by
  sorry
end BORN4
