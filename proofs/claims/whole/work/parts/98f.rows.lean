/-! what the constructors' machine does, the kit's machine does -/
def ovf (ov : List (Nat × Int32)) : Nat → Int32 := fun i => (lk ov i).getD 0
theorem ovf_put (ov : List (Nat × Int32)) (i : Nat) (x : Int32) : upd (ovf ov) i x = ovf ((i, x) :: ov) := by
  funext j
  unfold upd ovf
  by_cases e : j = i
  · subst e
    rw [if_pos rfl]
    show x = ((bif Nat.beq j j then some x else lk ov j).getD 0)
    rw [Nat.beq_refl]; rfl
  · rw [if_neg e]
    show _ = ((bif Nat.beq i j then some x else lk ov j).getD 0)
    have : Nat.beq i j = false := by
      cases hb : Nat.beq i j with
      | false => rfl
      | true => exact absurd (Nat.eq_of_beq_eq_true hb).symm e
    rw [this]; rfl
def cbE (ad : Nat → Nat) (kA : Nat → ClassId) (c : Nat) (e : BE) : va_E := match e with
  | .inl (ci, fs) => .inr (ci, fs.map (cb ad))
  | .inr (2, n, _, ov) => .inl (kA c, n, .inl (ovf ov))
  | .inr (3, n, _, _) => .inl (kA c, n, .inr (.inl (fun _ => 0)))
  | .inr (_, n, b, _) => .inl (kA c, n, .inr (.inr (.inr (.inr (fun i => some (ad (b + i % n)))))))
def cbQ (ad : Nat → Nat) (kA : Nat → ClassId) (q : Nat × BE) : Nat × va_E := (ad q.1, cbE ad kA q.1 q.2)
def cbL (ad : Nat → Nat) (q : Nat × BV) : Nat × Value := (q.1, cb ad q.2)
def okBV (nx : Nat) (v : BV) : Prop := match v with
  | .inr (some c) => c < nx
  | _ => True
def okBE (nx : Nat) (e : BE) : Prop := match e with
  | .inl (_, fs) => ∀ v ∈ fs, okBV nx v
  | .inr (k, n, b, _) => (k = 2 ∨ k = 3) ∨ (0 < n ∧ b + n ≤ nx)
def okBW (nx : Nat) (w : BW) : Prop := ∀ q ∈ w, q.1 < nx ∧ okBE nx q.2
theorem okBV.up {nx n' : Nat} {v : BV} (h : okBV nx v) (hn : nx ≤ n') : okBV n' v := by
  rcases v with x | _ | c
  · trivial
  · trivial
  · exact Nat.lt_of_lt_of_le (h : c < nx) hn
theorem okBE.up {nx n' : Nat} {e : BE} (h : okBE nx e) (hn : nx ≤ n') : okBE n' e := by
  rcases e with ⟨ci, fs⟩ | ⟨k, n, b, ov⟩
  · exact fun v hv => (h v hv).up hn
  · rcases (h : (k = 2 ∨ k = 3) ∨ (0 < n ∧ b + n ≤ nx)) with h | ⟨h1, h2⟩
    · exact Or.inl h
    · exact Or.inr ⟨h1, by omega⟩
theorem okBW.up {nx n' : Nat} {w : BW} (h : okBW nx w) (hn : nx ≤ n') : okBW n' w := fun q hq => ⟨by have := (h q hq).1; omega, (h q hq).2.up hn⟩
def agr (nx : Nat) (ad ad' : Nat → Nat) (kA kA' : Nat → ClassId) : Prop := ∀ c, c < nx → ad' c = ad c ∧ kA' c = kA c
theorem cb_ext {nx : Nat} {ad ad' : Nat → Nat} {kA kA' : Nat → ClassId} (h : agr nx ad ad' kA kA') {v : BV} (hv : okBV nx v) : cb ad' v = cb ad v := by
  rcases v with x | _ | c
  · rfl
  · rfl
  · show Value.ref (ad' c) = .ref (ad c)
    rw [(h c hv).1]
theorem cbs_ext {nx : Nat} {ad ad' : Nat → Nat} {kA kA' : Nat → ClassId} (h : agr nx ad ad' kA kA') {st : List BV} (hv : ∀ v ∈ st, okBV nx v) : st.map (cb ad') = st.map (cb ad) := List.map_congr_left (fun v hm => cb_ext h (hv v hm))
theorem cbE_ext {nx : Nat} {ad ad' : Nat → Nat} {kA kA' : Nat → ClassId} (h : agr nx ad ad' kA kA') {c : Nat} (hc : c < nx) {e : BE} (he : okBE nx e) : cbE ad' kA' c e = cbE ad kA c e := by
  rcases e with ⟨ci, fs⟩ | ⟨k, n, b, ov⟩
  · show Sum.inr (ci, fs.map (cb ad')) = Sum.inr (ci, fs.map (cb ad))
    rw [cbs_ext h he]
  · have hk := (h c hc).2
    by_cases k2 : k = 2
    · subst k2
      show Sum.inl (kA' c, _) = Sum.inl (kA c, _)
      rw [hk]
    · by_cases k3 : k = 3
      · subst k3
        show Sum.inl (kA' c, _) = Sum.inl (kA c, _)
        rw [hk]
      · obtain ⟨h1, h2⟩ : 0 < n ∧ b + n ≤ nx := (he : (k = 2 ∨ k = 3) ∨ (0 < n ∧ b + n ≤ nx)).resolve_left (by omega)
        have e1 : ∀ (a : Nat → Nat) (K : Nat → ClassId), cbE a K c (.inr (k, n, b, ov)) = .inl (K c, n, .inr (.inr (.inr (.inr (fun i => some (a (b + i % n))))))) := by
          intro a K
          match k, k2, k3 with
          | 0, _, _ => rfl
          | 1, _, _ => rfl
          | 2, z, _ => exact absurd rfl z
          | 3, _, z => exact absurd rfl z
          | k + 4, _, _ => rfl
        rw [e1, e1, hk]
        have : (fun i => some (ad' (b + i % n))) = (fun i => some (ad (b + i % n))) := by
          funext i
          have := Nat.mod_lt i h1
          rw [(h (b + i % n) (by omega)).1]
        rw [this]
theorem cbW_ext {nx : Nat} {ad ad' : Nat → Nat} {kA kA' : Nat → ClassId} (h : agr nx ad ad' kA kA') {w : BW} (hw : okBW nx w) : w.map (cbQ ad' kA') = w.map (cbQ ad kA) := List.map_congr_left (fun q hq => by
  obtain ⟨h1, h2⟩ := hw q hq
  show (ad' q.1, cbE ad' kA' q.1 q.2) = (ad q.1, cbE ad kA q.1 q.2)
  rw [(h q.1 h1).1, cbE_ext h h1 h2])
theorem cbL_ext {nx : Nat} {ad ad' : Nat → Nat} {kA kA' : Nat → ClassId} (h : agr nx ad ad' kA kA') {ls : BL} (hl : ∀ q ∈ ls, okBV nx q.2) : ls.map (cbL ad') = ls.map (cbL ad) := List.map_congr_left (fun q hq => by
  show (q.1, cb ad' q.2) = (q.1, cb ad q.2)
  rw [cb_ext h (hl q hq)])
def tyk (k : Nat) : FieldType := match k with
  | 2 => .int
  | 3 => .long
  | _ => .array .long
def tysB (kA : Nat → ClassId) (tys : List (ClassId × FieldType)) (w : BW) : Prop := ∀ q ∈ w, ∀ k n b ov, q.2 = .inr (k, n, b, ov) → ∃ t : Nat, tys[t]? = some (kA q.1, tyk k)
theorem ixB_get : ∀ {w : BW} {a : Nat} {r : Nat × BE}, ixB w a = some r → w[r.1]? = some (a, r.2)
  | [], _, _, h => by cases h
  | (c, e) :: t, a, r, h => by
    have h : (bif Nat.beq c a then some (0, e) else match ixB t a with
      | some (i, x) => some (i + 1, x)
      | none => none) = some r := h
    cases hb : Nat.beq c a with
    | true =>
      rw [hb] at h
      cases h
      rw [Nat.eq_of_beq_eq_true hb]; rfl
    | false =>
      rw [hb] at h
      cases hx : ixB t a with
      | none => rw [hx] at h; cases h
      | some z =>
        obtain ⟨i, x⟩ := z
        rw [hx] at h
        cases h
        exact ixB_get (w := t) (r := (i, x)) hx
theorem bI1_inv {st : List BV} {f : Int32 → List BV → BR} {z : BW × Nat} (h : bI1 st f = some z) : ∃ x r, st = .inl x :: r ∧ f x r = some z := match st, h with
  | .inl x :: r, h => ⟨x, r, rfl, h⟩
theorem bR1_inv {st : List BV} {f : Nat → List BV → BR} {z : BW × Nat} (h : bR1 st f = some z) : ∃ x r, st = .inr (some x) :: r ∧ f x r = some z := match st, h with
  | .inr (some x) :: r, h => ⟨x, r, rfl, h⟩
theorem bV1_inv {st : List BV} {f : BV → List BV → BR} {z : BW × Nat} (h : bV1 st f = some z) : ∃ x r, st = x :: r ∧ f x r = some z := match st, h with
  | x :: r, h => ⟨x, r, rfl, h⟩
theorem bO1_inv {α : Type} {o : Option α} {f : α → BR} {z : BW × Nat} (h : bO1 o f = some z) : ∃ x, o = some x ∧ f x = some z := match o, h with
  | some x, h => ⟨x, rfl, h⟩
theorem bObj_inv {e : BE} {f : Nat → List BV → BR} {z : BW × Nat} (h : bObj e f = some z) : ∃ ci fs, e = .inl (ci, fs) ∧ f ci fs = some z := match e, h with
  | .inl (ci, fs), h => ⟨ci, fs, rfl, h⟩
theorem bArr_inv {e : BE} {f : Nat → Nat → List (Nat × Int32) → BR} {z : BW × Nat} (h : bArr e f = some z) : ∃ n b ov, e = .inr (2, n, b, ov) ∧ f n b ov = some z := match e, h with
  | .inr (2, n, b, ov), h => ⟨n, b, ov, rfl, h⟩
theorem bt_inv {b : Bool} {y : BR} {z : BW × Nat} (h : (bif b then y else none) = some z) : b = true ∧ y = some z := match b, h with
  | true, h => ⟨rfl, h⟩
theorem jpB_inv {pc : Nat} {off : Int} {f : Nat → BR} {z : BW × Nat} (h : jpB pc off f = some z) : ∃ t : Nat, (pc : Int) + off = (t : Int) ∧ f t = some z := by
  unfold jpB at h
  split at h
  · next t ht => exact ⟨t, ht, h⟩
  · cases h
/-- the class of arrays of arrays of longs is there -/
def OvB (U : State) : Prop := ∃ cC cA kA, U.vm.findClass "[J" = some cC ∧ U.vm.classes[cA]? = some kA ∧ kA.kind = .array cC (.array .long) ∧ U.vm.findClass "[[J" = some cA
theorem OvB.moved {u U : State} (hvm : u.vm.Alike U.vm) (h : OvB u) : OvB U := by
  obtain ⟨cC, cA, kA, h1, h2, h3, h4⟩ := h
  obtain ⟨k', hk', he⟩ := hvm.2.2 _ _ h2
  exact ⟨cC, cA, k', by rw [hvm.findClass]; exact h1, hk', by rw [he]; exact h3, by rw [hvm.findClass]; exact h4⟩
def NwB (U : State) : Prop := (∀ w ∈ nwL, va_Nw w U) ∧ OvB U
section BORN
variable {p : Program} {l : Launch} {e : Env} {R : Room} {s : State} {m : MethodId} {args : Array Value} {below : List Frame} {meth : Method} {c : Code} {Q : State → Prop} {D : va_G} {A : Nat → Prop} {ad0 : Nat → Nat} {kA0 : Nat → ClassId} {nx0 : Nat}
/-- what stays the same in a frame -/
def FB (p : Program) (R : Room) (s : State) (m : MethodId) (args : Array Value) (c : Code) (A : Nat → Prop) (q : BI) (d : Nat) : Prop :=
  p.tables.exec = Jvm.exec ∧ c.code = q.1.2.1 ∧ c.maxLocals = q.1.2.2.1 ∧ q.1.2.2.2.2.1 < 17 ∧ s.vm.findClass (cn q.1.2.2.2.2.1) = some m.cls ∧ (∀ w ∈ gw, w.before args s = true) ∧ NwB s ∧ (∀ a : Nat, s.heap.size ≤ a → A a) ∧ q.2.1 ≤ R.cells ∧ q.2.2.1 ≤ R.slots ∧ d + 1 ≤ R.frames ∧ 64 * (d + 1) ≤ R.locals
/-- the goal at a place -/
def GB (p : Program) (l : Launch) (e : Env) (R : Room) (s : State) (m : MethodId) (args : Array Value) (below : List Frame) (meth : Method) (c : Code) (Q : State → Prop) (D : va_G) (A : Nat → Prop) (ad0 : Nat → Nat) (kA0 : Nat → ClassId) (nx0 : Nat) (q : BI) (pc : Nat) (ls : BL) (st : List BV) (w : BW) (nx cc ss : Nat) : Prop :=
  (∀ x ∈ ls, okBV nx x.2) → (∀ v ∈ st, okBV nx v) → okBW nx w → nx0 ≤ nx → ∀ (ad : Nat → Nat) (kA : Nat → ClassId) (tys : List (ClassId × FieldType)) (H : Heap) (locs : List Loc) (lm : Array Slot), agr nx0 ad0 ad kA0 kA → lv_has lm q.1.2.2.1 (ls.map (cbL ad)) → va_K D clsL tys s → tysB kA tys w → va_P D clsL (w.map (cbQ ad kA)) H → va_D A (w.map (cbQ ad kA)) → va_S A s.heap H locs → W p l e R s m args below meth c H locs cc ss Q (F0 m pc lm (st.map (cb ad)))
theorem GB_1 {q : BI} {pc n : Nat} {ls : BL} {st st' : List BV} {w : BW} {nx cc ss : Nat} (k : GB p l e R s m args below meth c Q D A ad0 kA0 nx0 q n ls st' w nx cc ss) (hs : (∀ v ∈ st, okBV nx v) → ∀ v ∈ st', okBV nx v)
    (row : ∀ (ad : Nat → Nat) (H : Heap) (locs : List Loc) (lm : Array Slot), W p l e R s m args below meth c H locs cc ss Q (F0 m n lm (st'.map (cb ad))) → W p l e R s m args below meth c H locs cc ss Q (F0 m pc lm (st.map (cb ad)))) : GB p l e R s m args below meth c Q D A ad0 kA0 nx0 q pc ls st w nx cc ss :=
  fun h1 h2 h3 h4 ad kA tys H locs lm a1 a2 a3 a4 a5 a6 a7 => row ad H locs lm (k h1 (hs h2) h3 h4 ad kA tys H locs lm a1 a2 a3 a4 a5 a6 a7)
theorem GB_ld {q : BI} {pc n : Nat} {ls : BL} {st : List BV} {v : BV} {w : BW} {nx cc ss j : Nat} (hj : lk ls j = some v) (k : GB p l e R s m args below meth c Q D A ad0 kA0 nx0 q n ls (v :: st) w nx cc ss)
    (row : ∀ (ad : Nat → Nat) (H : Heap) (locs : List Loc) (lm : Array Slot), lm[j]? = some (.val (cb ad v)) → W p l e R s m args below meth c H locs cc ss Q (F0 m n lm (cb ad v :: st.map (cb ad))) → W p l e R s m args below meth c H locs cc ss Q (F0 m pc lm (st.map (cb ad)))) : GB p l e R s m args below meth c Q D A ad0 kA0 nx0 q pc ls st w nx cc ss := by
  intro h1 h2 h3 h4 ad kA tys H locs lm a1 a2 a3 a4 a5 a6 a7
  have hm := lk_mem hj
  refine row ad H locs lm (a2.2.2 (j, cb ad v) (List.mem_map.mpr ⟨(j, v), hm, rfl⟩)) (k h1 (fun x hx => ?_) h3 h4 ad kA tys H locs lm a1 a2 a3 a4 a5 a6 a7)
  rcases List.mem_cons.mp hx with rfl | hx
  · exact h1 (j, x) hm
  · exact h2 x hx
theorem lsB_map {ad : Nat → Nat} {ls : BL} {j : Nat} {v : BV} : (j, cb ad v) :: (ls.map (cbL ad)).filter (fun q => !(q.1 == j) && !(q.1 + 1 == j && q.2.category == 2)) = (lsB ls j v).map (cbL ad) := by
  unfold lsB
  rw [List.map_cons]
  congr 1
  rw [List.filter_map]
  congr 1
  apply List.filter_congr
  intro x hx
  have : (cb ad x.2).category = 1 := by rcases x.2 with y | _ | y <;> rfl
  show (!(x.1 == j) && !(x.1 + 1 == j && (cb ad x.2).category == 2)) = !(x.1 == j)
  rw [this]
  simp
theorem lsB_ok {nx : Nat} {ls : BL} {j : Nat} {v : BV} (h : ∀ x ∈ ls, okBV nx x.2) (hv : okBV nx v) : ∀ x ∈ lsB ls j v, okBV nx x.2 := by
  intro x hx
  rcases List.mem_cons.mp hx with rfl | hx
  · exact hv
  · exact h x (List.mem_filter.mp hx).1
end BORN
