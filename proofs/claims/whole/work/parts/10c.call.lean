/-! calls of our methods on the kit's machine -/
def AA (ad : Nat → Nat) : Nat → Prop := fun a => ∃ r ∈ cellsL, a = ad r.1
def roA (adR : Nat → Nat) (E : Nat × (Nat → Int32)) (A : Nat → Prop) (U : State) (H : Heap) : Prop := (∀ a : Nat, a < 3 → va_T .int (adR a) (roN E a) (fun i => .int (roV E a i)) A U H) ∧ va_Z (cn 0) "BODIES" "[I" (.ref (adR 2)) A U H ∧ va_Z (cn 0) "ABOVE" "[I" (.ref (adR 1)) A U H
theorem roA.moved {adR : Nat → Nat} {E : Nat × (Nat → Int32)} {A : Nat → Prop} {u U : State} {H : Heap} (hvm : u.vm.Alike U.vm) (h : roA adR E A u H) : roA adR E A U H := ⟨fun a ha => (h.1 a ha).moved hvm, h.2.1.moved hvm, h.2.2.moved hvm⟩
theorem roA.kept {adR : Nat → Nat} {E : Nat × (Nat → Int32)} {A : Nat → Prop} {U : State} {H H1 : Heap} (h : roA adR E A U H) (hq : ∀ a : Nat, a < H.size → ¬ A a → H1[a]? = H[a]?) : roA adR E A U H1 := ⟨fun a ha => (h.1 a ha).kept hq, h.2.1.kept hq, h.2.2.kept hq⟩
theorem roA.narrow {adR : Nat → Nat} {E : Nat × (Nat → Int32)} {A B : Nat → Prop} {U : State} {H : Heap} (h : roA adR E A U H) (hAB : ∀ q, B q → A q) : roA adR E B U H := ⟨fun a ha => (h.1 a ha).narrow hAB, h.2.1.narrow hAB, h.2.2.narrow hAB⟩
def PcO (D : va_G) (ad adR : Nat → Nat) (kA : Nat → ClassId) (tys : List (ClassId × FieldType)) (E : Nat × (Nat → Int32)) (as : List PV) (σ : PS) : Array Value → State → Prop := va_Pc (as.map (cv ad adR)) (fun U => va_P D clsL (wsO ad kA σ) U.heap ∧ va_K D clsL tys U ∧ (∀ w ∈ nwL, va_Nw w U) ∧ roA adR E (AA ad) U U.heap)
def QcO (D : va_G) (ad adR : Nat → Nat) (kA : Nat → ClassId) (E : Nat × (Nat → Int32)) (r : Option PV) (σ : PS) : Array Value → State → Outcome → State → Prop := fun _ st oc t => (oc = .returned (r.map (cv ad adR)) ∧ okO E r ∧ va_P D clsL (wsO ad kA σ) t.heap) ∧ va_F (AA ad) st t
def rmO (d : Nat) : Room := { frames := d, cells := 0, slots := 0, locals := 64 * d }
def wsM (q : MI) : List Cond := Cond.code q.1 q.2.1 q.2.2.1 q.2.2.2.1 :: gw
def CallsOk (l : Launch) (D : va_G) (ad adR : Nat → Nat) (kA : Nat → ClassId) (tys : List (ClassId × FieldType)) (E : Nat × (Nat → Int32)) (d F : Nat) : Prop := ∀ (y : Nat) (q : MI) (as : List PV) (σ : PS) (r : Option PV) (σ' : PS), mt0[y]? = some q → evM E d F y as σ = some (r, σ') → okS E as → ∃ d', d = d' + 1 ∧ Met l q.1 (wsM q) (rmO d') (PcO D ad adR kA tys E as σ) (QcO D ad adR kA E r σ') 0 0 (AA ad)
theorem nw_warm {s U : State} (hW : s.WarmedH U.vm) (h : ∀ w ∈ nwL, va_Nw w s) : ∀ w ∈ nwL, va_Nw w U := by
  intro w hw
  have h1 := h w hw
  have h2 := (List.mem_filter.mp hw).2
  cases w <;> first | exact va_Nw.warmF hW h1 | exact va_Nw.warmM hW h1 | cases h2
theorem nw_same {u U : State} (hv : u.vm = U.vm) (h : ∀ w ∈ nwL, va_Nw w u) : ∀ w ∈ nwL, va_Nw w U := by
  intro w hw
  have h1 := h w hw
  have h2 := (List.mem_filter.mp hw).2
  cases w <;> first | exact va_Nw.same rfl hv h1 | cases h2
theorem PcO_blind {D : va_G} {ad adR : Nat → Nat} {kA : Nat → ClassId} {tys : List (ClassId × FieldType)} {E : Nat × (Nat → Int32)} {as : List PV} {σ : PS} : FrameBlind (PcO D ad adR kA tys E as σ) := by
  intro a U g mk q
  obtain ⟨h0, h1, h2, h3, h4⟩ := q
  exact ⟨h0, h1, va_K.moved (u := U) (U := U.calling g mk a) (Vm.Alike.refl U.vm) h2, nw_same (u := U) (U := U.calling g mk a) rfl h3, roA.moved (u := U) (U := U.calling g mk a) (Vm.Alike.refl U.vm) h4⟩
theorem goodM {q : MI} {p1 : Nat} (h : lw_tbl[p1]? = some (Cond.code q.1 q.2.1 q.2.2.1 q.2.2.2.1)) : GoodIn gw (wsM q) := by
  intro w hw
  rcases List.mem_cons.mp hw with rfl | hw
  · have hg : goodWord (Cond.code q.1 q.2.1 q.2.2.1 q.2.2.2.1) = true := rfl
    exact ⟨gw_of h hg, good_of_word hg⟩
  · exact ⟨hw, good_of_word (List.mem_filter.mp hw).2⟩
section PMC
variable {p : Program} {l : Launch} {e : Env} {R : Room} {s : State} {m : MethodId} {args : Array Value} {below : List Frame} {meth : Method} {c : Code} {H : Heap} {locs : List Loc} {cells slots : Nat} {Q : State → Prop} {D : va_G} {ad adR : Nat → Nat} {kA : Nat → ClassId} {tys : List (ClassId × FieldType)} {E : Nat × (Nat → Int32)} {A : Nat → Prop}
theorem pm_call {r : Option PV} {σ' : PS} {pc : Nat} {ls : Array Slot} {st0 rest : List Value} {a : Array Value} (hr : va_Run p l e R s m args below meth c H locs cells slots 0 0 (F0 m pc ls st0) rest (QcO D ad adR kA E r σ' a) (AA ad)) (hS : va_S A s.heap H locs) (hA : ∀ q, AA ad q → A q)
    (kk : ∀ (H1 : Heap) (locs1 : List Loc), okO E r → va_P D clsL (wsO ad kA σ') H1 → va_S A s.heap H1 locs1 → W p l e R s m args below meth c H1 locs1 cells slots Q (F0 m (pc + 3) ls ((r.map (cv ad adR)).toList ++ rest))) : W p l e R s m args below meth c H locs cells slots Q (F0 m pc ls st0) := by
  intro T hT X
  obtain ⟨v, st₀, t, T', L, h0, X', hL, e1, e2, ⟨⟨hv, ho, hp⟩, hz, hk⟩, st⟩ := hr T hT X
  cases hv
  rw [h0] at hz hk
  obtain ⟨t2, a1, b1⟩ := kk T'.heap (locs ++ L) ho (by rw [e1]; exact hp)
    ⟨Nat.le_trans hS.1 (by rw [e1]; exact hz), fun q h1 h2 => by rw [e1, hk q (Nat.lt_of_lt_of_le h1 hS.1) (fun z => h2 (hA q z))]; exact hS.2.1 q h1 h2, fun q hq => by
      rcases List.mem_append.mp hq with h | h
      · exact hS.2.2 q h
      · exact hA _ (hL q h)⟩ T' rfl X'
  exact ⟨t2, st t2 a1, b1⟩
/-- the callee's start, out of the caller's facts -/
theorem pm_pre {σ : PS} {as : List PV} (hnw : ∀ w ∈ nwL, va_Nw w s) (hK : va_K D clsL tys s) (hA : ∀ q, AA ad q → A q) (hro : roA adR E A s s.heap) (hP : va_P D clsL (wsO ad kA σ) H) (hS : va_S A s.heap H locs) : ∀ U : State, U.heap = H → s.WarmedH U.vm → PcO D ad adR kA tys E as σ (as.map (cv ad adR)).toArray U := by
  intro U hU hW
  refine ⟨rfl, by rw [hU]; exact hP, va_K.moved hW.alike hK, nw_warm hW hnw, ?_⟩
  rw [hU]
  exact ((hro.kept (fun a h1 h2 => hS.2.1 a h1 h2)).narrow hA).moved hW.alike
end PMC
