/-! the classes, the statics, the last rows of the start -/
def instL : List Nat := [373, 325, 99, 200, 351, 293, 394, 168, 222, 265, 312, 91, 1117]
theorem inst_ok : ∀ k, k < 13 → (match clsL[k]? with
  | some q => decide (lw_tbl[instL.getD k 0]? = some (Cond.instantiable q.1 q.2.2))
  | none => true) = true := by decide +kernel
theorem clsL_lt {k : Nat} {q : vw_C} (h : clsL[k]? = some q) : k < 13 := by
  have := (List.getElem?_eq_some_iff.mp h).1
  simpa [clsL] using this
theorem known_B {s : State} {args : Array Value} (hts : ∀ w ∈ lw_tbl, w.before args s = true) : ∀ k : Nat, ∃ (cC : ClassId) (iS : Nat → Nat), ∀ q : vw_C, clsL[k]? = some q → u_Kn s q.1 q.2.1 q.2.2 cC iS := by
  intro k
  cases hq : clsL[k]? with
  | none => exact ⟨0, fun _ => 0, fun q e => by cases e⟩
  | some q =>
    have h := inst_ok k (clsL_lt hq)
    rw [hq] at h
    have hi := hts _ (List.mem_of_getElem? (of_decide_eq_true h))
    obtain ⟨hk1, -⟩ := cls_ok k q hq
    obtain ⟨cC, iS, hK⟩ := u_known (C := q.1) (T := q.2.1) (N := q.2.2) (n := q.2.2) hts (fun w hw => (List.mem_filter.mp (hk1 w hw)).1) hi
    exact ⟨cC, iS, fun q' e => by cases e; exact hK⟩
theorem nw_B {s : State} {args : Array Value} (hts : ∀ w ∈ lw_tbl, w.before args s = true) : NwB s := by
  refine ⟨fun w hw => ?_, over_B (hts _ bMO_ok)⟩
  obtain ⟨h1, h2⟩ := List.mem_filter.mp hw
  have h3 := hts w h1
  cases w <;> first | (cases h2; done) | exact va_Nw.of rfl h3
def atB : Term := .static "BeggarBridge$Arches" "BODIES" "[I"
def atA : Term := .static "BeggarBridge$Arches" "ABOVE" "[I"
theorem fl_B : ∀ j, j < 32 → (Cond.eq (.elem atB (.int (Int32.ofNat j))) (.int (stB.getD j 0))) ∈ flatC (Jvm.Cond.and given_1 narrow_1) := by decide +kernel
theorem fl_A : ∀ j, j < 8 → (Cond.eq (.elem atA (.int (Int32.ofNat j))) (.int (stA.getD j 0))) ∈ flatC (Jvm.Cond.and given_1 narrow_1) := by decide +kernel
theorem fl_l : (Cond.eq (.length atB) (.int 32)) ∈ flatC (Jvm.Cond.and given_1 narrow_1) ∧ (Cond.eq (.length atA) (.int 8)) ∈ flatC (Jvm.Cond.and given_1 narrow_1) ∧ (Cond.arrayOf atB .int) ∈ flatC (Jvm.Cond.and given_1 narrow_1) ∧ (Cond.arrayOf atA .int) ∈ flatC (Jvm.Cond.and given_1 narrow_1) := by decide +kernel
theorem ro_B {s : State} {b L : Nat} {xs : Nat → Int32} {args : Array Value} (hts : ∀ w ∈ lw_tbl, w.before args s = true) (hX : va_X b L xs s s.heap) (hbl : b < s.heap.size) (hgv : (Jvm.Cond.and given_1 narrow_1).before args s = true) : ∃ adR : Nat → Nat, adR 0 = b ∧ roA adR (L, xs) (fun q : Nat => s.heap.size ≤ q) s s.heap := by
  have hs := flat_of_before _ hgv
  obtain ⟨f1, f2, f3, f4⟩ := fl_l
  have hA : ∀ a : Nat, a < s.heap.size → ¬ (fun q : Nat => s.heap.size ≤ q) a := fun a h => Nat.not_le.mpr h
  obtain ⟨tB, hB1, hB2⟩ := va_Tof (tm := atB) (ty := .int) (N := 32) (f := fun j => .int (stB.getD j 0)) (A := fun q : Nat => s.heap.size ≤ q) (by decide) (hs _ f3) (va_eqt (hs _ f1)) (fun j hj => va_eqt (hs _ (fl_B j hj))) hA
  obtain ⟨tA, hA1, hA2⟩ := va_Tof (tm := atA) (ty := .int) (N := 8) (f := fun j => .int (stA.getD j 0)) (A := fun q : Nat => s.heap.size ≤ q) (by decide) (hs _ f4) (va_eqt (hs _ f2)) (fun j hj => va_eqt (hs _ (fl_A j hj))) hA
  have hini : (Cond.initialized "BeggarBridge$Arches").before args s = true := hts _ (List.mem_of_getElem? (i := 83) (by decide +kernel))
  have hZB := va_Zref (hts _ (List.mem_of_getElem? (i := 1018) (by decide +kernel))) hini hB1 hA
  have hZA := va_Zref (hts _ (List.mem_of_getElem? (i := 1023) (by decide +kernel))) hini hA1 hA
  refine ⟨fun a => match a with
    | 0 => b
    | 1 => tA
    | _ => tB, rfl, fun a ha => ?_, hZB, hZA⟩
  match a, ha with
  | 0, _ =>
    obtain ⟨scr, h1, h2, h3, h4, h5⟩ := hX
    exact ⟨scr, h1, h2, h3, Nat.le_of_eq h4.symm, by rw [h4]; rfl, h5, hA b hbl⟩
  | 1, _ => exact hA2
  | 2, _ => exact hB2
section BORN6
variable {p : Program} {l : Launch} {e : Env} {R : Room} {s : State} {m : MethodId} {args : Array Value} {below : List Frame} {meth : Method} {c : Code} {Q : State → Prop} {D : va_G} {A : Nat → Prop} {ad0 : Nat → Nat} {kA0 : Nat → ClassId} {nx0 : Nat}
theorem GB_as {q : BI} {d : Nat} (hF : FB p R s m args c A q d) {pc a : Nat} {j : Fin 4} {ls : BL} {r : List BV} {w : BW} {nx cc ss : Nat} (hd : decode q.1.2.1 pc = .ok (.astore_n j, 1)) (hj : (j : Nat) < q.1.2.2.1) (k : GB p l e R s m args below meth c Q D A ad0 kA0 nx0 q (pc + 1) (lsB ls j (.inr (some a))) r w nx cc ss) : GB p l e R s m args below meth c Q D A ad0 kA0 nx0 q pc ls (.inr (some a) :: r) w nx cc ss := by
  obtain ⟨hx, hb, hml, hcl, hown, hts, hnw, hA, hcells, hslots, hfr, hlo⟩ := hF
  intro h1 h2 h3 h4 ad kA tys H locs lm a1 a2 a3 a4 a5 a6 a7
  refine lv_astore_n hx hb hd rfl a2 hj (lsB_map (v := .inr (some a))) (fun lm' hl => ?_)
  exact k (lsB_ok h1 (h2 _ List.mem_cons_self)) (fun v hv => h2 v (List.mem_cons_of_mem _ hv)) h3 h4 ad kA tys H locs lm' a1 hl a3 a4 a5 a6 a7
theorem GB_is {q : BI} {d : Nat} (hF : FB p R s m args c A q d) {pc : Nat} {x : Int32} {j : Fin 4} {ls : BL} {r : List BV} {w : BW} {nx cc ss : Nat} (hd : decode q.1.2.1 pc = .ok (.istore_n j, 1)) (hj : (j : Nat) < q.1.2.2.1) (k : GB p l e R s m args below meth c Q D A ad0 kA0 nx0 q (pc + 1) (lsB ls j (.inl x)) r w nx cc ss) : GB p l e R s m args below meth c Q D A ad0 kA0 nx0 q pc ls (.inl x :: r) w nx cc ss := by
  obtain ⟨hx, hb, hml, hcl, hown, hts, hnw, hA, hcells, hslots, hfr, hlo⟩ := hF
  intro h1 h2 h3 h4 ad kA tys H locs lm a1 a2 a3 a4 a5 a6 a7
  refine lv_istore_n hx hb hd rfl a2 hj (lsB_map (v := .inl x)) (fun lm' hl => ?_)
  exact k (lsB_ok h1 trivial) (fun v hv => h2 v (List.mem_cons_of_mem _ hv)) h3 h4 ad kA tys H locs lm' a1 hl a3 a4 a5 a6 a7
end BORN6
/-- the law as a method of the constructors' machine: the cells and slots that it makes -/
def qL : BI := (me253, 131, 8468, 0, 1)
theorem lq253_0 : lk k253 0 = some (.new 7, 3) := by decide +kernel
theorem lq253_3 : lk k253 3 = some (.dup, 1) := by decide +kernel
theorem lq253_4 : lk k253 4 = some (.invokespecial 9, 3) := by decide +kernel
theorem lq253_7 : lk k253 7 = some (.astore_n 1, 1) := by decide +kernel
theorem lq253_8 : lk k253 8 = some (.new 10, 3) := by decide +kernel
theorem lq253_11 : lk k253 11 = some (.dup, 1) := by decide +kernel
theorem lq253_12 : lk k253 12 = some (.invokespecial 12, 3) := by decide +kernel
theorem lq253_15 : lk k253 15 = some (.astore_n 2, 1) := by decide +kernel
theorem lq253_16 : lk k253 16 = some (.iconst 0, 1) := by decide +kernel
theorem lq253_17 : lk k253 17 = some (.istore_n 3, 1) := by decide +kernel
