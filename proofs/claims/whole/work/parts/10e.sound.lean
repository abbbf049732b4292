def isMove : Instr → Bool
  | .aconst_null => true
  | .iconst _ => true
  | .bipush _ => true
  | .sipush _ => true
  | .lconst _ => true
  | .ldc _ => true
  | .ldc_w _ => true
  | .ldc2_w _ => true
  | .iload _ => true
  | .iload_n _ => true
  | .lload _ => true
  | .lload_n _ => true
  | .aload _ => true
  | .aload_n _ => true
  | .istore _ => true
  | .istore_n _ => true
  | .lstore _ => true
  | .lstore_n _ => true
  | .astore _ => true
  | .astore_n _ => true
  | .iinc _ _ => true
  | .dup => true
  | .dup_x1 => true
  | .dup2 => true
  | .pop => true
  | _ => false
/-! what our machine answers, the kit's machine does -/
def retAt (q : MI) (pc : Nat) (r : Option PV) : Prop := (lk q.2.2.2.2.2 pc = some (.ireturn, 1) ∧ ∃ x, r = some (vI x) ∧ (q.2.2.2.1 = some .int ∨ (q.2.2.2.1 = some .boolean ∧ (x = 0 ∨ x = 1)))) ∨ (lk q.2.2.2.2.2 pc = some (.lreturn, 1) ∧ ∃ x, r = some (vL x) ∧ q.2.2.2.1 = some .long) ∨ (lk q.2.2.2.2.2 pc = some (.areturn, 1) ∧ ∃ k n a, r = some (vR k n a) ∧ ((∃ t, q.2.2.2.1 = some (.array t)) ∨ ∃ t, q.2.2.2.1 = some (.object t))) ∨ (lk q.2.2.2.2.2 pc = some (.return_, 1) ∧ r = none ∧ q.2.2.2.1 = none)
section SND
variable {p : Program} {l : Launch} {e : Env} {R : Room} {s : State} {m : MethodId} {args : Array Value} {below : List Frame} {meth : Method} {c : Code} {cells slots : Nat} {Q : State → Prop} {D : va_G} {ad adR : Nat → Nat} {kA : Nat → ClassId} {tys : List (ClassId × FieldType)} {E : Nat × (Nat → Int32)} {A : Nat → Prop}
/-- what stays the same in a frame -/
def Fx (p : Program) (R : Room) (s : State) (m : MethodId) (args : Array Value) (c : Code) (cells slots : Nat) (D : va_G) (ad adR : Nat → Nat) (kA : Nat → ClassId) (tys : List (ClassId × FieldType)) (E : Nat × (Nat → Int32)) (A : Nat → Prop) (q : MI) (d : Nat) : Prop :=
  q ∈ mt ∧ p.tables.exec = Jvm.exec ∧ c.code = q.2.1 ∧ c.maxLocals = q.2.2.1 ∧ s.vm.findClass (cn q.2.2.2.2.1) = some m.cls ∧ (∀ w ∈ gw, w.before args s = true) ∧ (∀ w ∈ nwL, va_Nw w s) ∧ va_K D clsL tys s ∧ WF ad kA tys ∧ (∀ r ∈ cellsL, A (ad r.1)) ∧ roA adR E A s s.heap ∧ cells ≤ R.cells ∧ slots ≤ R.slots ∧ d ≤ R.frames ∧ 64 * d ≤ R.locals
/-- the goal at a place, as our machine has it -/
def Gl (p : Program) (l : Launch) (e : Env) (R : Room) (s : State) (m : MethodId) (args : Array Value) (below : List Frame) (meth : Method) (c : Code) (cells slots : Nat) (Q : State → Prop) (D : va_G) (ad adR : Nat → Nat) (kA : Nat → ClassId) (E : Nat × (Nat → Int32)) (A : Nat → Prop) (q : MI) (pc : Nat) (ls : PL) (st : List PV) (σ : PS) : Prop :=
  ls.length = q.2.2.1 → okL E ls → okS E st → ∀ (H : Heap) (locs : List Loc) (lm : Array Slot), lr ad adR ls lm → va_P D clsL (wsO ad kA σ) H → va_S A s.heap H locs → W p l e R s m args below meth c H locs cells slots Q (F0 m pc lm (st.map (cv ad adR)))
theorem okS_c {v : PV} {st : List PV} (h : okV E v) (hs : okS E st) : okS E (v :: st) := fun w hw => by
  rcases List.mem_cons.mp hw with rfl | hw
  · exact h
  · exact hs w hw
theorem okS_t {v : PV} {st : List PV} (h : okS E (v :: st)) : okV E v ∧ okS E st := ⟨h v List.mem_cons_self, fun w hw => h w (List.mem_cons_of_mem _ hw)⟩
theorem cv_obj {a ci : Nat} : cv ad adR (vR 1 ci a) = .ref (ad a) := rfl
theorem W_ld {q : MI} {d : Nat} (hF : Fx p R s m args c cells slots D ad adR kA tys E A q d) {pc n : Nat} {ls : PL} {st : List PV} {σ : PS} {v : PV} {j : Nat} (hv : ls[j]? = some (some v)) (k : Gl p l e R s m args below meth c cells slots Q D ad adR kA E A q n ls (v :: st) σ)
    (row : ∀ (H : Heap) (locs : List Loc) (lm : Array Slot), lm[j]? = some (.val (cv ad adR v)) → W p l e R s m args below meth c H locs cells slots Q (F0 m n lm (cv ad adR v :: st.map (cv ad adR))) → W p l e R s m args below meth c H locs cells slots Q (F0 m pc lm (st.map (cv ad adR)))) : Gl p l e R s m args below meth c cells slots Q D ad adR kA E A q pc ls st σ :=
  fun h1 h2 h3 H locs lm h4 h5 h6 => row H locs lm (h4.2.2 j v hv) (k h1 h2 (okS_c (h2 j v hv) h3) H locs lm h4 h5 h6)
theorem W_st {q : MI} {d : Nat} (hF : Fx p R s m args c cells slots D ad adR kA tys E A q d) {pc n : Nat} {ls : PL} {st : List PV} {σ : PS} {v : PV} {j : Nat} {f : PL → PR} {z : Option PV × PS} (he : sI ls j v f = some z) (k : f (ls.set j (some v)) = some z → Gl p l e R s m args below meth c cells slots Q D ad adR kA E A q n (ls.set j (some v)) st σ)
    (row : ∀ (H : Heap) (locs : List Loc) (lm : Array Slot), lv_has lm ls.length (lvl ad adR 0 ls) → j < ls.length → (∀ lm' : Array Slot, lv_has lm' ls.length ((j, cv ad adR v) :: (lvl ad adR 0 ls).filter (fun q => !(q.1 == j) && !(q.1 + 1 == j && q.2.category == 2))) → W p l e R s m args below meth c H locs cells slots Q (F0 m n lm' (st.map (cv ad adR)))) → W p l e R s m args below meth c H locs cells slots Q (F0 m pc lm (cv ad adR v :: st.map (cv ad adR)))) : Gl p l e R s m args below meth c cells slots Q D ad adR kA E A q pc ls (v :: st) σ := by
  intro h1 h2 h3 H locs lm h4 h5 h6
  obtain ⟨hb, he⟩ := bif_inv he
  obtain ⟨hn, hj⟩ := Bool.and_eq_true _ _ ▸ hb
  have hj := blt_iff hj
  refine row H locs lm (lr_has h4) hj (fun lm' hl => ?_)
  exact k he (by rw [List.length_set]; exact h1) (okL_set h2 (okS_t h3).1) (okS_t h3).2 H locs lm' (lr_set hj hn hl) h5 h6
theorem Gl_1 {q : MI} {pc n : Nat} {ls : PL} {st st' : List PV} {σ : PS} (k : Gl p l e R s m args below meth c cells slots Q D ad adR kA E A q n ls st' σ) (hs : okS E st → okS E st')
    (row : ∀ (H : Heap) (locs : List Loc) (lm : Array Slot), W p l e R s m args below meth c H locs cells slots Q (F0 m n lm (st'.map (cv ad adR))) → W p l e R s m args below meth c H locs cells slots Q (F0 m pc lm (st.map (cv ad adR)))) : Gl p l e R s m args below meth c cells slots Q D ad adR kA E A q pc ls st σ :=
  fun h1 h2 h3 H locs lm h4 h5 h6 => row H locs lm (k h1 h2 (hs h3) H locs lm h4 h5 h6)
theorem Gl_br {q : MI} {pc t n : Nat} {ls : PL} {st st' : List PV} {σ : PS} {cd : Prop} [Decidable cd] {x y : PR} {z : Option PV × PS} (he : (if cd then x else y) = some z) (kt : x = some z → Gl p l e R s m args below meth c cells slots Q D ad adR kA E A q t ls st' σ) (kf : y = some z → Gl p l e R s m args below meth c cells slots Q D ad adR kA E A q n ls st' σ) (hs : okS E st → okS E st')
    (row : ∀ (H : Heap) (locs : List Loc) (lm : Array Slot), (cd → W p l e R s m args below meth c H locs cells slots Q (F0 m t lm (st'.map (cv ad adR)))) → (¬ cd → W p l e R s m args below meth c H locs cells slots Q (F0 m n lm (st'.map (cv ad adR)))) → W p l e R s m args below meth c H locs cells slots Q (F0 m pc lm (st.map (cv ad adR)))) : Gl p l e R s m args below meth c cells slots Q D ad adR kA E A q pc ls st σ := by
  intro h1 h2 h3 H locs lm h4 h5 h6
  refine row H locs lm (fun hc => ?_) (fun hc => ?_)
  · rw [if_pos hc] at he
    exact kt he h1 h2 (hs h3) H locs lm h4 h5 h6
  · rw [if_neg hc] at he
    exact kf he h1 h2 (hs h3) H locs lm h4 h5 h6
/-- simple instructions of ints and longs -/
theorem snd_arith {q : MI} {d : Nat} (hF : Fx p R s m args c cells slots D ad adR kA tys E A q d) {cf : CF} {k : KF} {pc : Nat} {ls : PL} {st : List PV} {σ : PS} {i : Instr} {z : Option PV × PS} (hd : decode q.2.1 pc = .ok (i, 1)) (he : exI E cf k q pc ls st σ i = some z)
    (ih : ∀ pc ls st σ, k pc ls st σ = some z → Gl p l e R s m args below meth c cells slots Q D ad adR kA E A q pc ls st σ) (hi : i ∈ ([.iadd, .isub, .imul, .iand, .ior, .ixor, .idiv, .irem, .ineg, .ishl, .ishr, .iushr, .i2b, .i2s, .i2l, .l2i, .ladd, .land, .lor, .lshl, .lcmp] : List Instr)) : Gl p l e R s m args below meth c cells slots Q D ad adR kA E A q pc ls st σ := by
  obtain ⟨hq, hx, hb, hml, hown, hts, hnw, hK, hwf, hA, hro, hcells, hslots, hfr, hlo⟩ := hF
  simp only [List.mem_cons, List.not_mem_nil, or_false] at hi
  rcases hi with rfl | rfl | rfl | rfl | rfl | rfl | rfl | rfl | rfl | rfl | rfl | rfl | rfl | rfl | rfl | rfl | rfl | rfl | rfl | rfl | rfl <;> simp only [exI] at he
  · obtain ⟨a, b, r, rfl, he⟩ := p2_inv he
    exact Gl_1 (ih _ _ _ _ he) (fun h => okS_c trivial (okS_t (okS_t h).2).2) (fun H locs lm kk => lv_iadd hx hb hd kk)
  · obtain ⟨a, b, r, rfl, he⟩ := p2_inv he
    exact Gl_1 (ih _ _ _ _ he) (fun h => okS_c trivial (okS_t (okS_t h).2).2) (fun H locs lm kk => lv_isub hx hb hd kk)
  · obtain ⟨a, b, r, rfl, he⟩ := p2_inv he
    exact Gl_1 (ih _ _ _ _ he) (fun h => okS_c trivial (okS_t (okS_t h).2).2) (fun H locs lm kk => lv_imul hx hb hd kk)
  · obtain ⟨a, b, r, rfl, he⟩ := p2_inv he
    exact Gl_1 (ih _ _ _ _ he) (fun h => okS_c trivial (okS_t (okS_t h).2).2) (fun H locs lm kk => lv_iand hx hb hd kk)
  · obtain ⟨a, b, r, rfl, he⟩ := p2_inv he
    exact Gl_1 (ih _ _ _ _ he) (fun h => okS_c trivial (okS_t (okS_t h).2).2) (fun H locs lm kk => lv_ior hx hb hd kk)
  · obtain ⟨a, b, r, rfl, he⟩ := p2_inv he
    exact Gl_1 (ih _ _ _ _ he) (fun h => okS_c trivial (okS_t (okS_t h).2).2) (fun H locs lm kk => lv_ixor hx hb hd kk)
  · obtain ⟨a, b, r, rfl, he2⟩ := p2_inv he
    by_cases hz : b = 0
    · rw [if_pos hz] at he2; cases he2
    · rw [if_neg hz] at he2
      exact Gl_1 (ih _ _ _ _ he2) (fun h => okS_c trivial (okS_t (okS_t h).2).2) (fun H locs lm kk => lv_idiv hx hb hd hz kk)
  · obtain ⟨a, b, r, rfl, he2⟩ := p2_inv he
    by_cases hz : b = 0
    · rw [if_pos hz] at he2; cases he2
    · rw [if_neg hz] at he2
      exact Gl_1 (ih _ _ _ _ he2) (fun h => okS_c trivial (okS_t (okS_t h).2).2) (fun H locs lm kk => lv_irem hx hb hd hz kk)
  · obtain ⟨a, r, rfl, he⟩ := p1_inv he
    exact Gl_1 (ih _ _ _ _ he) (fun h => okS_c trivial (okS_t h).2) (fun H locs lm kk => lv_ineg hx hb hd kk)
  · obtain ⟨a, b, r, rfl, he⟩ := p2_inv he
    exact Gl_1 (ih _ _ _ _ he) (fun h => okS_c trivial (okS_t (okS_t h).2).2) (fun H locs lm kk => lv_ishl hx hb hd kk)
  · obtain ⟨a, b, r, rfl, he⟩ := p2_inv he
    exact Gl_1 (ih _ _ _ _ he) (fun h => okS_c trivial (okS_t (okS_t h).2).2) (fun H locs lm kk => lv_ishr hx hb hd kk)
  · obtain ⟨a, b, r, rfl, he⟩ := p2_inv he
    exact Gl_1 (ih _ _ _ _ he) (fun h => okS_c trivial (okS_t (okS_t h).2).2) (fun H locs lm kk => lv_iushr hx hb hd rfl kk)
  · obtain ⟨a, r, rfl, he⟩ := p1_inv he
    exact Gl_1 (ih _ _ _ _ he) (fun h => okS_c trivial (okS_t h).2) (fun H locs lm kk => lv_i2b hx hb hd rfl kk)
  · obtain ⟨a, r, rfl, he⟩ := p1_inv he
    exact Gl_1 (ih _ _ _ _ he) (fun h => okS_c trivial (okS_t h).2) (fun H locs lm kk => lv_i2s hx hb hd rfl kk)
  · obtain ⟨a, r, rfl, he⟩ := p1_inv he
    exact Gl_1 (ih _ _ _ _ he) (fun h => okS_c trivial (okS_t h).2) (fun H locs lm kk => lv_i2l hx hb hd rfl kk)
  · obtain ⟨a, r, rfl, he⟩ := q1_inv he
    exact Gl_1 (ih _ _ _ _ he) (fun h => okS_c trivial (okS_t h).2) (fun H locs lm kk => lv_l2i hx hb hd rfl kk)
  · obtain ⟨a, b, r, rfl, he⟩ := q2_inv he
    exact Gl_1 (ih _ _ _ _ he) (fun h => okS_c trivial (okS_t (okS_t h).2).2) (fun H locs lm kk => lv_ladd hx hb hd kk)
  · obtain ⟨a, b, r, rfl, he⟩ := q2_inv he
    exact Gl_1 (ih _ _ _ _ he) (fun h => okS_c trivial (okS_t (okS_t h).2).2) (fun H locs lm kk => lv_land hx hb hd kk)
  · obtain ⟨a, b, r, rfl, he⟩ := q2_inv he
    exact Gl_1 (ih _ _ _ _ he) (fun h => okS_c trivial (okS_t (okS_t h).2).2) (fun H locs lm kk => lv_lor hx hb hd kk)
  · obtain ⟨b, r, rfl, he⟩ := p1_inv he
    obtain ⟨a, r, rfl, he⟩ := q1_inv he
    exact Gl_1 (ih _ _ _ _ he) (fun h => okS_c trivial (okS_t (okS_t h).2).2) (fun H locs lm kk => lv_lshl hx hb hd rfl kk)
  · obtain ⟨a, b, r, rfl, he⟩ := q2_inv he
    exact Gl_1 (ih _ _ _ _ he) (fun h => okS_c trivial (okS_t (okS_t h).2).2) (fun H locs lm kk => W.lcmp hx hb hd kk)
/-- constants, loads, stores, the stack -/
theorem snd_move {q : MI} {d : Nat} (hF : Fx p R s m args c cells slots D ad adR kA tys E A q d) {cf : CF} {k : KF} {pc len : Nat} {ls : PL} {st : List PV} {σ : PS} {i : Instr} {z : Option PV × PS} (hd : decode q.2.1 pc = .ok (i, len)) (hlen : lenOk (pc, i, len) = true) (he : exI E cf k q pc ls st σ i = some z)
    (ih : ∀ pc ls st σ, k pc ls st σ = some z → Gl p l e R s m args below meth c cells slots Q D ad adR kA E A q pc ls st σ) (hi : isMove i = true) : Gl p l e R s m args below meth c cells slots Q D ad adR kA E A q pc ls st σ := by
  have hF0 := hF
  obtain ⟨hq, hx, hb, hml, hown, hts, hnw, hK, hwf, hA, hro, hcells, hslots, hfr, hlo⟩ := hF
  have hcl := (mc_ok q hq).1
  cases i <;> first | (cases hi; done) | skip
  all_goals simp only [lenOk, beq_iff_eq] at hlen
  all_goals subst hlen
  all_goals simp only [exI] at he
  case aconst_null => exact Gl_1 (ih _ _ _ _ he) (fun h => okS_c trivial h) (fun H locs lm kk => lv_null hx hb hd kk)
  case iconst n => exact Gl_1 (ih _ _ _ _ he) (fun h => okS_c trivial h) (fun H locs lm kk => lv_iconst hx hb hd rfl kk)
  case bipush n => exact Gl_1 (ih _ _ _ _ he) (fun h => okS_c trivial h) (fun H locs lm kk => lv_bipush hx hb hd rfl kk)
  case sipush n => exact Gl_1 (ih _ _ _ _ he) (fun h => okS_c trivial h) (fun H locs lm kk => lv_sipush hx hb hd rfl kk)
  case lconst n => exact Gl_1 (ih _ _ _ _ he) (fun h => okS_c trivial h) (fun H locs lm kk => lv_lconst hx hb hd rfl kk)
  case ldc j =>
    cases hj : lk (kR q.2.2.2.2.1) j with
    | none => rw [hj] at he; cases he
    | some v =>
      rw [hj] at he
      have h1 := kR_ok _ hcl _ (lk_mem hj)
      exact Gl_1 (ih _ _ _ _ he) (fun h => okS_c trivial h) (fun H locs lm kk => lv_ldc hx hb hown (hts _ (gw_of h1.1 h1.2)) hd kk)
  case ldc_w j =>
    cases hj : lk (kR q.2.2.2.2.1) j with
    | none => rw [hj] at he; cases he
    | some v =>
      rw [hj] at he
      have h1 := kR_ok _ hcl _ (lk_mem hj)
      exact Gl_1 (ih _ _ _ _ he) (fun h => okS_c trivial h) (fun H locs lm kk => lv_ldcw hx hb hown (hts _ (gw_of h1.1 h1.2)) hd kk)
  case ldc2_w j =>
    cases hj : lk (lR q.2.2.2.2.1) j with
    | none => rw [hj] at he; cases he
    | some v =>
      rw [hj] at he
      have h1 := lR_ok _ hcl _ (lk_mem hj)
      exact Gl_1 (ih _ _ _ _ he) (fun h => okS_c trivial h) (fun H locs lm kk => lv_ldc2 hx hb hown (hts _ (gw_of h1.1 h1.2)) hd kk)
  case iload j =>
    obtain ⟨a, ha, he⟩ := gI_inv he
    exact W_ld hF0 ha (ih _ _ _ _ he) (fun H locs lm h kk => lv_iload hx hb hd h kk)
  case iload_n j =>
    obtain ⟨a, ha, he⟩ := gI_inv he
    exact W_ld hF0 ha (ih _ _ _ _ he) (fun H locs lm h kk => lv_iload_n hx hb hd rfl h kk)
  case lload j =>
    obtain ⟨a, ha, he⟩ := gL_inv he
    exact W_ld hF0 ha (ih _ _ _ _ he) (fun H locs lm h kk => lv_lload hx hb hd h kk)
  case lload_n j =>
    obtain ⟨a, ha, he⟩ := gL_inv he
    exact W_ld hF0 ha (ih _ _ _ _ he) (fun H locs lm h kk => lv_lload_n hx hb hd rfl h kk)
  case aload j =>
    obtain ⟨i, n, a, ha, he⟩ := gA_inv he
    match i, ha, he with
    | 0, ha, he => exact W_ld hF0 ha (ih _ _ _ _ he) (fun H locs lm h kk => lv_aloadN hx hb hd h kk)
    | 1, ha, he => exact W_ld hF0 ha (ih _ _ _ _ he) (fun H locs lm h kk => lv_aload hx hb hd h kk)
    | 2, ha, he => exact W_ld hF0 ha (ih _ _ _ _ he) (fun H locs lm h kk => lv_aload hx hb hd h kk)
    | 3, ha, he => exact W_ld hF0 ha (ih _ _ _ _ he) (fun H locs lm h kk => lv_aload hx hb hd h kk)
    | 4, ha, he => exact W_ld hF0 ha (ih _ _ _ _ he) (fun H locs lm h kk => lv_aload hx hb hd h kk)
    | i + 5, ha, he => exact W_ld hF0 ha (ih _ _ _ _ he) (fun H locs lm h kk => lv_aload hx hb hd h kk)
  case aload_n j =>
    obtain ⟨i, n, a, ha, he⟩ := gA_inv he
    match i, ha, he with
    | 0, ha, he => exact W_ld hF0 ha (ih _ _ _ _ he) (fun H locs lm h kk => lv_aload_nN hx hb hd rfl h kk)
    | 1, ha, he => exact W_ld hF0 ha (ih _ _ _ _ he) (fun H locs lm h kk => lv_aload_n hx hb hd rfl h kk)
    | 2, ha, he => exact W_ld hF0 ha (ih _ _ _ _ he) (fun H locs lm h kk => lv_aload_n hx hb hd rfl h kk)
    | 3, ha, he => exact W_ld hF0 ha (ih _ _ _ _ he) (fun H locs lm h kk => lv_aload_n hx hb hd rfl h kk)
    | 4, ha, he => exact W_ld hF0 ha (ih _ _ _ _ he) (fun H locs lm h kk => lv_aload_n hx hb hd rfl h kk)
    | i + 5, ha, he => exact W_ld hF0 ha (ih _ _ _ _ he) (fun H locs lm h kk => lv_aload_n hx hb hd rfl h kk)
  case istore j =>
    obtain ⟨a, r, rfl, he2⟩ := p1_inv he
    exact W_st hF0 he2 (fun h => ih _ _ _ _ h) (fun H locs lm h1 h2 kk => lv_istore hx hb hd h1 h2 rfl kk)
  case istore_n j =>
    obtain ⟨a, r, rfl, he2⟩ := p1_inv he
    exact W_st hF0 he2 (fun h => ih _ _ _ _ h) (fun H locs lm h1 h2 kk => lv_istore_n hx hb hd rfl h1 h2 rfl kk)
  case lstore j =>
    obtain ⟨a, r, rfl, he2⟩ := q1_inv he
    intro h1 h2 h3 H locs lm h4 h5 h6
    obtain ⟨hb2, he3⟩ := bif_inv he2
    obtain ⟨hn, hj⟩ := Bool.and_eq_true _ _ ▸ hb2
    have hj := blt_iff hj
    refine lv_lstore hx hb hd (lr_has h4) hj rfl (fun lm' hl => ?_)
    exact ih _ _ _ _ he3 (by rw [List.length_set, List.length_set]; exact h1) (okL_set0 (okL_set h2 trivial)) (okS_t h3).2 H locs lm' (lr_set2 (v := vL a) hj hn hl) h5 h6
  case lstore_n j =>
    obtain ⟨a, r, rfl, he2⟩ := q1_inv he
    intro h1 h2 h3 H locs lm h4 h5 h6
    obtain ⟨hb2, he3⟩ := bif_inv he2
    obtain ⟨hn, hj⟩ := Bool.and_eq_true _ _ ▸ hb2
    have hj := blt_iff hj
    refine lv_lstore_n hx hb hd rfl (lr_has h4) hj rfl (fun lm' hl => ?_)
    exact ih _ _ _ _ he3 (by rw [List.length_set, List.length_set]; exact h1) (okL_set0 (okL_set h2 trivial)) (okS_t h3).2 H locs lm' (lr_set2 (v := vL a) hj hn hl) h5 h6
  case astore j =>
    obtain ⟨i, n, a, r, rfl, he2⟩ := a1_inv he
    match i, he2 with
    | 0, he2 => exact W_st hF0 he2 (fun h => ih _ _ _ _ h) (fun H locs lm h1 h2 kk => lv_astoreN hx hb hd h1 h2 rfl kk)
    | 1, he2 => exact W_st hF0 he2 (fun h => ih _ _ _ _ h) (fun H locs lm h1 h2 kk => lv_astore hx hb hd h1 h2 rfl kk)
    | 2, he2 => exact W_st hF0 he2 (fun h => ih _ _ _ _ h) (fun H locs lm h1 h2 kk => lv_astore hx hb hd h1 h2 rfl kk)
    | 3, he2 => exact W_st hF0 he2 (fun h => ih _ _ _ _ h) (fun H locs lm h1 h2 kk => lv_astore hx hb hd h1 h2 rfl kk)
    | 4, he2 => exact W_st hF0 he2 (fun h => ih _ _ _ _ h) (fun H locs lm h1 h2 kk => lv_astore hx hb hd h1 h2 rfl kk)
    | i + 5, he2 => exact W_st hF0 he2 (fun h => ih _ _ _ _ h) (fun H locs lm h1 h2 kk => lv_astore hx hb hd h1 h2 rfl kk)
  case astore_n j =>
    obtain ⟨i, n, a, r, rfl, he2⟩ := a1_inv he
    match i, he2 with
    | 0, he2 => exact W_st hF0 he2 (fun h => ih _ _ _ _ h) (fun H locs lm h1 h2 kk => lv_astore_nN hx hb hd rfl h1 h2 rfl kk)
    | 1, he2 => exact W_st hF0 he2 (fun h => ih _ _ _ _ h) (fun H locs lm h1 h2 kk => lv_astore_n hx hb hd rfl h1 h2 rfl kk)
    | 2, he2 => exact W_st hF0 he2 (fun h => ih _ _ _ _ h) (fun H locs lm h1 h2 kk => lv_astore_n hx hb hd rfl h1 h2 rfl kk)
    | 3, he2 => exact W_st hF0 he2 (fun h => ih _ _ _ _ h) (fun H locs lm h1 h2 kk => lv_astore_n hx hb hd rfl h1 h2 rfl kk)
    | 4, he2 => exact W_st hF0 he2 (fun h => ih _ _ _ _ h) (fun H locs lm h1 h2 kk => lv_astore_n hx hb hd rfl h1 h2 rfl kk)
    | i + 5, he2 => exact W_st hF0 he2 (fun h => ih _ _ _ _ h) (fun H locs lm h1 h2 kk => lv_astore_n hx hb hd rfl h1 h2 rfl kk)
  case iinc j n =>
    obtain ⟨a, ha, he⟩ := gI_inv he
    intro h1 h2 h3 H locs lm h4 h5 h6
    obtain ⟨hb2, he3⟩ := bif_inv he
    obtain ⟨hn, hj⟩ := Bool.and_eq_true _ _ ▸ hb2
    have hj := blt_iff hj
    have hm := mem_lvl (ad := ad) (adR := adR) (j := 0) ha
    rw [Nat.zero_add] at hm
    obtain ⟨t, ht⟩ := List.getElem?_of_mem hm
    refine lv_iinc hx hb hd (lr_has h4) ht rfl hj rfl (fun lm' hl => ?_)
    exact ih _ _ _ _ he3 (by rw [List.length_set]; exact h1) (okL_set h2 trivial) h3 H locs lm' (lr_set (v := vI (a + Int32.ofInt n)) hj hn hl) h5 h6
  case dup =>
    match st, he with
    | v :: r, he =>
      obtain ⟨hw, he2⟩ := bif_inv he
      exact Gl_1 (ih _ _ _ _ he2) (fun h => okS_c (okS_t h).1 h) (fun H locs lm kk => lv_dup hx hb hd ((cat_cv ad adR v).trans (Nat.eq_of_beq_eq_true hw)) kk)
  case dup_x1 =>
    match st, he with
    | v :: w :: r, he =>
      obtain ⟨hw, he2⟩ := bif_inv he
      obtain ⟨hw1, hw2⟩ := Bool.and_eq_true _ _ ▸ hw
      exact Gl_1 (ih _ _ _ _ he2) (fun h => okS_c (okS_t h).1 (okS_c (okS_t (okS_t h).2).1 (okS_c (okS_t h).1 (okS_t (okS_t h).2).2))) (fun H locs lm kk => lv_dup_x1 hx hb hd ((cat_cv ad adR v).trans (Nat.eq_of_beq_eq_true hw1)) ((cat_cv ad adR w).trans (Nat.eq_of_beq_eq_true hw2)) kk)
  case dup2 =>
    match st, he with
    | v :: w :: r, he =>
      obtain ⟨hw, he2⟩ := bif_inv he
      obtain ⟨hw1, hw2⟩ := Bool.and_eq_true _ _ ▸ hw
      exact Gl_1 (ih _ _ _ _ he2) (fun h => okS_c (okS_t h).1 (okS_c (okS_t (okS_t h).2).1 h)) (fun H locs lm kk => lv_dup2_11 hx hb hd ((cat_cv ad adR v).trans (Nat.eq_of_beq_eq_true hw1)) ((cat_cv ad adR w).trans (Nat.eq_of_beq_eq_true hw2)) kk)
  case pop =>
    match st, he with
    | v :: r, he =>
      obtain ⟨hw, he2⟩ := bif_inv he
      exact Gl_1 (ih _ _ _ _ he2) (fun h => (okS_t h).2) (fun H locs lm kk => lv_pop hx hb hd ((cat_cv ad adR v).trans (Nat.eq_of_beq_eq_true hw)) kk)
end SND
