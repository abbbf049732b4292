/-! every constructor, at every depth -/
theorem enB_args (ad : Nat → Nat) : ∀ (as : List BV) (j : Nat), lv_args j (as.map (cb ad)) = (enB j as).map (cbL ad)
  | [], _ => rfl
  | v :: t, j => by
    have := enB_args ad t (j + 1)
    show (j, cb ad v) :: lv_args (if (cb ad v).category = 2 then j + 2 else j + 1) (t.map (cb ad)) = (j, cb ad v) :: (enB (j + 1) t).map (cbL ad)
    rw [if_neg (by rw [cb_cat]; decide), this]
theorem enB_mem : ∀ (as : List BV) (j : Nat) (x : Nat × BV), x ∈ enB j as → x.2 ∈ as
  | [], _, _, h => by cases h
  | v :: t, j, x, h => by
    rcases List.mem_cons.mp h with rfl | h
    · exact List.mem_cons_self
    · exact List.mem_cons_of_mem _ (enB_mem t (j + 1) x h)
theorem cbs_sl (ad : Nat → Nat) : ∀ as : List BV, (lg_sl (as.map (cb ad))).length = as.length
  | [] => rfl
  | v :: t => by
    have := cbs_sl ad t
    simp only [lg_sl, List.map_cons, List.flatMap_cons, List.length_append] at this ⊢
    rw [this, if_neg (by rw [cb_cat]; decide)]
    simp [Nat.add_comm]
set_option maxHeartbeats 2000000 in
theorem bOk (l : Launch) (D : va_G) : ∀ d F : Nat, BOk l D d F := by
  intro d
  induction d with
  | zero => intro F y q o as nx z hy hz; cases hz
  | succ d ih =>
    intro F y q o as nx z hy hz ho has
    have hz : (match bt[y]? with
      | some q => bif Nat.beq as.length q.2.2.2.2 then runB (evB d F) q F 0 (enB 0 (.inr (some o) :: as)) [] [(o, .inl (q.1.2.2.2.2.1, dflt q.1.2.2.2.2.1))] nx 0 0 else none
      | none => none) = some z := hz
    rw [hy] at hz
    obtain ⟨hn, hz⟩ := bt_inv hz
    have hn := Nat.eq_of_beq_eq_true hn
    have hmem := List.mem_of_getElem? hy
    have hbt := bt_ok q hmem
    simp only [btb, Bool.and_eq_true, decide_eq_true_eq] at hbt
    obtain ⟨⟨⟨⟨⟨⟨⟨⟨⟨⟨t1, t2⟩, t3⟩, t4⟩, t5⟩, t6⟩, t7⟩, t8⟩, t9⟩, t10⟩, t11⟩ := hbt
    have t11 := Nat.le_of_ble_eq_true t11
    refine ⟨d, rfl, fun ad kA sz => Met.ofW (cc := q.1.2.1) (maxL := q.1.2.2.1) (ret := q.1.2.2.2.1) t5 rfl ?_⟩
    intro p e s m args below meth c s₁ B hml hv
    obtain ⟨rfl, hsz, hP, hK, hD0, hnw⟩ := hv
    have hx := B.exec
    have hb := B.bytes
    have hr := B.returns
    have hts := atoms_spec (ws := wsM q.1) B.pre
    have hown : s.vm.findClass q.1.1.cls = some m.cls := findClass_of_methodNamed B.named
    have hlocks := B.notSynchronized
    have hin : meth.name = "<init>" := (name_of_methodNamed B.named B.method).1.trans t3
    subst hsz
    have hD := hD0.self (sz := s.heap.size)
    have hA : ∀ a : Nat, s.heap.size ≤ a → va_A [ownB ad kA o q.1.2.2.2.2.1] s.heap.size a := fun a h => Or.inr h
    have hF : FB p (headSpec (wsM q.1) (rmB d q)).room s m ((.inr (some o) :: as : List BV).map (cb ad)).toArray c (va_A [ownB ad kA o q.1.2.2.2.2.1] s.heap.size) q d :=
      ⟨hx, hb, hml, by have := blt_iff t10; omega, by rw [← t4]; exact hown, fun w hw => hts w (List.mem_cons_of_mem _ hw), hnw, hA, Nat.le_refl _, Nat.le_refl _, Nat.le_refl _, Nat.le_refl _⟩
    have hl := lv_entry ((.inr (some o) :: as : List BV).map (cb ad)) (n := q.1.2.2.1) (by rw [cbs_sl, List.length_cons, hn]; exact t11)
    rw [enB_args] at hl
    rw [lg_entry_eq]
    refine GB_run hmem hF hin (ih F) (ad0 := ad) (kA0 := kA) (nx0 := nx) (z := z) ?_ F 0 _ [] _ nx 0 0 (Nat.zero_le _) (Nat.zero_le _) hz (fun x hx => ?_) (fun v hv => by cases hv) (fun x hx => ?_) (Nat.le_refl _) ad kA [] s.heap [] _ (fun c hc => ⟨rfl, rfl⟩) hl hK (fun x hx k n b ov he => ?_) hP hD va_S.rf
    · intro pc lm ls cc ss hd hcc hss hnx hzw ad' kA' tys H locs g1 g2 g3 g4 g5 g6
      refine W.widen hcc hss ?_
      exact W.vret hx hb (hr.trans t2) (fun t ht hW => ⟨⟨(ad', kA', tys), rfl, ⟨g1, g3, hnx, hzw⟩, by rw [ht]; exact g4, va_K.moved hW.alike g2, g5⟩, g6.F ht⟩) g6.2.2 hd
    · rcases List.mem_cons.mp (enB_mem _ _ _ hx) with h | h
      · rw [h]; exact ho
      · exact has _ h
    · rw [List.mem_singleton.mp hx]
      refine ⟨ho, fun v hv => ?_⟩
      obtain ⟨r, -, rfl⟩ := List.mem_map.mp hv
      obtain ⟨r1, r2⟩ := r
      match r1 with
      | 0 => trivial
      | 1 => trivial
      | r1 + 2 => trivial
    · rw [List.mem_singleton.mp hx] at he
      cases he
