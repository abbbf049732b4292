/-! every method of the table, at every depth -/
theorem xp_mem : ∀ (as : List PV) (i : Nat) (v : PV), (xp as)[i]? = some (some v) → v ∈ as
  | [], i, v, h => by simp [xp] at h
  | .inl x :: t, i, v, h => by
    match i, h with
    | 0, h => have : vI x = v := by simpa [xp] using h
              subst this; exact List.mem_cons_self
    | i + 1, h => exact List.mem_cons_of_mem _ (xp_mem t i v (by simpa [xp] using h))
  | .inr (.inl x) :: t, i, v, h => by
    match i, h with
    | 0, h => have : vL x = v := by simpa [xp] using h
              subst this; exact List.mem_cons_self
    | 1, h => simp [xp] at h
    | i + 2, h => exact List.mem_cons_of_mem _ (xp_mem t i v (by simpa [xp] using h))
  | .inr (.inr x) :: t, i, v, h => by
    match i, h with
    | 0, h => have : (.inr (.inr x) : PV) = v := by simpa [xp] using h
              subst this; exact List.mem_cons_self
    | i + 1, h => exact List.mem_cons_of_mem _ (xp_mem t i v (by simpa [xp] using h))
theorem cat_r (ad adR : Nat → Nat) (x : Nat × Nat × Nat) : (cv ad adR (.inr (.inr x))).category = 1 := cat_cv ad adR (.inr (.inr x))
theorem xp_args (ad adR : Nat → Nat) : ∀ (as : List PV) (j i : Nat) (v : PV), (xp as)[i]? = some (some v) → (j + i, cv ad adR v) ∈ lv_args j (as.map (cv ad adR))
  | [], j, i, v, h => by simp [xp] at h
  | .inl x :: t, j, i, v, h => by
    match i, h with
    | 0, h => have : vI x = v := by simpa [xp] using h
              subst this; exact List.mem_cons_self
    | i + 1, h =>
      have := xp_args ad adR t (j + 1) i v (by simpa [xp] using h)
      refine List.mem_cons_of_mem _ ?_
      rw [show j + (i + 1) = j + 1 + i by omega]
      exact this
  | .inr (.inl x) :: t, j, i, v, h => by
    match i, h with
    | 0, h => have : vL x = v := by simpa [xp] using h
              subst this; exact List.mem_cons_self
    | 1, h => simp [xp] at h
    | i + 2, h =>
      have := xp_args ad adR t (j + 2) i v (by simpa [xp] using h)
      refine List.mem_cons_of_mem _ ?_
      rw [show j + (i + 2) = j + 2 + i by omega]
      exact this
  | .inr (.inr x) :: t, j, i, v, h => by
    match i, h with
    | 0, h => have : (.inr (.inr x) : PV) = v := by simpa [xp] using h
              subst this; exact List.mem_cons_self
    | i + 1, h =>
      have := xp_args ad adR t (j + 1) i v (by simpa [xp] using h)
      refine List.mem_cons_of_mem _ ?_
      rw [show j + (i + 1) = j + 1 + i by omega]
      show _ ∈ lv_args (if (cv ad adR (.inr (.inr x))).category = 2 then j + 2 else j + 1) _
      rw [if_neg (by rw [cat_r]; decide)]
      exact this
theorem xp_len (ad adR : Nat → Nat) : ∀ as : List PV, (lg_sl (as.map (cv ad adR))).length = (xp as).length
  | [] => rfl
  | .inl x :: t => by
    have := xp_len ad adR t
    simp only [lg_sl, List.map_cons, List.flatMap_cons, List.length_append] at this ⊢
    rw [this]
    show 1 + _ = _
    simp [xp, Nat.add_comm]
  | .inr (.inl x) :: t => by
    have := xp_len ad adR t
    simp only [lg_sl, List.map_cons, List.flatMap_cons, List.length_append] at this ⊢
    rw [this]
    show 2 + _ = _
    simp [xp]
    omega
  | .inr (.inr x) :: t => by
    have := xp_len ad adR t
    simp only [lg_sl, List.map_cons, List.flatMap_cons, List.length_append] at this ⊢
    rw [this, if_neg (by rw [cat_r]; decide)]
    simp [xp, Nat.add_comm]
theorem lcl_get {q : MI} {as : List PV} {i : Nat} {v : PV} (h : (lcl q as)[i]? = some (some v)) : (xp as)[i]? = some (some v) := by
  unfold lcl at h
  by_cases hi : i < (xp as).length
  · rw [List.getElem?_append_left hi] at h; exact h
  · rw [List.getElem?_append_right (by omega)] at h
    rw [List.getElem?_replicate] at h
    split at h
    · simp at h
    · cases h
theorem lcl_lr {ad adR : Nat → Nat} {q : MI} {as : List PV} (hl : (xp as).length ≤ q.2.2.1) : lr ad adR (lcl q as) ((lg_sl (as.map (cv ad adR)) ++ List.replicate (q.2.2.1 - (lg_sl (as.map (cv ad adR))).length) Slot.unset).toArray) ∧ (lcl q as).length = q.2.2.1 := by
  have h0 := lv_entry (as.map (cv ad adR)) (n := q.2.2.1) (by rw [xp_len]; exact hl)
  have h1 : (lcl q as).length = q.2.2.1 := by
    unfold lcl
    rw [List.length_append, List.length_replicate]
    omega
  refine ⟨⟨h0.1.trans h1.symm, h0.2.1, fun i v hv => ?_⟩, h1⟩
  have := xp_args ad adR as 0 i v (lcl_get hv)
  rw [Nat.zero_add] at this
  exact h0.2.2 (i, cv ad adR v) this
set_option maxHeartbeats 2000000 in
theorem calls_ok (l : Launch) (D : va_G) (ad adR : Nat → Nat) (kA : Nat → ClassId) (tys : List (ClassId × FieldType)) (E : Nat × (Nat → Int32)) (hwf : WF ad kA tys) : ∀ d F : Nat, CallsOk l D ad adR kA tys E d F := by
  intro d
  induction d with
  | zero => intro F y q as σ r σ' hq h hok; cases h
  | succ d ih =>
    intro F y q as σ r σ' hq h hok
    have hy : y < 253 := by
      have := (List.getElem?_eq_some_iff.mp hq).1
      rw [mt0_lt] at this
      exact this
    have h9 : Nat.beq y 999 = false := by
      cases hb : Nat.beq y 999 with
      | false => rfl
      | true => exact absurd (Nat.eq_of_beq_eq_true hb) (by omega)
    have h8 : (Nat.beq y 998 || Nat.beq y 997) = false := by
      cases hb : Nat.beq y 998 with
      | true => exact absurd (Nat.eq_of_beq_eq_true hb) (by omega)
      | false =>
        cases hc : Nat.beq y 997 with
        | true => exact absurd (Nat.eq_of_beq_eq_true hc) (by omega)
        | false => rfl
    have h : (bif Nat.beq y 999 then acp as σ else bif Nat.beq y 998 || Nat.beq y 997 then mmx y as σ else match mt0[y]? with
      | some q => bif Nat.ble (xp as).length q.2.2.1 then runN E (evM E d F) q F 0 (lcl q as) [] σ else none
      | none => none) = some (r, σ') := h
    rw [h9, h8, hq] at h
    obtain ⟨hl, h⟩ := bif_inv h
    have hl := Nat.le_of_ble_eq_true hl
    have hmem : q ∈ mt0 := List.mem_of_getElem? hq
    obtain ⟨o1, o2, ho1, ho2, ho3, ho4, ho5, ho6⟩ := mt_ok q hmem
    refine ⟨d, rfl, Met.ofW (cc := q.2.1) (maxL := q.2.2.1) (ret := q.2.2.2.1) ho3 rfl ?_⟩
    intro p e s m args below meth c s₁ B hml hv
    obtain ⟨rfl, hP, hK, hnw, hro⟩ := hv
    have hx := B.exec
    have hb := B.bytes
    have hr := B.returns
    have hts := atoms_spec (ws := wsM q) B.pre
    have hown : s.vm.findClass q.1.cls = some m.cls := findClass_of_methodNamed B.named
    have hlocks := B.notSynchronized
    have hq' : q ∈ mt := List.mem_append_left _ hmem
    have hF : Fx p (headSpec (wsM q) (rmO d)).room s m (as.map (cv ad adR)).toArray c 0 0 D ad adR kA tys E (AA ad) q d :=
      ⟨hq', hx, hb, hml, by rw [← ho5]; exact hown, fun w hw => hts w (List.mem_cons_of_mem _ hw), hnw, hK, hwf, fun r hr => ⟨r, hr, rfl⟩, hro, Nat.le_refl _, Nat.le_refl _, Nat.le_refl _, Nat.le_refl _⟩
    rw [lg_entry_eq]
    obtain ⟨hlr, hlen⟩ := lcl_lr (ad := ad) (adR := adR) (q := q) (as := as) hl
    refine snd_run hF (ih F) (r := r) (σ' := σ') ?_ F 0 (lcl q as) [] σ h hlen (fun i v hv => hok v (xp_mem as i v (lcl_get hv))) (fun v hv => by cases hv) s.heap [] _ hlr hP va_S.rf
    intro pc lm H locs hat hoo hP1 hS1
    have hdk := mt_dk q hq'
    rcases hat with ⟨hk, x, rfl, hret⟩ | ⟨hk, x, rfl, hret⟩ | ⟨hk, k, n, a, rfl, hret⟩ | ⟨hk, rfl, hret⟩
    · have hd : decode q.2.1 pc = .ok (.ireturn, 1) := hdk (pc, .ireturn, 1) (lk_mem hk)
      rcases hret with hret | ⟨hret, h01⟩
      · exact W.iret (v := x) hx hb (hr.trans hret) (fun t ht hW => ⟨⟨rfl, hoo, by rw [ht]; exact hP1⟩, hS1.F ht⟩) hS1.2.2 hd
      · exact W.zret (v := x) hx hb (hr.trans hret) (by rcases h01 with rfl | rfl <;> decide) (fun t ht hW => ⟨⟨rfl, hoo, by rw [ht]; exact hP1⟩, hS1.F ht⟩) hS1.2.2 hd
    · have hd : decode q.2.1 pc = .ok (.lreturn, 1) := hdk (pc, .lreturn, 1) (lk_mem hk)
      exact W.lret (v := x) hx hb (hr.trans hret) (fun t ht hW => ⟨⟨rfl, hoo, by rw [ht]; exact hP1⟩, hS1.F ht⟩) hS1.2.2 hd
    · have hd : decode q.2.1 pc = .ok (.areturn, 1) := hdk (pc, .areturn, 1) (lk_mem hk)
      have hval : cv ad adR (vR k n a) = .null ∨ ∃ b, cv ad adR (vR k n a) = .ref b := by
        match k with
        | 0 => exact Or.inl rfl
        | 1 => exact Or.inr ⟨_, rfl⟩
        | 2 => exact Or.inr ⟨_, rfl⟩
        | 3 => exact Or.inr ⟨_, rfl⟩
        | 4 => exact Or.inr ⟨_, rfl⟩
        | k + 5 => exact Or.inr ⟨_, rfl⟩
      rcases hret with ⟨t, hret⟩ | ⟨t, hret⟩
      · exact W.aret (v := cv ad adR (vR k n a)) hx hb (hr.trans hret) (Or.inr ⟨_, rfl⟩) hval (fun t ht hW => ⟨⟨rfl, hoo, by rw [ht]; exact hP1⟩, hS1.F ht⟩) hS1.2.2 hd
      · exact W.aret (v := cv ad adR (vR k n a)) hx hb (hr.trans hret) (Or.inl ⟨_, rfl⟩) hval (fun t ht hW => ⟨⟨rfl, hoo, by rw [ht]; exact hP1⟩, hS1.F ht⟩) hS1.2.2 hd
    · have hd : decode q.2.1 pc = .ok (.return_, 1) := hdk (pc, .return_, 1) (lk_mem hk)
      exact W.vret hx hb (hr.trans hret) (fun t ht hW => ⟨⟨rfl, hoo, by rw [ht]; exact hP1⟩, hS1.F ht⟩) hS1.2.2 hd
