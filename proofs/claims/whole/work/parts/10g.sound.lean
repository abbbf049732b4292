def isArith : Instr → Bool
  | .iadd => true
  | .isub => true
  | .imul => true
  | .iand => true
  | .ior => true
  | .ixor => true
  | .idiv => true
  | .irem => true
  | .ineg => true
  | .ishl => true
  | .ishr => true
  | .iushr => true
  | .i2b => true
  | .i2s => true
  | .i2l => true
  | .l2i => true
  | .ladd => true
  | .land => true
  | .lor => true
  | .lshl => true
  | .lcmp => true
  | _ => false
theorem arith_mem {i : Instr} (h : isArith i = true) : i ∈ ([.iadd, .isub, .imul, .iand, .ior, .ixor, .idiv, .irem, .ineg, .ishl, .ishr, .iushr, .i2b, .i2s, .i2l, .l2i, .ladd, .land, .lor, .lshl, .lcmp] : List Instr) := by
  cases i <;> first | (cases h; done) | simp
def isCall : Instr → Bool
  | .invokevirtual _ => true
  | .invokestatic _ => true
  | _ => false
def isRet : Instr → Bool
  | .ireturn => true
  | .lreturn => true
  | .areturn => true
  | .return_ => true
  | _ => false
theorem gcal_spec {pc : Nat} {ls : PL} {rest : List PV} {ret : Option FieldType} {r : Option PV × PS} {c : Nat × PL × List PV × PS} (h : gcal pc ls rest ret r = some c) : c = (pc + 3, ls, r.1.toList ++ rest, r.2) := by
  rcases r with ⟨_ | (x | x | ⟨i, n, a⟩), s⟩ <;> rcases ret with _ | ret <;> simp only [gcal] at h <;> first | (cases h; done) | (cases h; rfl) | (cases ret <;> simp only [] at h <;> first | (cases h; done) | (cases h; rfl))
theorem cal_inv {k : KF} {pc : Nat} {ls : PL} {rest : List PV} {ret : Option FieldType} {res : PR} {z : Option PV × PS} (h : cal k pc ls rest ret res = some z) : ∃ r σ, res = some (r, σ) ∧ k (pc + 3) ls (r.toList ++ rest) σ = some z := by
  rw [cal_eq] at h
  obtain ⟨r, h1, h2⟩ := Option.bind_eq_some_iff.mp h
  obtain ⟨c, h3, h4⟩ := Option.bind_eq_some_iff.mp h2
  have := gcal_spec h3
  subst this
  exact ⟨r.1, r.2, h1, h4⟩
theorem split_st {st as : List PV} {n : Nat} (h : n < st.length) (e : (st.take (n + 1)).reverse = as) : as.length = n + 1 ∧ st = as.reverse ++ st.drop (n + 1) := by
  subst e
  refine ⟨by rw [List.length_reverse, List.length_take]; omega, ?_⟩
  rw [List.reverse_reverse, List.take_append_drop]
theorem split_st0 {st as : List PV} {n : Nat} (h : n ≤ st.length) (e : (st.take n).reverse = as) : as.length = n ∧ st = as.reverse ++ st.drop n := by
  subst e
  refine ⟨by rw [List.length_reverse, List.length_take]; omega, ?_⟩
  rw [List.reverse_reverse, List.take_append_drop]
theorem mt0_lt : mt0.length = 253 := by decide +kernel
theorem ev_nat {E : Nat × (Nat → Int32)} {d F y : Nat} {as : List PV} {σ : PS} {x : Option PV × PS} (h : evM E d F y as σ = some x) : ∃ d', d = d' + 1 := by
  cases d with
  | zero => cases h
  | succ d => exact ⟨d, rfl⟩
theorem mRb_0 {c j y n p1 p2 p3 : Nat} (h : mRb c (j, y, 0, n, p1, p2, p3) = true) : ∃ q, mt0[y]? = some q ∧ Cond.methodLink (cn c) j q.1 ∈ gw ∧ Cond.instanceMethod q.1 ∈ gw ∧ Cond.selects q.1.cls q.1 q.1 ∈ gw ∧ (parseMethodDescriptor q.1.desc).map (fun d => d.parameters.length) = some n := by
  simp only [mRb] at h
  cases hq : mt0[y]? with
  | none => rw [hq] at h; cases h
  | some q =>
    rw [hq] at h
    simp only [Bool.and_eq_true, decide_eq_true_eq] at h
    obtain ⟨⟨⟨⟨h1, h2⟩, h3, h4⟩, h5, h6⟩, h7⟩ := h
    exact ⟨q, rfl, gw_of h1 h2, gw_of h3 h4, gw_of h5 h6, h7⟩
theorem mRb_1 {c j y n p1 p2 p3 : Nat} (h : mRb c (j, y, 1, n, p1, p2, p3) = true) : ∃ q, mt0[y]? = some q ∧ Cond.methodLink (cn c) j q.1 ∈ gw ∧ Cond.static q.1 ∈ gw ∧ (parseMethodDescriptor q.1.desc).map (fun d => d.parameters.length) = some n := by
  simp only [mRb] at h
  cases hq : mt0[y]? with
  | none => rw [hq] at h; cases h
  | some q =>
    rw [hq] at h
    simp only [Bool.and_eq_true, decide_eq_true_eq] at h
    obtain ⟨⟨⟨h1, h2⟩, h3, h4⟩, h7⟩ := h
    exact ⟨q, rfl, gw_of h1 h2, gw_of h3 h4, h7⟩
theorem mRb_2 {c j y n p1 p2 p3 : Nat} (h : mRb c (j, y, 2, n, p1, p2, p3) = true) : ∃ q, mt0[y]? = some q ∧ Cond.methodLinkNest (cn c) j q.1 "BeggarBridge" ∈ nwL ∧ Cond.static q.1 ∈ gw ∧ (parseMethodDescriptor q.1.desc).map (fun d => d.parameters.length) = some n := by
  simp only [mRb] at h
  cases hq : mt0[y]? with
  | none => rw [hq] at h; cases h
  | some q =>
    rw [hq] at h
    simp only [Bool.and_eq_true, decide_eq_true_eq] at h
    obtain ⟨⟨h1, h3, h4⟩, h7⟩ := h
    exact ⟨q, rfl, nw_of h1 rfl, gw_of h3 h4, h7⟩
theorem mRb_6 {c j y n p1 p2 p3 : Nat} (h : mRb c (j, y, 6, n, p1, p2, p3) = true) : ∃ q, mt0[y]? = some q ∧ Cond.methodLinkNest (cn c) j q.1 "BeggarBridge" ∈ nwL ∧ Cond.instanceMethod q.1 ∈ gw ∧ Cond.selects q.1.cls q.1 q.1 ∈ gw ∧ (parseMethodDescriptor q.1.desc).map (fun d => d.parameters.length) = some n := by
  simp only [mRb] at h
  cases hq : mt0[y]? with
  | none => rw [hq] at h; cases h
  | some q =>
    rw [hq] at h
    simp only [Bool.and_eq_true, decide_eq_true_eq] at h
    obtain ⟨⟨⟨h1, h3, h4⟩, h5, h6⟩, h7⟩ := h
    exact ⟨q, rfl, nw_of h1 rfl, gw_of h3 h4, gw_of h5 h6, h7⟩
section SND3
variable {p : Program} {l : Launch} {e : Env} {R : Room} {s : State} {m : MethodId} {args : Array Value} {below : List Frame} {meth : Method} {c : Code} {cells slots : Nat} {Q : State → Prop} {D : va_G} {ad adR : Nat → Nat} {kA : Nat → ClassId} {tys : List (ClassId × FieldType)} {E : Nat × (Nat → Int32)} {A : Nat → Prop}
theorem lr_size {ls : PL} {lm : Array Slot} (h : lr ad adR ls lm) : lm.size = ls.length := h.1
theorem okS_sub {st as : List PV} (h : okS E st) (hs : ∀ v ∈ as, v ∈ st) : okS E as := fun v hv => h v (hs v hv)
theorem okS_res {r : Option PV} {rest : List PV} (ho : okO E r) (h : okS E rest) : okS E (r.toList ++ rest) := by
  cases r with
  | none => exact h
  | some v => exact okS_c (ho v rfl) h
theorem map_res (r : Option PV) (rest : List PV) : (r.toList ++ rest).map (cv ad adR) = (r.map (cv ad adR)).toList ++ rest.map (cv ad adR) := by
  cases r <;> rfl
theorem snd_callV {q : MI} {d F : Nat} (hF : Fx p R s m args c cells slots D ad adR kA tys E A q d) (hcall : CallsOk l D ad adR kA tys E d F) {k : KF} {pc : Nat} {ls : PL} {st : List PV} {σ : PS} {j y n kd p1 p2 p3 : Nat} {z : Option PV × PS} (hd : decode q.2.1 pc = .ok (.invokevirtual j, 3)) (hm : mRb q.2.2.2.2.1 (j, y, kd, n, p1, p2, p3) = true) (hkd : kd = 0 ∨ kd = 6) (he : calV (evM E d F) k pc ls st σ y n = some z)
    (ih : ∀ pc ls st σ, k pc ls st σ = some z → Gl p l e R s m args below meth c cells slots Q D ad adR kA E A q pc ls st σ) : Gl p l e R s m args below meth c cells slots Q D ad adR kA E A q pc ls st σ := by
  obtain ⟨hq, hx, hb, hml, hown, hts, hnw, hK, hwf, hA, hro, hcells, hslots, hfr, hlo⟩ := hF
  obtain ⟨q', hq', hw1, hw2, hw3, hpar⟩ : ∃ q', mt0[y]? = some q' ∧ ((kd = 0 ∧ Cond.methodLink (cn q.2.2.2.2.1) j q'.1 ∈ gw) ∨ (kd = 6 ∧ Cond.methodLinkNest (cn q.2.2.2.2.1) j q'.1 "BeggarBridge" ∈ nwL)) ∧ Cond.instanceMethod q'.1 ∈ gw ∧ Cond.selects q'.1.cls q'.1 q'.1 ∈ gw ∧ (parseMethodDescriptor q'.1.desc).map (fun d => d.parameters.length) = some n := by
    rcases hkd with rfl | rfl
    · obtain ⟨q', a1, a2, a3, a4, a5⟩ := mRb_0 hm
      exact ⟨q', a1, Or.inl ⟨rfl, a2⟩, a3, a4, a5⟩
    · obtain ⟨q', a1, a2, a3, a4, a5⟩ := mRb_6 hm
      exact ⟨q', a1, Or.inr ⟨rfl, a2⟩, a3, a4, a5⟩
  unfold calV at he
  rw [hq'] at he
  obtain ⟨hg, he1⟩ := bif_inv he
  obtain ⟨hg1, hg2⟩ := Bool.and_eq_true _ _ ▸ hg
  have hg1 := blt_iff hg1
  have hg2 := Nat.le_of_ble_eq_true hg2
  generalize has : (st.take (n + 1)).reverse = as at he1
  match as, has, he1 with
  | .inr (.inr (1, ci, a)) :: as, has, he1 =>
    obtain ⟨hci, he2⟩ := bif_inv he1
    have hci := Nat.eq_of_beq_eq_true hci
    obtain ⟨hl, hst⟩ := split_st hg1 has
    obtain ⟨r, σ', hev, he3⟩ := cal_inv he2
    intro h1 h2 h3 H locs lm h4 h5 h6
    have hokA : okS E (vR 1 ci a :: as) := okS_sub h3 (fun v hv => by rw [hst]; exact List.mem_append_left _ (List.mem_reverse.mpr hv))
    obtain ⟨d', hdd, hM⟩ := hcall y q' _ σ r σ' hq' hev hokA
    obtain ⟨o1, o2, ho1, ho2, ho3, ho4, ho5, ho6⟩ := mt_ok q' (List.mem_of_getElem? hq')
    have hcell : (a, 1, ci) ∈ cellsL := (okS_t hokA).1
    obtain ⟨q0, hq0, hw⟩ := ws_get (ad := ad) (kA := kA) σ hcell
    have hsh := (Bool.and_eq_true _ _ ▸ sh_ok _ hcell : _ ∧ _).1
    have hci13 : ci < clsL.length := by
      have : ci < 13 := of_decide_eq_true hsh
      exact this
    have hcq : clsL[ci]? = some clsL[ci] := List.getElem?_eq_getElem hci13
    have hname : (clsL[ci]).1 = q'.1.cls := by rw [(cls_ok ci _ hcq).2.2.1, ho5, hci]
    have hAA : ∀ q, AA ad q → A q := by
      rintro q ⟨r, hr, rfl⟩
      exact hA r hr
    have hstM : st.map (cv ad adR) = (as.map (cv ad adR)).reverse ++ .ref (ad a) :: (st.drop (n + 1)).map (cv ad adR) := by
      have e := congrArg (List.map (cv ad adR)) hst
      rw [e, List.map_append, List.reverse_cons, List.map_append, List.map_reverse, List.append_assoc]
      rfl
    have hrm : (rmO d').frames + 1 ≤ R.frames ∧ 8 + (q'.2.2.1 + 11) + (rmO d').locals ≤ R.locals := ⟨by show d' + 1 ≤ R.frames; omega, by show 8 + (q'.2.2.1 + 11) + 64 * d' ≤ R.locals; omega⟩
    rcases hw1 with ⟨-, hw1⟩ | ⟨-, hw1⟩
    · refine pm_call (rest := (st.drop (n + 1)).map (cv ad adR)) (va_runV (C := q'.1.cls) (As := as.map (cv ad adR)) (b := ad a) (Ts := gw) (n := n) ⟨hx, hb, hml, hown, hts⟩ hM ⟨callB_of n hts (goodM ho1) rfl rfl rfl (hts _ (gw_of ho2 rfl)) (hts _ hw1) ⟨ho4.1, ho4.2, hpar⟩ hrm, hts _ hw2, hts _ hw3⟩ ⟨PcO_blind, by rw [← hname]; exact va_recv hK h5 hcq hw, pm_pre (as := vR 1 ci a :: as) hnw hK hAA hro h5 h6⟩ rfl (by rw [List.length_map]; simp at hl; omega) (h4.1.trans h1) hstM (lv_room (by rw [sum_cv]; exact hg2)) hd ⟨hcells, hslots⟩) h6 hAA (fun H1 locs1 ho hP1 hS1 => ?_)
      rw [← map_res]
      exact ih _ _ _ _ he3 h1 h2 (okS_res ho (okS_sub h3 (fun v hv => List.mem_of_mem_drop hv))) H1 locs1 lm h4 hP1 hS1
    · refine pm_call (rest := (st.drop (n + 1)).map (cv ad adR)) (va_runVN (C := q'.1.cls) (As := as.map (cv ad adR)) (b := ad a) (Ts := gw) (n := n) ⟨hx, hb, hml, hown, hts⟩ hM ⟨va_cnB n hts (goodM ho1) rfl rfl rfl (hnw _ hw1) (hts _ (gw_of ho2 rfl)) ⟨ho4.1, ho4.2, hpar⟩ hrm, hts _ hw2, hts _ hw3⟩ ⟨PcO_blind, by rw [← hname]; exact va_recv hK h5 hcq hw, pm_pre (as := vR 1 ci a :: as) hnw hK hAA hro h5 h6⟩ rfl (by rw [List.length_map]; simp at hl; omega) (h4.1.trans h1) hstM (lv_room (by rw [sum_cv]; exact hg2)) hd ⟨hcells, hslots⟩) h6 hAA (fun H1 locs1 ho hP1 hS1 => ?_)
      rw [← map_res]
      exact ih _ _ _ _ he3 h1 h2 (okS_res ho (okS_sub h3 (fun v hv => List.mem_of_mem_drop hv))) H1 locs1 lm h4 hP1 hS1
theorem snd_callS {q : MI} {d F : Nat} (hF : Fx p R s m args c cells slots D ad adR kA tys E A q d) (hcall : CallsOk l D ad adR kA tys E d F) {k : KF} {pc : Nat} {ls : PL} {st : List PV} {σ : PS} {j y n kd p1 p2 p3 : Nat} {z : Option PV × PS} (hd : decode q.2.1 pc = .ok (.invokestatic j, 3)) (hm : mRb q.2.2.2.2.1 (j, y, kd, n, p1, p2, p3) = true) (hkd : kd = 1 ∨ kd = 2) (he : calS (evM E d F) k pc ls st σ y n = some z)
    (ih : ∀ pc ls st σ, k pc ls st σ = some z → Gl p l e R s m args below meth c cells slots Q D ad adR kA E A q pc ls st σ) : Gl p l e R s m args below meth c cells slots Q D ad adR kA E A q pc ls st σ := by
  obtain ⟨hq, hx, hb, hml, hown, hts, hnw, hK, hwf, hA, hro, hcells, hslots, hfr, hlo⟩ := hF
  have hAA : ∀ q, AA ad q → A q := by
    rintro q ⟨r, hr, rfl⟩
    exact hA r hr
  unfold calS at he
  cases hq' : mt0[y]? with
  | none => rw [hq'] at he; cases he
  | some q' =>
    rw [hq'] at he
    obtain ⟨hg, he1⟩ := bif_inv he
    obtain ⟨hg1, hg2⟩ := Bool.and_eq_true _ _ ▸ hg
    have hg1 := Nat.le_of_ble_eq_true hg1
    have hg2 := Nat.le_of_ble_eq_true hg2
    generalize has : (st.take n).reverse = as at he1
    obtain ⟨hl, hst⟩ := split_st0 hg1 has
    obtain ⟨r, σ', hev, he3⟩ := cal_inv he1
    intro h1 h2 h3 H locs lm h4 h5 h6
    have hokA : okS E as := okS_sub h3 (fun v hv => by rw [hst]; exact List.mem_append_left _ (List.mem_reverse.mpr hv))
    obtain ⟨d', hdd, hM⟩ := hcall y q' _ σ r σ' hq' hev hokA
    obtain ⟨o1, o2, ho1, ho2, ho3, ho4, ho5, ho6⟩ := mt_ok q' (List.mem_of_getElem? hq')
    have hstM : st.map (cv ad adR) = (as.map (cv ad adR)).reverse ++ (st.drop n).map (cv ad adR) := by
      rw [hst, List.map_append, List.map_reverse]
      simp [hl]
    have hrm : (rmO d').frames + 1 ≤ R.frames ∧ 8 + (q'.2.2.1 + 11) + (rmO d').locals ≤ R.locals := ⟨by show d' + 1 ≤ R.frames; omega, by show 8 + (q'.2.2.1 + 11) + 64 * d' ≤ R.locals; omega⟩
    rcases hkd with rfl | rfl
    · obtain ⟨q2, hq2, hw1, hw2, hpar⟩ := mRb_1 hm
      cases hq'.symm.trans hq2
      refine pm_call (rest := (st.drop n).map (cv ad adR)) (va_runS (As := as.map (cv ad adR)) (Ts := gw) (n := n) ⟨hx, hb, hml, hown, hts⟩ hM ⟨callB_of n hts (goodM ho1) rfl rfl rfl (hts _ (gw_of ho2 rfl)) (hts _ hw1) ⟨ho4.1, ho4.2, hpar⟩ hrm, hts _ hw2⟩ ⟨PcO_blind, pm_pre (as := as) hnw hK hAA hro h5 h6⟩ rfl (by rw [List.length_map]; exact hl) (h4.1.trans h1) hstM (lv_room (by rw [sum_cv]; exact hg2)) hd ⟨hcells, hslots⟩) h6 hAA (fun H1 locs1 ho hP1 hS1 => ?_)
      rw [← map_res]
      exact ih _ _ _ _ he3 h1 h2 (okS_res ho (okS_sub h3 (fun v hv => List.mem_of_mem_drop hv))) H1 locs1 lm h4 hP1 hS1
    · obtain ⟨q2, hq2, hw1, hw2, hpar⟩ := mRb_2 hm
      cases hq'.symm.trans hq2
      refine pm_call (rest := (st.drop n).map (cv ad adR)) (va_runSN (As := as.map (cv ad adR)) (Ts := gw) (n := n) ⟨hx, hb, hml, hown, hts⟩ hM ⟨va_cnB n hts (goodM ho1) rfl rfl rfl (hnw _ hw1) (hts _ (gw_of ho2 rfl)) ⟨ho4.1, ho4.2, hpar⟩ hrm, hts _ hw2, trivial⟩ ⟨PcO_blind, pm_pre (as := as) hnw hK hAA hro h5 h6⟩ rfl (by rw [List.length_map]; exact hl) (h4.1.trans h1) hstM (lv_room (by rw [sum_cv]; exact hg2)) hd ⟨hcells, hslots⟩) h6 hAA (fun H1 locs1 ho hP1 hS1 => ?_)
      rw [← map_res]
      exact ih _ _ _ _ he3 h1 h2 (okS_res ho (okS_sub h3 (fun v hv => List.mem_of_mem_drop hv))) H1 locs1 lm h4 hP1 hS1
theorem ac_inv {as : List PV} {σ : PS} {x : Option PV × PS} (h : acp as σ = some x) : (∃ n0 a sp n1 b dp n, as = [vR 2 n0 a, vI sp, vR 2 n1 b, vI dp, vI n] ∧ (¬ sp < 0 ∧ ¬ dp < 0 ∧ ¬ n < 0 ∧ ix sp + ix n ≤ n0 ∧ ix dp + ix n ≤ n1) ∧ x = (none, (c2 σ.1 a b (ix sp) (ix dp) (ix n), σ.2))) ∨ ∃ n0 a sp n1 b dp n, as = [vR 3 n0 a, vI sp, vR 3 n1 b, vI dp, vI n] ∧ (¬ sp < 0 ∧ ¬ dp < 0 ∧ ¬ n < 0 ∧ ix sp + ix n ≤ n0 ∧ ix dp + ix n ≤ n1) ∧ x = (none, (σ.1, c2L σ.2 a b (ix sp) (ix dp) (ix n))) := by
  unfold acp at h
  split at h
  · obtain ⟨h1, h2⟩ := ite_inv h
    exact Or.inl ⟨_, _, _, _, _, _, _, rfl, h1, (Option.some.inj h2).symm⟩
  · obtain ⟨h1, h2⟩ := ite_inv h
    exact Or.inr ⟨_, _, _, _, _, _, _, rfl, h1, (Option.some.inj h2).symm⟩
  · cases h
theorem bV_inv {x : PR} {f : PS → PR} {z : Option PV × PS} (h : bV x f = some z) : ∃ s, x = some (none, s) ∧ f s = some z := by
  rcases x with _ | ⟨_ | (x | x | x), s⟩
  · cases h
  · exact ⟨s, rfl, h⟩
  · cases h
  · cases h
  · cases h
theorem bI_inv {x : PR} {f : Int32 → PS → PR} {z : Option PV × PS} (h : bI x f = some z) : ∃ r s, x = some (some (vI r), s) ∧ f r s = some z := by
  rcases x with _ | ⟨_ | (x | x | x), s⟩
  · cases h
  · cases h
  · exact ⟨x, s, rfl, h⟩
  · cases h
  · cases h
theorem c2_ne {M : Nat → Nat → Int32} {a b sp dp n r : Nat} (h : r ≠ b) : c2 M a b sp dp n r = M r := if_neg h
theorem c2_eq {M : Nat → Nat → Int32} {a b sp dp n : Nat} : c2 M a b sp dp n b = va_cpy (M a) (M b) sp dp n := if_pos rfl
theorem c2L_ne {M : Nat → Nat → Int64} {a b sp dp n r : Nat} (h : r ≠ b) : c2L M a b sp dp n r = M r := if_neg h
theorem c2L_eq {M : Nat → Nat → Int64} {a b sp dp n : Nat} : c2L M a b sp dp n b = va_cpy (M a) (M b) sp dp n := if_pos rfl
theorem snd_callC {q : MI} {d F : Nat} (hF : Fx p R s m args c cells slots D ad adR kA tys E A q d) {k : KF} {pc : Nat} {ls : PL} {st : List PV} {σ : PS} {j y n p1 p2 p3 : Nat} {z : Option PV × PS} (hd : decode q.2.1 pc = .ok (.invokestatic j, 3)) (hm : mRb q.2.2.2.2.1 (j, y, 3, n, p1, p2, p3) = true) (he : calC (evM E d F) k pc ls st σ = some z)
    (ih : ∀ pc ls st σ, k pc ls st σ = some z → Gl p l e R s m args below meth c cells slots Q D ad adR kA E A q pc ls st σ) : Gl p l e R s m args below meth c cells slots Q D ad adR kA E A q pc ls st σ := by
  obtain ⟨hq, hx, hb, hml, hown, hts, hnw, hK, hwf, hA, hro, hcells, hslots, hfr, hlo⟩ := hF
  simp only [mRb, Bool.and_eq_true, decide_eq_true_eq] at hm
  have hlink := hts _ (gw_of hm.1 hm.2)
  unfold calC at he
  obtain ⟨hg, he1⟩ := bif_inv he
  obtain ⟨hg1, hg2⟩ := Bool.and_eq_true _ _ ▸ hg
  have hg1 := Nat.le_of_ble_eq_true hg1
  have hg2 := Nat.le_of_ble_eq_true hg2
  generalize has : (st.take 5).reverse = as at he1
  obtain ⟨hl, hst⟩ := split_st0 hg1 has
  obtain ⟨σ1, hev, he3⟩ := bV_inv he1
  obtain ⟨d', rfl⟩ := ev_nat hev
  have hev : acp as σ = some (none, σ1) := hev
  intro h1 h2 h3 H locs lm h4 h5 h6
  have hokA : okS E as := okS_sub h3 (fun v hv => by rw [hst]; exact List.mem_append_left _ (List.mem_reverse.mpr hv))
  have hok2 : okS E (st.drop 5) := okS_sub h3 (fun v hv => List.mem_of_mem_drop hv)
  have hmax : c.maxLocals = lm.size := by rw [hml, h4.1, h1]
  have hloc : (((st.drop 5).map (cv ad adR)).map fun v => v.category).sum + (nativeFrameWords "java/lang/System" "arraycopy" 5 + 11) ≤ R.locals := by
    rw [sum_cv, show nativeFrameWords "java/lang/System" "arraycopy" 5 = 7 from by decide +kernel]
    omega
  have e0 := congrArg (List.map (cv ad adR)) hst
  rcases ac_inv hev with ⟨n0, a, sp, n1, b, dp, nn, rfl, hc, hx2⟩ | ⟨n0, a, sp, n1, b, dp, nn, rfl, hc, hx2⟩
  · cases hx2
    have hca : (a, 2, n0) ∈ cellsL := hokA (vR 2 n0 a) (by simp)
    have hcb : (b, 2, n1) ∈ cellsL := hokA (vR 2 n1 b) (by simp)
    obtain ⟨q0, hq0, hw0⟩ := ws_get (ad := ad) (kA := kA) σ hca
    obtain ⟨q1, hq1, hw1⟩ := ws_get (ad := ad) (kA := kA) σ hcb
    obtain ⟨t0, ht0⟩ := hwf.2.1 _ hca rfl
    obtain ⟨t1, ht1⟩ := hwf.2.1 _ hcb rfl
    rw [e0]
    refine va_copyi hx hb hmax hown hlink (hts _ ac_ok.1) (hts _ ac_ok.2.1) (hts _ ac_ok.2.2) hK h5 (ws_D hwf hA σ) h6 q0 q1 t0 t1 hw0 hw1 ht0 ht1 rfl hc.1 hc.2.1 hc.2.2.1 hc.2.2.2.1 hc.2.2.2.2 (fun _ _ => rfl) (by omega) hloc hd (fun H1 locs1 hP1 _ hS1 => ?_)
    have hnew : (wsO ad kA σ).set q1 (ad b, .inl (kA b, n1, .inl (va_cpy (σ.1 a) (σ.1 b) sp.toNatClampNeg dp.toNatClampNeg nn.toNatClampNeg))) = wsO ad kA (c2 σ.1 a b (ix sp) (ix dp) (ix nn), σ.2) := by
      rw [← ws_set (σ := σ) (σ' := (c2 σ.1 a b (ix sp) (ix dp) (ix nn), σ.2)) hq1 (fun r hr hne => conc_congr (c2_ne hne) rfl)]
      show _ = (wsO ad kA σ).set q1 (ad b, .inl (kA b, n1, .inl (c2 σ.1 a b (ix sp) (ix dp) (ix nn) b)))
      rw [c2_eq]
      rfl
    have hP1 : va_P D clsL ((wsO ad kA σ).set q1 (ad b, .inl (kA b, n1, .inl (va_cpy (σ.1 a) (σ.1 b) sp.toNatClampNeg dp.toNatClampNeg nn.toNatClampNeg)))) H1 := hP1
    rw [hnew] at hP1
    exact ih _ _ _ _ he3 h1 h2 hok2 H1 locs1 lm h4 hP1 hS1
  · cases hx2
    have hca : (a, 3, n0) ∈ cellsL := hokA (vR 3 n0 a) (by simp)
    have hcb : (b, 3, n1) ∈ cellsL := hokA (vR 3 n1 b) (by simp)
    obtain ⟨q0, hq0, hw0⟩ := ws_get (ad := ad) (kA := kA) σ hca
    obtain ⟨q1, hq1, hw1⟩ := ws_get (ad := ad) (kA := kA) σ hcb
    obtain ⟨t0, ht0⟩ := hwf.2.2.1 _ hca rfl
    obtain ⟨t1, ht1⟩ := hwf.2.2.1 _ hcb rfl
    rw [e0]
    refine va_copyl hx hb hmax hown hlink (hts _ ac_ok.1) (hts _ ac_ok.2.1) (hts _ ac_ok.2.2) hK h5 (ws_D hwf hA σ) h6 q0 q1 t0 t1 hw0 hw1 ht0 ht1 rfl hc.1 hc.2.1 hc.2.2.1 hc.2.2.2.1 hc.2.2.2.2 (fun _ _ => rfl) (by omega) hloc hd (fun H1 locs1 hP1 _ hS1 => ?_)
    have hnew : (wsO ad kA σ).set q1 (ad b, .inl (kA b, n1, .inr (.inl (va_cpy (σ.2 a) (σ.2 b) sp.toNatClampNeg dp.toNatClampNeg nn.toNatClampNeg)))) = wsO ad kA (σ.1, c2L σ.2 a b (ix sp) (ix dp) (ix nn)) := by
      rw [← ws_set (σ := σ) (σ' := (σ.1, c2L σ.2 a b (ix sp) (ix dp) (ix nn))) hq1 (fun r hr hne => conc_congr rfl (c2L_ne hne))]
      show _ = (wsO ad kA σ).set q1 (ad b, .inl (kA b, n1, .inr (.inl (c2L σ.2 a b (ix sp) (ix dp) (ix nn) b))))
      rw [c2L_eq]
      rfl
    have hP1 : va_P D clsL ((wsO ad kA σ).set q1 (ad b, .inl (kA b, n1, .inr (.inl (va_cpy (σ.2 a) (σ.2 b) sp.toNatClampNeg dp.toNatClampNeg nn.toNatClampNeg))))) H1 := hP1
    rw [hnew] at hP1
    exact ih _ _ _ _ he3 h1 h2 hok2 H1 locs1 lm h4 hP1 hS1
theorem snd_callM {q : MI} {d F : Nat} (hF : Fx p R s m args c cells slots D ad adR kA tys E A q d) {k : KF} {pc : Nat} {ls : PL} {st : List PV} {σ : PS} {j y n kd p1 p2 p3 w : Nat} {z : Option PV × PS} (hd : decode q.2.1 pc = .ok (.invokestatic j, 3)) (hm : mRb q.2.2.2.2.1 (j, y, kd, n, p1, p2, p3) = true) (hk : (kd = 4 ∧ w = 998) ∨ (kd = 5 ∧ w = 997)) (he : calM (evM E d F) k pc ls st σ w = some z)
    (ih : ∀ pc ls st σ, k pc ls st σ = some z → Gl p l e R s m args below meth c cells slots Q D ad adR kA E A q pc ls st σ) : Gl p l e R s m args below meth c cells slots Q D ad adR kA E A q pc ls st σ := by
  obtain ⟨hq, hx, hb, hml, hown, hts, hnw, hK, hwf, hA, hro, hcells, hslots, hfr, hlo⟩ := hF
  unfold calM at he
  obtain ⟨a, b, r, rfl, he1⟩ := p2_inv he
  obtain ⟨hg, he2⟩ := bif_inv he1
  have hg := Nat.le_of_ble_eq_true hg
  obtain ⟨x, σ1, hev, he3⟩ := bI_inv he2
  obtain ⟨d', rfl⟩ := ev_nat hev
  intro h1 h2 h3 H locs lm h4 h5 h6
  have hmax : c.maxLocals = lm.size := by rw [hml, h4.1, h1]
  have hloc : ((r.map (cv ad adR)).map fun v => v.category).sum + 13 ≤ R.locals := by
    rw [sum_cv]
    omega
  have hok : okS E (vI x :: r) := okS_c trivial (okS_t (okS_t h3).2).2
  rcases hk with ⟨rfl, rfl⟩ | ⟨rfl, rfl⟩
  · simp only [mRb, Bool.and_eq_true, decide_eq_true_eq] at hm
    have hev : some (some (vI (if a < b then b else a)), σ) = some (some (vI x), σ1) := hev
    cases hev
    exact va_mmax hx hb hmax hown (hts _ (gw_of hm.1 hm.2)) (hts _ mmax_ok.1) (hts _ mmax_ok.2.2) (hts _ mmax_ok.2.1) (by omega) hloc hcells hslots hd (ih _ _ _ _ he3 h1 h2 hok H locs lm h4 h5 h6)
  · simp only [mRb, Bool.and_eq_true, decide_eq_true_eq] at hm
    have hev : some (some (vI (if b < a then b else a)), σ) = some (some (vI x), σ1) := hev
    cases hev
    exact va_mmin hx hb hmax hown (hts _ (gw_of hm.1 hm.2)) (hts _ mmin_ok.1) (hts _ mmin_ok.2.2) (hts _ mmin_ok.2.1) (by omega) hloc hcells hslots hd (ih _ _ _ _ he3 h1 h2 hok H locs lm h4 h5 h6)
theorem ex_cases {cf : CF} {k : KF} {q : MI} {pc : Nat} {ls : PL} {st : List PV} {σ : PS} {i : Instr} {z : Option PV × PS} (he : exI E cf k q pc ls st σ i = some z) : isArith i = true ∨ isMove i = true ∨ isJump i = true ∨ isHeap i = true ∨ isCall i = true ∨ isRet i = true := by
  cases i <;> first
    | exact Or.inl rfl
    | exact Or.inr (Or.inl rfl)
    | exact Or.inr (Or.inr (Or.inl rfl))
    | exact Or.inr (Or.inr (Or.inr (Or.inl rfl)))
    | exact Or.inr (Or.inr (Or.inr (Or.inr (Or.inl rfl))))
    | exact Or.inr (Or.inr (Or.inr (Or.inr (Or.inr rfl))))
    | (cases he; done)
theorem retI_inv {ret : Option FieldType} {x : Int32} {σ : PS} {z : Option PV × PS} (h : retI ret x σ = some z) : z = (some (vI x), σ) ∧ (ret = some .int ∨ (ret = some .boolean ∧ (x = 0 ∨ x = 1))) := by
  unfold retI at h
  split at h
  · exact ⟨(Option.some.inj h).symm, Or.inl rfl⟩
  · obtain ⟨h1, h2⟩ := ite_inv h
    exact ⟨(Option.some.inj h2).symm, Or.inr ⟨rfl, h1⟩⟩
  · cases h
theorem retL_inv {ret : Option FieldType} {x : Int64} {σ : PS} {z : Option PV × PS} (h : retL ret x σ = some z) : z = (some (vL x), σ) ∧ ret = some .long := by
  unfold retL at h
  split at h
  · exact ⟨(Option.some.inj h).symm, rfl⟩
  · cases h
theorem retA_inv {ret : Option FieldType} {k n a : Nat} {σ : PS} {z : Option PV × PS} (h : retA ret k n a σ = some z) : z = (some (vR k n a), σ) ∧ ((∃ t, ret = some (.array t)) ∨ ∃ t, ret = some (.object t)) := by
  unfold retA at h
  split at h
  · exact ⟨(Option.some.inj h).symm, Or.inl ⟨_, rfl⟩⟩
  · exact ⟨(Option.some.inj h).symm, Or.inr ⟨_, rfl⟩⟩
  · cases h
theorem retV_inv {ret : Option FieldType} {σ : PS} {z : Option PV × PS} (h : retV ret σ = some z) : z = (none, σ) ∧ ret = none := by
  unfold retV at h
  split at h
  · exact ⟨(Option.some.inj h).symm, rfl⟩
  · cases h
/-- WHAT OUR MACHINE ANSWERS IN A FRAME, THE KIT'S MACHINE DOES: from a place to the return -/
theorem snd_run {q : MI} {d G0 : Nat} (hF : Fx p R s m args c cells slots D ad adR kA tys E A q d) (hcall : CallsOk l D ad adR kA tys E d G0) {r : Option PV} {σ' : PS}
    (hret : ∀ (pc : Nat) (lm : Array Slot) (H : Heap) (locs : List Loc), retAt q pc r → okO E r → va_P D clsL (wsO ad kA σ') H → va_S A s.heap H locs → W p l e R s m args below meth c H locs cells slots Q (F0 m pc lm ((r.map (cv ad adR)).toList))) :
    ∀ (F pc : Nat) (ls : PL) (st : List PV) (σ : PS), runN E (evM E d G0) q F pc ls st σ = some (r, σ') → Gl p l e R s m args below meth c cells slots Q D ad adR kA E A q pc ls st σ := by
  intro F
  induction F with
  | zero => intro pc ls st σ h; cases h
  | succ F ih =>
    intro pc ls st σ h
    have h : run1 E (evM E d G0) (runN E (evM E d G0) q F) q pc ls st σ = some (r, σ') := h
    unfold run1 at h
    cases hk : lk q.2.2.2.2.2 pc with
    | none => rw [hk] at h; cases h
    | some il =>
      obtain ⟨i, len⟩ := il
      rw [hk] at h
      have hz : exI E (evM E d G0) (runN E (evM E d G0) q F) q pc ls st σ i = some (r, σ') := h
      clear h
      have h := hz
      clear hz
      have hq := hF.1
      have hd : decode q.2.1 pc = .ok (i, len) := mt_dk q hq (pc, i, len) (lk_mem hk)
      have hlen := len_ok q hq (pc, i, len) (lk_mem hk)
      have hcl := (mc_ok q hq).1
      rcases ex_cases h with hc | hc | hc | hc | hc | hc
      · have hl1 : len = 1 := by
          cases i <;> first | (cases hc; done) | simpa [lenOk] using hlen
        subst hl1
        exact snd_arith hF hd h ih (arith_mem hc)
      · exact snd_move hF hd hlen h ih hc
      · exact snd_jump hF hd hlen h ih hc
      · exact snd_heap hF hd hlen h ih hc
      · cases i <;> first | (cases hc; done) | skip
        case invokevirtual j =>
          have hl1 : len = 3 := by simpa [lenOk] using hlen
          subst hl1
          simp only [exI] at h
          cases hj : lk (mR q.2.2.2.2.1) j with
          | none => rw [hj] at h; cases h
          | some v =>
            rw [hj] at h
            have hm := mR_ok _ hcl _ (lk_mem hj)
            match v, h, hm with
            | (y, 0, n, p1, p2, p3), h, hm => exact snd_callV hF hcall hd hm (Or.inl rfl) h ih
            | (y, 6, n, p1, p2, p3), h, hm => exact snd_callV hF hcall hd hm (Or.inr rfl) h ih
        case invokestatic j =>
          have hl1 : len = 3 := by simpa [lenOk] using hlen
          subst hl1
          simp only [exI] at h
          cases hj : lk (mR q.2.2.2.2.1) j with
          | none => rw [hj] at h; cases h
          | some v =>
            rw [hj] at h
            have hm := mR_ok _ hcl _ (lk_mem hj)
            match v, h, hm with
            | (y, 1, n, p1, p2, p3), h, hm => exact snd_callS hF hcall hd hm (Or.inl rfl) h ih
            | (y, 2, n, p1, p2, p3), h, hm => exact snd_callS hF hcall hd hm (Or.inr rfl) h ih
            | (y, 3, n, p1, p2, p3), h, hm => exact snd_callC hF hd hm h ih
            | (y, 4, n, p1, p2, p3), h, hm => exact snd_callM hF hd hm (Or.inl ⟨rfl, rfl⟩) h ih
            | (y, 5, n, p1, p2, p3), h, hm => exact snd_callM hF hd hm (Or.inr ⟨rfl, rfl⟩) h ih
      · have hl1 : len = 1 := by
          cases i <;> first | (cases hc; done) | simpa [lenOk] using hlen
        subst hl1
        intro h1 h2 h3 H locs lm h4 h5 h6
        cases i <;> first | (cases hc; done) | skip
        all_goals simp only [exI] at h
        case ireturn =>
          match st, h, h3 with
          | [.inl x], h, h3 =>
            obtain ⟨hz, hr⟩ := retI_inv h
            cases hz
            exact hret pc lm H locs (Or.inl ⟨hk, x, rfl, hr⟩) (fun v hv => by cases hv; trivial) h5 h6
        case lreturn =>
          match st, h, h3 with
          | [.inr (.inl x)], h, h3 =>
            obtain ⟨hz, hr⟩ := retL_inv h
            cases hz
            exact hret pc lm H locs (Or.inr (Or.inl ⟨hk, x, rfl, hr⟩)) (fun v hv => by cases hv; trivial) h5 h6
        case areturn =>
          match st, h, h3 with
          | [.inr (.inr (i, n, a))], h, h3 =>
            obtain ⟨hz, hr⟩ := retA_inv h
            cases hz
            exact hret pc lm H locs (Or.inr (Or.inr (Or.inl ⟨hk, i, n, a, rfl, hr⟩))) (fun v hv => by cases hv; exact (okS_t h3).1) h5 h6
        case return_ =>
          match st, h, h3 with
          | [], h, h3 =>
            obtain ⟨hz, hr⟩ := retV_inv h
            cases hz
            exact hret pc lm H locs (Or.inr (Or.inr (Or.inr ⟨hk, rfl, hr⟩))) (fun v hv => by cases hv) h5 h6
end SND3
