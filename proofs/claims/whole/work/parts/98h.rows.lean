/-! the constructors' machine: calls -/
def ownB (ad : Nat → Nat) (kA : Nat → ClassId) (o ci : Nat) : Nat × va_E := cbQ ad kA (o, .inl (ci, dflt ci))
def PcB (D : va_G) (ad : Nat → Nat) (kA : Nat → ClassId) (o : Nat) (as : List BV) (ci sz : Nat) : Array Value → State → Prop := va_Pc ((.inr (some o) :: as : List BV).map (cb ad)) (fun U => U.heap.size = sz ∧ va_P D clsL [ownB ad kA o ci] U.heap ∧ va_K D clsL [] U ∧ va_D (fun _ => True) [ownB ad kA o ci] ∧ NwB U)
def QcB (D : va_G) (ad : Nat → Nat) (kA : Nat → ClassId) (nx o ci sz : Nat) (z : BW × Nat) : Array Value → State → Outcome → State → Prop := va_Qv (S := (Nat → Nat) × (Nat → ClassId) × List (ClassId × FieldType)) (fun u => agr nx ad u.1 kA u.2.1 ∧ tysB u.2.1 u.2.2 z.1 ∧ nx ≤ z.2 ∧ okBW z.2 z.1) (fun u t => va_P D clsL (z.1.map (cbQ u.1 u.2.1)) t.heap ∧ va_K D clsL u.2.2 t ∧ va_D (va_A [ownB ad kA o ci] sz) (z.1.map (cbQ u.1 u.2.1))) (va_A [ownB ad kA o ci] sz)
def rmB (d : Nat) (q : BI) : Room := { frames := d + 1, cells := q.2.1, slots := q.2.2.1, locals := 64 * (d + 1) }
def BOk (l : Launch) (D : va_G) (d F : Nat) : Prop := ∀ (y : Nat) (q : BI) (o : Nat) (as : List BV) (nx : Nat) (z : BW × Nat), bt[y]? = some q → evB d F y o as nx = some z → o < nx → (∀ v ∈ as, okBV nx v) → ∃ d', d = d' + 1 ∧ ∀ (ad : Nat → Nat) (kA : Nat → ClassId) (sz : Nat), Met l q.1.1 (wsM q.1) (rmB d' q) (PcB D ad kA o as q.1.2.2.2.2.1 sz) (QcB D ad kA nx o q.1.2.2.2.2.1 sz z) q.2.1 q.2.2.1 (va_A [ownB ad kA o q.1.2.2.2.2.1] sz)
theorem eqV_eq : ∀ (s t : List BV), eqV s t = true → s = t
  | [], [], _ => rfl
  | .inl x :: s, .inl y :: t, h => by
    obtain ⟨h1, h2⟩ := Bool.and_eq_true _ _ ▸ (h : (decide (x = y) && eqV s t) = true)
    rw [of_decide_eq_true h1, eqV_eq s t h2]
  | .inr none :: s, .inr none :: t, h => by rw [eqV_eq s t h]
theorem isDf_eq {g : Nat × BE} {o ci : Nat} (h : isDf g o ci = true) : g = (o, .inl (ci, dflt ci)) := by
  obtain ⟨a, e⟩ := g
  rcases e with ⟨c, fs⟩ | e
  · obtain ⟨h0, h3⟩ := Bool.and_eq_true _ _ ▸ (h : (Nat.beq a o && Nat.beq c ci && eqV fs (dflt ci)) = true)
    obtain ⟨h1, h2⟩ := Bool.and_eq_true _ _ ▸ h0
    rw [Nat.eq_of_beq_eq_true h1, Nat.eq_of_beq_eq_true h2, eqV_eq _ _ h3]
  · cases h
theorem nd_range (n : Nat) : va_nd (List.range n) = true := by
  have key : ∀ (k j : Nat), va_nd (List.range' j k) = true := by
    intro k
    induction k with
    | zero => intro j; rfl
    | succ k ih =>
      intro j
      show (decide (j ∉ List.range' (j + 1) k) && va_nd (List.range' (j + 1) k)) = true
      rw [ih, Bool.and_true, decide_eq_true_eq]
      intro h
      have := List.mem_range'_1.mp h
      omega
  rw [List.range_eq_range']
  exact key n 0
theorem range_get {α : Type} (X Y : List α) : (List.range X.length).map (fun i => (X ++ Y)[i]?) = X.map some := by
  apply List.ext_getElem?
  intro j
  rw [List.getElem?_map, List.getElem?_map]
  by_cases h : j < X.length
  · rw [List.getElem?_range h]
    show some ((X ++ Y)[j]?) = _
    rw [List.getElem?_append_left h, List.getElem?_eq_getElem h]
    rfl
  · rw [List.getElem?_eq_none (by rw [List.length_range]; omega), List.getElem?_eq_none (by omega)]
    rfl
theorem last_get {α : Type} (X : List α) (y : α) : (X ++ [y])[X.length]? = some y := by
  rw [List.getElem?_append_right (Nat.le_refl _), Nat.sub_self]; rfl
theorem cb_cat (ad : Nat → Nat) (v : BV) : (cb ad v).category = 1 := by rcases v with y | _ | y <;> rfl
theorem cbs_cat (ad : Nat → Nat) : ∀ st : List BV, ((st.map (cb ad)).map fun v => v.category).sum = st.length
  | [] => rfl
  | v :: t => by
    have := cbs_cat ad t
    simp only [List.map_cons, List.sum_cons, List.length_cons, cb_cat] at this ⊢
    omega
section BORN3
variable {p : Program} {l : Launch} {e : Env} {R : Room} {s : State} {m : MethodId} {args : Array Value} {below : List Frame} {meth : Method} {c : Code} {Q : State → Prop} {D : va_G} {A : Nat → Prop} {ad0 : Nat → Nat} {kA0 : Nat → ClassId} {nx0 : Nat}
theorem GB_obj {q : BI} {d : Nat} (hF : FB p R s m args c A q d) {pc j x : Nat} {f : Nat} {ls : BL} {r : List BV} {w : BW} {nx cc ss : Nat} (hd : decode q.1.2.1 pc = .ok (.invokespecial j, 3)) (hf : lk (bO q.1.2.2.2.2.1) j = some f) (hr : r.length ≤ 8)
    (k : GB p l e R s m args below meth c Q D A ad0 kA0 nx0 q (pc + 3) ls r w nx cc ss) : GB p l e R s m args below meth c Q D A ad0 kA0 nx0 q pc ls (.inr (some x) :: r) w nx cc ss := by
  obtain ⟨hx, hb, hml, hcl, hown, hts, hnw, hA, hcells, hslots, hfr, hlo⟩ := hF
  intro h1 h2 h3 h4 ad kA tys H locs lm a1 a2 a3 a4 a5 a6 a7
  obtain ⟨w1, w2⟩ := Bool.and_eq_true _ _ ▸ (bO_ok _ hcl _ (lk_mem hf))
  refine W.objInit hx hb hown (hts _ (gw_of (of_decide_eq_true w1) w2)) (hts _ bPI_ok) (hts _ bPC_ok) (g := F0 m pc lm (.ref (ad x) :: r.map (cb ad))) rfl (by rw [hml]; exact a2.1) rfl hd (by omega) ?_ (k h1 (fun v hv => h2 v (List.mem_cons_of_mem _ hv)) h3 h4 ad kA tys H locs lm a1 a2 a3 a4 a5 a6 a7)
  show 2 * 0 + ((r.map (cb ad)).map fun v => v.category).sum + 12 ≤ R.locals
  rw [cbs_cat]
  omega
set_option maxHeartbeats 2000000 in
theorem GB_call {q : BI} {d F : Nat} (hF : FB p R s m args c A q d) (hok : BOk l D d F) {pc j o : Nat} {f : Nat × Bool × Nat × Nat × Nat × Nat} {y : BI} {ls : BL} {as r : List BV} {wr : BW} {z : BW × Nat} {nx cc ss : Nat} (hd : decode q.1.2.1 pc = .ok (.invokespecial j, 3)) (hf : lk (bC q.1.2.2.2.2.1) j = some f) (hy : bt[f.1]? = some y) (hn : as.length = f.2.2.1) (hr : r.length ≤ 8) (hcc : cc + y.2.1 ≤ q.2.1) (hss : ss + y.2.2.1 ≤ q.2.2.1) (hz : evB d F f.1 o as nx = some z)
    (k : GB p l e R s m args below meth c Q D A ad0 kA0 nx0 q (pc + 3) ls r (wr ++ z.1) z.2 (cc + y.2.1) (ss + y.2.2.1)) : GB p l e R s m args below meth c Q D A ad0 kA0 nx0 q pc ls (as.reverse ++ .inr (some o) :: r) (wr ++ [(o, .inl (y.1.2.2.2.2.1, dflt y.1.2.2.2.2.1))]) nx cc ss := by
  obtain ⟨hx, hb, hml, hcl, hown, hts, hnw, hA, hcells, hslots, hfr, hlo⟩ := hF
  intro h1 h2 h3 h4 ad kA tys H locs lm a1 a2 a3 a4 a5 a6 a7
  have ho : o < nx := (h3 (o, _) (List.mem_append_right _ List.mem_cons_self)).1
  have has : ∀ v ∈ as, okBV nx v := fun v hv => h2 v (List.mem_append_left _ (List.mem_reverse.mpr hv))
  obtain ⟨d', rfl, hmet⟩ := hok f.1 y o as nx z hy hz ho has
  have hM := hmet ad kA H.size
  obtain ⟨f1, f2, f3, p1, p2, p3⟩ := f
  dsimp only at hn hy hz
  have hbc : bCb q.1.2.2.2.2.1 (j, f1, f2, f3, p1, p2, p3) = true := bC_ok _ hcl _ (lk_mem hf)
  have hbt := bt_ok y (List.mem_of_getElem? hy)
  obtain ⟨⟨yn, yb, yl, yr, yc, ycode⟩, mc, ms, yp, ya⟩ := y
  simp only [btb, Bool.and_eq_true, decide_eq_true_eq] at hbt
  obtain ⟨⟨⟨⟨⟨⟨⟨⟨⟨⟨t1, t2⟩, t3⟩, t4⟩, t5⟩, t6⟩, t7⟩, t8⟩, t9⟩, t10⟩, t11⟩ := hbt
  subst t2
  have t9 := Nat.le_of_ble_eq_true t9
  simp only [bCb, hy, Bool.and_eq_true, decide_eq_true_eq] at hbc
  obtain ⟨⟨⟨b1, b2, b3⟩, b4, b5⟩, b6⟩ := hbc
  have b6 := Nat.eq_of_beq_eq_true b6
  dsimp only at hM hcc hss k b6
  have hin : (Cond.instanceMethod yn).before args s = true := hts _ (gw_of b2 b3)
  have hini : (Cond.initialized yn.cls).before args s = true := hts _ (gw_of b4 b5)
  have hG : GoodIn gw (wsM (yn, yb, yl, none, yc, ycode)) := goodM (q := (yn, yb, yl, none, yc, ycode)) t1
  have hWeq : (wr ++ [(o, (.inl (yc, dflt yc) : BE))]).map (cbQ ad kA) = wr.map (cbQ ad kA) ++ [ownB ad kA o yc] := by rw [List.map_append]; rfl
  have a4l : tysB kA tys wr := fun x hx => a4 x (List.mem_append_left _ hx)
  have h3l : okBW nx wr := fun x hx => h3 x (List.mem_append_left _ hx)
  have a5 : va_P D clsL ((wr ++ [(o, (.inl (yc, dflt yc) : BE))]).map (cbQ ad kA)) H := a5
  have a6 : va_D A ((wr ++ [(o, (.inl (yc, dflt yc) : BE))]).map (cbQ ad kA)) := a6
  rw [hWeq] at a5 a6
  have hC : [(wr.map (cbQ ad kA)).length].map (fun i => (wr.map (cbQ ad kA) ++ [ownB ad kA o yc])[i]?) = [ownB ad kA o yc].map some := by
    simp only [List.map_cons, List.map_nil, last_get]
  have hR := range_get (wr.map (cbQ ad kA)) [ownB ad kA o yc]
  have hPc := a5.sub (ws' := [ownB ad kA o yc]) [(wr.map (cbQ ad kA)).length] (by simp only [List.filterMap_cons, List.filterMap_nil, last_get])
  have hDc := a6.sub (ws' := [ownB ad kA o yc]) [(wr.map (cbQ ad kA)).length] (by simp [va_nd]) hC
  have hKc := a3.sub (tys' := []) [] rfl
  have hFc := va_free (wc := [ownB ad kA o yc]) a6 a7 hA [(wr.map (cbQ ad kA)).length] hC
  have hpre : PreS s H (PcB D ad kA o as yc H.size) (.ref (ad o) :: as.map (cb ad)) := ⟨fun a U g mk q => by
      obtain ⟨q0, q1, qP, qK, qD, qN⟩ := q
      exact ⟨q0, q1, qP, va_K.moved (u := U) (U := U.calling g mk a) (Vm.Alike.refl U.vm) qK, qD, ⟨nw_same (u := U) (U := U.calling g mk a) rfl qN.1, OvB.moved (u := U) (U := U.calling g mk a) (Vm.Alike.refl U.vm) qN.2⟩⟩,
    fun U hU hW => ⟨rfl, by rw [hU], by rw [hU]; exact hPc, va_K.moved hW.alike hKc, hDc.weaken (fun _ _ _ _ => trivial), ⟨nw_warm hW hnw.1, hnw.2.moved hW.alike⟩⟩⟩
  have hstk : (as.reverse ++ .inr (some o) :: r : List BV).map (cb ad) = (as.map (cb ad)).reverse ++ .ref (ad o) :: r.map (cb ad) := by
    rw [List.map_append, List.map_reverse]; rfl
  have hroom : 2 * (F0 m pc lm ((as.reverse ++ .inr (some o) :: r : List BV).map (cb ad))).monitorRoom + ((r.map (cb ad)).map fun v => v.category).sum ≤ 8 := by
    rw [cbs_cat]
    show 2 * 0 + r.length ≤ 8
    omega
  have hd2 : (rmB d' ((yn, yb, yl, none, yc, ycode), mc, ms, yp, ya)).frames + 1 ≤ R.frames ∧ 8 + (yl + 11) + (rmB d' ((yn, yb, yl, none, yc, ycode), mc, ms, yp, ya)).locals ≤ R.locals := ⟨hfr, by show 8 + (yl + 11) + 64 * (d' + 1) ≤ R.locals; omega⟩
  have hrun : va_Run p l e R s m args below meth c H locs cc ss mc ms (F0 m pc lm ((as.reverse ++ .inr (some o) :: r : List BV).map (cb ad))) (r.map (cb ad)) (QcB D ad kA nx o yc H.size z (Value.ref (ad o) :: as.map (cb ad)).toArray) (va_A [ownB ad kA o yc] H.size) := by
    cases f2 with
    | false =>
      dsimp only at b1
      obtain ⟨c0, c2⟩ := Bool.and_eq_true _ _ ▸ b1
      have c1 := of_decide_eq_true c0
      exact va_runI (As := as.map (cb ad)) (rest := r.map (cb ad)) ⟨hx, hb, hml, hown, hts⟩ hM (cwI f3 hts hG rfl rfl rfl hini (hts _ (gw_of c1 c2)) hin t3 ⟨t6, t7, by rw [← b6]; exact t8⟩ hd2) hpre rfl (by rw [List.length_map]; exact hn) a2.1 hstk hroom hd ⟨by omega, by omega⟩
    | true =>
      dsimp only at b1
      have b1 := of_decide_eq_true b1
      exact va_runIN (As := as.map (cb ad)) (rest := r.map (cb ad)) ⟨hx, hb, hml, hown, hts⟩ hM ⟨va_cnB f3 hts hG rfl rfl rfl (hnw.1 _ (nw_of b1 rfl)) hini ⟨t6, t7, by rw [← b6]; exact t8⟩ hd2, t3, hin⟩ hpre rfl (by rw [List.length_map]; exact hn) a2.1 hstk hroom hd ⟨by omega, by omega⟩
  refine va_callv hrun a7 (fun q _ h => hFc q h) hFc (fun u t H1 locs1 ht hvm hw hB hz1 hk1 hS1 => ?_)
  obtain ⟨hag, hty, hnx, hzw⟩ := hw
  obtain ⟨hP1, hK1, hD1⟩ := hB
  rw [ht] at hP1
  have hK1 := va_K.moved hvm.symm hK1
  obtain ⟨hP2, hD2⟩ := va_join a5 a6 [(wr.map (cbQ ad kA)).length] (List.range (wr.map (cbQ ad kA)).length) hC hR (nd_range _) (fun i hi => by
    have := List.mem_range.mp hi
    simp only [List.mem_singleton]
    omega) hk1 hFc hP1 hD1
  rw [← cbW_ext hag h3l, ← List.map_append] at hP2 hD2
  have := k (fun v hv => (h1 v hv).up hnx) (fun v hv => (h2 v (List.mem_append_right _ (List.mem_cons_of_mem _ hv))).up hnx) (okBW_app (h3l.up hnx) hzw) (by omega) u.1 u.2.1 (tys ++ u.2.2) H1 locs1 lm (a1.tra hag h4) (by rw [cbL_ext hag h1]; exact a2) (a3.app hK1) (tysB_app (tysB_mono a4l (fun v hv => (hag v.1 (h3l v hv).1).2)) (tysB_right hty)) hP2 hD2 hS1
  rw [cbs_ext hag (fun v hv => h2 v (List.mem_append_right _ (List.mem_cons_of_mem _ hv)))] at this
  exact this
end BORN3
