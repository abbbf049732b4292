/-! the constructors' machine: fields, arrays, new objects -/
theorem W_get {ad : Nat → Nat} {kA : Nat → ClassId} {w : BW} {i : Nat} {q : Nat × BE} (h : w[i]? = some q) : (w.map (cbQ ad kA))[i]? = some (cbQ ad kA q) := by
  rw [List.getElem?_map, h]; rfl
theorem W_set {ad : Nat → Nat} {kA : Nat → ClassId} {w : BW} {i : Nat} {q : Nat × BE} : (w.map (cbQ ad kA)).set i (cbQ ad kA q) = (w.set i q).map (cbQ ad kA) := by
  rw [List.map_set]
theorem okBW_set {nx : Nat} {w : BW} {i : Nat} {q : Nat × BE} (h : okBW nx w) (hq : q.1 < nx ∧ okBE nx q.2) : okBW nx (w.set i q) := fun x hx => by
  rcases List.mem_or_eq_of_mem_set hx with h1 | rfl
  · exact h x h1
  · exact hq
theorem okBW_app {nx : Nat} {w v : BW} (h : okBW nx w) (h' : okBW nx v) : okBW nx (w ++ v) := fun x hx => (List.mem_append.mp hx).elim (h x) (h' x)
theorem tysB_set {kA : Nat → ClassId} {tys : List (ClassId × FieldType)} {w : BW} {i : Nat} {q : Nat × BE} (h : tysB kA tys w) (hq : ∀ k n b ov, q.2 = .inr (k, n, b, ov) → ∃ t : Nat, tys[t]? = some (kA q.1, tyk k)) : tysB kA tys (w.set i q) := fun x hx => by
  rcases List.mem_or_eq_of_mem_set hx with h1 | rfl
  · exact h x h1
  · exact hq
theorem tysB_mono {kA kA' : Nat → ClassId} {tys t2 : List (ClassId × FieldType)} {w : BW} (h : tysB kA tys w) (hk : ∀ q ∈ w, kA' q.1 = kA q.1) : tysB kA' (tys ++ t2) w := fun x hx k n b ov he => by
  obtain ⟨t, ht⟩ := h x hx k n b ov he
  exact ⟨t, by rw [List.getElem?_append_left (List.getElem?_eq_some_iff.mp ht).1, ht, hk x hx]⟩
theorem tysB_right {kA : Nat → ClassId} {tys t2 : List (ClassId × FieldType)} {w : BW} (h : tysB kA t2 w) : tysB kA (tys ++ t2) w := fun x hx k n b ov he => by
  obtain ⟨t, ht⟩ := h x hx k n b ov he
  exact ⟨tys.length + t, by rw [List.getElem?_append_right (by omega), show tys.length + t - tys.length = t by omega, ht]⟩
theorem tysB_app {kA : Nat → ClassId} {tys : List (ClassId × FieldType)} {w v : BW} (h : tysB kA tys w) (h' : tysB kA tys v) : tysB kA tys (w ++ v) := fun x hx => (List.mem_append.mp hx).elim (h x) (h' x)
theorem agr.tra {a b : Nat} {ad ad' ad'' : Nat → Nat} {kA kA' kA'' : Nat → ClassId} (h : agr a ad ad' kA kA') (h' : agr b ad' ad'' kA' kA'') (hab : a ≤ b) : agr a ad ad'' kA kA'' := fun c hc => ⟨(h' c (by omega)).1.trans (h c hc).1, (h' c (by omega)).2.trans (h c hc).2⟩
section BORN2
variable {p : Program} {l : Launch} {e : Env} {R : Room} {s : State} {m : MethodId} {args : Array Value} {below : List Frame} {meth : Method} {c : Code} {Q : State → Prop} {D : va_G} {A : Nat → Prop} {ad0 : Nat → Nat} {kA0 : Nat → ClassId} {nx0 : Nat}
theorem GB_get {q : BI} {d : Nat} (hF : FB p R s m args c A q d) {pc j a i ci : Nat} {fs : List BV} {f : Nat × Nat × Bool × Nat} {v : BV} {ls : BL} {r : List BV} {w : BW} {nx cc ss : Nat} (hd : decode q.1.2.1 pc = .ok (.getfield j, 3)) (hi : w[i]? = some (a, .inl (ci, fs))) (hf : lk (fR q.1.2.2.2.2.1) j = some f) (hc : f.1 = ci) (hn : f.2.2.1 = false) (hv : fs[f.2.1]? = some v)
    (k : GB p l e R s m args below meth c Q D A ad0 kA0 nx0 q (pc + 3) ls (v :: r) w nx cc ss) : GB p l e R s m args below meth c Q D A ad0 kA0 nx0 q pc ls (.inr (some a) :: r) w nx cc ss := by
  obtain ⟨hx, hb, hml, hcl, hown, hts, hnw, hA, hcells, hslots, hfr, hlo⟩ := hF
  intro h1 h2 h3 h4 ad kA tys H locs lm a1 a2 a3 a4 a5 a6 a7
  obtain ⟨f1, f2, f3, f4⟩ := f
  dsimp only at hc hn hv
  subst hc; subst hn
  obtain ⟨cq, hcq, hfl, hnest, hplain⟩ := fRb_spec (fR_ok _ hcl _ (lk_mem hf))
  obtain ⟨hk1, hk2, hk3, hk4, -⟩ := cls_ok f1 cq hcq
  obtain ⟨hl1, hl2⟩ := hplain rfl
  have hm : v ∈ fs := List.mem_of_getElem? hv
  have hok := (h3 _ (List.mem_of_getElem? hi)).2
  refine va_get (C := cq.1) (T := cq.2.1) (N := cq.2.2) (Ts := gw) (ci := f1) hx hb hts hk1 hown a3 a5 i (W_get hi) hcq f2 hfl (hts _ (gw_of hl1 hl2)) (fun x h => by rw [hk4 f2 hfl] at h; exact h) (v := cb ad v) (by show (fs.map (cb ad))[f2]? = _; rw [List.getElem?_map, hv]; rfl) hd ?_
  exact k h1 (fun x hx => by
    rcases List.mem_cons.mp hx with rfl | hx
    · exact (hok : ∀ v ∈ fs, okBV nx v) x hm
    · exact h2 x (List.mem_cons_of_mem _ hx)) h3 h4 ad kA tys H locs lm a1 a2 a3 a4 a5 a6 a7
theorem GB_put {q : BI} {d : Nat} (hF : FB p R s m args c A q d) (hin : meth.name = "<init>") {pc j a i ci : Nat} {fs : List BV} {f : Nat × Nat × Bool × Nat} {v : BV} {ls : BL} {r : List BV} {w : BW} {nx cc ss : Nat} (hd : decode q.1.2.1 pc = .ok (.putfield j, 3)) (hi : w[i]? = some (a, .inl (ci, fs))) (hf : lk (fR q.1.2.2.2.2.1) j = some f) (hc : f.1 = ci) (hn : f.2.2.1 = false) (hp : okP ci f.2.1 v = true) (hl : f.2.1 < fs.length) (hci : ci = q.1.2.2.2.2.1)
    (k : GB p l e R s m args below meth c Q D A ad0 kA0 nx0 q (pc + 3) ls r (w.set i (a, .inl (ci, fs.set f.2.1 v))) nx cc ss) : GB p l e R s m args below meth c Q D A ad0 kA0 nx0 q pc ls (v :: .inr (some a) :: r) w nx cc ss := by
  obtain ⟨hx, hb, hml, hcl, hown, hts, hnw, hA, hcells, hslots, hfr, hlo⟩ := hF
  intro h1 h2 h3 h4 ad kA tys H locs lm a1 a2 a3 a4 a5 a6 a7
  obtain ⟨f1, f2, f3, f4⟩ := f
  dsimp only at hc hn hp hl k
  subst hc; subst hn
  obtain ⟨cq, hcq, hfl, hnest, hplain⟩ := fRb_spec (fR_ok _ hcl _ (lk_mem hf))
  obtain ⟨hk1, hk2, hk3, hk4, ty1, hty1, hnm, -⟩ := cls_ok f1 cq hcq
  obtain ⟨ty0, hty, hdf, hti, htr, hlen⟩ := cls_b f1 cq hcq
  obtain ⟨hl1, hl2⟩ := hplain rfl
  have hnar : narrow (ty0 f2) (cb ad v) = cb ad v ∧ fits (ty0 f2) (cb ad v) = true := by
    rcases v with x | x
    · rw [hti f2 hfl (Nat.eq_of_beq_eq_true hp)]; exact ⟨rfl, rfl⟩
    · obtain ⟨g1, g2⟩ := Bool.and_eq_true _ _ ▸ (hp : (Nat.ble 2 (fk f1 f2).1 && Nat.ble (fk f1 f2).1 5) = true)
      exact rf_fit (htr f2 hfl (Nat.le_of_ble_eq_true g1)) ad x
  have hvo := h2 v List.mem_cons_self
  have hao := h3 _ (List.mem_of_getElem? hi)
  have hset : (w.map (cbQ ad kA)).set i (ad a, .inr (f1, (fs.map (cb ad)).set f2 (cb ad v))) = (w.set i (a, .inl (f1, fs.set f2 v))).map (cbQ ad kA) := by
    rw [← W_set]
    show _ = (w.map (cbQ ad kA)).set i (ad a, .inr (f1, (fs.set f2 v).map (cb ad)))
    rw [List.map_set]
  have hnext : ∀ (H1 : Heap) (locs1 : List Loc), va_P D clsL ((w.map (cbQ ad kA)).set i (ad a, .inr (f1, (fs.map (cb ad)).set f2 (cb ad v)))) H1 → va_D A ((w.map (cbQ ad kA)).set i (ad a, .inr (f1, (fs.map (cb ad)).set f2 (cb ad v)))) → va_S A s.heap H1 locs1 → W p l e R s m args below meth c H1 locs1 cc ss Q (F0 m (pc + 3) lm (r.map (cb ad))) := by
    intro H1 locs1 hP1 hD1 hS1
    rw [hset] at hP1 hD1
    refine k h1 (fun x hx => h2 x (List.mem_cons_of_mem _ (List.mem_cons_of_mem _ hx))) (okBW_set h3 ⟨hao.1, fun x hx => ?_⟩) h4 ad kA tys H1 locs1 lm a1 a2 a3 (tysB_set a4 (fun k n b ov he => by cases he)) hP1 hD1 hS1
    rcases List.mem_or_eq_of_mem_set hx with h5 | rfl
    · exact (hao.2 : ∀ v ∈ fs, okBV nx v) x h5
    · exact hvo
  have hlf : f2 < (fs.map (cb ad)).length := by rw [List.length_map]; exact hl
  cases hfin : (cq.2.1 f2).2.2.2 with
  | false => exact va_put (C := cq.1) (T := cq.2.1) (N := cq.2.2) (Ts := gw) (ci := f1) hx hb hts hk1 ty1 hty1 hnm hown a3 a5 a6 a7 i (W_get hi) hcq f2 hfl (hts _ (gw_of hl1 hl2)) (fun x h => by rw [hk4 f2 hfl] at h; exact h) hfin (hty f2 hfl) hnar.1 hnar.2 hlf hd hnext
  | true => exact va_putF (C := cq.1) (T := cq.2.1) (N := cq.2.2) (Ts := gw) (ci := f1) hx hb hts hk1 ty1 hty1 hnm hown a3 a5 a6 a7 i (W_get hi) hcq f2 hfl (hts _ (gw_of hl1 hl2)) (fun x h => by rw [hk4 f2 hfl] at h; exact h) hfin hin (by rw [hk4 f2 hfl, hk3, hci]) (hty f2 hfl) hnar.1 hnar.2 hlf hd hnext
theorem GB_ast {q : BI} {d : Nat} (hF : FB p R s m args c A q d) {pc a i n b : Nat} {ov : List (Nat × Int32)} {x y : Int32} {ls : BL} {r : List BV} {w : BW} {nx cc ss : Nat} (hd : decode q.1.2.1 pc = .ok (.iastore, 1)) (hi : w[i]? = some (a, .inr (2, n, b, ov))) (hib : ib y n)
    (k : GB p l e R s m args below meth c Q D A ad0 kA0 nx0 q (pc + 1) ls r (w.set i (a, .inr (2, n, b, (ix y, x) :: ov))) nx cc ss) : GB p l e R s m args below meth c Q D A ad0 kA0 nx0 q pc ls (.inl x :: .inl y :: .inr (some a) :: r) w nx cc ss := by
  obtain ⟨hx, hb, hml, hcl, hown, hts, hnw, hA, hcells, hslots, hfr, hlo⟩ := hF
  intro h1 h2 h3 h4 ad kA tys H locs lm a1 a2 a3 a4 a5 a6 a7
  obtain ⟨t, ht⟩ := a4 _ (List.mem_of_getElem? hi) 2 n b ov rfl
  have hao := h3 _ (List.mem_of_getElem? hi)
  refine va_iast hx hb a3 a5 a6 a7 i t (W_get hi) ht (vp_in_iff.mpr hib) hd (fun H1 locs1 hP1 hD1 hS1 => ?_)
  have hset : (w.map (cbQ ad kA)).set i (ad a, .inl (kA a, n, .inl (upd (ovf ov) y.toNatClampNeg x))) = (w.set i (a, .inr (2, n, b, (ix y, x) :: ov))).map (cbQ ad kA) := by
    rw [← W_set, ovf_put]; rfl
  have hP1 : va_P D clsL ((w.map (cbQ ad kA)).set i (ad a, .inl (kA a, n, .inl (upd (ovf ov) y.toNatClampNeg x)))) H1 := hP1
  have hD1 : va_D A ((w.map (cbQ ad kA)).set i (ad a, .inl (kA a, n, .inl (upd (ovf ov) y.toNatClampNeg x)))) := hD1
  rw [hset] at hP1 hD1
  exact k h1 (fun x hx => h2 x (List.mem_cons_of_mem _ (List.mem_cons_of_mem _ (List.mem_cons_of_mem _ hx)))) (okBW_set h3 ⟨hao.1, Or.inl (Or.inl rfl)⟩) h4 ad kA tys H1 locs1 lm a1 a2 a3 (tysB_set a4 (fun k n b ov he => by cases he; exact ⟨t, ht⟩)) hP1 hD1 hS1
/-- one more cell, numbered nx -/
def adp (ad : Nat → Nat) (nx q : Nat) : Nat → Nat := fun c => if c = nx then q else ad c
def kAp (kA : Nat → ClassId) (nx : Nat) (q : ClassId) : Nat → ClassId := fun c => if c = nx then q else kA c
theorem adp_agr {ad : Nat → Nat} {kA : Nat → ClassId} {nx q : Nat} {cA : ClassId} : agr nx ad (adp ad nx q) kA (kAp kA nx cA) := fun c hc => ⟨if_neg (by omega), if_neg (by omega)⟩
theorem adp_nx {ad : Nat → Nat} {nx q : Nat} : adp ad nx q nx = q := if_pos rfl
theorem kAp_nx {kA : Nat → ClassId} {nx : Nat} {q : ClassId} : kAp kA nx q nx = q := if_pos rfl
theorem GB_newa {q : BI} {d : Nat} (hF : FB p R s m args c A q d) {pc kd : Nat} {atype : ArrayType} {x : Int32} {ls : BL} {r : List BV} {w : BW} {nx cc ss : Nat} (hd : decode q.1.2.1 pc = .ok (.newarray atype, 2)) (hk : (atype = .int ∧ kd = 2) ∨ (atype = .long ∧ kd = 3)) (hx0 : 0 ≤ x.toInt) (hby : ix x * 8 ≤ 536870912) (hcc : cc + 1 ≤ q.2.1) (hss : ss + ix x ≤ q.2.2.1)
    (k : GB p l e R s m args below meth c Q D A ad0 kA0 nx0 q (pc + 2) ls (.inr (some nx) :: r) (w ++ [(nx, .inr (kd, ix x, 0, []))]) (nx + 1) (cc + 1) (ss + ix x)) : GB p l e R s m args below meth c Q D A ad0 kA0 nx0 q pc ls (.inl x :: r) w nx cc ss := by
  obtain ⟨hx, hb, hml, hcl, hown, hts, hnw, hA, hcells, hslots, hfr, hlo⟩ := hF
  intro h1 h2 h3 h4 ad kA tys H locs lm a1 a2 a3 a4 a5 a6 a7
  have hneg : ¬ x < 0 := by
    rw [Int32.lt_iff_toInt_lt]
    have : (0 : Int32).toInt = 0 := rfl
    omega
  have hkd : kd = 2 ∨ kd = 3 := hk.elim (fun h => Or.inl h.2) (fun h => Or.inr h.2)
  obtain ⟨a0, harr, hty, ha, hce, hbyt⟩ : ∃ a0 : vp_A, (Cond.arrayClass (newarray.typeOf atype)).before args s = true ∧ newarray.typeOf atype = tyk kd ∧ (∀ cA : ClassId, vp_cell cA a0 = arrV cA (ix x) (fun _ => defaultValue (tyk kd))) ∧ (∀ (ad : Nat → Nat) (kA : Nat → ClassId) (c : Nat), cbE ad kA c (.inr (kd, ix x, 0, [])) = .inl (kA c, a0)) ∧ ix x * componentBytes (tyk kd) ≤ 536870912 := by
    rcases hk with ⟨rfl, rfl⟩ | ⟨rfl, rfl⟩
    · exact ⟨(ix x, .inl (ovf [])), hts _ bAI_ok, rfl, fun _ => rfl, fun _ _ _ => rfl, by show ix x * 4 ≤ _; omega⟩
    · exact ⟨(ix x, .inr (.inl (fun _ => 0))), hts _ bAL_ok, rfl, fun _ => rfl, fun _ _ _ => rfl, by show ix x * 8 ≤ _; omega⟩
  refine va_newa hx hb harr hty a3 a5 a6 a7 hA (n := x) (N' := ix x) (a0 := a0) ha hneg rfl hbyt (by omega) (by omega) hd (fun b cA H1 hK1 hP1 hD1 hS1 => ?_)
  have hg : agr nx ad (adp ad nx b) kA (kAp kA nx cA) := adp_agr
  have hW : w.map (cbQ ad kA) ++ [(b, .inl (cA, a0))] = (w ++ [(nx, (.inr (kd, ix x, 0, []) : BE))]).map (cbQ (adp ad nx b) (kAp kA nx cA)) := by
    rw [List.map_append, cbW_ext hg h3]
    show _ = _ ++ [(adp ad nx b nx, cbE _ _ nx (.inr (kd, ix x, 0, [])))]
    rw [hce, adp_nx, kAp_nx]
  rw [hW] at hP1 hD1
  have hst : (r.map (cb ad)) = r.map (cb (adp ad nx b)) := (cbs_ext hg (fun v hv => h2 v (List.mem_cons_of_mem _ hv))).symm
  have hgoal : F0 m (pc + 2) lm (.ref b :: r.map (cb ad)) = F0 m (pc + 2) lm ((.inr (some nx) :: r : List BV).map (cb (adp ad nx b))) := by
    rw [hst]
    show _ = F0 m (pc + 2) lm (.ref (adp ad nx b nx) :: _)
    rw [adp_nx]
  show W p l e R s m args below meth c H1 locs (cc + 1) (ss + ix x) Q (F0 m (pc + 2) lm (.ref b :: r.map (cb ad)))
  rw [hgoal]
  refine k (fun v hv => (h1 v hv).up (by omega)) (fun v hv => ?_) (okBW_app (h3.up (by omega)) (fun v hv => ?_)) (by omega) (adp ad nx b) (kAp kA nx cA) _ H1 locs lm (a1.tra hg h4) (by rw [cbL_ext hg h1]; exact a2) hK1 (tysB_app (tysB_mono a4 (fun v hv => (hg v.1 (h3 v hv).1).2)) (fun v hv k n b2 ov he => ?_)) hP1 hD1 hS1
  · rcases List.mem_cons.mp hv with rfl | hv
    · exact Nat.lt_succ_self nx
    · exact (h2 v (List.mem_cons_of_mem _ hv)).up (by omega)
  · rw [List.mem_singleton.mp hv]
    exact ⟨Nat.lt_succ_self nx, Or.inl hkd⟩
  · rw [List.mem_singleton.mp hv] at he ⊢
    cases he
    exact ⟨tys.length, by rw [List.getElem?_append_right (Nat.le_refl _), Nat.sub_self, kAp_nx]; rfl⟩
theorem GB_new {q : BI} {d : Nat} (hF : FB p R s m args c A q d) {pc j : Nat} {f : Nat × Nat × Nat × Nat} {ls : BL} {st : List BV} {w : BW} {nx cc ss : Nat} (hd : decode q.1.2.1 pc = .ok (.new j, 3)) (hf : lk (bN q.1.2.2.2.2.1) j = some f) (hcc : cc + 1 ≤ q.2.1) (hss : ss + fN f.1 ≤ q.2.2.1)
    (k : GB p l e R s m args below meth c Q D A ad0 kA0 nx0 q (pc + 3) ls (.inr (some nx) :: st) (w ++ [(nx, .inl (f.1, dflt f.1))]) (nx + 1) (cc + 1) (ss + fN f.1)) : GB p l e R s m args below meth c Q D A ad0 kA0 nx0 q pc ls st w nx cc ss := by
  obtain ⟨hx, hb, hml, hcl, hown, hts, hnw, hA, hcells, hslots, hfr, hlo⟩ := hF
  intro h1 h2 h3 h4 ad kA tys H locs lm a1 a2 a3 a4 a5 a6 a7
  obtain ⟨ci, p1, p2, p3⟩ := f
  have hbn : bNb q.1.2.2.2.2.1 (j, ci, p1, p2, p3) = true := bN_ok _ hcl _ (lk_mem hf)
  unfold bNb at hbn
  dsimp only at hbn k hss
  cases hcq : clsL[ci]? with
  | none => rw [hcq] at hbn; cases hbn
  | some cq =>
    rw [hcq] at hbn
    simp only [Bool.and_eq_true, decide_eq_true_eq] at hbn
    obtain ⟨⟨⟨w1, w2⟩, w3, w4⟩, w5, w6⟩ := hbn
    obtain ⟨hk1, hk2, hk3, hk4, -⟩ := cls_ok ci cq hcq
    obtain ⟨ty0, hty, hdf, hti, htr, hlen⟩ := cls_b ci cq hcq
    have hdv : ∀ v ∈ dflt ci, ∀ n : Nat, okBV n v := by
      intro v hv n
      obtain ⟨z, -, rfl⟩ := List.mem_map.mp hv
      obtain ⟨z1, z2⟩ := z
      match z1 with
      | 0 => trivial
      | 1 => trivial
      | z + 2 => trivial
    refine va_new (C := cq.1) (T := cq.2.1) (N := cq.2.2) (Ts := gw) (ci := ci) hx hb hts hk1 ty0 hty hown (hts _ (gw_of w1 w2)) (hts _ (gw_of w3 w4)) (hts _ (gw_of w5 w6)) a3 a5 a6 a7 hA hcq (fs := (dflt ci).map (cb ad)) (fun j hj => dfo_v (hdf j hj)) (by omega) (by rw [hk2]; omega) hd (fun b H1 hP1 hD1 hS1 => ?_)
    have hg : agr nx ad (adp ad nx b) kA (kAp kA nx (kA nx)) := adp_agr
    have hW : w.map (cbQ ad kA) ++ [(b, .inr (ci, (dflt ci).map (cb ad)))] = (w ++ [(nx, (.inl (ci, dflt ci) : BE))]).map (cbQ (adp ad nx b) (kAp kA nx (kA nx))) := by
      rw [List.map_append, cbW_ext hg h3]
      show _ = _ ++ [(adp ad nx b nx, Sum.inr (ci, (dflt ci).map (cb (adp ad nx b))))]
      rw [adp_nx, cbs_ext hg (fun v hv => hdv v hv nx)]
    rw [hW] at hP1 hD1
    have hgoal : F0 m (pc + 3) lm (.ref b :: st.map (cb ad)) = F0 m (pc + 3) lm ((.inr (some nx) :: st : List BV).map (cb (adp ad nx b))) := by
      rw [← cbs_ext hg h2]
      show _ = F0 m (pc + 3) lm (.ref (adp ad nx b nx) :: _)
      rw [adp_nx]
    rw [hgoal, hk2]
    refine k (fun v hv => (h1 v hv).up (by omega)) (fun v hv => ?_) (okBW_app (h3.up (by omega)) (fun v hv => ?_)) (by omega) (adp ad nx b) (kAp kA nx (kA nx)) _ H1 locs lm (a1.tra hg h4) (by rw [cbL_ext hg h1]; exact a2) a3 (tysB_app (fun x hx k n b ov he => ?_) (fun v hv k n b2 ov he => ?_)) hP1 hD1 hS1
    · rcases List.mem_cons.mp hv with rfl | hv
      · exact Nat.lt_succ_self nx
      · exact (h2 v hv).up (by omega)
    · rw [List.mem_singleton.mp hv]
      exact ⟨Nat.lt_succ_self nx, fun v hv => hdv v hv _⟩
    · obtain ⟨t, ht⟩ := a4 x hx k n b ov he
      exact ⟨t, by rw [ht, (hg x.1 (h3 x hx).1).2]⟩
    · rw [List.mem_singleton.mp hv] at he
      cases he
end BORN2
