def isJump : Instr → Bool
  | .ifCond _ _ => true
  | .if_icmp _ _ => true
  | .ifnull _ => true
  | .goto _ => true
  | .tableswitch _ _ _ _ => true
  | .lookupswitch _ _ => true
  | _ => false
def isHeap : Instr → Bool
  | .getfield _ => true
  | .putfield _ => true
  | .getstatic _ => true
  | .iaload => true
  | .iastore => true
  | .laload => true
  | .lastore => true
  | .aaload => true
  | .arraylength => true
  | _ => false
theorem fRb_spec {c j ci k pos : Nat} {nest : Bool} (h : fRb c (j, ci, k, nest, pos) = true) : ∃ cq : vw_C, clsL[ci]? = some cq ∧ k < cq.2.2 ∧ (nest = true → lw_tbl[pos]? = some (.fieldLinkNest (cn c) j cq.1 (cq.2.1 k).2.1 (cq.2.1 k).2.2.1 "BeggarBridge")) ∧ (nest = false → lw_tbl[pos]? = some (.fieldLink (cn c) j cq.1 (cq.2.1 k).2.1 (cq.2.1 k).2.2.1) ∧ goodWord (.fieldLink (cn c) j cq.1 (cq.2.1 k).2.1 (cq.2.1 k).2.2.1) = true) := by
  simp only [fRb] at h
  cases hcq : clsL[ci]? with
  | none => rw [hcq] at h; cases h
  | some cq =>
    rw [hcq] at h
    obtain ⟨h1, h2⟩ := Bool.and_eq_true _ _ ▸ h
    refine ⟨cq, rfl, of_decide_eq_true h1, fun e => ?_, fun e => ?_⟩
    · subst e; exact of_decide_eq_true h2
    · subst e
      obtain ⟨h3, h4⟩ := Bool.and_eq_true _ _ ▸ h2
      exact ⟨of_decide_eq_true h3, h4⟩
section SND2
variable {p : Program} {l : Launch} {e : Env} {R : Room} {s : State} {m : MethodId} {args : Array Value} {below : List Frame} {meth : Method} {c : Code} {cells slots : Nat} {Q : State → Prop} {D : va_G} {ad adR : Nat → Nat} {kA : Nat → ClassId} {tys : List (ClassId × FieldType)} {E : Nat × (Nat → Int32)} {A : Nat → Prop}
/-- jumps -/
theorem snd_jump {q : MI} {d : Nat} (hF : Fx p R s m args c cells slots D ad adR kA tys E A q d) {cf : CF} {k : KF} {pc len : Nat} {ls : PL} {st : List PV} {σ : PS} {i : Instr} {z : Option PV × PS} (hd : decode q.2.1 pc = .ok (i, len)) (hlen : lenOk (pc, i, len) = true) (he : exI E cf k q pc ls st σ i = some z)
    (ih : ∀ pc ls st σ, k pc ls st σ = some z → Gl p l e R s m args below meth c cells slots Q D ad adR kA E A q pc ls st σ) (hi : isJump i = true) : Gl p l e R s m args below meth c cells slots Q D ad adR kA E A q pc ls st σ := by
  have hF0 := hF
  obtain ⟨hq, hx, hb, hml, hown, hts, hnw, hK, hwf, hA, hro, hcells, hslots, hfr, hlo⟩ := hF
  cases i <;> first | (cases hi; done) | skip
  all_goals simp only [lenOk, beq_iff_eq] at hlen
  all_goals try subst hlen
  all_goals simp only [exI] at he
  case ifCond cd off =>
    obtain ⟨a, r, rfl, he1⟩ := p1_inv he
    obtain ⟨t, ht, he2⟩ := jp_inv he1
    cases cd <;> simp only [br] at he2
    · exact Gl_br he2 (fun h => ih _ _ _ _ h) (fun h => ih _ _ _ _ h) (fun h => (okS_t h).2) (fun H locs lm kt kf => lv_if_eq hx hb hd ht kt kf)
    · exact Gl_br he2 (fun h => ih _ _ _ _ h) (fun h => ih _ _ _ _ h) (fun h => (okS_t h).2) (fun H locs lm kt kf => lv_if_ne hx hb hd ht kf kt)
    · exact Gl_br he2 (fun h => ih _ _ _ _ h) (fun h => ih _ _ _ _ h) (fun h => (okS_t h).2) (fun H locs lm kt kf => lv_if_lt hx hb hd ht kt kf)
    · exact Gl_br he2 (fun h => ih _ _ _ _ h) (fun h => ih _ _ _ _ h) (fun h => (okS_t h).2) (fun H locs lm kt kf => lv_if_ge hx hb hd ht kt kf)
    · exact Gl_br he2 (fun h => ih _ _ _ _ h) (fun h => ih _ _ _ _ h) (fun h => (okS_t h).2) (fun H locs lm kt kf => lv_if_gt hx hb hd ht kt kf)
    · exact Gl_br he2 (fun h => ih _ _ _ _ h) (fun h => ih _ _ _ _ h) (fun h => (okS_t h).2) (fun H locs lm kt kf => lv_if_le hx hb hd ht kt kf)
  case if_icmp cd off =>
    obtain ⟨a, b, r, rfl, he1⟩ := p2_inv he
    obtain ⟨t, ht, he2⟩ := jp_inv he1
    cases cd <;> simp only [br] at he2
    · exact Gl_br he2 (fun h => ih _ _ _ _ h) (fun h => ih _ _ _ _ h) (fun h => (okS_t (okS_t h).2).2) (fun H locs lm kt kf => lv_icmp_eq hx hb hd ht kt kf)
    · exact Gl_br he2 (fun h => ih _ _ _ _ h) (fun h => ih _ _ _ _ h) (fun h => (okS_t (okS_t h).2).2) (fun H locs lm kt kf => lv_icmp_ne hx hb hd ht kf kt)
    · exact Gl_br he2 (fun h => ih _ _ _ _ h) (fun h => ih _ _ _ _ h) (fun h => (okS_t (okS_t h).2).2) (fun H locs lm kt kf => lv_icmp_lt hx hb hd ht kt kf)
    · exact Gl_br he2 (fun h => ih _ _ _ _ h) (fun h => ih _ _ _ _ h) (fun h => (okS_t (okS_t h).2).2) (fun H locs lm kt kf => lv_icmp_ge hx hb hd ht kt kf)
    · exact Gl_br he2 (fun h => ih _ _ _ _ h) (fun h => ih _ _ _ _ h) (fun h => (okS_t (okS_t h).2).2) (fun H locs lm kt kf => lv_icmp_gt hx hb hd ht kt kf)
    · exact Gl_br he2 (fun h => ih _ _ _ _ h) (fun h => ih _ _ _ _ h) (fun h => (okS_t (okS_t h).2).2) (fun H locs lm kt kf => lv_icmp_le hx hb hd ht kt kf)
  case ifnull off =>
    obtain ⟨i, n, a, r, rfl, he1⟩ := a1_inv he
    match i, he1 with
    | 0, he1 =>
      obtain ⟨t, ht, he2⟩ := jp_inv he1
      exact Gl_1 (ih _ _ _ _ he2) (fun h => (okS_t h).2) (fun H locs lm kk => lv_ifnullN hx hb hd ht kk)
    | 1, he1 => exact Gl_1 (ih _ _ _ _ he1) (fun h => (okS_t h).2) (fun H locs lm kk => lv_ifnull hx hb hd kk)
    | 2, he1 => exact Gl_1 (ih _ _ _ _ he1) (fun h => (okS_t h).2) (fun H locs lm kk => lv_ifnull hx hb hd kk)
    | 3, he1 => exact Gl_1 (ih _ _ _ _ he1) (fun h => (okS_t h).2) (fun H locs lm kk => lv_ifnull hx hb hd kk)
    | 4, he1 => exact Gl_1 (ih _ _ _ _ he1) (fun h => (okS_t h).2) (fun H locs lm kk => lv_ifnull hx hb hd kk)
    | i + 5, he1 => exact Gl_1 (ih _ _ _ _ he1) (fun h => (okS_t h).2) (fun H locs lm kk => lv_ifnull hx hb hd kk)
  case goto off =>
    obtain ⟨t, ht, he2⟩ := jp_inv he
    exact Gl_1 (ih _ _ _ _ he2) (fun h => h) (fun H locs lm kk => lv_goto hx hb hd ht kk)
  case tableswitch dflt lo hiT offs =>
    obtain ⟨hg, he1⟩ := bif_inv he
    obtain ⟨hg1, hg2⟩ := Bool.and_eq_true _ _ ▸ hg
    have hg1 := Nat.eq_of_beq_eq_true hg1
    have hg2 := of_decide_eq_true hg2
    obtain ⟨x, r, rfl, he2⟩ := p1_inv he1
    have hsz : (offs.toList.length : Int) = hiT - lo + 1 := by
      rw [Array.length_toList, hg1]
      omega
    rcases swt_tab offs.toList lo hg2.1 (by omega) he2 with ⟨h3, h4⟩ | ⟨off, h3, h4, h5, h6⟩
    · obtain ⟨t, ht, he3⟩ := jp_inv h4
      exact Gl_1 (ih _ _ _ _ he3) (fun h => (okS_t h).2) (fun H locs lm kk => lv_tableOut hx hb hd (by omega) ht kk)
    · obtain ⟨t, ht, he3⟩ := jp_inv h6
      exact Gl_1 (ih _ _ _ _ he3) (fun h => (okS_t h).2) (fun H locs lm kk => lv_tableIn hx hb hd h3 (by omega) (by rw [← Array.getElem?_toList]; exact h4) ht kk)
  case lookupswitch dflt ps =>
    obtain ⟨hg, he1⟩ := bif_inv he
    obtain ⟨hg1, hg2⟩ := Bool.and_eq_true _ _ ▸ hg
    obtain ⟨x, r, rfl, he2⟩ := p1_inv he1
    obtain ⟨t, ht, he3⟩ := jp_inv (swt_look _ hg2 he2)
    exact Gl_1 (ih _ _ _ _ he3) (fun h => (okS_t h).2) (fun H locs lm kk => lv_lookup hx hb hd hg1 rfl ht kk)
theorem okV_cell {k n a : Nat} (h : okV E (vR k n a)) (h0 : k ≠ 0) (h4 : k ≠ 4) : (a, k, n) ∈ cellsL := by
  match k, h, h0, h4 with
  | 1, h, _, _ => exact h
  | 2, h, _, _ => exact h
  | 3, h, _, _ => exact h
  | k + 5, h, _, _ => exact h
/-- fields and arrays -/
theorem snd_heap {q : MI} {d : Nat} (hF : Fx p R s m args c cells slots D ad adR kA tys E A q d) {cf : CF} {k : KF} {pc len : Nat} {ls : PL} {st : List PV} {σ : PS} {i : Instr} {z : Option PV × PS} (hd : decode q.2.1 pc = .ok (i, len)) (hlen : lenOk (pc, i, len) = true) (he : exI E cf k q pc ls st σ i = some z)
    (ih : ∀ pc ls st σ, k pc ls st σ = some z → Gl p l e R s m args below meth c cells slots Q D ad adR kA E A q pc ls st σ) (hi : isHeap i = true) : Gl p l e R s m args below meth c cells slots Q D ad adR kA E A q pc ls st σ := by
  have hF0 := hF
  obtain ⟨hq, hx, hb, hml, hown, hts, hnw, hK, hwf, hA, hro, hcells, hslots, hfr, hlo⟩ := hF
  have hcl := (mc_ok q hq).1
  cases i <;> first | (cases hi; done) | skip
  all_goals simp only [lenOk, beq_iff_eq] at hlen
  all_goals try subst hlen
  all_goals simp only [exI] at he
  case getfield j =>
    cases hj : lk (fR q.2.2.2.2.1) j with
    | none => rw [hj] at he; cases he
    | some v =>
      obtain ⟨ci, f, nest, pos⟩ := v
      rw [hj] at he
      obtain ⟨i, n, a, r, rfl, he1⟩ := a1_inv he
      obtain ⟨hg, he2⟩ := bif_inv he1
      obtain ⟨hg1, hg2⟩ := Bool.and_eq_true _ _ ▸ hg
      have e1 := Nat.eq_of_beq_eq_true hg1
      have e2 := Nat.eq_of_beq_eq_true hg2
      subst e1; subst e2
      intro h1 h2 h3 H locs lm h4 h5 h6
      have hc : (a, 1, n) ∈ cellsL := (okS_t h3).1
      obtain ⟨cq, hcq, hfl, hnest, hplain⟩ := fRb_spec (fR_ok _ hcl _ (lk_mem hj))
      next =>
        obtain ⟨hk1, hk2, hk3, hk4, -⟩ := cls_ok n cq hcq
        obtain ⟨v, hv1, hv2, he3⟩ := fget_inv (E := E) (ad := ad) (adR := adR) he2 hc (by rw [← hk2]; exact hfl)
        obtain ⟨q0, hq0, hw⟩ := ws_get (ad := ad) (kA := kA) σ hc
        have hval : ((List.range (fN n)).map (fval ad σ n a))[f]? = some (cv ad adR v) := by
          rw [List.getElem?_map, List.getElem?_range (by rw [← hk2]; exact hfl), hv2]; rfl
        have hnext := ih _ _ _ _ he3 h1 h2 (okS_c hv1 (okS_t h3).2) H locs lm h4 h5 h6
        cases nest with
        | false =>
          obtain ⟨hl1, hl2⟩ := hplain rfl
          exact va_get (C := cq.1) (T := cq.2.1) (N := cq.2.2) (Ts := gw) (ci := n) hx hb hts hk1 hown hK h5 q0 hw hcq f hfl (hts _ (gw_of hl1 hl2)) (fun x h => by rw [hk4 f hfl] at h; exact h) hval hd hnext
        | true =>
          exact va_getN (C := cq.1) (T := cq.2.1) (N := cq.2.2) (Ts := gw) (ci := n) hx hb hts hk1 hown hK h5 q0 hw hcq f hfl (va_Nw.use rfl (hnw _ (nw_of (hnest rfl) rfl))) (fun x h => by rw [hk4 f hfl] at h; exact h) hval hd hnext
  case putfield j =>
    cases hj : lk (fR q.2.2.2.2.1) j with
    | none => rw [hj] at he; cases he
    | some v =>
      obtain ⟨ci, f, nest, pos⟩ := v
      rw [hj] at he
      obtain ⟨x, r0, rfl, he0⟩ := p1_inv he
      obtain ⟨i, n, a, r, rfl, he1⟩ := a1_inv he0
      obtain ⟨hg, he2⟩ := bif_inv he1
      obtain ⟨hg1, hg2⟩ := Bool.and_eq_true _ _ ▸ hg
      have e1 := Nat.eq_of_beq_eq_true hg1
      have e2 := Nat.eq_of_beq_eq_true hg2
      subst e1; subst e2
      intro h1 h2 h3 H locs lm h4 h5 h6
      have hc : (a, 1, n) ∈ cellsL := (okS_t (okS_t h3).2).1
      obtain ⟨cq, hcq, hfl, hnest, hplain⟩ := fRb_spec (fR_ok _ hcl _ (lk_mem hj))
      next =>
        obtain ⟨hk1, hk2, hk3, hk4, ty0, hty, hnm, hkd⟩ := cls_ok n cq hcq
        obtain ⟨hkind, he3⟩ := fput_inv he2
        obtain ⟨q0, hq0, hw⟩ := ws_get (ad := ad) (kA := kA) σ hc
        have hkk : (fk n f).1 = 0 ∨ (fk n f).1 = 1 := hkind.elim Or.inl (fun h => Or.inr h.1)
        have hnew : (wsO ad kA σ).set q0 (ad a, .inr (n, ((List.range (fN n)).map (fval ad σ n a)).set f (.int x))) = wsO ad kA (u2 σ.1 a f x, σ.2) := by
          rw [← conc_put (ad := ad) (kA := kA) (σ := σ) (a := a) (x := x) hkk]
          exact ws_set hq0 (fun r hr hne => conc_congr (u2_ne hne) rfl)
        have hfin : (cq.2.1 f).2.2.2 = false := hkk.elim (fun h => ((hkd f hfl).1 h).2) (fun h => ((hkd f hfl).2 h).2)
        have hnar : narrow (ty0 f) (.int x) = .int x ∧ fits (ty0 f) (.int x) = true := by
          rcases hkind with h | ⟨h, h01⟩
          · rw [((hkd f hfl).1 h).1]; exact ⟨rfl, rfl⟩
          · rw [((hkd f hfl).2 h).1]
            rcases h01 with rfl | rfl <;> exact ⟨by decide, by decide⟩
        have hlf : f < ((List.range (fN n)).map (fval ad σ n a)).length := by rw [List.length_map, List.length_range, ← hk2]; exact hfl
        have hnext : ∀ (H1 : Heap) (locs1 : List Loc), va_P D clsL ((wsO ad kA σ).set q0 (ad a, .inr (n, ((List.range (fN n)).map (fval ad σ n a)).set f (.int x)))) H1 → va_D A ((wsO ad kA σ).set q0 (ad a, .inr (n, ((List.range (fN n)).map (fval ad σ n a)).set f (.int x)))) → va_S A s.heap H1 locs1 → W p l e R s m args below meth c H1 locs1 cells slots Q (F0 m (pc + 3) lm (r.map (cv ad adR))) := by
          intro H1 locs1 hP1 _ hS1
          rw [hnew] at hP1
          exact ih _ _ _ _ he3 h1 h2 (okS_t (okS_t h3).2).2 H1 locs1 lm h4 hP1 hS1
        cases nest with
        | false =>
          obtain ⟨hl1, hl2⟩ := hplain rfl
          exact va_put (C := cq.1) (T := cq.2.1) (N := cq.2.2) (Ts := gw) (ci := n) hx hb hts hk1 ty0 hty hnm hown hK h5 (ws_D hwf hA σ) h6 q0 hw hcq f hfl (hts _ (gw_of hl1 hl2)) (fun x h => by rw [hk4 f hfl] at h; exact h) hfin (hty f hfl) hnar.1 hnar.2 hlf hd hnext
        | true =>
          exact va_putN (C := cq.1) (T := cq.2.1) (N := cq.2.2) (Ts := gw) (ci := n) hx hb hts hk1 ty0 hty hnm hown hK h5 (ws_D hwf hA σ) h6 q0 hw hcq f hfl (va_Nw.use rfl (hnw _ (nw_of (hnest rfl) rfl))) (fun x h => by rw [hk4 f hfl] at h; exact h) hfin (hty f hfl) hnar.1 hnar.2 hlf hd hnext
  case getstatic j =>
    cases hj : lk (sR q.2.2.2.2.1) j with
    | none => rw [hj] at he; cases he
    | some v =>
      obtain ⟨n, a, pos⟩ := v
      rw [hj] at he
      intro h1 h2 h3 H locs lm h4 h5 h6
      have hm := lk_mem hj
      have hc0 : q.2.2.2.2.1 = 0 := by
        match hz : q.2.2.2.2.1, hm with
        | 0, _ => rfl
      rw [hc0] at hm hown
      simp only [sR, List.mem_cons, Prod.mk.injEq, List.not_mem_nil, or_false] at hm
      rcases hm with ⟨rfl, rfl, rfl, rfl⟩ | ⟨rfl, rfl, rfl, rfl⟩
      · exact va_gets hx hb hro.2.1 h6 hown (hts _ (gw_of sR_ok.1 sR_ok.2.2.1)) (fun _ h => h) hd (ih _ _ _ _ he h1 h2 (okS_c (v := vR 4 32 2) ⟨by decide, rfl⟩ h3) H locs lm h4 h5 h6)
      · exact va_gets hx hb hro.2.2 h6 hown (hts _ (gw_of sR_ok.2.1 sR_ok.2.2.2)) (fun _ h => h) hd (ih _ _ _ _ he h1 h2 (okS_c (v := vR 4 8 1) ⟨by decide, rfl⟩ h3) H locs lm h4 h5 h6)
  case iaload =>
    obtain ⟨i, r0, rfl, he0⟩ := p1_inv he
    obtain ⟨kd, n, a, r, rfl, he1⟩ := a1_inv he0
    intro h1 h2 h3 H locs lm h4 h5 h6
    have hok := (okS_t (okS_t h3).2).1
    match kd, he1, hok, h3 with
    | 2, he1, hok, h3 =>
      obtain ⟨hib, he2⟩ := ite_inv he1
      obtain ⟨q0, hq0, hw⟩ := ws_get (ad := ad) (kA := kA) σ (q := (a, 2, n)) hok
      obtain ⟨t0, ht⟩ := hwf.2.1 (a, 2, n) hok rfl
      exact va_iald hx hb hK h5 q0 t0 hw ht (vp_in_iff.mpr hib) hd (ih _ _ _ _ he2 h1 h2 (okS_c trivial (okS_t (okS_t h3).2).2) H locs lm h4 h5 h6)
    | 4, he1, hok, h3 =>
      obtain ⟨hib, he2⟩ := ite_inv he1
      have hT := hro.1 a hok.1
      exact va_ti hx hb hT h6 (by rw [← hok.2]; exact vp_in_iff.mpr hib) rfl hd (ih _ _ _ _ he2 h1 h2 (okS_c trivial (okS_t (okS_t h3).2).2) H locs lm h4 h5 h6)
  case iastore =>
    obtain ⟨i, x, r0, rfl, he0⟩ := p2_inv he
    obtain ⟨kd, n, a, r, rfl, he1⟩ := a1_inv he0
    intro h1 h2 h3 H locs lm h4 h5 h6
    have hok := (okS_t (okS_t (okS_t h3).2).2).1
    match kd, he1, hok, h3 with
    | 2, he1, hok, h3 =>
      obtain ⟨hib, he2⟩ := ite_inv he1
      obtain ⟨q0, hq0, hw⟩ := ws_get (ad := ad) (kA := kA) σ (q := (a, 2, n)) hok
      obtain ⟨t0, ht⟩ := hwf.2.1 (a, 2, n) hok rfl
      refine va_iast hx hb hK h5 (ws_D hwf hA σ) h6 q0 t0 hw ht (vp_in_iff.mpr hib) hd (fun H1 locs1 hP1 _ hS1 => ?_)
      have hnew : (wsO ad kA σ).set q0 (ad a, .inl (kA a, n, .inl (upd (σ.1 a) i.toNatClampNeg x))) = wsO ad kA (u2 σ.1 a (ix i) x, σ.2) := by
        rw [← ws_set (σ := σ) (σ' := (u2 σ.1 a (ix i) x, σ.2)) hq0 (fun r hr hne => conc_congr (u2_ne hne) rfl)]
        show _ = (wsO ad kA σ).set q0 (ad a, .inl (kA a, n, .inl (u2 σ.1 a (ix i) x a)))
        rw [u2_eq]
        rfl
      have hP1 : va_P D clsL ((wsO ad kA σ).set q0 (ad a, .inl (kA a, n, .inl (upd (σ.1 a) i.toNatClampNeg x)))) H1 := hP1
      rw [hnew] at hP1
      exact ih _ _ _ _ he2 h1 h2 (okS_t (okS_t (okS_t h3).2).2).2 H1 locs1 lm h4 hP1 hS1
  case laload =>
    obtain ⟨i, r0, rfl, he0⟩ := p1_inv he
    obtain ⟨kd, n, a, r, rfl, he1⟩ := a1_inv he0
    intro h1 h2 h3 H locs lm h4 h5 h6
    have hok := (okS_t (okS_t h3).2).1
    match kd, he1, hok, h3 with
    | 3, he1, hok, h3 =>
      obtain ⟨hib, he2⟩ := ite_inv he1
      obtain ⟨q0, hq0, hw⟩ := ws_get (ad := ad) (kA := kA) σ (q := (a, 3, n)) hok
      obtain ⟨t0, ht⟩ := hwf.2.2.1 (a, 3, n) hok rfl
      exact va_lald hx hb hK h5 q0 t0 hw ht (vp_in_iff.mpr hib) hd (ih _ _ _ _ he2 h1 h2 (okS_c trivial (okS_t (okS_t h3).2).2) H locs lm h4 h5 h6)
  case lastore =>
    obtain ⟨x, r1, rfl, hel⟩ := q1_inv he
    obtain ⟨i, r0, rfl, he0⟩ := p1_inv hel
    obtain ⟨kd, n, a, r, rfl, he1⟩ := a1_inv he0
    intro h1 h2 h3 H locs lm h4 h5 h6
    have hok := (okS_t (okS_t (okS_t h3).2).2).1
    match kd, he1, hok, h3 with
    | 3, he1, hok, h3 =>
      obtain ⟨hib, he2⟩ := ite_inv he1
      obtain ⟨q0, hq0, hw⟩ := ws_get (ad := ad) (kA := kA) σ (q := (a, 3, n)) hok
      obtain ⟨t0, ht⟩ := hwf.2.2.1 (a, 3, n) hok rfl
      refine va_last hx hb hK h5 (ws_D hwf hA σ) h6 q0 t0 hw ht (vp_in_iff.mpr hib) hd (fun H1 locs1 hP1 _ hS1 => ?_)
      have hnew : (wsO ad kA σ).set q0 (ad a, .inl (kA a, n, .inr (.inl (vp_updL (σ.2 a) i.toNatClampNeg x)))) = wsO ad kA (σ.1, u2L σ.2 a (ix i) x) := by
        rw [← ws_set (σ := σ) (σ' := (σ.1, u2L σ.2 a (ix i) x)) hq0 (fun r hr hne => conc_congr rfl (u2L_ne hne))]
        show _ = (wsO ad kA σ).set q0 (ad a, .inl (kA a, n, .inr (.inl (u2L σ.2 a (ix i) x a))))
        rw [u2L_eq]
        rfl
      have hP1 : va_P D clsL ((wsO ad kA σ).set q0 (ad a, .inl (kA a, n, .inr (.inl (vp_updL (σ.2 a) i.toNatClampNeg x))))) H1 := hP1
      rw [hnew] at hP1
      exact ih _ _ _ _ he2 h1 h2 (okS_t (okS_t (okS_t h3).2).2).2 H1 locs1 lm h4 hP1 hS1
  case aaload =>
    obtain ⟨i, r0, rfl, he0⟩ := p1_inv he
    obtain ⟨kd, n, a, r, rfl, he1⟩ := a1_inv he0
    intro h1 h2 h3 H locs lm h4 h5 h6
    have hok := (okS_t (okS_t h3).2).1
    match kd, he1, hok, h3 with
    | 5, he1, hok, h3 =>
      obtain ⟨hib, he2⟩ := ite_inv he1
      obtain ⟨q0, hq0, hw⟩ := ws_get (ad := ad) (kA := kA) σ (q := (a, 5, n)) hok
      obtain ⟨t0, ht⟩ := hwf.2.2.2 (a, 5, n) hok rfl
      have hlt : ix i < n := Nat.not_le.mp fun q => (vp_in_iff.mpr hib) (Or.inr q)
      exact pm_aaload hx hb hK h5 q0 t0 hw ht (vp_in_iff.mpr hib) hd (ih _ _ _ _ he2 h1 h2 (okS_c (v := vR 3 60 (a + 1 + ix i)) (sh_row hok hlt) (okS_t (okS_t h3).2).2) H locs lm h4 h5 h6)
  case arraylength =>
    obtain ⟨kd, n, a, r, rfl, he1⟩ := a1_inv he
    intro h1 h2 h3 H locs lm h4 h5 h6
    have hok := (okS_t h3).1
    match kd, he1, hok, h3 with
    | 2, he1, hok, h3 =>
      obtain ⟨q0, hq0, hw⟩ := ws_get (ad := ad) (kA := kA) σ (q := (a, 2, n)) hok
      obtain ⟨t0, ht⟩ := hwf.2.1 (a, 2, n) hok rfl
      exact va_alen hx hb hK h5 q0 t0 hw ht rfl hd (ih _ _ _ _ he1 h1 h2 (okS_c trivial (okS_t h3).2) H locs lm h4 h5 h6)
    | 3, he1, hok, h3 =>
      obtain ⟨q0, hq0, hw⟩ := ws_get (ad := ad) (kA := kA) σ (q := (a, 3, n)) hok
      obtain ⟨t0, ht⟩ := hwf.2.2.1 (a, 3, n) hok rfl
      exact va_alen hx hb hK h5 q0 t0 hw ht rfl hd (ih _ _ _ _ he1 h1 h2 (okS_c trivial (okS_t h3).2) H locs lm h4 h5 h6)
    | 4, he1, hok, h3 =>
      exact va_tlen hx hb (hro.1 a hok.1) h6 (by rw [← hok.2]) hd (ih _ _ _ _ he1 h1 h2 (okS_c trivial (okS_t h3).2) H locs lm h4 h5 h6)
    | 5, he1, hok, h3 =>
      obtain ⟨q0, hq0, hw⟩ := ws_get (ad := ad) (kA := kA) σ (q := (a, 5, n)) hok
      obtain ⟨t0, ht⟩ := hwf.2.2.2 (a, 5, n) hok rfl
      exact va_alen hx hb hK h5 q0 t0 hw ht rfl hd (ih _ _ _ _ he1 h1 h2 (okS_c trivial (okS_t h3).2) H locs lm h4 h5 h6)
end SND2
