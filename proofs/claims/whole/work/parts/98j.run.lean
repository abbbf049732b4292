/-! the constructors' machine: from a place to the end -/
theorem split_stB {st as : List BV} {n : Nat} (h : n ≤ st.length) (e : (st.take n).reverse = as) : as.length = n ∧ st = as.reverse ++ st.drop n := by
  subst e
  refine ⟨by rw [List.length_reverse, List.length_take]; omega, ?_⟩
  rw [List.reverse_reverse, List.take_append_drop]
section BORN5
variable {p : Program} {l : Launch} {e : Env} {R : Room} {s : State} {m : MethodId} {args : Array Value} {below : List Frame} {meth : Method} {c : Code} {Q : State → Prop} {D : va_G} {A : Nat → Prop} {ad0 : Nat → Nat} {kA0 : Nat → ClassId} {nx0 : Nat}
set_option maxHeartbeats 2000000 in
theorem GB_run {q : BI} {d F0n : Nat} (hq : q ∈ bt) (hF : FB p R s m args c A q d) (hin : meth.name = "<init>") (hok : BOk l D d F0n) {z : BW × Nat}
    (hret : ∀ (pc : Nat) (lm : Array Slot) (ls : BL) (cc ss : Nat), decode q.1.2.1 pc = .ok (.return_, 1) → cc ≤ q.2.1 → ss ≤ q.2.2.1 → nx0 ≤ z.2 → okBW z.2 z.1 → ∀ (ad : Nat → Nat) (kA : Nat → ClassId) (tys : List (ClassId × FieldType)) (H : Heap) (locs : List Loc), agr nx0 ad0 ad kA0 kA → va_K D clsL tys s → tysB kA tys z.1 → va_P D clsL (z.1.map (cbQ ad kA)) H → va_D A (z.1.map (cbQ ad kA)) → va_S A s.heap H locs → W p l e R s m args below meth c H locs cc ss Q (F0 m pc lm [])) :
    ∀ (F pc : Nat) (ls : BL) (st : List BV) (w : BW) (nx cc ss : Nat), cc ≤ q.2.1 → ss ≤ q.2.2.1 → runB (evB d F0n) q F pc ls st w nx cc ss = some z → GB p l e R s m args below meth c Q D A ad0 kA0 nx0 q pc ls st w nx cc ss := by
  intro F
  induction F with
  | zero => intro pc ls st w nx cc ss _ _ h; cases h
  | succ F ih =>
    intro pc ls st w nx cc ss hcc hss h
    have h : (match lk q.1.2.2.2.2.2 pc with
      | some il => exB (evB d F0n) (runB (evB d F0n) q F) q pc ls st w nx cc ss il.1
      | none => none) = some z := h
    cases hk : lk q.1.2.2.2.2.2 pc with
    | none => rw [hk] at h; cases h
    | some il =>
      obtain ⟨i, len⟩ := il
      rw [hk] at h
      have he : exB (evB d F0n) (runB (evB d F0n) q F) q pc ls st w nx cc ss i = some z := h
      clear h
      have hd : decode q.1.2.1 pc = .ok (i, len) := bt_dk q hq (pc, i, len) (lk_mem hk)
      have hlen := bt_len q hq (pc, i, len) (lk_mem hk)
      have hF0 := hF
      obtain ⟨hx, hb, hml, hcl, hown, hts, hnw, hA, hcells, hslots, hfr, hlo⟩ := hF
      cases i <;> first | (cases he; done) | skip
      all_goals
        have hl1 := Nat.eq_of_beq_eq_true hlen
        dsimp only at hl1
        subst hl1
        simp only [exB] at he
      case iconst n => exact GB_1 (ih _ _ _ _ _ _ _ hcc hss he) (fun h v hv => by
          rcases List.mem_cons.mp hv with rfl | hv
          · trivial
          · exact h v hv) (fun ad H locs lm kk => lv_iconst hx hb hd rfl kk)
      case bipush n => exact GB_1 (ih _ _ _ _ _ _ _ hcc hss he) (fun h v hv => by
          rcases List.mem_cons.mp hv with rfl | hv
          · trivial
          · exact h v hv) (fun ad H locs lm kk => lv_bipush hx hb hd rfl kk)
      case sipush n => exact GB_1 (ih _ _ _ _ _ _ _ hcc hss he) (fun h v hv => by
          rcases List.mem_cons.mp hv with rfl | hv
          · trivial
          · exact h v hv) (fun ad H locs lm kk => lv_sipush hx hb hd rfl kk)
      case iload_n j =>
        obtain ⟨v, hv, he1⟩ := bO1_inv he
        obtain ⟨x, r, hx1, he2⟩ := bI1_inv he1
        cases hx1
        exact GB_ld hv (ih _ _ _ _ _ _ _ hcc hss he2) (fun ad H locs lm hl kk => lv_iload_n hx hb hd rfl hl kk)
      case aload_n j =>
        obtain ⟨v, hv, he1⟩ := bO1_inv he
        obtain ⟨x, r, hx1, he2⟩ := bR1_inv he1
        cases hx1
        exact GB_ld hv (ih _ _ _ _ _ _ _ hcc hss he2) (fun ad H locs lm hl kk => lv_aload_n hx hb hd rfl hl kk)
      case istore_n j =>
        obtain ⟨x, r, rfl, he1⟩ := bI1_inv he
        obtain ⟨hj, he2⟩ := bt_inv he1
        intro h1 h2 h3 h4 ad kA tys H locs lm a1 a2 a3 a4 a5 a6 a7
        refine lv_istore_n hx hb hd rfl a2 (blt_iff hj) (lsB_map (v := .inl x)) (fun lm' hl => ?_)
        exact ih _ _ _ _ _ _ _ hcc hss he2 (lsB_ok h1 trivial) (fun v hv => h2 v (List.mem_cons_of_mem _ hv)) h3 h4 ad kA tys H locs lm' a1 hl a3 a4 a5 a6 a7
      case iinc j n =>
        obtain ⟨v, hv, he1⟩ := bO1_inv he
        obtain ⟨x, r, hx1, he2⟩ := bI1_inv he1
        cases hx1
        obtain ⟨hj, he3⟩ := bt_inv he2
        intro h1 h2 h3 h4 ad kA tys H locs lm a1 a2 a3 a4 a5 a6 a7
        obtain ⟨k0, hk0⟩ := List.getElem?_of_mem (lk_mem hv)
        refine lv_iinc (k := k0) hx hb hd a2 (by rw [List.getElem?_map, hk0]; rfl) rfl (blt_iff hj) (lsB_map (v := .inl (x + Int32.ofInt n))) (fun lm' hl => ?_)
        exact ih _ _ _ _ _ _ _ hcc hss he3 (lsB_ok h1 trivial) h2 h3 h4 ad kA tys H locs lm' a1 hl a3 a4 a5 a6 a7
      case dup =>
        obtain ⟨v, r, rfl, he1⟩ := bV1_inv he
        exact GB_1 (ih _ _ _ _ _ _ _ hcc hss he1) (fun h v hv => by
          rcases List.mem_cons.mp hv with rfl | hv
          · exact h _ List.mem_cons_self
          · exact h v hv) (fun ad H locs lm kk => lv_dup hx hb hd (cb_cat ad v) kk)
      case goto off =>
        obtain ⟨t, ht, he⟩ := jpB_inv he
        exact GB_1 (ih _ _ _ _ _ _ _ hcc hss he) (fun h => h) (fun ad H locs lm kk => lv_goto hx hb hd ht kk)
      case if_icmp cd off =>
        cases cd <;> first | (cases he; done) | skip
        obtain ⟨y, r, rfl, he1⟩ := bI1_inv he
        obtain ⟨x, r, rfl, he2⟩ := bI1_inv he1
        obtain ⟨t, ht, he2⟩ := jpB_inv he2
        intro h1 h2 h3 h4 ad kA tys H locs lm a1 a2 a3 a4 a5 a6 a7
        have h2' : ∀ v ∈ r, okBV nx v := fun v hv => h2 v (List.mem_cons_of_mem _ (List.mem_cons_of_mem _ hv))
        refine lv_icmp_ge hx hb hd ht (fun hc => ?_) (fun hc => ?_)
        · rw [decide_eq_true hc] at he2
          exact ih _ _ _ _ _ _ _ hcc hss he2 h1 h2' h3 h4 ad kA tys H locs lm a1 a2 a3 a4 a5 a6 a7
        · rw [decide_eq_false hc] at he2
          exact ih _ _ _ _ _ _ _ hcc hss he2 h1 h2' h3 h4 ad kA tys H locs lm a1 a2 a3 a4 a5 a6 a7
      case getfield j =>
        obtain ⟨a, r, rfl, he1⟩ := bR1_inv he
        obtain ⟨ie, hie, he2⟩ := bO1_inv he1
        obtain ⟨ci, fs, hfs, he3⟩ := bObj_inv he2
        obtain ⟨f, hf, he4⟩ := bO1_inv he3
        obtain ⟨hc, he5⟩ := bt_inv he4
        obtain ⟨v, hv, he6⟩ := bO1_inv he5
        simp only [Bool.and_eq_true, Bool.not_eq_true'] at hc
        have hi := ixB_get hie
        rw [hfs] at hi
        exact GB_get hF0 hd hi hf (Nat.eq_of_beq_eq_true hc.1) hc.2 hv (ih _ _ _ _ _ _ _ hcc hss he6)
      case putfield j =>
        obtain ⟨v, r, rfl, he1⟩ := bV1_inv he
        obtain ⟨a, r, rfl, he2⟩ := bR1_inv he1
        obtain ⟨ie, hie, he3⟩ := bO1_inv he2
        obtain ⟨ci, fs, hfs, he4⟩ := bObj_inv he3
        obtain ⟨f, hf, he5⟩ := bO1_inv he4
        obtain ⟨hc, he6⟩ := bt_inv he5
        simp only [Bool.and_eq_true, Bool.not_eq_true'] at hc
        obtain ⟨⟨⟨⟨c1, c2⟩, c3⟩, c4⟩, c5⟩ := hc
        have hi := ixB_get hie
        rw [hfs] at hi
        exact GB_put hF0 hin hd hi hf (Nat.eq_of_beq_eq_true c1) c2 c3 (blt_iff c4) (Nat.eq_of_beq_eq_true c5) (ih _ _ _ _ _ _ _ hcc hss he6)
      case iastore =>
        obtain ⟨x, r, rfl, he1⟩ := bI1_inv he
        obtain ⟨y, r, rfl, he2⟩ := bI1_inv he1
        obtain ⟨a, r, rfl, he3⟩ := bR1_inv he2
        obtain ⟨ie, hie, he4⟩ := bO1_inv he3
        obtain ⟨n, b, ov, hfs, he5⟩ := bArr_inv he4
        obtain ⟨hc, he6⟩ := bt_inv he5
        have hi := ixB_get hie
        rw [hfs] at hi
        exact GB_ast hF0 hd hi (of_decide_eq_true hc) (ih _ _ _ _ _ _ _ hcc hss he6)
      case newarray t =>
        obtain ⟨x, r, rfl, he1⟩ := bI1_inv he
        obtain ⟨hc, he2⟩ := bt_inv he1
        simp only [Bool.and_eq_true] at hc
        obtain ⟨⟨⟨c1, c2⟩, c3⟩, c4⟩ := hc
        have c3 := Nat.le_of_ble_eq_true c3
        have c4 := Nat.le_of_ble_eq_true c4
        cases t <;> first | (cases he2; done) | skip
        · exact GB_newa hF0 hd (Or.inl ⟨rfl, rfl⟩) (of_decide_eq_true c1) (Nat.le_of_ble_eq_true c2) c3 c4 (ih _ _ _ _ _ _ _ c3 c4 he2)
        · exact GB_newa hF0 hd (Or.inr ⟨rfl, rfl⟩) (of_decide_eq_true c1) (Nat.le_of_ble_eq_true c2) c3 c4 (ih _ _ _ _ _ _ _ c3 c4 he2)
      case new j =>
        obtain ⟨f, hf, he1⟩ := bO1_inv he
        obtain ⟨hc, he2⟩ := bt_inv he1
        simp only [Bool.and_eq_true] at hc
        have c3 := Nat.le_of_ble_eq_true hc.1
        have c4 := Nat.le_of_ble_eq_true hc.2
        exact GB_new hF0 hd hf c3 c4 (ih _ _ _ _ _ _ _ c3 c4 he2)
      case multianewarray j dm =>
        obtain ⟨y, r, rfl, he1⟩ := bI1_inv he
        obtain ⟨x, r, rfl, he2⟩ := bI1_inv he1
        obtain ⟨hc, he3⟩ := bt_inv he2
        simp only [Bool.and_eq_true] at hc
        obtain ⟨⟨⟨⟨⟨⟨⟨⟨c1, c2⟩, c3⟩, c4⟩, c5⟩, c6⟩, c7⟩, c8⟩, c9⟩ := hc
        have c8 := Nat.le_of_ble_eq_true c8
        have c9 := Nat.le_of_ble_eq_true c9
        have e3 := Nat.eq_of_beq_eq_true c3
        have e4 := Nat.eq_of_beq_eq_true c4
        subst e3; subst e4
        exact GB_ma hF0 hd (Nat.eq_of_beq_eq_true c5) (of_decide_eq_true c1) (of_decide_eq_true c2) (Nat.le_of_ble_eq_true c6) (Nat.le_of_ble_eq_true c7) c8 c9 (ih _ _ _ _ _ _ _ c8 c9 he3)
      case invokespecial j =>
        cases ho : lk (bO q.1.2.2.2.2.1) j with
        | some f =>
          rw [ho] at he
          obtain ⟨a, r, rfl, he1⟩ := bR1_inv he
          obtain ⟨hc, he2⟩ := bt_inv he1
          exact GB_obj hF0 hd ho (Nat.le_of_ble_eq_true hc) (ih _ _ _ _ _ _ _ hcc hss he2)
        | none =>
          rw [ho] at he
          obtain ⟨f, hf, he3⟩ := bO1_inv he
          obtain ⟨y, hy, he4⟩ := bO1_inv he3
          obtain ⟨o, r, hdr, he5⟩ := bR1_inv he4
          obtain ⟨g, hg, he6⟩ := bO1_inv he5
          obtain ⟨hc, he7⟩ := bt_inv he6
          obtain ⟨z1, hz1, he8⟩ := bO1_inv he7
          simp only [Bool.and_eq_true] at hc
          obtain ⟨⟨⟨⟨c1, c2⟩, c3⟩, c4⟩, c5⟩ := hc
          have c4 := Nat.le_of_ble_eq_true c4
          have c5 := Nat.le_of_ble_eq_true c5
          have hgd := isDf_eq c1
          subst hgd
          obtain ⟨e1, e2⟩ := split_stB (Nat.le_of_ble_eq_true c2) (rfl : (st.take f.2.2.1).reverse = _)
          have hw : w = w.dropLast ++ [(o, .inl (y.1.2.2.2.2.1, dflt y.1.2.2.2.2.1))] := by
            obtain ⟨hne, hl⟩ := List.getLast?_eq_some_iff.mp hg
            rw [hl, List.dropLast_concat]
          rw [e2, hdr, hw]
          exact GB_call hF0 hok hd hf hy e1 (Nat.le_of_ble_eq_true c3) c4 c5 hz1 (ih _ _ _ _ _ _ _ c4 c5 he8)
      case return_ =>
        obtain ⟨hst, he1⟩ := bt_inv he
        cases he1
        have hst := List.isEmpty_iff.mp hst
        subst hst
        intro h1 h2 h3 h4 ad kA tys H locs lm a1 a2 a3 a4 a5 a6 a7
        exact hret pc lm ls cc ss hd hcc hss h4 h3 ad kA tys H locs a1 a3 a4 a5 a6 a7
end BORN5
