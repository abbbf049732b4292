/-! what field and array instructions take and leave, as the world has it -/
theorem u2_ne {M : Nat → Nat → Int32} {a j c : Nat} {x : Int32} (h : c ≠ a) : u2 M a j x c = M c := if_neg h
theorem u2_eq {M : Nat → Nat → Int32} {a j : Nat} {x : Int32} : u2 M a j x a = upd (M a) j x := if_pos rfl
theorem u2L_ne {M : Nat → Nat → Int64} {a j c : Nat} {x : Int64} (h : c ≠ a) : u2L M a j x c = M c := if_neg h
theorem u2L_eq {M : Nat → Nat → Int64} {a j : Nat} {x : Int64} : u2L M a j x a = vp_updL (M a) j x := if_pos rfl
theorem conc_congr {ad : Nat → Nat} {kA : Nat → ClassId} {σ σ' : PS} {q : Nat × Nat × Nat} (h1 : σ'.1 q.1 = σ.1 q.1) (h2 : σ'.2 q.1 = σ.2 q.1) : conc ad kA σ' q = conc ad kA σ q := by
  unfold conc
  have e : fval ad σ' q.2.2 q.1 = fval ad σ q.2.2 q.1 := by
    funext k
    unfold fval
    rw [h1]
  rw [h1, h2, e]
theorem sh_field {a ci k : Nat} (h : (a, 1, ci) ∈ cellsL) (hk : k < fN ci) : (match fk ci k with
    | (0, _) => true
    | (1, _) => true
    | (2, n) => cellsL.elem (a + 1 + k, 2, n)
    | (3, n) => cellsL.elem (a + 1 + k, 3, n)
    | (4, n) => (match lk orL (a * 100 + k) with
      | some b => cellsL.elem (b, 1, n)
      | none => false)
    | (5, n) => cellsL.elem (a + 1 + k, 5, n)
    | _ => false) = true := by
  have h1 := sh_ok _ h
  have h2 := (Bool.and_eq_true _ _ ▸ h1 : _ ∧ _).2
  exact List.all_eq_true.mp h2 k (List.mem_range.mpr hk)
theorem sh_row {a n i : Nat} (h : (a, 5, n) ∈ cellsL) (hi : i < n) : (a + 1 + i, 3, 60) ∈ cellsL := by
  have h1 := sh_ok _ h
  exact List.mem_of_elem_eq_true (List.all_eq_true.mp h1 i (List.mem_range.mpr hi))
theorem fget_inv {E : Nat × (Nat → Int32)} {ad adR : Nat → Nat} {σ : PS} {ci k a : Nat} {f : PV → PR} {x : Option PV × PS} (h : fget σ ci k a f = some x) (hc : (a, 1, ci) ∈ cellsL) (hk : k < fN ci) : ∃ v, okV E v ∧ cv ad adR v = fval ad σ ci a k ∧ f v = some x := by
  have hs := sh_field hc hk
  unfold fget at h
  unfold fval
  generalize fk ci k = w at h hs ⊢
  match w, h, hs with
  | (0, _), h, _ => exact ⟨vI (σ.1 a k), trivial, rfl, h⟩
  | (1, _), h, _ => exact ⟨vI (σ.1 a k), trivial, rfl, h⟩
  | (2, n), h, hs => exact ⟨vR 2 n (a + 1 + k), List.mem_of_elem_eq_true hs, rfl, h⟩
  | (3, n), h, hs => exact ⟨vR 3 n (a + 1 + k), List.mem_of_elem_eq_true hs, rfl, h⟩
  | (4, n), h, hs =>
    generalize lk orL (a * 100 + k) = z at h hs ⊢
    match z, h, hs with
    | some b, h, hs => exact ⟨vR 1 n b, List.mem_of_elem_eq_true hs, rfl, h⟩
  | (5, n), h, hs => exact ⟨vR 5 n (a + 1 + k), List.mem_of_elem_eq_true hs, rfl, h⟩
theorem fput_inv {σ : PS} {ci k a : Nat} {y : Int32} {f : PS → PR} {x : Option PV × PS} (h : fput σ ci k a y f = some x) : ((fk ci k).1 = 0 ∨ ((fk ci k).1 = 1 ∧ (y = 0 ∨ y = 1))) ∧ f (u2 σ.1 a k y, σ.2) = some x := by
  unfold fput at h
  generalize fk ci k = w at h ⊢
  match w, h with
  | (0, _), h => exact ⟨Or.inl rfl, h⟩
  | (1, _), h =>
    obtain ⟨h1, h2⟩ := ite_inv h
    exact ⟨Or.inr ⟨rfl, h1⟩, h2⟩
theorem range_set {f g : Nat → Value} {N k : Nat} {v : Value} (hk : g k = v) (ho : ∀ j, j ≠ k → g j = f j) : ((List.range N).map f).set k v = (List.range N).map g := by
  apply List.ext_getElem?
  intro j
  rw [List.getElem?_set, List.getElem?_map, List.getElem?_map, List.length_map, List.length_range]
  by_cases e : k = j
  · subst e
    rw [if_pos rfl]
    by_cases hl : k < N
    · rw [if_pos hl, List.getElem?_range hl]
      simp [hk]
    · rw [if_neg hl]
      simp [hl]
  · rw [if_neg e]
    by_cases hl : j < N
    · rw [List.getElem?_range hl]
      simp [ho j (fun q => e q.symm)]
    · simp [hl]
theorem conc_put {ad : Nat → Nat} {kA : Nat → ClassId} {σ : PS} {a ci k : Nat} {x : Int32} (hk : (fk ci k).1 = 0 ∨ (fk ci k).1 = 1) : conc ad kA (u2 σ.1 a k x, σ.2) (a, 1, ci) = .inr (ci, ((List.range (fN ci)).map (fval ad σ ci a)).set k (.int x)) := by
  show Sum.inr (ci, (List.range (fN ci)).map (fval ad (u2 σ.1 a k x, σ.2) ci a)) = _
  rw [range_set (g := fval ad (u2 σ.1 a k x, σ.2) ci a)]
  · unfold fval
    have e : u2 σ.1 a k x a k = x := by rw [u2_eq]; exact if_pos rfl
    generalize fk ci k = w at hk
    match w, hk with
    | (0, _), _ => show Value.int (u2 σ.1 a k x a k) = _; rw [e]
    | (1, _), _ => show Value.int (u2 σ.1 a k x a k) = _; rw [e]
  · intro j hj
    unfold fval
    have e : u2 σ.1 a k x a j = σ.1 a j := by rw [u2_eq]; exact if_neg hj
    generalize fk ci j = w
    match w with
    | (0, _) => exact congrArg Value.int e
    | (1, _) => exact congrArg Value.int e
    | (2, _) => rfl
    | (3, _) => rfl
    | (4, _) => rfl
    | (n + 5, _) => rfl
theorem swt_look {pc : Nat} {dflt : Int} {x : Int32} {f : Nat → PR} {y : Option PV × PS} : ∀ (ps : List (Int × Int)), ps.all (fun p => decide (-2147483648 ≤ p.1 ∧ p.1 < 2147483648)) = true → swt pc dflt x f ps = some y → jp pc (Op.lookupswitch.offset ps dflt x.toInt) f = some y
  | [], _, h => h
  | (a, o) :: t, hr, h => by
    have hr1 : -2147483648 ≤ a ∧ a < 2147483648 := by
      have := List.all_eq_true.mp hr (a, o) List.mem_cons_self
      simpa using this
    have hk : (Int32.ofInt a).toInt = a := Int32.toInt_ofInt_of_le hr1.1 hr1.2
    have h : (if x = Int32.ofInt a then jp pc o f else swt pc dflt x f t) = some y := h
    by_cases e : x = Int32.ofInt a
    · rw [if_pos e] at h
      rw [Op.lookupswitch.offset_cons, if_pos (by rw [e, hk])]
      exact h
    · rw [if_neg e] at h
      rw [lv_osw e hk]
      exact swt_look t (List.all_eq_true.mpr fun q hq => List.all_eq_true.mp hr q (List.mem_cons_of_mem _ hq)) h
theorem swt_tab {pc : Nat} {dflt : Int} {x : Int32} {f : Nat → PR} {y : Option PV × PS} : ∀ (l : List Int) (lo : Int), -2147483648 ≤ lo → lo + l.length ≤ 2147483648 → swt pc dflt x f (tsw lo l) = some y → ((x.toInt < lo ∨ lo + l.length ≤ x.toInt) ∧ jp pc dflt f = some y) ∨ ∃ off, ¬ x.toInt < lo ∧ l[(x.toInt - lo).toNat]? = some off ∧ x.toInt < lo + l.length ∧ jp pc off f = some y
  | [], lo, _, _, h => Or.inl ⟨by simp; omega, h⟩
  | o :: t, lo, h1, h2, h => by
    have hl : ((o :: t).length : Int) = t.length + 1 := by simp
    have hk : (Int32.ofInt lo).toInt = lo := Int32.toInt_ofInt_of_le h1 (by omega)
    have h : (if x = Int32.ofInt lo then jp pc o f else swt pc dflt x f (tsw (lo + 1) t)) = some y := h
    by_cases e : x = Int32.ofInt lo
    · rw [if_pos e] at h
      have hx : x.toInt = lo := by rw [e, hk]
      refine Or.inr ⟨o, by omega, by rw [hx, Int.sub_self]; rfl, by omega, h⟩
    · rw [if_neg e] at h
      have hx : x.toInt ≠ lo := fun q => e (by rw [← q, Int32.ofInt_toInt])
      rcases swt_tab t (lo + 1) (by omega) (by omega) h with ⟨h3, h4⟩ | ⟨off, h3, h4, h5, h6⟩
      · exact Or.inl ⟨by omega, h4⟩
      · refine Or.inr ⟨off, by omega, ?_, by omega, h6⟩
        have e2 : (x.toInt - lo).toNat = (x.toInt - (lo + 1)).toNat + 1 := by omega
        rw [e2, List.getElem?_cons_succ]
        exact h4
section PMR
variable {p : Program} {l : Launch} {e : Env} {R : Room} {s : State} {m : MethodId} {args : Array Value} {below : List Frame} {meth : Method} {c : Code} {H : Heap} {locs : List Loc} {cells slots : Nat} {Q : State → Prop} {D : va_G} {cl : List vw_C} {tys : List (ClassId × FieldType)} {ws : va_W} {cc : ByteArray} {pc : Nat} {ls : Array Slot} {rest : List Value} {a : Nat}
theorem pm_aaload (hexec : p.tables.exec = Jvm.exec) (hb : c.code = cc) (hK : va_K D cl tys s) (hP : va_P D cl ws H) (q0 t0 : Nat) {cA : ClassId} {ty : FieldType} {n : Nat} {f : Nat → Option Nat} (ha : ws[q0]? = some (a, .inl (cA, n, .inr (.inr (.inr (.inr f)))))) (ht : tys[t0]? = some (cA, .array ty)) {i : Int32} (hin : vp_in i n) (hdg : decode cc pc = .ok (.aaload, 1))
    (kk : W p l e R s m args below meth c H locs cells slots Q (F0 m (pc + 1) ls (va_rf (f i.toNatClampNeg) :: rest))) : W p l e R s m args below meth c H locs cells slots Q (F0 m pc ls (.int i :: .ref a :: rest)) := by
  have hlt : i.toNatClampNeg < n := Nat.not_le.mp fun q => hin (Or.inr q)
  exact W.aald (v := va_rf (f i.toNatClampNeg)) (ty := .array ty) hexec hb (hP q0 _ ha) ((hK.2 t0 _ ht).1 n (fun j => va_rf (f j))) rfl (fun q => by cases q) (by show ¬ (i < 0 ∨ (arrV _ _ _).slots.size ≤ _); rw [arrV_size]; exact hin) (by show (arrV _ _ _).slots[_]? = _; rw [arrV_read _ _ hlt]) rfl rfl hdg kk
end PMR
