/-! the limit of our machine over its fuel, and what one instruction does there -/
abbrev CF : Type := Nat → List PV → PS → PR
abbrev KF : Type := Nat → PL → List PV → PS → PR
def Shp (f : CF → KF → PR) : Prop :=
  (∃ c : PR, ∀ cf k, f cf k = c) ∨ (∃ pc ls st s, ∀ cf k, f cf k = k pc ls st s) ∨ ∃ (y : Nat) (a : List PV) (s : PS) (g : Option PV × PS → Option (Nat × PL × List PV × PS)), ∀ cf k, f cf k = (cf y a s).bind (fun r => (g r).bind (fun c => k c.1 c.2.1 c.2.2.1 c.2.2.2))
theorem shp_c (c : PR) : Shp (fun _ _ => c) := Or.inl ⟨c, fun _ _ => rfl⟩
theorem shp_k {pc : Nat} {ls : PL} {st : List PV} {s : PS} : Shp (fun _ k => k pc ls st s) := Or.inr (Or.inl ⟨pc, ls, st, s, fun _ _ => rfl⟩)
theorem shp_p1 {st : List PV} {g : Int32 → List PV → CF → KF → PR} (h : ∀ x r, Shp (g x r)) : Shp (fun cf k => p1 st (fun x r => g x r cf k)) := match st with
  | [] => shp_c none
  | .inl x :: r => h x r
  | .inr _ :: _ => shp_c none
theorem shp_p2 {st : List PV} {g : Int32 → Int32 → List PV → CF → KF → PR} (h : ∀ x y r, Shp (g x y r)) : Shp (fun cf k => p2 st (fun x y r => g x y r cf k)) := match st with
  | [] => shp_c none
  | [.inl _] => shp_c none
  | .inl y :: .inl x :: r => h x y r
  | .inl _ :: .inr _ :: _ => shp_c none
  | .inr _ :: _ => shp_c none
theorem shp_q1 {st : List PV} {g : Int64 → List PV → CF → KF → PR} (h : ∀ x r, Shp (g x r)) : Shp (fun cf k => q1 st (fun x r => g x r cf k)) := match st with
  | [] => shp_c none
  | .inl _ :: _ => shp_c none
  | .inr (.inl x) :: r => h x r
  | .inr (.inr _) :: _ => shp_c none
theorem shp_q2 {st : List PV} {g : Int64 → Int64 → List PV → CF → KF → PR} (h : ∀ x y r, Shp (g x y r)) : Shp (fun cf k => q2 st (fun x y r => g x y r cf k)) := match st with
  | [] => shp_c none
  | .inl _ :: _ => shp_c none
  | [.inr (.inl _)] => shp_c none
  | .inr (.inl _) :: .inl _ :: _ => shp_c none
  | .inr (.inl y) :: .inr (.inl x) :: r => h x y r
  | .inr (.inl _) :: .inr (.inr _) :: _ => shp_c none
  | .inr (.inr _) :: _ => shp_c none
theorem shp_a1 {st : List PV} {g : Nat → Nat → Nat → List PV → CF → KF → PR} (h : ∀ i n a r, Shp (g i n a r)) : Shp (fun cf k => a1 st (fun i n a r => g i n a r cf k)) := match st with
  | [] => shp_c none
  | .inl _ :: _ => shp_c none
  | .inr (.inl _) :: _ => shp_c none
  | .inr (.inr (i, n, a)) :: r => h i n a r
theorem shp_gI {ls : PL} {j : Nat} {g : Int32 → CF → KF → PR} (h : ∀ x, Shp (g x)) : Shp (fun cf k => gI ls j (fun x => g x cf k)) := by
  unfold gI
  generalize ls.getD j none = v
  match v with
  | none => exact shp_c none
  | some (.inl x) => exact h x
  | some (.inr _) => exact shp_c none
theorem shp_gL {ls : PL} {j : Nat} {g : Int64 → CF → KF → PR} (h : ∀ x, Shp (g x)) : Shp (fun cf k => gL ls j (fun x => g x cf k)) := by
  unfold gL
  generalize ls.getD j none = v
  match v with
  | none => exact shp_c none
  | some (.inl _) => exact shp_c none
  | some (.inr (.inl x)) => exact h x
  | some (.inr (.inr _)) => exact shp_c none
theorem shp_gA {ls : PL} {j : Nat} {g : Nat → Nat → Nat → CF → KF → PR} (h : ∀ i n a, Shp (g i n a)) : Shp (fun cf k => gA ls j (fun i n a => g i n a cf k)) := by
  unfold gA
  generalize ls.getD j none = v
  match v with
  | none => exact shp_c none
  | some (.inl _) => exact shp_c none
  | some (.inr (.inl _)) => exact shp_c none
  | some (.inr (.inr (i, n, a))) => exact h i n a
theorem shp_bif (b : Bool) {f g : CF → KF → PR} (hf : Shp f) (hg : Shp g) : Shp (fun cf k => bif b then f cf k else g cf k) := match b with
  | true => hf
  | false => hg
theorem shp_ite {c : Prop} [Decidable c] {f g : CF → KF → PR} (hf : Shp f) (hg : Shp g) : Shp (fun cf k => if c then f cf k else g cf k) := by
  by_cases h : c
  · simp only [if_pos h]; exact hf
  · simp only [if_neg h]; exact hg
theorem shp_sI {ls : PL} {i : Nat} {v : PV} {g : PL → CF → KF → PR} (h : ∀ x, Shp (g x)) : Shp (fun cf k => sI ls i v (fun x => g x cf k)) := shp_bif _ (h _) (shp_c none)
theorem shp_sL {ls : PL} {i : Nat} {v : PV} {g : PL → CF → KF → PR} (h : ∀ x, Shp (g x)) : Shp (fun cf k => sL ls i v (fun x => g x cf k)) := shp_bif _ (h _) (shp_c none)
theorem shp_jp {pc : Nat} {off : Int} {g : Nat → CF → KF → PR} (h : ∀ x, Shp (g x)) : Shp (fun cf k => jp pc off (fun x => g x cf k)) := by
  unfold jp
  generalize (pc : Int) + off = v
  match v with
  | .ofNat t => exact h t
  | .negSucc _ => exact shp_c none
theorem shp_br {c : ClassFile.Cond} {a b : Int32} {f g : CF → KF → PR} (hf : Shp f) (hg : Shp g) : Shp (fun cf k => br c a b (f cf k) (g cf k)) := match c with
  | .eq => shp_ite hf hg
  | .ne => shp_ite hg hf
  | .lt => shp_ite hf hg
  | .ge => shp_ite hf hg
  | .gt => shp_ite hf hg
  | .le => shp_ite hf hg
theorem shp_swt {pc : Nat} {dflt : Int} {x : Int32} {g : Nat → CF → KF → PR} (h : ∀ t, Shp (g t)) : ∀ l : List (Int × Int), Shp (fun cf k => swt pc dflt x (fun t => g t cf k) l)
  | [] => shp_jp h
  | _ :: t => shp_ite (shp_jp h) (shp_swt h t)
theorem shp_fget {σ : PS} {ci s a : Nat} {g : PV → CF → KF → PR} (h : ∀ x, Shp (g x)) : Shp (fun cf k => fget σ ci s a (fun x => g x cf k)) := by
  unfold fget
  generalize fk ci s = v
  match v with
  | (0, _) => exact h _
  | (1, _) => exact h _
  | (2, n) => exact h _
  | (3, n) => exact h _
  | (4, n) =>
    generalize lk orL (a * 100 + s) = w
    match w with
    | some b => exact h _
    | none => exact shp_c none
  | (5, n) => exact h _
  | (n + 6, _) => exact shp_c none
theorem shp_fput {σ : PS} {ci s a : Nat} {x : Int32} {g : PS → CF → KF → PR} (h : ∀ x, Shp (g x)) : Shp (fun cf k => fput σ ci s a x (fun x => g x cf k)) := by
  unfold fput
  generalize fk ci s = v
  match v with
  | (0, _) => exact h _
  | (1, _) => exact shp_ite (h _) (shp_c none)
  | (n + 2, _) => exact shp_c none
theorem shp_aget {E : Nat × (Nat → Int32)} {σ : PS} {kd n a : Nat} {i : Int32} {g : Int32 → CF → KF → PR} (h : ∀ x, Shp (g x)) : Shp (fun cf k => aget E σ kd n a i (fun x => g x cf k)) := match kd with
  | 0 => shp_c none
  | 1 => shp_c none
  | 2 => shp_ite (h _) (shp_c none)
  | 3 => shp_c none
  | 4 => shp_ite (h _) (shp_c none)
  | _ + 5 => shp_c none
theorem shp_aput {σ : PS} {kd n a : Nat} {i x : Int32} {g : PS → CF → KF → PR} (h : ∀ x, Shp (g x)) : Shp (fun cf k => aput σ kd n a i x (fun x => g x cf k)) := match kd with
  | 0 => shp_c none
  | 1 => shp_c none
  | 2 => shp_ite (h _) (shp_c none)
  | _ + 3 => shp_c none
theorem shp_agetL {σ : PS} {kd n a : Nat} {i : Int32} {g : Int64 → CF → KF → PR} (h : ∀ x, Shp (g x)) : Shp (fun cf k => agetL σ kd n a i (fun x => g x cf k)) := match kd with
  | 0 => shp_c none
  | 1 => shp_c none
  | 2 => shp_c none
  | 3 => shp_ite (h _) (shp_c none)
  | _ + 4 => shp_c none
theorem shp_aputL {σ : PS} {kd n a : Nat} {i : Int32} {x : Int64} {g : PS → CF → KF → PR} (h : ∀ x, Shp (g x)) : Shp (fun cf k => aputL σ kd n a i x (fun x => g x cf k)) := match kd with
  | 0 => shp_c none
  | 1 => shp_c none
  | 2 => shp_c none
  | 3 => shp_ite (h _) (shp_c none)
  | _ + 4 => shp_c none
theorem shp_agetR {kd n a : Nat} {i : Int32} {g : PV → CF → KF → PR} (h : ∀ x, Shp (g x)) : Shp (fun cf k => agetR kd n a i (fun x => g x cf k)) := match kd with
  | 0 => shp_c none
  | 1 => shp_c none
  | 2 => shp_c none
  | 3 => shp_c none
  | 4 => shp_c none
  | 5 => shp_ite (h _) (shp_c none)
  | _ + 6 => shp_c none
theorem shp_alen {kd n : Nat} {g : Int32 → CF → KF → PR} (h : ∀ x, Shp (g x)) : Shp (fun cf k => alen kd n (fun x => g x cf k)) := match kd with
  | 0 => shp_c none
  | 1 => shp_c none
  | 2 => h _
  | 3 => h _
  | 4 => h _
  | 5 => h _
  | _ + 6 => shp_c none
/-- behind a call -/
def gcal (pc : Nat) (ls : PL) (rest : List PV) (ret : Option FieldType) (r : Option PV × PS) : Option (Nat × PL × List PV × PS) := match ret with
  | none => (match r with
    | (none, s) => some (pc + 3, ls, rest, s)
    | _ => none)
  | some .int => (match r with
    | (some (.inl x), s) => some (pc + 3, ls, vI x :: rest, s)
    | _ => none)
  | some .boolean => (match r with
    | (some (.inl x), s) => some (pc + 3, ls, vI x :: rest, s)
    | _ => none)
  | some .long => (match r with
    | (some (.inr (.inl x)), s) => some (pc + 3, ls, vL x :: rest, s)
    | _ => none)
  | some (.array _) => (match r with
    | (some (.inr (.inr (i, n, a))), s) => some (pc + 3, ls, vR i n a :: rest, s)
    | _ => none)
  | some (.object _) => (match r with
    | (some (.inr (.inr (i, n, a))), s) => some (pc + 3, ls, vR i n a :: rest, s)
    | _ => none)
  | _ => none
theorem cal_eq (k : KF) (pc : Nat) (ls : PL) (rest : List PV) (ret : Option FieldType) (res : PR) : cal k pc ls rest ret res = res.bind (fun r => (gcal pc ls rest ret r).bind (fun c => k c.1 c.2.1 c.2.2.1 c.2.2.2)) := by
  unfold cal gcal
  rcases res with _ | ⟨_ | (x | x | ⟨i, n, a⟩), s⟩ <;> rcases ret with _ | ret <;> first | rfl | (cases ret <;> rfl)
theorem shp_cal {y : Nat} {as : List PV} {s : PS} {pc : Nat} {ls : PL} {rest : List PV} {ret : Option FieldType} : Shp (fun cf k => cal k pc ls rest ret (cf y as s)) := Or.inr (Or.inr ⟨y, as, s, gcal pc ls rest ret, fun cf k => cal_eq k pc ls rest ret _⟩)
theorem shp_calV {pc : Nat} {ls : PL} {st : List PV} {σ : PS} {y n : Nat} : Shp (fun cf k => calV cf k pc ls st σ y n) := by
  unfold calV
  generalize mt0[y]? = v
  match v with
  | none => exact shp_c none
  | some q =>
    refine shp_bif _ ?_ (shp_c none)
    generalize (st.take (n + 1)).reverse = w
    match w with
    | [] => exact shp_c none
    | .inl _ :: _ => exact shp_c none
    | .inr (.inl _) :: _ => exact shp_c none
    | .inr (.inr (0, ci, a)) :: as => exact shp_c none
    | .inr (.inr (1, ci, a)) :: as => exact shp_bif _ shp_cal (shp_c none)
    | .inr (.inr (j + 2, ci, a)) :: as => exact shp_c none
theorem shp_calS {pc : Nat} {ls : PL} {st : List PV} {σ : PS} {y n : Nat} : Shp (fun cf k => calS cf k pc ls st σ y n) := by
  unfold calS
  generalize mt0[y]? = v
  match v with
  | none => exact shp_c none
  | some q => exact shp_bif _ shp_cal (shp_c none)
theorem shp_calC {pc : Nat} {ls : PL} {st : List PV} {σ : PS} : Shp (fun cf k => calC cf k pc ls st σ) := shp_bif _ (shp_cal (ret := none)) (shp_c none)
theorem shp_calM {pc : Nat} {ls : PL} {st : List PV} {σ : PS} {y : Nat} : Shp (fun cf k => calM cf k pc ls st σ y) := shp_p2 fun _ _ _ => shp_bif _ (shp_cal (ret := some .int)) (shp_c none)
set_option maxHeartbeats 4000000 in
theorem shp_exI (E : Nat × (Nat → Int32)) (q : MI) (pc : Nat) (ls : PL) (st : List PV) (σ : PS) (i : Instr) : Shp (fun cf k => exI E cf k q pc ls st σ i) := by
  cases i <;> simp only [exI]
  all_goals first
    | exact shp_c _
    | exact shp_k
    | skip
  all_goals repeat' first
    | exact shp_c _
    | exact shp_k
    | exact shp_calV
    | exact shp_calS
    | exact shp_calC
    | exact shp_calM
    | (refine shp_p1 ?_; intro _ _)
    | (refine shp_p2 ?_; intro _ _ _)
    | (refine shp_q1 ?_; intro _ _)
    | (refine shp_q2 ?_; intro _ _ _)
    | (refine shp_a1 ?_; intro _ _ _ _)
    | (refine shp_gI ?_; intro _)
    | (refine shp_gL ?_; intro _)
    | (refine shp_gA ?_; intro _ _ _)
    | (refine shp_sI ?_; intro _)
    | (refine shp_sL ?_; intro _)
    | (refine shp_jp ?_; intro _)
    | refine shp_br ?_ ?_
    | (refine shp_swt ?_ _; intro _)
    | (refine shp_fget ?_; intro _)
    | (refine shp_fput ?_; intro _)
    | (refine shp_aget ?_; intro _)
    | (refine shp_aput ?_; intro _)
    | (refine shp_agetL ?_; intro _)
    | (refine shp_aputL ?_; intro _)
    | (refine shp_agetR ?_; intro _)
    | (refine shp_alen ?_; intro _)
    | refine shp_bif _ ?_ ?_
    | refine shp_ite ?_ ?_
    | split
theorem shp_mono {f : CF → KF → PR} (h : Shp f) {cf cf' : CF} {k k' : KF} (hc : ∀ y a s x, cf y a s = some x → cf' y a s = some x) (hk : ∀ pc ls st s x, k pc ls st s = some x → k' pc ls st s = some x) {x : Option PV × PS} (e : f cf k = some x) : f cf' k' = some x := by
  rcases h with ⟨c, h⟩ | ⟨pc, ls, st, s, h⟩ | ⟨y, a, s, g, h⟩
  · rw [h] at e ⊢; exact e
  · rw [h] at e ⊢; exact hk _ _ _ _ _ e
  · rw [h] at e ⊢
    obtain ⟨r, h1, h2⟩ := Option.bind_eq_some_iff.mp e
    obtain ⟨c, h3, h4⟩ := Option.bind_eq_some_iff.mp h2
    exact Option.bind_eq_some_iff.mpr ⟨r, hc _ _ _ _ h1, Option.bind_eq_some_iff.mpr ⟨c, h3, hk _ _ _ _ _ h4⟩⟩
theorem shp_cont {f : CF → KF → PR} (h : Shp f) {cf : CF} {k : KF} (cF : Nat → CF) (kF : Nat → KF) (mc : ∀ n m y a s x, n ≤ m → cF n y a s = some x → cF m y a s = some x) (mk : ∀ n m pc ls st s x, n ≤ m → kF n pc ls st s = some x → kF m pc ls st s = some x)
    (hc : ∀ y a s x, cf y a s = some x → ∃ n, cF n y a s = some x) (hk : ∀ pc ls st s x, k pc ls st s = some x → ∃ n, kF n pc ls st s = some x) {x : Option PV × PS} (e : f cf k = some x) : ∃ n, f (cF n) (kF n) = some x := by
  rcases h with ⟨c, h⟩ | ⟨pc, ls, st, s, h⟩ | ⟨y, a, s, g, h⟩
  · exact ⟨0, by rw [h] at e ⊢; exact e⟩
  · rw [h] at e
    obtain ⟨n, hn⟩ := hk _ _ _ _ _ e
    exact ⟨n, by rw [h]; exact hn⟩
  · rw [h] at e
    obtain ⟨r, h1, h2⟩ := Option.bind_eq_some_iff.mp e
    obtain ⟨c, h3, h4⟩ := Option.bind_eq_some_iff.mp h2
    obtain ⟨n, hn⟩ := hc _ _ _ _ h1
    obtain ⟨m, hm⟩ := hk _ _ _ _ _ h4
    refine ⟨n + m, ?_⟩
    rw [h]
    exact Option.bind_eq_some_iff.mpr ⟨r, mc _ _ _ _ _ _ (Nat.le_add_right n m) hn, Option.bind_eq_some_iff.mpr ⟨c, h3, mk _ _ _ _ _ _ _ (Nat.le_add_left m n) hm⟩⟩
theorem shp_run1 (E : Nat × (Nat → Int32)) (q : MI) (pc : Nat) (ls : PL) (st : List PV) (σ : PS) : Shp (fun cf k => run1 E cf k q pc ls st σ) := by
  unfold run1
  generalize lk q.2.2.2.2.2 pc = v
  match v with
  | none => exact shp_c none
  | some r => exact shp_exI E q pc ls st σ r.1
theorem runN_mono (E : Nat × (Nat → Int32)) (q : MI) {cf cf' : CF} (hc : ∀ y a s x, cf y a s = some x → cf' y a s = some x) : ∀ (n m : Nat) (pc : Nat) (ls : PL) (st : List PV) (s : PS) (x : Option PV × PS), n ≤ m → runN E cf q n pc ls st s = some x → runN E cf' q m pc ls st s = some x
  | 0, _, _, _, _, _, _, _, e => by cases e
  | n + 1, 0, _, _, _, _, _, h, _ => absurd h (by omega)
  | n + 1, m + 1, pc, ls, st, s, x, h, e => shp_mono (shp_run1 E q pc ls st s) hc (fun pc ls st s x => runN_mono E q hc n m pc ls st s x (by omega)) e
theorem evM_mono (E : Nat × (Nat → Int32)) : ∀ (d F F' : Nat) (y : Nat) (a : List PV) (s : PS) (x : Option PV × PS), F ≤ F' → evM E d F y a s = some x → evM E d F' y a s = some x
  | 0, _, _, _, _, _, _, _, e => by cases e
  | d + 1, F, F', y, a, s, x, h, e => by
    unfold evM at e ⊢
    revert e
    cases Nat.beq y 999 with
    | true => exact fun e => e
    | false =>
      cases (Nat.beq y 998 || Nat.beq y 997) with
      | true => exact fun e => e
      | false =>
        show (match mt0[y]? with | some q => _ | none => none) = some x → (match mt0[y]? with | some q => _ | none => none) = some x
        cases mt0[y]? with
        | none => exact fun e => e
        | some q =>
          show (bif _ then _ else none) = some x → (bif _ then _ else none) = some x
          cases Nat.ble (xp a).length q.2.2.1 with
          | false => exact fun e => e
          | true => exact fun e => runN_mono E q (fun y a s x => evM_mono E d F F' y a s x h) F F' _ _ _ _ _ h e
noncomputable def lim (f : Nat → PR) : PR := @dite _ (∃ n x, f n = some x) (Classical.propDecidable _) (fun h => f h.choose) (fun _ => none)
theorem lim_iff {f : Nat → PR} (hm : ∀ n m x, n ≤ m → f n = some x → f m = some x) {x : Option PV × PS} : lim f = some x ↔ ∃ n, f n = some x := by
  constructor
  · intro h
    unfold lim at h
    by_cases hc : ∃ n x, f n = some x
    · rw [dif_pos hc] at h; exact ⟨_, h⟩
    · rw [dif_neg hc] at h; cases h
  · rintro ⟨n, h⟩
    have hc : ∃ n x, f n = some x := ⟨n, x, h⟩
    unfold lim
    rw [dif_pos hc]
    obtain ⟨y, hy⟩ := hc.choose_spec
    rw [hy]
    rcases Nat.le_total n hc.choose with q | q
    · exact hy.symm.trans (hm _ _ _ q h)
    · exact (hm _ _ _ q hy).symm.trans h
noncomputable def C (E : Nat × (Nat → Int32)) (d y : Nat) (a : List PV) (s : PS) : PR := lim (fun F => evM E d F y a s)
noncomputable def X (E : Nat × (Nat → Int32)) (d : Nat) (q : MI) (pc : Nat) (ls : PL) (st : List PV) (s : PS) : PR := lim (fun F => runN E (evM E d F) q F pc ls st s)
theorem C_iff {E : Nat × (Nat → Int32)} {d y : Nat} {a : List PV} {s : PS} {x : Option PV × PS} : C E d y a s = some x ↔ ∃ F, evM E d F y a s = some x := lim_iff (fun n m x h e => evM_mono E d n m y a s x h e)
theorem X_iff {E : Nat × (Nat → Int32)} {d : Nat} {q : MI} {pc : Nat} {ls : PL} {st : List PV} {s : PS} {x : Option PV × PS} : X E d q pc ls st s = some x ↔ ∃ F, runN E (evM E d F) q F pc ls st s = some x :=
  lim_iff (fun n m x h e => runN_mono E q (fun y a s x => evM_mono E d n m y a s x h) n m pc ls st s x h e)
/-- one instruction -/
theorem X_eq (E : Nat × (Nat → Int32)) (d : Nat) (q : MI) (pc : Nat) (ls : PL) (st : List PV) (s : PS) : X E d q pc ls st s = run1 E (C E d) (X E d q) q pc ls st s := by
  apply Option.ext
  intro x
  constructor
  · intro h
    obtain ⟨F, hF⟩ := X_iff.mp h
    cases F with
    | zero => cases hF
    | succ n =>
      refine shp_mono (shp_run1 E q pc ls st s) (fun y a s x e => C_iff.mpr ⟨_, e⟩) (fun pc ls st s x e => X_iff.mpr ⟨n + 1, ?_⟩) hF
      exact runN_mono E q (fun _ _ _ _ h => h) n (n + 1) pc ls st s x (Nat.le_succ n) e
  · intro h
    obtain ⟨n, hn⟩ := shp_cont (shp_run1 E q pc ls st s) (fun F => evM E d F) (fun F => runN E (evM E d F) q F) (fun n m y a s x h e => evM_mono E d n m y a s x h e) (fun n m pc ls st s x h e => runN_mono E q (fun y a s x => evM_mono E d n m y a s x h) n m pc ls st s x h e) (fun y a s x e => C_iff.mp e) (fun pc ls st s x e => X_iff.mp e) h
    refine X_iff.mpr ⟨n + 1, ?_⟩
    exact runN_mono E q (fun y a s x => evM_mono E d n (n + 1) y a s x (Nat.le_succ n)) (n + 1) (n + 1) pc ls st s x (Nat.le_refl _) hn
theorem C_of {E : Nat × (Nat → Int32)} {d y : Nat} {a : List PV} {s : PS} {q : MI} (h9 : Nat.beq y 999 = false) (h8 : (Nat.beq y 998 || Nat.beq y 997) = false) (hq : mt0[y]? = some q) (hl : Nat.ble (xp a).length q.2.2.1 = true) : C E (d + 1) y a s = X E d q 0 (lcl q a) [] s := by
  have e : ∀ F, evM E (d + 1) F y a s = runN E (evM E d F) q F 0 (lcl q a) [] s := by
    intro F
    show (bif Nat.beq y 999 then _ else bif (Nat.beq y 998 || Nat.beq y 997) then _ else match mt0[y]? with | some q => _ | none => none) = _
    rw [h9, h8, hq]
    show (bif Nat.ble (xp a).length q.2.2.1 then _ else none) = _
    rw [hl]
    rfl
  unfold C X
  rw [funext e]
theorem C_nat {E : Nat × (Nat → Int32)} {d y : Nat} {a : List PV} {s : PS} {r : PR} (h : ∀ F, evM E (d + 1) F y a s = r) : C E (d + 1) y a s = r := by
  apply Option.ext
  intro x
  rw [C_iff]
  constructor
  · rintro ⟨F, hF⟩; rw [h] at hF; exact hF
  · intro e; exact ⟨0, by rw [h]; exact e⟩
theorem C_copy (E : Nat × (Nat → Int32)) (d : Nat) (a : List PV) (s : PS) : C E (d + 1) 999 a s = acp a s := C_nat fun _ => rfl
theorem C_max (E : Nat × (Nat → Int32)) (d : Nat) (a b : Int32) (s : PS) : C E (d + 1) 998 [vI a, vI b] s = some (some (vI (if a < b then b else a)), s) := C_nat fun _ => rfl
theorem C_min (E : Nat × (Nat → Int32)) (d : Nat) (a b : Int32) (s : PS) : C E (d + 1) 997 [vI a, vI b] s = some (some (vI (if b < a then b else a)), s) := C_nat fun _ => rfl
/-- some instructions at once, up to places where it stops -/
def goN (E : Nat × (Nat → Int32)) (cf : CF) (kk : KF) (stop : List Nat) (q : MI) : Nat → Nat → PL → List PV → PS → PR
  | 0 => fun pc ls st s => kk pc ls st s
  | n + 1 => fun pc ls st s => bif stop.elem pc then kk pc ls st s else run1 E cf (goN E cf kk stop q n) q pc ls st s
theorem X_goN (E : Nat × (Nat → Int32)) (d : Nat) (q : MI) (stop : List Nat) : ∀ (n pc : Nat) (ls : PL) (st : List PV) (s : PS), goN E (C E d) (X E d q) stop q n pc ls st s = X E d q pc ls st s
  | 0, _, _, _, _ => rfl
  | n + 1, pc, ls, st, s => by
    unfold goN
    cases stop.elem pc with
    | true => rfl
    | false =>
      show run1 E (C E d) (goN E (C E d) (X E d q) stop q n) q pc ls st s = _
      rw [X_eq, show goN E (C E d) (X E d q) stop q n = X E d q from funext fun a => funext fun b => funext fun c => funext fun e => X_goN E d q stop n a b c e]
theorem X_go (E : Nat × (Nat → Int32)) (d : Nat) (q : MI) (stop : List Nat) (n pc : Nat) (ls : PL) (st : List PV) (s : PS) : X E d q pc ls st s = run1 E (C E d) (goN E (C E d) (X E d q) stop q n) q pc ls st s := by
  rw [X_eq, show goN E (C E d) (X E d q) stop q n = X E d q from funext fun a => funext fun b => funext fun c => funext fun e => X_goN E d q stop n a b c e]
