/-! the text of a law: what is read of it, without the programs -/
abbrev PQ : Type := Nat ⊕ (Nat × List Nat)
def bnd (r : PQ) (f : Nat → PQ) : PQ := match r with
  | .inl p => .inl p
  | .inr (q, xs) => (match f q with
    | .inl p => .inl p
    | .inr (q', ys) => .inr (q', xs ++ ys))
def lvc (c : Nat) : Nat := if c = 124 then 0 else if c = 38 then 1 else if c = 60 ∨ c = 61 ∨ c = 62 then 2 else if c = 43 ∨ c = 45 then 3 else if c = 42 ∨ c = 47 ∨ c = 37 then 4 else 9
def nmo (c : Nat) : Nat := if c = 97 then 3 else if c = 100 then 4 else if c = 104 then 1 else if c = 114 then 2 else if c = 115 then 0 else if c = 120 then 5 else 9
def isD (c : Nat) : Bool := Nat.ble 48 c && Nat.ble c 57
theorem isD_t {c : Nat} : isD c = true ↔ 48 ≤ c ∧ c ≤ 57 := by
  unfold isD
  rw [Bool.and_eq_true, Nat.ble_eq, Nat.ble_eq]
/-- the byte at i; 256 behind the end -/
def btA (t : Nat) (w : Nat → Nat) (i : Nat) : Nat := if i < t then w i else 256
def dig (b : Nat → Nat) : Nat → Nat → Nat → Nat × Nat
  | 0, v, i => (i, v)
  | k + 1, v, i => if isD (b i) = true then dig b k (10 * v + (b i - 48)) (i + 1) else (i, v)
def loopP (b : Nat → Nat) (sub : Nat → PQ) (lv : Nat) : Nat → Nat → PQ
  | 0, i => .inr (i, [])
  | k + 1, i => if lvc (b i) = lv then bnd (bnd (sub (i + 1)) (fun q => .inr (q, [b i]))) (fun q => if lv = 2 then .inr (q, []) else loopP b sub lv k q) else .inr (i, [])
def clP (b : Nat → Nat) (op : Nat → PQ) : Nat → Nat → PQ
  | 0, i => op i
  | r + 1, i => bnd (clP b op r i) (loopP b (clP b op r) (4 - r) 120)
def clsP (b : Nat → Nat) (q : Nat) : PQ := if b q = 41 then .inr (q + 1, []) else .inl q
def opR (b : Nat → Nat) (sub : Nat → PQ) (may : Bool) (i : Nat) : PQ :=
  if isD (b i) = true then .inr ((dig b 4 0 i).1, [1000 + (dig b 4 0 i).2])
  else if nmo (b i) < 9 then .inr (i + 1, [256 + nmo (b i)])
  else if (b i = 40 ∨ b i = 33 ∨ b i = 45) ∧ may = true then (if b i = 40 then bnd (clP b sub 5 (i + 1)) (clsP b) else bnd (sub (i + 1)) (fun q => .inr (q, [if b i = 45 then 110 else 33])))
  else .inl i
def opP (b : Nat → Nat) : Nat → Nat → PQ
  | 0 => opR b (fun i => .inl i) false
  | m + 1 => opR b (opP b m) true
/-- how many lie on the pile -/
def dpn : List Nat → Nat → Option Nat
  | [], n => some n
  | x :: t, n => if 256 ≤ x then dpn t (n + 1) else if x = 110 ∨ x = 33 then (match n with
    | 0 => none
    | n + 1 => dpn t (n + 1)) else (match n with
    | 0 => none
    | 1 => none
    | n + 2 => dpn t (n + 1))
def okI (x : Nat) : Prop := x = 110 ∨ x = 33 ∨ (lvc x < 9 ∧ x < 256) ∨ (256 ≤ x ∧ x < 262) ∨ (1000 ≤ x ∧ x < 11000)
theorem dpn_app : ∀ (xs ys : List Nat) (n : Nat), dpn (xs ++ ys) n = (dpn xs n).bind (dpn ys)
  | [], _, _ => rfl
  | x :: t, ys, n => by
    show dpn (x :: (t ++ ys)) n = _
    unfold dpn
    by_cases h : 256 ≤ x
    · rw [if_pos h, if_pos h]; exact dpn_app t ys (n + 1)
    · rw [if_neg h, if_neg h]
      by_cases h2 : x = 110 ∨ x = 33
      · rw [if_pos h2, if_pos h2]
        match n with
        | 0 => rfl
        | n + 1 => exact dpn_app t ys (n + 1)
      · rw [if_neg h2, if_neg h2]
        match n with
        | 0 => rfl
        | 1 => rfl
        | n + 2 => exact dpn_app t ys (n + 1)
def gdI (xs : List Nat) : Prop := (∀ x ∈ xs, okI x) ∧ ∀ n, dpn xs n = some (n + 1)
/-- a piece behind one that is there -/
def glI (xs : List Nat) : Prop := (∀ x ∈ xs, okI x) ∧ ∀ n, dpn xs (n + 1) = some (n + 1)
theorem gdI.app {xs ys : List Nat} (h : gdI xs) (h' : glI ys) : gdI (xs ++ ys) :=
  ⟨fun x hx => (List.mem_append.mp hx).elim (h.1 x) (h'.1 x), fun n => by rw [dpn_app, h.2 n]; exact h'.2 n⟩
theorem glI.app {xs ys : List Nat} (h : glI xs) (h' : glI ys) : glI (xs ++ ys) :=
  ⟨fun x hx => (List.mem_append.mp hx).elim (h.1 x) (h'.1 x), fun n => by rw [dpn_app, h.2 n]; exact h'.2 n⟩
theorem glI.nil : glI [] := ⟨fun _ h => (by cases h), fun _ => rfl⟩
theorem lvc_ne {x : Nat} (h : lvc x < 9) : x < 256 ∧ ¬ (x = 110 ∨ x = 33) := by
  unfold lvc at h
  (repeat' split at h) <;> omega
theorem gdI.bin {xs : List Nat} {x : Nat} (h : gdI xs) (hx : lvc x < 9) : glI (xs ++ [x]) := by
  obtain ⟨a, b⟩ := lvc_ne hx
  refine ⟨fun y hy => ?_, fun n => ?_⟩
  · rcases List.mem_append.mp hy with q | q
    · exact h.1 y q
    · rw [List.mem_singleton.mp q]; exact Or.inr (Or.inr (Or.inl ⟨hx, a⟩))
  · rw [dpn_app, h.2]
    show dpn [x] (n + 2) = _
    unfold dpn
    rw [if_neg (by omega), if_neg b]
    rfl
theorem gdI.un {xs : List Nat} {x : Nat} (h : gdI xs) (hx : x = 110 ∨ x = 33) : gdI (xs ++ [x]) := by
  refine h.app ⟨fun y hy => ?_, fun n => ?_⟩
  · rw [List.mem_singleton.mp hy]
    rcases hx with q | q
    · exact Or.inl q
    · exact Or.inr (Or.inl q)
  · unfold dpn
    rw [if_neg (by omega), if_pos hx]
    rfl
theorem gdI.one {x : Nat} (h : okI x) (h2 : 256 ≤ x) : gdI [x] :=
  ⟨fun y hy => by rw [List.mem_singleton.mp hy]; exact h, fun n => by unfold dpn; rw [if_pos h2]; rfl⟩
/-- what a reading may give -/
def wfP (t i : Nat) (r : PQ) : Prop := match r with
  | .inl p => p ≤ t
  | .inr (q, xs) => i < q ∧ q ≤ t ∧ i + xs.length ≤ q ∧ gdI xs
def wfL (t i : Nat) (r : PQ) : Prop := match r with
  | .inl p => p ≤ t
  | .inr (q, xs) => i ≤ q ∧ q ≤ t ∧ i + xs.length ≤ q ∧ glI xs
theorem wfP_bnd {t i : Nat} {r : PQ} {f : Nat → PQ} (h : wfP t i r) (hf : ∀ q xs, r = .inr (q, xs) → wfL t q (f q)) : wfP t i (bnd r f) := by
  cases r with
  | inl p => exact h
  | inr z =>
    obtain ⟨q, xs⟩ := z
    have h2 := hf q xs rfl
    show wfP t i (match f q with
      | .inl p => .inl p
      | .inr (q', ys) => .inr (q', xs ++ ys))
    cases hr : f q with
    | inl p => rw [hr] at h2; exact h2
    | inr z =>
      obtain ⟨q', ys⟩ := z
      rw [hr] at h2
      obtain ⟨a, b, c, e⟩ := h
      obtain ⟨a', b', c', e'⟩ := h2
      exact ⟨by omega, b', by rw [List.length_append]; omega, e.app e'⟩
section PARSE
variable {t : Nat} {w : Nat → Nat}
theorem bt_lt {i : Nat} (h : btA t w i ≠ 256) : i < t := by
  unfold btA at h
  by_cases q : i < t
  · exact q
  · rw [if_neg q] at h; exact absurd rfl h
theorem dig_spec : ∀ k v i, i ≤ t → i ≤ (dig (btA t w) k v i).1 ∧ (dig (btA t w) k v i).1 ≤ t ∧ (dig (btA t w) k v i).2 < (v + 1) * 10 ^ k
  | 0, v, i, h => ⟨Nat.le_refl _, h, by show v < (v + 1) * 1; omega⟩
  | k + 1, v, i, h => by
    unfold dig
    by_cases q : isD (btA t w i) = true
    · rw [if_pos q]
      obtain ⟨q1, q2⟩ := isD_t.mp q
      have hi : i < t := bt_lt (w := w) (by omega)
      obtain ⟨a, b, c⟩ := dig_spec k (10 * v + (btA t w i - 48)) (i + 1) hi
      refine ⟨by omega, b, Nat.lt_of_lt_of_le c ?_⟩
      rw [Nat.pow_succ, Nat.mul_comm (10 ^ k) 10, ← Nat.mul_assoc]
      exact Nat.mul_le_mul_right _ (by omega)
    · rw [if_neg q]
      refine ⟨Nat.le_refl _, h, ?_⟩
      have : 0 < 10 ^ (k + 1) := Nat.pow_pos (by omega)
      exact Nat.lt_of_lt_of_le (Nat.lt_succ_self v) (Nat.le_mul_of_pos_right _ this)
theorem dig_first {i : Nat} (h : i ≤ t) (hd : isD (btA t w i) = true) : i < (dig (btA t w) 4 0 i).1 := by
  obtain ⟨q1, q2⟩ := isD_t.mp hd
  have hi : i < t := bt_lt (w := w) (by omega)
  unfold dig
  rw [if_pos hd]
  exact Nat.lt_of_lt_of_le (Nat.lt_succ_self i) (dig_spec (w := w) 3 (10 * 0 + (btA t w i - 48)) (i + 1) hi).1
theorem wf_loop {sub : Nat → PQ} (hs : ∀ i, i ≤ t → wfP t i (sub i)) {lv : Nat} (hlv : lv < 9) : ∀ k i, i ≤ t → wfL t i (loopP (btA t w) sub lv k i)
  | 0, i, h => ⟨Nat.le_refl _, h, by simp, glI.nil⟩
  | k + 1, i, h => by
    unfold loopP
    by_cases q : lvc (btA t w i) = lv
    · rw [if_pos q]
      have hx : lvc (btA t w i) < 9 := by omega
      have hi : i < t := bt_lt (w := w) (by have := (lvc_ne hx).1; omega)
      have h1 := hs (i + 1) hi
      cases hr : sub (i + 1) with
      | inl p => rw [hr] at h1; exact h1
      | inr z =>
        obtain ⟨q1, xs⟩ := z
        rw [hr] at h1
        obtain ⟨a, b, c, e⟩ := h1
        have hrest : wfL t q1 (if lv = 2 then .inr (q1, []) else loopP (btA t w) sub lv k q1) := by
          split
          · exact ⟨Nat.le_refl _, b, by simp, glI.nil⟩
          · exact wf_loop hs hlv k q1 b
        show wfL t i (bnd (.inr (q1, xs ++ [btA t w i])) _)
        show wfL t i (match (if lv = 2 then .inr (q1, []) else loopP (btA t w) sub lv k q1 : PQ) with
          | .inl p => .inl p
          | .inr (q', ys) => .inr (q', (xs ++ [btA t w i]) ++ ys))
        cases hr2 : (if lv = 2 then .inr (q1, []) else loopP (btA t w) sub lv k q1 : PQ) with
        | inl p => rw [hr2] at hrest; exact hrest
        | inr z =>
          obtain ⟨q2, ys⟩ := z
          rw [hr2] at hrest
          obtain ⟨a', b', c', e'⟩ := hrest
          refine ⟨by omega, b', ?_, (e.bin hx).app e'⟩
          rw [List.length_append, List.length_append, List.length_singleton]
          omega
    · rw [if_neg q]
      exact ⟨Nat.le_refl _, h, by simp, glI.nil⟩
theorem wf_cl {op : Nat → PQ} (ho : ∀ i, i ≤ t → wfP t i (op i)) : ∀ r, r ≤ 5 → ∀ i, i ≤ t → wfP t i (clP (btA t w) op r i)
  | 0, _, i, h => ho i h
  | r + 1, hr, i, h => by
    unfold clP
    have h1 := wf_cl ho r (by omega) i h
    refine wfP_bnd h1 (fun q xs hq => ?_)
    rw [hq] at h1
    exact wf_loop (fun j hj => wf_cl ho r (by omega) j hj) (by omega) 120 q h1.2.1
theorem wf_opR {sub : Nat → PQ} (hs : ∀ i, i ≤ t → wfP t i (sub i)) (may : Bool) : ∀ i, i ≤ t → wfP t i (opR (btA t w) sub may i) := by
  intro i h
  unfold opR
  by_cases q1 : isD (btA t w i) = true
  · rw [if_pos q1]
    obtain ⟨a, b, c⟩ := dig_spec (t := t) (w := w) 4 0 i h
    have := dig_first h q1
    exact ⟨this, b, by show i + 1 ≤ _; omega, gdI.one (Or.inr (Or.inr (Or.inr (Or.inr ⟨by omega, by omega⟩)))) (by omega)⟩
  · rw [if_neg q1]
    by_cases q2 : nmo (btA t w i) < 9
    · rw [if_pos q2]
      have hi : i < t := bt_lt (w := w) (fun z => by rw [z] at q2; exact absurd q2 (by decide))
      have h6 : nmo (btA t w i) < 6 := by
        unfold nmo at q2 ⊢
        (repeat' split at q2) <;> first | omega | (exfalso; omega) | simp_all
      exact ⟨by omega, hi, by show i + 1 ≤ _; omega, gdI.one (Or.inr (Or.inr (Or.inr (Or.inl ⟨by omega, by omega⟩)))) (by omega)⟩
    · rw [if_neg q2]
      by_cases q3 : (btA t w i = 40 ∨ btA t w i = 33 ∨ btA t w i = 45) ∧ may = true
      · rw [if_pos q3]
        have hi : i < t := bt_lt (w := w) (by omega)
        by_cases q4 : btA t w i = 40
        · rw [if_pos q4]
          have h1 := wf_cl (w := w) hs 5 (Nat.le_refl _) (i + 1) hi
          cases hr : clP (btA t w) sub 5 (i + 1) with
          | inl p => rw [hr] at h1; exact h1
          | inr z =>
            obtain ⟨q, xs⟩ := z
            rw [hr] at h1
            obtain ⟨a, b, c, e⟩ := h1
            show wfP t i (match clsP (btA t w) q with
              | .inl p => .inl p
              | .inr (q', ys) => .inr (q', xs ++ ys))
            unfold clsP
            by_cases q5 : btA t w q = 41
            · rw [if_pos q5]
              have hq : q < t := bt_lt (w := w) (by omega)
              show wfP t i (.inr (q + 1, xs ++ []))
              rw [List.append_nil]
              exact ⟨by omega, hq, by omega, e⟩
            · rw [if_neg q5]; exact b
        · rw [if_neg q4]
          have h1 := hs (i + 1) hi
          cases hr : sub (i + 1) with
          | inl p => rw [hr] at h1; exact h1
          | inr z =>
            obtain ⟨q, xs⟩ := z
            rw [hr] at h1
            obtain ⟨a, b, c, e⟩ := h1
            refine ⟨by omega, b, ?_, e.un ?_⟩
            · rw [List.length_append, List.length_singleton]; omega
            · split
              · exact Or.inl rfl
              · exact Or.inr rfl
      · rw [if_neg q3]; exact h
theorem wf_op : ∀ m i, i ≤ t → wfP t i (opP (btA t w) m i)
  | 0 => wf_opR (fun i h => h) false
  | m + 1 => wf_opR (wf_op m) true
theorem wf_E (m : Nat) : ∀ i, i ≤ t → wfP t i (clP (btA t w) (opP (btA t w) m) 5 i) := wf_cl (wf_op m) 5 (Nat.le_refl _)
end PARSE
