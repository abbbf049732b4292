/-! who sits first, so that the most sit -/
theorem best_at {ok : Nat → Bool} {v : Nat → Nat} {i : Nat} : ∀ {n : Nat}, best n i ok v = i ∨ ∃ p, p < n ∧ ok p = true ∧ v p = best n i ok v
  | 0 => Or.inl rfl
  | n + 1 => by
    unfold best
    rcases best_at (ok := ok) (v := v) (i := i) (n := n) with h | ⟨p, h1, h2, h3⟩
    · by_cases q : ok n = true
      · rw [if_pos q]
        by_cases q2 : best n i ok v < v n
        · rw [if_pos q2]; exact Or.inr ⟨n, by omega, q, rfl⟩
        · rw [if_neg q2]; exact Or.inl h
      · rw [if_neg q]; exact Or.inl h
    · by_cases q : ok n = true
      · rw [if_pos q]
        by_cases q2 : best n i ok v < v n
        · rw [if_pos q2]; exact Or.inr ⟨n, by omega, q, rfl⟩
        · rw [if_neg q2]; exact Or.inr ⟨p, by omega, h2, h3⟩
      · rw [if_neg q]; exact Or.inr ⟨p, by omega, h2, h3⟩
/-- who fits: may sit, is free, and the most still sit -/
def fitQ (P : TP) (T : TS) (k u p : Nat) : Bool := (!u.testBit p && wll P T k p) && decide (1 + dpm (wll P T) (pG P) (pN P) (pN P - (k + 1)) (tbF (u ||| 2 ^ p)) = dpm (wll P T) (pG P) (pN P) (pN P - k) (tbF u))
/-- if nobody fits, the bridge is not among the most -/
theorem noFit {P : TP} {T : TS} {k u : Nat} (hk : k < pN P) (h : ∀ p, p < pG P → fitQ P T k u p = false) : dpm (wll P T) (pG P) (pN P) (pN P - k) (tbF u) = dpm (wll P T) (pG P) (pN P) (pN P - (k + 1)) (tbF u) := by
  have e : dpm (wll P T) (pG P) (pN P) (pN P - k) (tbF u) = best (pG P) (dpm (wll P T) (pG P) (pN P) (pN P - (k + 1)) (tbF u)) (fun p => !tbF u p && wll P T k p) (fun p => 1 + dpm (wll P T) (pG P) (pN P) (pN P - (k + 1)) (setB (tbF u) p)) := by
    rw [show pN P - k = (pN P - (k + 1)) + 1 by omega, dpm, show pN P - (pN P - (k + 1) + 1) = k by omega]
  rcases best_at (n := pG P) (i := dpm (wll P T) (pG P) (pN P) (pN P - (k + 1)) (tbF u)) (ok := fun p => !tbF u p && wll P T k p) (v := fun p => 1 + dpm (wll P T) (pG P) (pN P) (pN P - (k + 1)) (setB (tbF u) p)) with q | ⟨p, h1, h2, h3⟩
  · rw [e, q]
  · exfalso
    have hp := h p h1
    unfold fitQ at hp
    have h2 : (!u.testBit p && wll P T k p) = true := h2
    have hs : setB (tbF u) p = tbF (u ||| 2 ^ p) := (tb_set u p).symm
    have h3 : 1 + dpm (wll P T) (pG P) (pN P) (pN P - (k + 1)) (setB (tbF u) p) = _ := h3
    rw [← e, hs] at h3
    rw [h2, decide_eq_true h3] at hp
    exact absurd hp (by decide)
