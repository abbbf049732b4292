/-! the most bridges that get one -/
section MOST
variable (E : Nat × (Nat → Int32)) (d : Nat) (L : Nat → Nat → Int64)
def hsI (M : Nat → Nat → Int32) (n : Nat) (h : Nat → Option Nat) : Prop := ∀ p, p < 9 → (h p = none ∧ M 243 p = -1) ∨ ∃ j, h p = some j ∧ j < n ∧ M 243 p = nI j
theorem l44 (M : Nat → Nat → Int32) {mkf : Nat → Nat} {n u0 : Nat} (hn8 : n ≤ 8) (hu : u0 < 512) (hn : M 40 11 = nI n) (hm : ∀ j, j < n → M 242 j = nI (mkf j)) (x1 : Int32) :
    ∀ r k h c (M1 : Nat → Nat → Int32), k + r = n → hsI M1 n h → (∀ c, c ≠ 240 → c ≠ 243 → M1 c = M c) → ∃ M2, X E (d + 11) me44 17 [some (vR 1 5 240), some (vI x1), some (vI (nI u0)), some (vI (nI c)), some (vI (nI k))] [] (M1, L) = some (some (vI (nI (mstL (wM mkf) n (tbF u0) r h c))), (M2, L)) ∧ ∀ c, c ≠ 240 → c ≠ 243 → M2 c = M c := by
  intro r
  induction r with
  | zero =>
    intro k h c M1 hk hs hf
    refine ⟨M1, ?_, hf⟩
    rw [x44_17, hf 40 (by omega) (by omega), hn, if_pos (nI_le (by omega) (by omega))]
    rfl
  | succ r ih =>
    intro k h c M1 hk hs hf
    have hR : ksR (u2 M1 240 3 (nI u0)) n h u0 := ⟨hu, u2_s, fun p hp => by rw [u2_o (by omega)]; exact hs p hp⟩
    obtain ⟨M2, u', e2, r2, t2, f2, -⟩ := e45 E d L (mkf := mkf) hn8 10 (Nat.le_refl _) k u0 h (u2 M1 240 3 (nI u0)) (by omega) hR (fun j hj => by rw [u2_o (by omega), hf 242 (by omega) (by omega)]; exact hm j hj) _ rfl
    have e2 : C E (d + 11) 45 [vR 1 5 240, vI (nI k), vI (0 : Int32)] (u2 M1 240 3 (nI u0), L) = _ := e2
    have f2' : ∀ c, c ≠ 240 → c ≠ 243 → M2 c = M c := fun c h1 h2 => by rw [f2 c h1 h2, u2_o h1]; exact hf c h1 h2
    have hms : mstL (wM mkf) n (tbF u0) (r + 1) h c = match fnd (wM mkf) 10 k (h, tbF u0) with
        | (true, s) => mstL (wM mkf) n (tbF u0) r s.1 (c + 1)
        | (false, s) => mstL (wM mkf) n (tbF u0) r s.1 c := by
      rw [mstL, show n - (r + 1) = k by omega]
      rfl
    rw [x44_17, hf 40 (by omega) (by omega), hn, if_neg (nI_ge (by omega) (by omega)), e2, bI_s, hms]
    clear e2 hms
    generalize fnd (wM mkf) 10 k (h, tbF u0) = rs at r2 t2 ⊢
    obtain ⟨ok, s1, s2⟩ := rs
    cases ok with
    | true =>
      rw [if_pos rfl, if_neg (by decide), nI_1, nI_1]
      exact ih (k + 1) s1 (c + 1) M2 (by omega) r2.2.2 f2'
    | false =>
      rw [if_pos (show (if false = true then (1 : Int32) else 0) = 0 by decide), nI_1]
      exact ih (k + 1) s1 c M2 (by omega) r2.2.2 f2'
theorem cnt_z {f : Nat → Bool} : ∀ {n : Nat}, (∀ p, p < n → f p = false) → cnt n f = 0
  | 0, _ => rfl
  | n + 1, h => by
    show cnt n f + _ = 0
    rw [cnt_z (n := n) (fun p hp => h p (by omega)), h n (by omega)]
    rfl
theorem e44 (M : Nat → Nat → Int32) {mkf : Nat → Nat} {n u0 k0 : Nat} (hn8 : n ≤ 8) (hu : u0 < 512) (hk0 : k0 ≤ n) (hn : M 40 11 = nI n) (hm : ∀ j, j < n → M 242 j = nI (mkf j)) : ∃ M2, C E (d + 12) 44 [vR 1 5 240, vI (nI k0), vI (nI u0)] (M, L) = some (some (vI (nI (dpm (wM mkf) 9 n (n - k0) (tbF u0)))), (M2, L)) ∧ ∀ c, c ≠ 240 → c ≠ 243 → M2 c = M c := by
  have hmx : mx (nI k0) 0 = nI k0 := by
    rw [t_eq, t_mx, t_0, t_nI (by omega)]
    split <;> omega
  have hfi : ∀ c, c ≠ 243 → fi M 243 9 (-1) c = M c := fun c hc => by
    funext i
    unfold fi
    simp [hc]
  have hfs : hsI (fi M 243 9 (-1)) n (fun _ => none) := fun p hp => Or.inl ⟨rfl, by unfold fi; simp [hp]⟩
  obtain ⟨M2, e2, f2⟩ := l44 E d L (fi M 243 9 (-1)) (mkf := mkf) hn8 hu (by rw [hfi 40 (by omega)]; exact hn) (fun j hj => by rw [hfi 242 (by omega)]; exact hm j hj) (nI k0) (n - k0) k0 (fun _ => none) 0 (fi M 243 9 (-1)) (by omega) hfs (fun _ _ _ => rfl)
  have hz : cnt 9 (fun p => ((fun _ => none : Nat → Option Nat) p).isSome) = 0 := cnt_z (fun _ _ => rfl)
  have hq := mstL_eq (w := wM mkf) (n := n) (k0 := k0) (used := tbF u0) (n - k0) (fun _ => none) 0 (fun _ => false) (fun _ => false) (Nat.le_refl _) hk0 (fun p j h => by cases h) (fun j => by
    have : cnt 9 (fun p => isS ((fun _ => none : Nat → Option Nat) p) j) = 0 := cnt_z (fun _ _ => rfl)
    rw [this]; omega) hz.symm (fun p _ h => by cases h) (fun j _ _ h => by cases h) (fun j h1 h2 => absurd h2 (by omega))
  rw [hq] at e2
  refine ⟨M2, ?_, fun c h1 h2 => by rw [f2 c h1 h2]; exact hfi c h2⟩
  rw [x44, e252 E _ M L 243 9 (-1) (by omega), bV_s, e998, bI_s, hmx]
  exact e2
end MOST
