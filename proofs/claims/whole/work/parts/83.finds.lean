/-! a bridge finds one: the class's changing paths -/
section FINDS
variable (E : Nat × (Nat → Int32)) (d : Nat) (L : Nat → Nat → Int64)
def ksR (M : Nat → Nat → Int32) (n : Nat) (h : Nat → Option Nat) (u : Nat) : Prop := u < 512 ∧ M 240 3 = nI u ∧ ∀ p, p < 9 → (h p = none ∧ M 243 p = -1) ∨ ∃ j, h p = some j ∧ j < n ∧ M 243 p = nI j
def tbF (u : Nat) : Nat → Bool := fun q => u.testBit q
def wM (mkf : Nat → Nat) : Nat → Nat → Bool := fun k p => (mkf k).testBit p
theorem ksR.bit {M : Nat → Nat → Int32} {n : Nat} {h : Nat → Option Nat} {u b : Nat} (hk : ksR M n h u) (hb : b < 9) : ksR (u2 M 240 3 (M 240 3 ||| ((1 : Int32) <<< (nI b &&& 31)))) n h (u ||| 2 ^ b) := by
  obtain ⟨h1, h2, h3⟩ := hk
  refine ⟨Nat.or_lt_two_pow (n := 9) h1 (Nat.pow_lt_pow_right (by omega) hb), by rw [u2_s, h2, bt_set b hb u h1], fun p hp => by rw [u2_o (by omega)]; exact h3 p hp⟩
theorem ksR.set {M : Nat → Nat → Int32} {n : Nat} {h : Nat → Option Nat} {u b k : Nat} (hk : ksR M n h u) (hkn : k < n) : ksR (u2 M 243 b (nI k)) n (setO h b k) u := by
  obtain ⟨h1, h2, h3⟩ := hk
  refine ⟨h1, by rw [u2_o (by omega)]; exact h2, fun p hp => ?_⟩
  by_cases e : p = b
  · exact Or.inr ⟨k, by rw [e, setO_s], hkn, by rw [e, u2_s]⟩
  · rw [setO_o e, u2_n e]; exact h3 p hp
theorem e45 {mkf : Nat → Nat} {n : Nat} (hn8 : n ≤ 8) : ∀ f, f ≤ 10 → ∀ k u h (M1 : Nat → Nat → Int32), k < n → ksR M1 n h u → (∀ j, j < n → M1 242 j = nI (mkf j)) → ∀ res, res = fnd (wM mkf) f k (h, tbF u) → ∃ M2 u', C E (d + f + 1) 45 [vR 1 5 240, vI (nI k), vI (nI (10 - f))] (M1, L) = some (some (vI (if res.1 = true then 1 else 0)), (M2, L)) ∧ ksR M2 n res.2.1 u' ∧ res.2.2 = tbF u' ∧ (∀ c, c ≠ 240 → c ≠ 243 → M2 c = M1 c) ∧ ∀ j, j ≠ 3 → M2 240 j = M1 240 j := by
  intro f
  induction f with
  | zero =>
    intro _ k u h M1 hk hR hm res hres
    refine ⟨M1, u, ?_, ?_, ?_, fun _ _ _ => rfl, fun _ _ => rfl⟩
    · rw [x45, if_pos (show (9 : Int32) < nI (10 - 0) by decide), hres]
      rfl
    · rw [hres]; exact hR
    · rw [hres]; rfl
  | succ f ih =>
    intro hf
    have inner : ∀ m, m ≤ 9 → ∀ k u h (M1 : Nat → Nat → Int32), k < n → ksR M1 n h u → (∀ j, j < n → M1 242 j = nI (mkf j)) → ∀ res, res = fndL (wM mkf) (fnd (wM mkf) f) k m (h, tbF u) → ∃ M2 u', X E (d + f + 1) me45 20 [some (vR 1 5 240), some (vI (nI k)), some (vI (nI (10 - (f + 1)))), some (vI (nI (9 - m)))] [] (M1, L) = some (some (vI (if res.1 = true then 1 else 0)), (M2, L)) ∧ ksR M2 n res.2.1 u' ∧ res.2.2 = tbF u' ∧ (∀ c, c ≠ 240 → c ≠ 243 → M2 c = M1 c) ∧ ∀ j, j ≠ 3 → M2 240 j = M1 240 j := by
      intro m
      induction m with
      | zero =>
        intro _ k u h M1 hk hR hm res hres
        refine ⟨M1, u, ?_, by rw [hres]; exact hR, by rw [hres]; rfl, fun _ _ _ => rfl, fun _ _ => rfl⟩
        rw [x45_20, if_pos (show (9 : Int32) ≤ nI (9 - 0) by decide), hres]
        rfl
      | succ m ihm =>
        intro hm9 k u h M1 hk hR hm res hres
        have e9 : 9 - (m + 1) = 8 - m := by omega
        have e9' : nI (8 - m) + 1 = nI (9 - m) := by rw [nI_1, show 8 - m + 1 = 9 - m by omega]
        have hib : ib (nI k) 8 := by rw [ib_nI (by omega)]; omega
        have hib9 : ib (nI (8 - m)) 9 := by rw [ib_nI (by omega)]; omega
        have un : fndL (wM mkf) (fnd (wM mkf) f) k (m + 1) (h, tbF u) = bif ((mkf k).testBit (8 - m) && !u.testBit (8 - m)) then (match h (8 - m) with
          | none => (true, (setO h (8 - m) k, setB (tbF u) (8 - m)))
          | some j => match fnd (wM mkf) f j (h, setB (tbF u) (8 - m)) with
            | (true, s') => (true, (setO s'.1 (8 - m) k, s'.2))
            | (false, s') => fndL (wM mkf) (fnd (wM mkf) f) k m s') else fndL (wM mkf) (fnd (wM mkf) f) k m (h, tbF u) := rfl
        rw [un] at hres
        rw [e9, x45_20, if_neg (show ¬ (9 : Int32) ≤ nI (8 - m) from nI_ge (b := 9) (by omega) (by omega)), if_pos hib, ix_nI (n := k) (by omega), ix_nI (n := 8 - m) (by omega), hm k hk, hR.2.1]
        have hsb : setB (tbF u) (8 - m) = tbF (u ||| 2 ^ (8 - m)) := (tb_set u (8 - m)).symm
        cases hb : ((mkf k).testBit (8 - m) && !u.testBit (8 - m)) with
        | false =>
          rw [hb] at hres
          rw [if_pos (by rw [ask_b (by omega)]; exact hb), e9']
          exact ihm (by omega) k u h M1 hk hR hm res hres
        | true =>
          rw [hb, hsb] at hres
          rw [if_neg (by rw [ask_b (by omega), hb]; simp), if_pos hib9]
          have hR2 := hR.bit (b := 8 - m) (by omega)
          rw [hR.2.1] at hR2
          have hm2 : ∀ j, j < n → u2 M1 240 3 (nI u ||| ((1 : Int32) <<< (nI (8 - m) &&& 31))) 242 j = nI (mkf j) := fun j hj => by rw [u2_o (by omega)]; exact hm j hj
          have f2 : ∀ c, c ≠ 240 → c ≠ 243 → u2 M1 240 3 (nI u ||| ((1 : Int32) <<< (nI (8 - m) &&& 31))) c = M1 c := fun c h1 _ => u2_o h1
          have f2' : ∀ j, j ≠ 3 → u2 M1 240 3 (nI u ||| ((1 : Int32) <<< (nI (8 - m) &&& 31))) 240 j = M1 240 j := fun j h1 => u2_n h1
          generalize u2 M1 240 3 (nI u ||| ((1 : Int32) <<< (nI (8 - m) &&& 31))) = M2 at hR2 hm2 f2 f2' ⊢
          rcases hR2.2.2 (8 - m) (by omega) with ⟨q1, q2⟩ | ⟨j, q1, q2, q3⟩
          · rw [q1] at hres
            rw [if_pos q2, if_pos hib9]
            refine ⟨u2 M2 243 (8 - m) (nI k), u ||| 2 ^ (8 - m), ?_, ?_, ?_, fun c h1 h2 => by rw [u2_o h2]; exact f2 c h1 h2, fun j hj => by rw [u2_o (by omega)]; exact f2' j hj⟩
            · rw [hres]; rfl
            · rw [hres]; exact hR2.set hk
            · rw [hres]; rfl
          · rw [q1] at hres
            have hres : res = (match fnd (wM mkf) f j (h, tbF (u ||| 2 ^ (8 - m))) with
              | (true, s') => (true, (setO s'.1 (8 - m) k, s'.2))
              | (false, s') => fndL (wM mkf) (fnd (wM mkf) f) k m s') := hres
            have hx2 : nI (10 - (f + 1)) + 1 = nI (10 - f) := by rw [nI_1, show 10 - (f + 1) + 1 = 10 - f by omega]
            rw [if_neg (show ¬ M2 243 (8 - m) = -1 by rw [q3]; exact fun z => m1_ne j (by omega) z.symm), if_pos hib9, q3, hx2]
            obtain ⟨M3, u3, e3', r3, t3, g3, g3'⟩ := ih (by omega) j (u ||| 2 ^ (8 - m)) h M2 q2 hR2 hm2 _ rfl
            rw [e3', bI_s]
            clear e3'
            generalize fnd (wM mkf) f j (h, tbF (u ||| 2 ^ (8 - m))) = rs at hres r3 t3 ⊢
            obtain ⟨ok, s1, s2⟩ := rs
            cases ok with
            | true =>
              rw [if_pos rfl, if_neg (by decide), if_pos hib9]
              refine ⟨u2 M3 243 (8 - m) (nI k), u3, ?_, ?_, ?_, fun c h1 h2 => by rw [u2_o h2, g3 c h1 h2]; exact f2 c h1 h2, fun j hj => by rw [u2_o (by omega), g3' j hj]; exact f2' j hj⟩
              · rw [hres]; rfl
              · rw [hres]; exact r3.set hk
              · rw [hres]; exact t3
            | false =>
              rw [if_pos (show (if false = true then (1 : Int32) else 0) = 0 by decide), e9']
              have hres : res = fndL (wM mkf) (fnd (wM mkf) f) k m (s1, s2) := hres
              have t4 : s2 = tbF u3 := t3
              rw [t4] at hres
              obtain ⟨M4, u4, a1, a2, a3, a4, a5⟩ := ihm (by omega) k u3 s1 M3 hk r3 (fun j hj => by rw [g3 242 (by omega) (by omega)]; exact hm2 j hj) res hres
              exact ⟨M4, u4, a1, a2, a3, fun c h1 h2 => by rw [a4 c h1 h2, g3 c h1 h2]; exact f2 c h1 h2, fun j hj => by rw [a5 j hj, g3' j hj]; exact f2' j hj⟩
    intro k u h M1 hk hR hm res hres
    obtain ⟨M2, u', e, r⟩ := inner 9 (Nat.le_refl _) k u h M1 hk hR hm res hres
    refine ⟨M2, u', ?_, r⟩
    rw [show d + (f + 1) + 1 = (d + f + 1) + 1 by omega, x45, if_neg (show ¬ (9 : Int32) < nI (10 - (f + 1)) from nI_nlt (a := 9) (by omega) (by omega)), if_neg (nI_pos (by omega)), if_pos (show nI k < (8 : Int32) from nI_lt (b := 8) (by omega) (by omega))]
    exact e
end FINDS
