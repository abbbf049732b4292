/-! the class's who -/
theorem free_b {a u : Nat} (ha : a < 512) : ∃ m, m < 512 ∧ nI a &&& (nI u ^^^ (-1 : Int32)) = nI m ∧ ∀ b, b < 9 → m.testBit b = (a.testBit b && !u.testBit b) := by
  obtain ⟨m, h1, h2⟩ := and_small ha (nI u ^^^ (-1 : Int32))
  refine ⟨m, by omega, h2, fun b hb => ?_⟩
  rw [← nI_gb m b (by omega), ← h2]
  show ((nI a).toBitVec &&& ((nI u).toBitVec ^^^ (-1 : Int32).toBitVec)).getLsbD b = _
  rw [BitVec.getLsbD_and, BitVec.getLsbD_xor, nI_gb a b (by omega), nI_gb u b (by omega), m1_b b hb]
  cases a.testBit b <;> cases u.testBit b <;> rfl
section LAST3
variable (E : Nat × (Nat → Int32)) (d : Nat) (L : Nat → Nat → Int64)
theorem l47 (M : Nat → Nat → Int32) {P : TP} {T : TS} (hn8 : pN P ≤ 8) (hg9 : pG P ≤ 9) (hn : M 40 11 = nI (pN P)) (hm : mkd P T M (pN P)) {k u fr : Nat} (hk : k < pN P) (hu : u < 512) (hfr : fr < 512) (hfb : ∀ b, b < 9 → fr.testBit b = ((mk9 (wll P T k) (pG P)).testBit b && !u.testBit b)) {left : Int32} (hleft : left - 1 = nI (dpm (wll P T) (pG P) (pN P) (pN P - k) (tbF u)) - 1) :
    ∀ r b (M1 : Nat → Nat → Int32), b + r = 9 → (∀ c, c ≠ 240 → c ≠ 243 → M1 c = M c) → ∃ M2, X E (d + 12) me47 29 [some (vR 1 5 240), some (vI (nI k)), some (vI (nI u)), some (vI left), some (vI (nI fr)), some (vI (nI b))] [] (M1, L) = some (some (vI (nI (fst9 (fun p => decide (p < pG P) && fitQ P T k u p) r b))), (M2, L)) ∧ ∀ c, c ≠ 240 → c ≠ 243 → M2 c = M c := by
  intro r
  induction r with
  | zero =>
    intro b M1 hb hf
    refine ⟨M1, ?_, hf⟩
    rw [x47_29, if_pos (show (9 : Int32) ≤ nI b from nI_le (a := 9) (by omega) (by omega))]
    rfl
  | succ r ih =>
    intro b M1 hb hf
    have hbit := hfb b (by omega)
    rw [mk9_tb] at hbit
    rw [x47_29, if_neg (show ¬ (9 : Int32) ≤ nI b from nI_ge (b := 9) (by omega) (by omega)), bt_get b (by omega) fr hfr]
    have sk : (decide (b < pG P) && fitQ P T k u b) = false → fst9 (fun p => decide (p < pG P) && fitQ P T k u p) (r + 1) b = fst9 (fun p => decide (p < pG P) && fitQ P T k u p) r (b + 1) := fun q => by
      rw [fst9, if_neg (by rw [q]; decide)]
    cases hz : fr.testBit b with
    | false =>
      rw [if_pos (show (if false = true then (1 : Int32) else 0) = 0 by decide), nI_1, sk (by
        rw [hz] at hbit
        unfold fitQ
        cases h1 : decide (b < pG P) <;> cases h2 : wll P T k b <;> cases h3 : u.testBit b <;> simp_all)]
      exact ih (b + 1) M1 (by omega) hf
    | true =>
      rw [if_pos rfl, if_neg (by decide), bt_set b (by omega) u hu, nI_1]
      obtain ⟨M2, e2, f2⟩ := e44w E d L M1 (P := P) (T := T) hn8 hg9 (u0 := u ||| 2 ^ b) (k0 := k + 1) (Nat.or_lt_two_pow (n := 9) hu (Nat.pow_lt_pow_right (by omega) (by omega))) (by omega) (by rw [hf 40 (by omega) (by omega)]; exact hn) (fun j hj => by rw [hf 242 (by omega) (by omega)]; exact hm j hj)
      rw [e2, bI_s, hleft]
      have f2' : ∀ c, c ≠ 240 → c ≠ 243 → M2 c = M c := fun c h1 h2 => by rw [f2 c h1 h2]; exact hf c h1 h2
      have b1' := dpm_n (w := wll P T) (g := pG P) (n := pN P) (pN P - (k + 1)) (tbF (u ||| 2 ^ b))
      have b2' := dpm_n (w := wll P T) (g := pG P) (n := pN P) (pN P - k) (tbF u)
      rw [hz] at hbit
      by_cases q : 1 + dpm (wll P T) (pG P) (pN P) (pN P - (k + 1)) (tbF (u ||| 2 ^ b)) = dpm (wll P T) (pG P) (pN P) (pN P - k) (tbF u)
      · have e : nI (dpm (wll P T) (pG P) (pN P) (pN P - (k + 1)) (tbF (u ||| 2 ^ b))) = nI (dpm (wll P T) (pG P) (pN P) (pN P - k) (tbF u)) - 1 := by
          rw [← q, show ∀ z : Nat, 1 + z = z + 1 from fun z => Nat.add_comm 1 z, nI_pred]
        rw [if_pos e]
        refine ⟨M2, ?_, f2'⟩
        rw [fst9, if_pos (by unfold fitQ; rw [decide_eq_true q]; cases h1 : decide (b < pG P) <;> cases h2 : wll P T k b <;> cases h3 : u.testBit b <;> simp_all)]
      · have e : ¬ nI (dpm (wll P T) (pG P) (pN P) (pN P - (k + 1)) (tbF (u ||| 2 ^ b))) = nI (dpm (wll P T) (pG P) (pN P) (pN P - k) (tbF u)) - 1 := fun z => by
          have z2 := congrArg Int32.toInt z
          rw [t_nI (by omega), t_pred (by omega)] at z2
          omega
        rw [if_neg e, nI_1, sk (by unfold fitQ; rw [decide_eq_false q, Bool.and_false, Bool.and_false])]
        exact ih (b + 1) M2 (by omega) f2'
end LAST3
