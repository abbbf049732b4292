/-! the reference's who -/
def fst9 (f : Nat → Bool) : Nat → Nat → Nat
  | 0, _ => 9
  | m + 1, i => if f i then i else fst9 f m (i + 1)
section LAST2
variable (E : Nat × (Nat → Int32)) (d : Nat) (L : Nat → Nat → Int64)
theorem l208w (M : Nat → Nat → Int32) {P : TP} {T : TS} (hq : RQ M P) (ht : RT M P T) (hn8 : pN P ≤ 8) (hg9 : pG P ≤ 9) {k u : Nat} (hk : k < pN P) (hu : u < 2 ^ pG P) (htb : ∀ k', k' ≤ pN P → tbk P T M k' (2 ^ pG P)) (x1 : Int32) :
    ∀ p w6, p ≤ pG P → ∃ w6', X E (d + 3) me208 233 [some (vR 1 12 400), some (vI x1), some (vI (nI u)), some (vI (nI (fst9 (fitQ P T k u) (pG P - p) p))), some (vI (nI k)), some (vI (nI p + Int32.ofInt (-1))), w6] [] (M, L) = X E (d + 3) me208 233 [some (vR 1 12 400), some (vI x1), some (vI (nI u)), some (vI (nI (fst9 (fitQ P T k u) (pG P) 0))), some (vI (nI k)), some (vI (-1 : Int32)), w6'] [] (M, L) := by
  have h512 := p512 hg9
  intro p
  induction p with
  | zero => intro w6 _; exact ⟨w6, rfl⟩
  | succ p ih =>
    intro w6 hp
    have st : ∀ b : Bool, fitQ P T k u p = b → fst9 (fitQ P T k u) (pG P - p) p = if b = true then p else fst9 (fitQ P T k u) (pG P - (p + 1)) (p + 1) := fun b hb => by
      rw [show pG P - p = (pG P - (p + 1)) + 1 by omega, fst9, hb]
    have nofit : ∀ w, fitQ P T k u p = false → ∃ w6', X E (d + 3) me208 233 [some (vR 1 12 400), some (vI x1), some (vI (nI u)), some (vI (nI (fst9 (fitQ P T k u) (pG P - (p + 1)) (p + 1)))), some (vI (nI k)), some (vI (nI p + Int32.ofInt (-1))), w] [] (M, L) = X E (d + 3) me208 233 [some (vR 1 12 400), some (vI x1), some (vI (nI u)), some (vI (nI (fst9 (fitQ P T k u) (pG P) 0))), some (vI (nI k)), some (vI (-1 : Int32)), w6'] [] (M, L) := fun w hb => by
      have := ih w (by omega)
      rw [st false hb, if_neg (by decide)] at this
      exact this
    rw [nI_dn, x208_233, if_neg (nI_pos (by omega)), e149b E _ L M (p := p) (x := u) (by omega) (by omega), bI_s]
    cases hb : u.testBit p with
    | true =>
      rw [if_pos rfl, if_neg (by decide)]
      exact nofit _ (by unfold fitQ; rw [hb]; rfl)
    | false =>
      rw [if_pos (show (if false = true then (1 : Int32) else 0) = 0 by decide), e207 E _ L M hq ht hn8 hg9 (p := p) (k := k) (by omega) hk, bI_s]
      cases hw : wll P T k p with
      | false =>
        rw [if_pos (show (if false = true then (1 : Int32) else 0) = 0 by decide)]
        exact nofit _ (by unfold fitQ; rw [hw, Bool.and_false]; rfl)
      | true =>
        have hor : u ||| 2 ^ p < 2 ^ pG P := Nat.or_lt_two_pow hu (Nat.pow_lt_pow_right (by omega) (by omega))
        rw [if_pos rfl, if_neg (by decide), bt_set p (by omega) u (by omega), nI_1, e206 E _ L M (k := k + 1) (by omega) (u ||| 2 ^ p), bI_s, if_pos (by rw [ib_nI (by omega)]; omega), ix_nI (n := 512 * (k + 1) + (u ||| 2 ^ p)) (by omega), e206 E _ L M (k := k) (by omega) u, bI_s, if_pos (by rw [ib_nI (by omega)]; omega), ix_nI (n := 512 * k + u) (by omega)]
        have v1 : M 432 (512 * (k + 1) + (u ||| 2 ^ p)) = nI (dpm (wll P T) (pG P) (pN P) (pN P - (k + 1)) (tbF (u ||| 2 ^ p))) := htb (k + 1) (by omega) _ hor
        have v2 : M 432 (512 * k + u) = nI (dpm (wll P T) (pG P) (pN P) (pN P - k) (tbF u)) := htb k (by omega) _ hu
        have b1' := dpm_n (w := wll P T) (g := pG P) (n := pN P) (pN P - (k + 1)) (tbF (u ||| 2 ^ p))
        have b2' := dpm_n (w := wll P T) (g := pG P) (n := pN P) (pN P - k) (tbF u)
        show ∃ w6', (if (1 : Int32) + M 432 (512 * (k + 1) + (u ||| 2 ^ p)) = M 432 (512 * k + u) then _ else _) = _
        rw [v1, v2, show (1 : Int32) + nI (dpm (wll P T) (pG P) (pN P) (pN P - (k + 1)) (tbF (u ||| 2 ^ p))) = nI (1 + dpm (wll P T) (pG P) (pN P) (pN P - (k + 1)) (tbF (u ||| 2 ^ p))) from nI_add 1 _]
        by_cases q : 1 + dpm (wll P T) (pG P) (pN P) (pN P - (k + 1)) (tbF (u ||| 2 ^ p)) = dpm (wll P T) (pG P) (pN P) (pN P - k) (tbF u)
        · have hf : fitQ P T k u p = true := by unfold fitQ; rw [hb, hw, decide_eq_true q]; rfl
          rw [if_pos (by rw [q])]
          have := ih (some (vI (1 : Int32))) (by omega)
          rw [st true hf, if_pos rfl] at this
          exact this
        · rw [if_neg (fun z => q (nI_inj (by omega) (by omega) z))]
          exact nofit _ (by unfold fitQ; rw [decide_eq_false q, Bool.and_false])
end LAST2
