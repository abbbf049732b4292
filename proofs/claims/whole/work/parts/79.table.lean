/-! who may sit where: the reference's table -/
def wll (P : TP) (T : TS) (k p : Nat) : Bool := decide ((tM T p).toInt ≤ (pPr P).toInt) && decide ((mn (pAs P p) (pAl P k)).toInt ≤ (pSd P p).toInt)
theorem bt_get : ∀ p, p < 9 → ∀ x, x < 512 → (nI x >>> (nI p &&& 31)) &&& 1 = if x.testBit p then 1 else 0 := by decide +kernel
theorem bt_set : ∀ p, p < 9 → ∀ x, x < 512 → nI x ||| ((1 : Int32) <<< (nI p &&& 31)) = nI (x ||| 2 ^ p) := by decide +kernel
theorem bt_g : ∀ g, g < 10 → (1 : Int32) <<< (nI g &&& 31) = nI (2 ^ g) := by decide +kernel
theorem bt_9 : ∀ k, k < 9 → nI k <<< ((9 : Int32) &&& 31) = nI (512 * k) := by decide +kernel
theorem tb_set (x p : Nat) : (fun q => (x ||| 2 ^ p).testBit q) = setB (fun q => x.testBit q) p := by
  funext q
  rw [Nat.testBit_or, Nat.testBit_two_pow]
  by_cases e : q = p
  · rw [e, setB_s]
    simp
  · rw [setB_o e]
    have : decide (p = q) = false := decide_eq_false (fun z => e z.symm)
    rw [this, Bool.or_false]
theorem p512 {g : Nat} (hg : g ≤ 9) : 2 ^ g ≤ 512 := Nat.le_trans (Nat.pow_le_pow_right (by omega) hg) (by decide)
theorem dpm_n {w : Nat → Nat → Bool} {g n : Nat} : ∀ r (gone : Nat → Bool), dpm w g n r gone ≤ r
  | 0, _ => Nat.le_refl _
  | r + 1, gone => best_le (Nat.le_succ_of_le (dpm_n r gone)) (fun p _ _ => by have := dpm_n (w := w) (g := g) (n := n) r (setB gone p); omega)
section TABLE
variable (E : Nat × (Nat → Int32)) (d : Nat) (L : Nat → Nat → Int64)
theorem e206 (M : Nat → Nat → Int32) {k : Nat} (hk : k < 9) (x : Nat) : C E (d + 1) 206 [vR 1 12 400, vI (nI k), vI (nI x)] (M, L) = some (some (vI (nI (512 * k + x))), (M, L)) := by
  rw [x206, bt_9 k hk, nI_add]
theorem e149b (M : Nat → Nat → Int32) {p x : Nat} (hp : p < 9) (hx : x < 512) : C E (d + 1) 149 [vI (nI x), vI (nI p)] (M, L) = some (some (vI (if x.testBit p then 1 else 0)), (M, L)) := by
  rw [x149, bt_get p hp x hx]
  cases x.testBit p with
  | true => rw [if_pos rfl, if_pos rfl]
  | false => rw [if_neg (by decide), if_neg (by decide)]
theorem e207 (M : Nat → Nat → Int32) {P : TP} {T : TS} (hq : RQ M P) (ht : RT M P T) (hn8 : pN P ≤ 8) (hg9 : pG P ≤ 9) {p k : Nat} (hp : p < pG P) (hk : k < pN P) : C E (d + 2) 207 [vR 1 12 400, vI (nI p), vI (nI k)] (M, L) = some (some (vI (if wll P T k p then 1 else 0)), (M, L)) := by
  have i62 : ∀ j, j < 62 → ib (nI j) 62 := fun j hj => by rw [ib_nI (by omega)]; exact hj
  obtain ⟨q1, q2, q3, q4, q5⟩ := hq
  rw [x207, if_pos (by rw [ib_nI (by omega)]; omega), if_pos (show ib (60 : Int32) 62 by decide), show ix (60 : Int32) = 60 from by decide, ix_nI (n := p) (by omega), q3, (ht.2.1 p hp).1]
  unfold wll
  by_cases h : (tM T p).toInt ≤ (pPr P).toInt
  · rw [if_neg (show ¬ pPr P < tM T p by rw [t_lt]; omega), show (33 : Int32) + nI p = nI (33 + p) from nI_add 33 p, show (16 : Int32) + nI k = nI (16 + k) from nI_add 16 k, show (42 : Int32) + nI p = nI (42 + p) from nI_add 42 p, if_pos (i62 _ (by omega)), if_pos (i62 _ (by omega)), ix_nI (n := 33 + p) (by omega), ix_nI (n := 16 + k) (by omega), (q5 p hp).1, (q4 k hk).2, decide_eq_true h, Bool.true_and]
    have e : ∀ z : Int32, z.toInt = (mn (pAs P p) (pAl P k)).toInt → (bI (some (some (vI z), (M, L))) fun r1 s1 => (if ib (nI (42 + p)) 62 then (if (s1.1 401 (ix (nI (42 + p)))) < r1 then some (some (vI (0 : Int32)), s1) else some (some (vI (1 : Int32)), s1)) else none)) = some (some (vI (if decide ((mn (pAs P p) (pAl P k)).toInt ≤ (pSd P p).toInt) = true then 1 else 0)), (M, L)) := fun z hz => by
      rw [bI_s, if_pos (i62 _ (by omega)), ix_nI (n := 42 + p) (by omega)]
      show (if M 401 (42 + p) < z then _ else _) = _
      rw [(q5 p hp).2]
      by_cases h2 : (mn (pAs P p) (pAl P k)).toInt ≤ (pSd P p).toInt
      · rw [if_neg (show ¬ pSd P p < z by rw [t_lt, hz]; omega), decide_eq_true h2, if_pos rfl]
      · rw [if_pos (show pSd P p < z by rw [t_lt, hz]; omega), decide_eq_false h2, if_neg (by decide)]
    rw [x151]
    by_cases h3 : pAl P k ≤ pAs P p
    · rw [if_pos h3]
      exact e _ (by rw [t_mn]; rw [t_le] at h3; split <;> omega)
    · rw [if_neg h3]
      exact e _ (by rw [t_mn]; rw [t_le] at h3; split <;> omega)
  · rw [if_pos (show pPr P < tM T p by rw [t_lt]; omega), decide_eq_false h, Bool.false_and, if_neg (by decide)]
/-- the table's row k is filled up to x -/
def tbk (P : TP) (T : TS) (M : Nat → Nat → Int32) (k x : Nat) : Prop := ∀ y, y < x → M 432 (512 * k + y) = nI (dpm (wll P T) (pG P) (pN P) (pN P - k) (fun q => y.testBit q))
theorem t208a (M : Nat → Nat → Int32) {P : TP} (T : TS) (hn : M 400 6 = nI (pN P)) (hg : M 400 7 = nI (pG P)) (hn8 : pN P ≤ 8) (hg9 : pG P ≤ 9) (x1 : Int32) (w3 w4 w5 w6 : Option PV) :
    ∀ r x (M1 : Nat → Nat → Int32), x + r = 2 ^ pG P → (∀ c, c ≠ 432 → M1 c = M c) → tbk P T M1 (pN P) x → ∃ M2, X E (d + 1) me208 22 [some (vR 1 12 400), some (vI x1), some (vI (nI x)), w3, w4, w5, w6] [] (M1, L) = X E (d + 1) me208 60 [some (vR 1 12 400), some (vI x1), some (vI (nI (pN P) - 1)), w3, w4, w5, w6] [] (M2, L) ∧ (∀ c, c ≠ 432 → M2 c = M c) ∧ tbk P T M2 (pN P) (2 ^ pG P) := by
  have h512 := p512 hg9
  intro r
  induction r with
  | zero =>
    intro x M1 hx hf ht
    have e : x = 2 ^ pG P := by omega
    refine ⟨M1, ?_, hf, by rw [← e]; exact ht⟩
    rw [x208_22, hf 400 (by omega), hg, hn, bt_g _ (by omega), if_pos (nI_le (by omega) (by omega))]
  | succ r ih =>
    intro x M1 hx hf ht
    rw [x208_22, hf 400 (by omega), hg, hn, bt_g _ (by omega), if_neg (nI_ge (by omega) (by omega)), e206 E d L M1 (by omega) x, bI_s, if_pos (by rw [ib_nI (by omega)]; omega), ix_nI (by omega), nI_1]
    refine ih (x + 1) _ (by omega) (fun c hc => by rw [u2_o hc]; exact hf c hc) (fun y hy => ?_)
    by_cases e : y = x
    · rw [e, u2_s, Nat.sub_self]
      rfl
    · rw [u2_n (by omega)]; exact ht y (by omega)
def bzT (P : TP) (T : TS) (k x p : Nat) : Nat := best p (dpm (wll P T) (pG P) (pN P) (pN P - (k + 1)) (fun q => x.testBit q)) (fun q => !x.testBit q && wll P T k q) (fun q => 1 + dpm (wll P T) (pG P) (pN P) (pN P - (k + 1)) (setB (fun q => x.testBit q) q))
/-- one place of the table -/
theorem t208c (M : Nat → Nat → Int32) {P : TP} {T : TS} (hq : RQ M P) (ht : RT M P T) (hn8 : pN P ≤ 8) (hg9 : pG P ≤ 9) {k x : Nat} (hk : k < pN P) (hx : x < 2 ^ pG P) (htb : tbk P T M (k + 1) (2 ^ pG P)) (x1 : Int32) :
    ∀ r p w6, p + r = pG P → ∃ w4' w5' w6', X E (d + 3) me208 94 [some (vR 1 12 400), some (vI x1), some (vI (nI k)), some (vI (nI x)), some (vI (nI (bzT P T k x p))), some (vI (nI p)), w6] [] (M, L) = X E (d + 3) me208 66 [some (vR 1 12 400), some (vI x1), some (vI (nI k)), some (vI (nI (x + 1))), w4', w5', w6'] [] (u2 M 432 (512 * k + x) (nI (dpm (wll P T) (pG P) (pN P) (pN P - k) (fun q => x.testBit q))), L) := by
  have h512 := p512 hg9
  intro r
  induction r with
  | zero =>
    intro p w6 hp
    have e : p = pG P := by omega
    subst e
    refine ⟨some (vI (nI (bzT P T k x (pG P)))), some (vI (nI (pG P))), w6, ?_⟩
    rw [x208_94, hq.2.1, if_pos (nI_le (Nat.le_refl _) (by omega)), e206 E _ L M (by omega) x, bI_s, if_pos (by rw [ib_nI (by omega)]; omega), ix_nI (by omega), nI_1]
    have : dpm (wll P T) (pG P) (pN P) (pN P - k) (fun q => x.testBit q) = bzT P T k x (pG P) := by
      rw [show pN P - k = (pN P - (k + 1)) + 1 by omega]
      unfold bzT
      rw [dpm]
      rw [show pN P - (pN P - (k + 1) + 1) = k by omega]
    rw [this]
  | succ r ih =>
    intro p w6 hp
    rw [x208_94, hq.2.1, if_neg (nI_ge (by omega) (by omega)), e149b E _ L M (p := p) (x := x) (by omega) (by omega), bI_s, nI_1]
    cases hb : x.testBit p with
    | true =>
      rw [if_pos rfl, if_neg (by decide)]
      have e : bzT P T k x (p + 1) = bzT P T k x p := by
        unfold bzT
        rw [best]
        rw [if_neg (by rw [hb]; simp)]
      have := ih (p + 1) w6 (by omega)
      rw [e] at this
      exact this
    | false =>
      rw [if_pos (show (if false = true then (1 : Int32) else 0) = 0 by decide), e207 E _ L M hq ht hn8 hg9 (p := p) (k := k) (by omega) hk, bI_s]
      cases hw : wll P T k p with
      | false =>
        rw [if_pos (show (if false = true then (1 : Int32) else 0) = 0 by decide)]
        have e : bzT P T k x (p + 1) = bzT P T k x p := by
          unfold bzT
          rw [best]
          rw [if_neg (by rw [hw]; simp)]
        have := ih (p + 1) w6 (by omega)
        rw [e] at this
        exact this
      | true =>
        have hor : x ||| 2 ^ p < 2 ^ pG P := Nat.or_lt_two_pow hx (Nat.pow_lt_pow_right (by omega) (by omega))
        have hd1 := dpm_n (w := wll P T) (g := pG P) (n := pN P) (pN P - (k + 1)) (setB (fun q => x.testBit q) p)
        have hbl : bzT P T k x p ≤ pN P := best_le (n := p) (by have := dpm_n (w := wll P T) (g := pG P) (n := pN P) (pN P - (k + 1)) (fun q => x.testBit q); omega) (fun q _ _ => by have := dpm_n (w := wll P T) (g := pG P) (n := pN P) (pN P - (k + 1)) (setB (fun q => x.testBit q) q); omega)
        rw [if_pos rfl, if_neg (by decide), bt_set p (by omega) x (by omega), nI_1, e206 E _ L M (k := k + 1) (by omega) (x ||| 2 ^ p), bI_s, if_pos (by rw [ib_nI (by omega)]; omega), ix_nI (n := 512 * (k + 1) + (x ||| 2 ^ p)) (by omega)]
        have htv : M 432 (512 * (k + 1) + (x ||| 2 ^ p)) = nI (dpm (wll P T) (pG P) (pN P) (pN P - (k + 1)) (setB (fun q => x.testBit q) p)) := by
          rw [htb _ hor, tb_set]
        have e1 : (1 : Int32) + M 432 (512 * (k + 1) + (x ||| 2 ^ p)) = nI (1 + dpm (wll P T) (pG P) (pN P) (pN P - (k + 1)) (setB (fun q => x.testBit q) p)) := by rw [htv]; exact nI_add 1 _
        show ∃ w4' w5' w6', (if (1 : Int32) + M 432 (512 * (k + 1) + (x ||| 2 ^ p)) ≤ _ then X E (d + 3) me208 94 _ [] (M, L) else X E (d + 3) me208 94 [_, _, _, _, some (vI ((1 : Int32) + M 432 (512 * (k + 1) + (x ||| 2 ^ p)))), _, _] [] (M, L)) = _
        rw [e1]
        have eb : bzT P T k x (p + 1) = if bzT P T k x p < 1 + dpm (wll P T) (pG P) (pN P) (pN P - (k + 1)) (setB (fun q => x.testBit q) p) then 1 + dpm (wll P T) (pG P) (pN P) (pN P - (k + 1)) (setB (fun q => x.testBit q) p) else bzT P T k x p := by
          unfold bzT
          rw [best]
          rw [if_pos (by rw [hb, hw]; rfl)]
        have ih' := fun w => ih (p + 1) w (by omega)
        rw [eb] at ih'
        by_cases q : 1 + dpm (wll P T) (pG P) (pN P) (pN P - (k + 1)) (setB (fun q => x.testBit q) p) ≤ bzT P T k x p
        · rw [if_pos (nI_le q (by omega))]
          rw [if_neg (by omega)] at ih'
          exact ih' _
        · rw [if_neg (nI_ge (by omega) (by omega))]
          rw [if_pos (by omega)] at ih'
          exact ih' _
end TABLE
