/-! who may sit where: the class asks -/
def mk9 (f : Nat → Bool) : Nat → Nat
  | 0 => 0
  | p + 1 => if f p then mk9 f p ||| 2 ^ p else mk9 f p
theorem mk9_lt {f : Nat → Bool} : ∀ p, mk9 f p < 2 ^ p
  | 0 => by show 0 < 2 ^ 0; decide
  | p + 1 => by
    have h := mk9_lt (f := f) p
    have h3 : 2 ^ (p + 1) = 2 ^ p * 2 := Nat.pow_succ _ _
    unfold mk9
    split
    · exact Nat.or_lt_two_pow (by omega) (by omega)
    · omega
theorem mk9_tb {f : Nat → Bool} : ∀ p q, (mk9 f p).testBit q = (decide (q < p) && f q)
  | 0, q => by
    show (0 : Nat).testBit q = _
    rw [Nat.zero_testBit]
    simp
  | p + 1, q => by
    have h := mk9_tb (f := f) p q
    unfold mk9
    by_cases hp : f p = true
    · rw [if_pos hp, Nat.testBit_or, Nat.testBit_two_pow, h]
      by_cases e : q = p
      · subst e
        simp [hp]
      · have e2 : (p = q) = False := by simp; exact fun z => e z.symm
        by_cases l : q < p
        · have : q < p + 1 := by omega
          simp [l, this, e2]
        · have : ¬ q < p + 1 := by omega
          simp [l, this, e2]
    · rw [if_neg hp, h]
      by_cases e : q = p
      · subst e
        simp [hp]
      · by_cases l : q < p
        · have : q < p + 1 := by omega
          simp [l, this]
        · have : ¬ q < p + 1 := by omega
          simp [l, this]
section ASK
variable (E : Nat × (Nat → Int32)) (d : Nat) (L : Nat → Nat → Int64)
theorem sv0 {P : TP} {T : TS} (hr : rngT P T) (hpr : btw 0 99 (pPr P)) {p : Nat} (hp : p < pG P) : mx 0 (tM T p - pPr P) = 0 ↔ (tM T p).toInt ≤ (pPr P).toInt := by
  have h1 := hr.2.1 p hp
  unfold btw at hpr
  have e : (tM T p - pPr P).toInt = (tM T p).toInt - (pPr P).toInt := t_sub (by omega) (by omega)
  rw [t_eq, t_mx, t_0, e]
  split <;> omega
/-- masks of the bridges below k are there -/
def mkd (P : TP) (T : TS) (M : Nat → Nat → Int32) (k : Nat) : Prop := ∀ j, j < k → M 242 j = nI (mk9 (wll P T j) (pG P))
theorem l43 (M : Nat → Nat → Int32) {P : TP} {T : TS} (hC : CH M 40 P T) (hn8 : pN P ≤ 8) (hg9 : pG P ≤ 9) (hr : rngT P T) (hpr : btw 0 99 (pPr P)) {k : Nat} (hk : k < pN P) :
    ∀ r p w (M1 : Nat → Nat → Int32), p + r = pG P → (∀ c, c ≠ 242 → M1 c = M c) → mkd P T M1 k → M1 242 k = nI (mk9 (wll P T k) p) → ∃ M2 w', X E (d + 4) me43 28 [some (vR 1 5 240), some (vI (nI k)), some (vI (nI p)), w] [] (M1, L) = X E (d + 4) me43 2 [some (vR 1 5 240), some (vI (nI (k + 1))), some (vI (nI (pG P))), w'] [] (M2, L) ∧ (∀ c, c ≠ 242 → M2 c = M c) ∧ mkd P T M2 (k + 1) := by
  intro r
  induction r with
  | zero =>
    intro p w M1 hp hf hm hv
    have e : p = pG P := by omega
    refine ⟨M1, w, ?_, hf, fun j hj => ?_⟩
    · rw [x43_28, hf 40 (by omega), hC.2.1, if_pos (nI_le (by omega) (by omega)), nI_1, e]
    · by_cases q : j = k
      · rw [q, hv, e]
      · exact hm j (by omega)
  | succ r ih =>
    intro p w M1 hp hf hm hv
    have hib : ib (nI k) 8 := by rw [ib_nI (by omega)]; omega
    have hC1 : CH M1 40 P T := hC.keep (fun c h1 h2 => hf c (by omega))
    obtain ⟨b1', b2', b3', b4'⟩ := hC1.2.2.2.2.2 p (by omega)
    obtain ⟨k1, k2, k3⟩ := hC1.2.2.2.2.1 k hk
    have hstep : ∀ b : Bool, wll P T k p = b → mk9 (wll P T k) (p + 1) = if b = true then mk9 (wll P T k) p ||| 2 ^ p else mk9 (wll P T k) p := fun b hb => by
      rw [mk9, hb]
    rw [x43_28, hf 40 (by omega), hC.2.1, if_neg (nI_ge (by omega) (by omega)), e22_4 E _ M1 L 40 (by omega), bI_s, e22_2 E _ M1 L 40 (by omega), bI_s, b2', k3, e997, bI_s, e33 E _ M1 L 40 (by omega) hC1.2.1 hg9 (by omega), bI_s, b1', hC1.2.2.1, nI_1]
    by_cases h1 : (tM T p).toInt ≤ (pPr P).toInt
    · rw [if_pos ((sv0 hr hpr (by omega)).2 h1), e22_5 E _ M1 L 40 (by omega), bI_s, b3']
      by_cases h2 : (mn (pAs P p) (pAl P k)).toInt ≤ (pSd P p).toInt
      · have hw : wll P T k p = true := by unfold wll; rw [decide_eq_true h1, decide_eq_true h2]; rfl
        rw [if_neg (show ¬ pSd P p < mn (pAs P p) (pAl P k) by rw [t_lt]; omega), if_pos hib, if_pos hib]
        show ∃ M2 w', X E (d + 4) me43 28 _ [] (u2 M1 242 (ix (nI k)) (M1 242 (ix (nI k)) ||| ((1 : Int32) <<< (nI p &&& 31))), L) = _ ∧ _
        have hml := Nat.lt_of_lt_of_le (mk9_lt (f := wll P T k) p) (Nat.pow_le_pow_right (by omega) (show p ≤ 9 by omega))
        rw [ix_nI (by omega), hv, bt_set p (by omega) _ hml]
        refine ih (p + 1) _ _ (by omega) (fun c hc => by rw [u2_o hc]; exact hf c hc) (fun j hj => by rw [u2_n (by omega)]; exact hm j hj) ?_
        rw [u2_s, hstep true hw, if_pos rfl]
      · have hw : wll P T k p = false := by unfold wll; rw [decide_eq_false h2, Bool.and_false]
        rw [if_pos (show pSd P p < mn (pAs P p) (pAl P k) by rw [t_lt]; omega)]
        refine ih (p + 1) _ M1 (by omega) hf hm ?_
        rw [hv, hstep false hw, if_neg (by decide)]
    · have hw : wll P T k p = false := by unfold wll; rw [decide_eq_false h1, Bool.false_and]
      rw [if_neg (fun q => h1 ((sv0 hr hpr (by omega)).1 q))]
      refine ih (p + 1) _ M1 (by omega) hf hm ?_
      rw [hv, hstep false hw, if_neg (by decide)]
theorem e43 (M : Nat → Nat → Int32) {P : TP} {T : TS} (hC : CH M 40 P T) (hn8 : pN P ≤ 8) (hg9 : pG P ≤ 9) (hr : rngT P T) (hpr : btw 0 99 (pPr P)) : ∃ M2, C E (d + 5) 43 [vR 1 5 240] (M, L) = some (none, (M2, L)) ∧ (∀ c, c ≠ 242 → M2 c = M c) ∧ mkd P T M2 (pN P) := by
  have h : ∀ r k w2 w3 (M1 : Nat → Nat → Int32), k + r = pN P → (∀ c, c ≠ 242 → M1 c = M c) → mkd P T M1 k → ∃ M2, X E (d + 4) me43 2 [some (vR 1 5 240), some (vI (nI k)), w2, w3] [] (M1, L) = some (none, (M2, L)) ∧ (∀ c, c ≠ 242 → M2 c = M c) ∧ mkd P T M2 (pN P) := by
    intro r
    induction r with
    | zero =>
      intro k w2 w3 M1 hk hf hm
      refine ⟨M1, ?_, hf, by rw [show pN P = k by omega]; exact hm⟩
      rw [x43_2, hf 40 (by omega), hC.1, if_pos (nI_le (by omega) (by omega))]
    | succ r ih =>
      intro k w2 w3 M1 hk hf hm
      have hib : ib (nI k) 8 := by rw [ib_nI (by omega)]; omega
      obtain ⟨M2, w', e2, f2, m2⟩ := l43 E d L M hC hn8 hg9 hr hpr (k := k) (by omega) (pG P) 0 w3 (u2 M1 242 k 0) (by omega) (fun c hc => by rw [u2_o hc]; exact hf c hc) (fun j hj => by rw [u2_n (by omega)]; exact hm j hj) (by rw [u2_s]; rfl)
      rw [x43_2, hf 40 (by omega), hC.1, if_neg (nI_ge (by omega) (by omega)), if_neg (show ¬ (8 : Int32) ≤ nI k from nI_ge (b := 8) (by omega) (by omega)), if_pos hib, ix_nI (by omega)]
      have e2' : X E (d + 4) me43 28 [some (vR 1 5 240), some (vI (nI k)), some (vI (0 : Int32)), w3] [] (u2 M1 242 k 0, L) = _ := e2
      rw [e2']
      exact ih (k + 1) _ w' M2 (by omega) f2 m2
  rw [x43]
  exact h (pN P) 0 none none M (by omega) (fun _ _ => rfl) (fun j hj => absurd hj (by omega))
end ASK
