/-! a beggar moves: the class -/
def f32 (v : Int32) : Int32 := if v ≤ 0 then 0 else 1000 + v
theorem f32_t {v : Int32} (h : 0 ≤ v.toInt ∧ v.toInt ≤ 99) : (f32 v).toInt = fW v := by
  unfold f32 fW
  by_cases q : v.toInt ≤ 0
  · rw [if_pos (show v ≤ 0 by rw [t_le, t_0]; exact q), if_pos q, t_0]
  · rw [if_neg (show ¬ v ≤ 0 by rw [t_le, t_0]; exact q), if_neg q, t_add (by rw [t_1000]; omega) (by rw [t_1000]; omega), t_1000]
theorem Sd_rng {P : TP} {T : TS} (h : rngT P T) (n : Nat) : ∀ k, k < pN P → 0 ≤ (Sd P n T k).toInt ∧ (Sd P n T k).toInt ≤ 99 := (rngT_days h n).1
theorem rngE {P : TP} {T : TS} (h : rngT P T) (p : Nat) (x : Int32) : rngT P (setE T p x) := h
theorem chE {M M' : Nat → Nat → Int32} {o : Nat} {P : TP} {T : TS} (h : CH M o P T) {p : Nat} {v : Int32} (q : ∀ c, o ≤ c → c ≤ o + 11 → c ≠ o + 9 → M' c = M c) (q9 : ∀ j, j < pG P → M' (o + 9) j = if j = p then v else M (o + 9) j) : CH M' o P (setE T p v) := by
  obtain ⟨h1, h2, h3, h4, h5, h6⟩ := h
  have e0 := q o (by omega) (by omega) (by omega)
  refine ⟨by rw [e0]; exact h1, by rw [e0]; exact h2, by rw [e0]; exact h3, by rw [e0]; exact h4, fun j hj => ?_, fun j hj => ?_⟩
  · rw [q (o + 3) (by omega) (by omega) (by omega), q (o + 4) (by omega) (by omega) (by omega), q (o + 5) (by omega) (by omega) (by omega)]
    exact h5 j hj
  · obtain ⟨a1, a2, a3, a4⟩ := h6 j hj
    rw [q9 j hj, q (o + 7) (by omega) (by omega) (by omega), q (o + 8) (by omega) (by omega) (by omega), q (o + 6) (by omega) (by omega) (by omega), a4]
    exact ⟨a1, a2, a3, rfl⟩
theorem setE_a {T : TS} {p : Nat} {x v : Int32} : setE (setE T p x) p v = setE T p v := by
  unfold setE
  have : (fun q => if q = p then v else (if q = p then x else tE T q)) = fun q => if q = p then v else tE T q := by
    funext j
    by_cases e : j = p
    · rw [if_pos e, if_pos e]
    · rw [if_neg e, if_neg e, if_neg e]
  show (_, _, (fun q => if q = p then v else (if q = p then x else tE T q)), _) = _
  rw [this]
/-- the better of two -/
def bst (a : Int × Int32) (c : Int) (code : Int32) : Int × Int32 := if c ≤ a.1 then a else (c, code)
section MOVED
variable (E : Nat × (Nat → Int32)) (d : Nat) (L : Nat → Nat → Int64)
theorem e89 (M : Nat → Nat → Int32) (v : Int32) : C E (d + 1) 89 [vI v] (M, L) = some (some (vI (f32 v)), (M, L)) := by
  rw [x89]
  unfold f32
  split <;> rfl
theorem e88 (M : Nat → Nat → Int32) (v code : Int32) : C E (d + 1) 88 [vR 1 8 110, vI v, vI code] (M, L) = some (none, (if v ≤ M 110 6 then M else u2 (u2 M 110 6 v) 110 7 code, L)) := by
  rw [x88]
  split <;> rfl
theorem g86 (M : Nat → Nat → Int32) {P : TP} {T : TS} (hC : CH M 40 P T) (hn8 : pN P ≤ 8) (hg9 : pG P ≤ 9) (hl : LW E (pK P) M) (hr : rngT P T) {n : Nat} (hn : n ≤ 20) :
    ∃ M1, C E (d + 7) 86 [vR 1 8 110, vI (nI n)] (M, L) = some (none, (M1, L)) ∧ (∀ c, ¬ fQ c → M1 c = M c) ∧ CH M1 170 P T ∧ (M1 110 5).toInt = smW (Sd P n T) (pN P) ∧ M1 110 6 = M1 110 5 ∧ M1 110 7 = 900 ∧ ∀ k, k < pN P → M1 115 k = Sd P n T k := by
  have hsr := Sd_rng hr n
  have loop : ∀ r k (M1 : Nat → Nat → Int32), k + r = pN P → (∀ c, ¬ fQ c → M1 c = M c) → CH M1 170 P T → (M1 110 5).toInt = smW (Sd P n T) k → (∀ j, j < k → M1 115 j = Sd P n T j) → ∃ M2, X E (d + 6) me86 18 [some (vR 1 8 110), some (vI (nI n)), some (vI (nI k))] [] (M1, L) = some (none, (M2, L)) ∧ (∀ c, ¬ fQ c → M2 c = M c) ∧ CH M2 170 P T ∧ (M2 110 5).toInt = smW (Sd P n T) (pN P) ∧ M2 110 6 = M2 110 5 ∧ M2 110 7 = 900 ∧ ∀ k, k < pN P → M2 115 k = Sd P n T k := by
    intro r
    induction r with
    | zero =>
      intro k M1 hk hf hC1 h5 h115
      have e : k = pN P := by omega
      subst e
      refine ⟨u2 (u2 M1 110 6 (M1 110 5)) 110 7 900, ?_, fun c hc => by rw [u2_o (by unfold fQ at hc; omega), u2_o (by unfold fQ at hc; omega)]; exact hf c hc, hC1.keep (fun c h1 h2 => by rw [u2_o (by omega), u2_o (by omega)]), by rw [u2_n (by omega), u2_n (by omega)]; exact h5, by rw [u2_n (by omega), u2_s, u2_n (by omega), u2_n (by omega)], u2_s, fun j hj => by rw [u2_o (by omega), u2_o (by omega)]; exact h115 j hj⟩
      rw [x86_18, hf 40 (by unfold fQ; omega), hC.1, if_pos (nI_le (Nat.le_refl _) (by omega))]
    | succ r ih =>
      intro k M1 hk hf hC1 h5 h115
      have hib : ib (nI k) 8 := by rw [ib_nI (by omega)]; omega
      obtain ⟨M2, e2, f2⟩ := e79 E (d + 1) L M1 170 (by omega) hC1 hn8 hg9 (hl.keep (hf 90 (by unfold fQ; omega)) (hf 91 (by unfold fQ; omega)) (hf 92 (by unfold fQ; omega))) (b := k) (n := n) (by omega) (by omega)
      rw [x86_18, hf 40 (by unfold fQ; omega), hC.1, if_neg (nI_ge (by omega) (by omega)), if_neg (show ¬ (8 : Int32) ≤ nI k from nI_ge (b := 8) (by omega) (by omega)), e2, bI_s, if_pos hib, if_pos hib, ix_nI (by omega), e89 E _ L, bI_s, nI_1]
      show ∃ M3, X E (d + 6) me86 18 [some (vR 1 8 110), some (vI (nI n)), some (vI (nI (k + 1)))] [] (u2 (u2 M2 115 k (Sd P n T k)) 110 5 ((u2 M2 115 k (Sd P n T k)) 110 5 + f32 ((u2 M2 115 k (Sd P n T k)) 115 k)), L) = _ ∧ _
      rw [u2_o (c := 110) (by omega), f2 110 (by unfold fT; omega), u2_s]
      have hk1 := hsr k (by omega)
      have hf1 := fW_rng hk1
      have hsm := smW_rng (S := Sd P n T) (n := k) (fun j hj => hsr j (by omega))
      refine ih (k + 1) _ (by omega) (fun c hc => by rw [u2_o (by unfold fQ at hc; omega), u2_o (by unfold fQ at hc; omega), f2 c (fun q => hc (by unfold fT at q; unfold fQ; omega))]; exact hf c hc) (hC1.keep (fun c h1 h2 => by rw [u2_o (by omega), u2_o (by omega), f2 c (by unfold fT; omega)])) ?_ (fun j hj => ?_)
      · rw [u2_s, t_add (by rw [h5, f32_t hk1]; omega) (by rw [h5, f32_t hk1]; omega), h5, f32_t hk1]
        rfl
      · rw [u2_o (by omega)]
        by_cases e : j = k
        · rw [e, u2_s]
        · rw [u2_n e, f2 115 (by unfold fT; omega)]; exact h115 j (by omega)
  obtain ⟨M1, e1, f1, c1⟩ := e25 E (d + 4) L M 170 40 (by omega)
  rw [x86, e1, bV_s]
  exact loop (pN P) 0 (u2 M1 110 5 0) (by omega) (fun c hc => by rw [u2_o (by unfold fQ at hc; omega)]; exact f1 c (by unfold fQ at hc; omega)) ((c1 P T hC hn8 hg9).keep (fun c h1 h2 => u2_o (by omega))) (by rw [u2_s, t_0]; rfl) (fun j hj => absurd hj (by omega))
end MOVED
