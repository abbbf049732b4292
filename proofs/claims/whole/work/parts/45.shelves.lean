/-! shelves: what they answer; without a bridge's beggars -/
/-- cells that a question of the class may write -/
def fQ (c : Nat) : Prop := c = 50 ∨ c = 51 ∨ c = 93 ∨ c = 94 ∨ (110 ≤ c ∧ c ≤ 252)
section SHELVES
variable (E : Nat × (Nat → Int32)) (d : Nat) (L : Nat → Nat → Int64)
theorem e48n (M : Nat → Nat → Int32) {s : Nat} (hs : s < 6) : C E (d + 1) 48 [vR 1 6 330, vI (nI s)] (M, L) = some (some (vI (1 : Int32)), (M, L)) := by
  rw [e48, b1_t (by rw [t_nI (by omega)]; omega)]
def isRo (x : Int32) : Prop := 0 ≤ x.toInt ∧ x.toInt ≤ 4
theorem e49 (M : Nat → Nat → Int32) {s : Nat} (hs : s < 6) : C E (d + 2) 49 [vR 1 6 330, vI (nI s)] (M, L) = some (some (vI (b1 (M 331 s = -1))), (M, L)) := by
  rw [x49, e48n E _ L M hs, bI_s, if_neg (by decide), if_pos (by rw [ib_nI (by omega)]; exact hs), ix_nI (by omega)]
  unfold b1
  split <;> rfl
theorem e50 (M : Nat → Nat → Int32) {s : Nat} (hs : s < 6) : C E (d + 2) 50 [vR 1 6 330, vI (nI s)] (M, L) = some (some (vI (b1 (0 ≤ (M 331 s).toInt ∧ (M 331 s).toInt ≤ 4))), (M, L)) := by
  have hib : ib (nI s) 6 := by rw [ib_nI (by omega)]; exact hs
  rw [x50, e48n E _ L M hs, bI_s, if_neg (by decide), if_pos hib, ix_nI (by omega)]
  simp only [if_pos hib, t_lt, t_0, t_4]
  unfold b1
  (repeat' split) <;> first | rfl | (exfalso; omega)
theorem e51 (M : Nat → Nat → Int32) {s : Nat} (hs : s < 6) : C E (d + 3) 51 [vR 1 6 330, vI (nI s)] (M, L) = some (some (vI (if 0 ≤ (M 331 s).toInt ∧ (M 331 s).toInt ≤ 4 then M 332 s else 0)), (M, L)) := by
  rw [x51, e50 E _ L M hs, bI_s]
  by_cases h : 0 ≤ (M 331 s).toInt ∧ (M 331 s).toInt ≤ 4
  · rw [if_neg (b1_ne h), if_pos (by rw [ib_nI (by omega)]; exact hs), if_pos h, ix_nI (by omega)]
  · rw [if_pos (b1_e h), if_neg h]
theorem e61 (M : Nat → Nat → Int32) {s m i : Nat} (hs : s < 6) (hr : 0 ≤ (M 331 s).toInt ∧ (M 331 s).toInt ≤ 4) (hm : M 332 s = nI m) (hm60 : m ≤ 60) (hi : i < m) : C E (d + 4) 61 [vR 1 6 330, vI (nI s), vI (nI i)] (M, L) = some (some (vL (L (334 + s) i)), (M, L)) := by
  rw [x61, if_neg (nI_pos (by omega)), e51 E _ L M hs, bI_s, if_pos hr, hm, if_neg (nI_ge hi (by omega)), if_neg (show ¬ (60 : Int32) ≤ nI i from nI_ge (b := 60) (by omega) (by omega)), if_pos (by rw [ib_nI (by omega)]; exact hs), if_pos (by rw [ib_nI (by omega)]; omega), ix_nI (by omega), ix_nI (by omega)]
/-- what is wrong with a shelf that ought to hold bytes -/
def refB (x : Int32) : Int32 := if x = -1 then -11 else if 0 ≤ x.toInt ∧ x.toInt ≤ 4 then (if x = 0 then 0 else -12) else -12
theorem e56 (M : Nat → Nat → Int32) {s : Nat} (hs : s < 6) : C E (d + 3) 56 [vR 1 6 330, vI (nI s)] (M, L) = some (some (vI (if M 331 s = -1 then -11 else if 0 ≤ (M 331 s).toInt ∧ (M 331 s).toInt ≤ 4 then 0 else -12)), (M, L)) := by
  rw [x56, e48n E _ L M hs, bI_s, if_neg (by decide), e49 E _ L M hs, bI_s]
  by_cases h : M 331 s = -1
  · rw [if_neg (b1_ne h), if_pos h]
  · rw [if_pos (b1_e h), if_neg h, e50 E _ L M hs, bI_s]
    by_cases h2 : 0 ≤ (M 331 s).toInt ∧ (M 331 s).toInt ≤ 4
    · rw [if_neg (b1_ne h2), if_pos h2]
    · rw [if_pos (b1_e h2), if_neg h2]
theorem e57 (M : Nat → Nat → Int32) {s : Nat} (hs : s < 6) : C E (d + 4) 57 [vR 1 6 330, vI (nI s)] (M, L) = some (some (vI (refB (M 331 s))), (M, L)) := by
  rw [x57, e56 E _ L M hs, bI_s]
  unfold refB
  by_cases h : M 331 s = -1
  · rw [if_pos h, if_pos h, if_neg (by decide)]
  · rw [if_neg h, if_neg h]
    by_cases h2 : 0 ≤ (M 331 s).toInt ∧ (M 331 s).toInt ≤ 4
    · rw [if_pos h2, if_pos h2, if_pos rfl, if_pos (by rw [ib_nI (by omega)]; exact hs), ix_nI (by omega)]
      by_cases h3 : M 331 s = 0
      · rw [if_pos h3, if_pos h3]
      · rw [if_neg h3, if_neg h3]
    · rw [if_neg h2, if_neg h2, if_neg (by decide)]
def offT (T : TS) (b : Nat) : TS := (tS T, tM T, fun p => if tE T p = nI b then -1 else tE T p, tD T)
theorem e85 (M : Nat → Nat → Int32) {P : TP} {T : TS} (hC : CH M 40 P T) (hn8 : pN P ≤ 8) (hg9 : pG P ≤ 9) (hl : LW E (pK P) M) {b : Nat} (hb : b < pN P) :
    ∃ M', C E (d + 6) 85 [vR 1 8 110, vI (nI b)] (M, L) = some (some (vI (ftr (fallP P (offT T b) b) 61 0)), (M', L)) ∧ ∀ c, ¬ fQ c → M' c = M c := by
  have h : ∀ m i (M1 : Nat → Nat → Int32), i + m = pG P → (∀ c, ¬ fQ c → M1 c = M c) → CH M1 170 P (tS T, tM T, fun p => if p < i ∧ tE T p = nI b then -1 else tE T p, tD T) → ∃ M', X E (d + 5) me85 13 [some (vR 1 8 110), some (vI (nI b)), some (vI (nI i))] [] (M1, L) = some (some (vI (ftr (fallP P (offT T b) b) 61 0)), (M', L)) ∧ ∀ c, ¬ fQ c → M' c = M c := by
    intro m
    induction m with
    | zero =>
      intro i M1 hi hf hC1
      have hl1 : LW E (pK P) M1 := hl.keep (hf 90 (by unfold fQ; omega)) (hf 91 (by unfold fQ; omega)) (hf 92 (by unfold fQ; omega))
      have hC2 : CH M1 170 P (offT T b) := hC1.eqT ⟨fun _ _ => rfl, fun p hp => ⟨rfl, by show (if p < i ∧ tE T p = nI b then -1 else tE T p) = if tE T p = nI b then -1 else tE T p; by_cases e : tE T p = nI b <;> simp [e]; omega⟩, rfl⟩
      rw [x85_13, hC1.2.1, if_pos (nI_le (by omega) (by omega))]
      obtain ⟨M2, e2, f2⟩ := e80 E d L M1 170 (by omega) hC2 hn8 hg9 hl1 hb
      rw [e2, bI_s]
      exact ⟨M2, rfl, fun c hc => (f2 c (fun q => hc (by unfold fT at q; unfold fQ; omega))).trans (hf c hc)⟩
    | succ m ih =>
      intro i M1 hi hf hC1
      have hse : M1 (170 + 9) i = tE T i := by
        rw [(hC1.2.2.2.2.2 i (by omega)).2.2.2]
        show (if i < i ∧ tE T i = nI b then -1 else tE T i) = _
        rw [if_neg (by omega)]
      have key : ∀ M2 : Nat → Nat → Int32, (∀ c, c ≠ 170 + 9 → M2 c = M1 c) → (∀ p, p < pG P → M2 (170 + 9) p = if p < i + 1 ∧ tE T p = nI b then -1 else tE T p) → CH M2 170 P (tS T, tM T, fun p => if p < i + 1 ∧ tE T p = nI b then -1 else tE T p, tD T) := by
        intro M2 g1 g2
        obtain ⟨a1, a2, a3, a4, a5, a6⟩ := hC1
        refine ⟨by rw [g1 170 (by omega)]; exact a1, by rw [g1 170 (by omega)]; exact a2, by rw [g1 170 (by omega)]; exact a3, by rw [g1 170 (by omega)]; exact a4, fun k hk => ?_, fun p hp => ?_⟩
        · rw [g1 (170 + 3) (by omega), g1 (170 + 4) (by omega), g1 (170 + 5) (by omega)]; exact a5 k hk
        · rw [g1 (170 + 6) (by omega), g1 (170 + 7) (by omega), g1 (170 + 8) (by omega), g2 p hp]
          obtain ⟨q1, q2, q3, -⟩ := a6 p hp
          exact ⟨q1, q2, q3, rfl⟩
      have hold : ∀ p, p < pG P → M1 (170 + 9) p = if p < i ∧ tE T p = nI b then -1 else tE T p := fun p hp => (hC1.2.2.2.2.2 p hp).2.2.2
      rw [x85_13, hC1.2.1, if_neg (nI_ge (by omega) (by omega)), e22_6 E _ M1 L 170 (by omega), bI_s, hse, nI_1]
      by_cases hb' : tE T i = nI b
      · rw [if_pos hb', e23_6 E _ M1 L 170 (-1) (by omega), bV_s]
        refine ih (i + 1) _ (by omega) (fun c hc => by rw [u2_o (by unfold fQ at hc; omega)]; exact hf c hc) (key _ (fun c hc => u2_o hc) (fun p hp => ?_))
        by_cases e : p = i
        · rw [e, u2_s, if_pos ⟨by omega, hb'⟩]
        · rw [u2_n e, hold p hp]
          by_cases q : p < i ∧ tE T p = nI b
          · rw [if_pos q, if_pos ⟨by omega, q.2⟩]
          · rw [if_neg q, if_neg (fun z => q ⟨by omega, z.2⟩)]
      · rw [if_neg hb']
        refine ih (i + 1) _ (by omega) hf (key _ (fun _ _ => rfl) (fun p hp => ?_))
        rw [hold p hp]
        by_cases q : p < i ∧ tE T p = nI b
        · rw [if_pos q, if_pos ⟨by omega, q.2⟩]
        · rw [if_neg q, if_neg (fun z => q ⟨by
            by_cases e : p = i
            · exact absurd (by rw [← e]; exact z.2) hb'
            · omega, z.2⟩)]
  rw [x85]
  obtain ⟨M1, e1, f1, g1⟩ := e25 E (d + 3) L M 170 40 (by omega)
  rw [e1, bV_s]
  refine h (pG P) 0 M1 (by omega) (fun c hc => f1 c (by unfold fQ at hc; omega)) ((g1 P T hC hn8 hg9).eqT ⟨fun _ _ => rfl, fun p _ => ⟨rfl, ?_⟩, rfl⟩)
  show tE T p = if p < 0 ∧ tE T p = nI b then -1 else tE T p
  rw [if_neg (by omega)]
end SHELVES
