/-! ways by bridges: the reference's sums, and what parts two places -/
def popB (o : Option Nat) (N : Nat) : Bool := match o with
  | none => true
  | some b => decide (popN N < popN b)
def pst (q : Nat → Bool) : Nat → Option Nat
  | 0 => none
  | N + 1 => if (q N && popB (pst q N) N) = true then some N else pst q N
def cbO (sb : Nat) (o : Option Nat) : Nat := match o with
  | none => sb
  | some b => b
def cfO (o : Option Nat) : Nat := match o with
  | none => 9
  | some b => popN b
def rbO (o : Option Nat) : Int32 := match o with
  | none => -1
  | some b => nI b
theorem pop_le {m : Nat} (h : m < 256) : popN m ≤ 8 := by unfold popN; omega
theorem popN_lt {m : Nat} : popN m ≤ 9 := by unfold popN; omega
theorem pst_lt {q : Nat → Bool} {b : Nat} : ∀ {N : Nat}, pst q N = some b → b < N
  | 0, h => by cases h
  | N + 1, h => by
    unfold pst at h
    by_cases c : (q N && popB (pst q N) N) = true
    · rw [if_pos c] at h; cases h; omega
    · rw [if_neg c] at h
      have := pst_lt (N := N) h
      omega
theorem pst_tail {q : Nat → Bool} {K : Nat} : ∀ r, (∀ N, K ≤ N → N < K + r → q N = false) → pst q (K + r) = pst q K
  | 0, _ => rfl
  | r + 1, h => by
    show (if (q (K + r) && popB (pst q (K + r)) (K + r)) = true then _ else _) = _
    rw [h _ (by omega) (by omega), Bool.false_and, if_neg (by decide)]
    exact pst_tail r (fun N h1 h2 => h N h1 (by omega))
theorem pst_at {q : Nat → Bool} {K : Nat} (h : q K = true) : ∃ b, pst q (K + 1) = some b := by
  unfold pst
  rw [h, Bool.true_and]
  cases o : pst q K with
  | none => exact ⟨K, rfl⟩
  | some b =>
    by_cases c : popB (some b) K = true
    · exact ⟨K, by rw [if_pos c]⟩
    · exact ⟨b, by rw [if_neg c]⟩
def subQ (sb c : Nat) : Bool := decide ((nI c &&& (nI sb ^^^ (-1 : Int32))) = 0)
def lessF' (sb c : Nat) : Nat → Bool := fun b => sb.testBit b && !c.testBit b
theorem subQ_s {sb : Nat} (h : sb < 256) : subQ sb sb = true := by
  unfold subQ
  apply decide_eq_true
  obtain ⟨m, h1, h2, h3⟩ := free_b (a := sb) (u := sb) (by omega)
  have : m = 0 := by
    apply Nat.eq_of_testBit_eq
    intro i
    rw [Nat.zero_testBit]
    by_cases q : i < 9
    · rw [h3 i q]; cases sb.testBit i <;> rfl
    · exact Nat.testBit_lt_two_pow (Nat.lt_of_lt_of_le h1 (Nat.pow_le_pow_right (n := 2) (by omega) (by omega : 9 ≤ i)))
  rw [h2, this]
  rfl
theorem subQ_gt {sb c : Nat} (hc : c < 512) (h : sb < c) : subQ sb c = false := by
  unfold subQ
  apply decide_eq_false
  intro q
  obtain ⟨m, h1, h2, h3⟩ := free_b (a := c) (u := sb) hc
  rw [h2] at q
  have hm : m = 0 := nI_inj (b := 0) (by omega) (by omega) q
  have he : c &&& sb = c := by
    apply Nat.eq_of_testBit_eq
    intro i
    rw [Nat.testBit_and]
    by_cases q9 : i < 9
    · have := h3 i q9
      rw [hm, Nat.zero_testBit] at this
      cases hb : c.testBit i with
      | false => rfl
      | true =>
        rw [hb] at this
        cases hs : sb.testBit i with
        | true => rfl
        | false => rw [hs] at this; cases this
    · rw [Nat.testBit_lt_two_pow (Nat.lt_of_lt_of_le hc (Nat.pow_le_pow_right (n := 2) (by omega) (by omega : 9 ≤ i)))]
      rfl
  have : c &&& sb ≤ sb := Nat.and_le_right
  omega
/-- what parts: a set of standing ones, without which there is no way -/
def prQ (A B W : Nat → Nat) (n sb s e : Nat) (c : Nat) : Bool := subQ sb c && !wyB (edl (wyE A B W) (lessF' sb c) n 0) s e
theorem prQ_s {A B W : Nat → Nat} {n sb s e : Nat} (h : sb < 256) (hse : s ≠ e) : prQ A B W n sb s e sb = true := by
  unfold prQ
  rw [subQ_s h, edl_none (fun j => by unfold lessF'; cases sb.testBit j <;> rfl)]
  unfold wyB
  show (true && !decide (wd0 s e < 1000000)) = true
  unfold wd0
  rw [if_neg (fun q => hse q.symm)]
  rfl
section WAYS2
variable (E : Nat × (Nat → Int32)) (d : Nat) (L : Nat → Nat → Int64)
/-- the class: the fewest that part -/
theorem e100 (M : Nat → Nat → Int32) {n : Nat} {A B W : Nat → Nat} (hw : wyC M n A B W) {sb : Nat} (hsb : sb < 256) (hS : sdB (M 44) n = nI sb) {s e : Nat} (hs : s < 8) (he : e < 8) :
    C E (d + 4) 100 [vR 1 10 250, vI (nI s), vI (nI e)] (M, L) = some (some (vI (nI (cbO sb (pst (prQ A B W n sb s e) (sb + 1))))), (M, L)) := by
  have hn8 := hw.2.1
  have h : ∀ r N w7, N + r = sb + 1 → X E (d + 3) me100 18 [some (vR 1 10 250), some (vI (nI s)), some (vI (nI e)), some (vI (nI sb)), some (vI (nI (cbO sb (pst (prQ A B W n sb s e) N)))), some (vI (nI (cfO (pst (prQ A B W n sb s e) N)))), some (vI (nI N)), w7] [] (M, L) = some (some (vI (nI (cbO sb (pst (prQ A B W n sb s e) (sb + 1))))), (M, L)) := by
    intro r
    induction r with
    | zero =>
      intro N w7 hN
      have e0 : N = sb + 1 := by omega
      rw [x100_18, e0, if_pos (show nI sb < nI (sb + 1) from nI_lt (by omega) (by omega))]
    | succ r ih =>
      intro N w7 hN
      have hpr : prQ A B W n sb s e N = (subQ sb N && !wyB (edl (wyE A B W) (lessF' sb N) n 0) s e) := rfl
      rw [x100_18, if_neg (show ¬ nI sb < nI N from nI_nlt (by omega) (by omega)), nI_1]
      have ih' := fun w => ih (N + 1) w (by omega)
      have st : ∀ b : Bool, (prQ A B W n sb s e N && popB (pst (prQ A B W n sb s e) N) N) = b → pst (prQ A B W n sb s e) (N + 1) = if b = true then some N else pst (prQ A B W n sb s e) N := fun b hb => by rw [pst, hb]
      have skip : ∀ w, (prQ A B W n sb s e N && popB (pst (prQ A B W n sb s e) N) N) = false → X E (d + 3) me100 18 [some (vR 1 10 250), some (vI (nI s)), some (vI (nI e)), some (vI (nI sb)), some (vI (nI (cbO sb (pst (prQ A B W n sb s e) N)))), some (vI (nI (cfO (pst (prQ A B W n sb s e) N)))), some (vI (nI (N + 1))), w] [] (M, L) = some (some (vI (nI (cbO sb (pst (prQ A B W n sb s e) (sb + 1))))), (M, L)) := fun w hb => by
        have := ih' w
        rw [st false hb, if_neg (by decide)] at this
        exact this
      by_cases q1 : subQ sb N = true
      · have q1' : (nI N &&& (nI sb ^^^ (-1 : Int32))) = 0 := of_decide_eq_true q1
        have hp := pop_le (m := N) (by omega)
        have hcf : cfO (pst (prQ A B W n sb s e) N) ≤ 9 := by
          cases pst (prQ A B W n sb s e) N with
          | none => exact Nat.le_refl _
          | some b => exact popN_lt
        rw [if_pos q1', e250 E _ M L (m := N) (by omega), bI_s]
        by_cases q2 : popB (pst (prQ A B W n sb s e) N) N = true
        · have q2' : popN N < cfO (pst (prQ A B W n sb s e) N) := by
            cases o : pst (prQ A B W n sb s e) N with
            | none => show popN N < 9; omega
            | some b => rw [o] at q2; exact of_decide_eq_true q2
          obtain ⟨m, m1, m2, m3⟩ := free_b (a := sb) (u := N) (by omega)
          rw [if_neg (nI_ge (by omega) (by omega)), m2, e99 E d L M hw m1 (S := lessF' sb N) m3 hs he, bI_s]
          cases q3 : wyB (edl (wyE A B W) (lessF' sb N) n 0) s e with
          | true =>
            rw [if_neg (show ¬ (if true = true then (1 : Int32) else 0) = 0 by decide)]
            exact skip _ (by rw [hpr, q3]; simp)
          | false =>
            rw [if_pos (show (if false = true then (1 : Int32) else 0) = 0 by decide), e250 E _ M L (m := N) (by omega), bI_s]
            have := ih' (some (vI (1 : Int32)))
            rw [st true (by rw [hpr, q1, q2, q3]; rfl), if_pos rfl] at this
            exact this
        · have q2' : ¬ popN N < cfO (pst (prQ A B W n sb s e) N) := by
            intro z
            apply q2
            cases o : pst (prQ A B W n sb s e) N with
            | none => rfl
            | some b => rw [o] at z; exact decide_eq_true z
          rw [if_pos (nI_le (by omega) (by omega))]
          exact skip _ (by rw [f_of q2, Bool.and_false])
      · have q1' : ¬ (nI N &&& (nI sb ^^^ (-1 : Int32))) = 0 := of_decide_eq_false (f_of q1)
        rw [if_neg q1']
        exact skip _ (by rw [hpr, f_of q1]; rfl)
  rw [x100, e30 E _ L M 40 hw.1 hn8, bI_s]
  have e4 : M (40 + 4) = M 44 := rfl
  rw [e4, hS]
  exact h (sb + 1) 0 none (by omega)
def ndI (c : Nat → Bool) : Nat → Int32
  | 0 => 0
  | k + 1 => if c k = true then ndI c k ||| bitI k else ndI c k
/-- a bridge that is needed -/
def ndQ (A B W : Nat → Nat) (n sb k : Nat) : Bool := sb.testBit k && !wyB (edl (wyE A B W) (lessF' sb (2 ^ k)) n 0) (A k) (B k)
theorem e101 (M : Nat → Nat → Int32) {n : Nat} {A B W : Nat → Nat} (hw : wyC M n A B W) {sb : Nat} (hsb : sb < 256) (hS : sdB (M 44) n = nI sb) :
    C E (d + 4) 101 [vR 1 10 250] (M, L) = some (some (vI (ndI (ndQ A B W n sb) n)), (M, L)) := by
  have hn8 := hw.2.1
  have h : ∀ r k w4, k + r = n → X E (d + 3) me101 12 [some (vR 1 10 250), some (vI (nI sb)), some (vI (ndI (ndQ A B W n sb) k)), some (vI (nI k)), w4] [] (M, L) = some (some (vI (ndI (ndQ A B W n sb) n)), (M, L)) := by
    intro r
    induction r with
    | zero =>
      intro k w4 hk
      have e0 : k = n := by omega
      rw [x101_12, hw.1, e0, if_pos (nI_le (Nat.le_refl _) (by omega))]
    | succ r ih =>
      intro k w4 hk
      obtain ⟨h1, h2, h3, hA, hB, hW1, hW9⟩ := hw.2.2 k (by omega)
      have h1 : M (40 + 1) k = nI (A k) := h1
      have h2 : M (40 + 2) k = nI (B k) := h2
      have ih' := fun w => ih (k + 1) w (by omega)
      have st : ∀ b : Bool, ndQ A B W n sb k = b → ndI (ndQ A B W n sb) (k + 1) = if b = true then ndI (ndQ A B W n sb) k ||| bitI k else ndI (ndQ A B W n sb) k := fun b hb => by rw [ndI, hb]
      have hbt := bt_an k (by omega) sb (by omega)
      rw [x101_12, hw.1, if_neg (nI_ge (by omega) (by omega)), nI_1]
      cases hb : sb.testBit k with
      | false =>
        rw [hb] at hbt
        rw [if_pos (of_decide_eq_true hbt)]
        have := ih' (some (vI ((1 : Int32) <<< (nI k &&& 31))))
        rw [st false (by unfold ndQ; rw [hb]; rfl), if_neg (by decide)] at this
        exact this
      | true =>
        rw [hb] at hbt
        have hk2 : 2 ^ k < 512 := Nat.pow_lt_pow_right (a := 2) (m := k) (n := 9) (by omega) (by omega)
        obtain ⟨m, m1, m2, m3⟩ := free_b (a := sb) (u := 2 ^ k) (by omega)
        rw [if_neg (of_decide_eq_false hbt), e22_9 E (d + 1) M L 40 (by omega), bI_s, e22_10 E (d + 1) M L 40 (by omega), bI_s, h1, h2, bt_g k (by omega), m2, e99 E d L M hw m1 (S := lessF' sb (2 ^ k)) m3 hA hB, bI_s]
        cases q3 : wyB (edl (wyE A B W) (lessF' sb (2 ^ k)) n 0) (A k) (B k) with
        | true =>
          rw [if_neg (show ¬ (if true = true then (1 : Int32) else 0) = 0 by decide)]
          have := ih' (some (vI (nI (2 ^ k))))
          rw [st false (by unfold ndQ; rw [hb, q3]; rfl), if_neg (by decide)] at this
          exact this
        | false =>
          rw [if_pos (show (if false = true then (1 : Int32) else 0) = 0 by decide)]
          have := ih' (some (vI (nI (2 ^ k))))
          rw [st true (by unfold ndQ; rw [hb, q3]; rfl), if_pos rfl] at this
          unfold bitI at this
          rw [bt_g k (by omega)] at this
          exact this
  rw [x101, e30 E _ L M 40 hw.1 hn8, bI_s]
  have e4 : M (40 + 4) = M 44 := rfl
  rw [e4, hS]
  exact h n 0 none (by omega)
/-- the reference's sums -/
theorem l209 (M : Nat → Nat → Int32) {n : Nat} {A B W : Nat → Nat} (hr : wyR M n A B W) (hn8 : n ≤ 8) (hf : ∀ k, k < n → A k < 8 ∧ B k < 8 ∧ 1 ≤ W k ∧ W k ≤ 9) {m : Nat} (hm : m < 512) {S : Nat → Bool} (hS : ∀ b, b < 9 → m.testBit b = S b) (x1 x2 x4 : Int32) :
    ∀ r k (M1 : Nat → Nat → Int32) (D : Nat → Nat) w6, k + r = n → (∀ c, c ≠ 433 → M1 c = M c) → (∀ v, v < 8 → M1 433 v = nI (D v)) → (∀ v, D v ≤ 1000000) → ∃ M2 w6', X E (d + 2) me209 49 [some (vR 1 12 400), some (vI x1), some (vI x2), some (vI (nI m)), some (vI x4), some (vI (nI k)), w6] [] (M1, L) = X E (d + 2) me209 39 [some (vR 1 12 400), some (vI x1), some (vI x2), some (vI (nI m)), some (vI (x4 + 1)), some (vI (nI n)), w6'] [] (M2, L) ∧ (∀ c, c ≠ 433 → M2 c = M c) ∧ ∀ v, v < 8 → M2 433 v = nI (rnd (edl (wyE A B W) S r k) D v) := by
  intro r
  induction r with
  | zero =>
    intro k M1 D w6 hk hfr hD hD6
    have e : k = n := by omega
    refine ⟨M1, w6, ?_, hfr, hD⟩
    rw [x209_49, hfr 400 (by omega), hr.1, e, if_pos (nI_le (Nat.le_refl _) (by omega))]
  | succ r ih =>
    intro k M1 D w6 hk hfr hD hD6
    rw [x209_49, hfr 400 (by omega), hr.1, if_neg (nI_ge (by omega) (by omega)), e149b E _ L M1 (p := k) (x := m) (by omega) hm, bI_s, hS k (by omega), nI_1]
    cases hb : S k with
    | false =>
      rw [if_pos (show (if false = true then (1 : Int32) else 0) = 0 by decide), edl, if_neg (by rw [hb]; decide)]
      exact ih (k + 1) M1 D _ (by omega) hfr hD hD6
    | true =>
      obtain ⟨g1, g2, g3⟩ := hr.2 k (by omega)
      obtain ⟨hA, hB, hW1, hW9⟩ := hf k (by omega)
      have ibk : ib (nI k) 62 := by rw [ib_nI (by omega)]; omega
      have ibk8 : ib (nI k) 8 := by rw [ib_nI (by omega)]; omega
      have ixk := ix_nI (n := k) (by omega)
      have ibA : ib (nI (A k)) 8 := by rw [ib_nI (by omega)]; exact hA
      have ibB : ib (nI (B k)) 8 := by rw [ib_nI (by omega)]; exact hB
      have ixA := ix_nI (n := A k) (by omega)
      have ixB := ix_nI (n := B k) (by omega)
      have k410 : M1 410 k = nI (B k) := by rw [hfr 410 (by omega)]; exact g2
      have k409 : M1 409 k = nI (A k) := by rw [hfr 409 (by omega)]; exact g1
      have k401 : M1 401 k = nI (W k) := by rw [hfr 401 (by omega)]; exact g3
      have ew := w100' (W k) (by omega)
      have a1 := hD6 (A k)
      have a2 := hD6 (B k)
      have q0 : mnN (D (B k)) (D (A k) + (W k * 100 + 1)) ≤ 1000000 := Nat.le_trans mnN_l a2
      have q1 : ∀ v, updN D (B k) (mnN (D (B k)) (D (A k) + (W k * 100 + 1))) v ≤ 1000000 := fun v => by
        unfold updN
        split
        · exact q0
        · exact hD6 v
      have s1 : mn (M1 433 (A k) + nI (W k * 100 + 1)) (M1 433 (B k)) = nI (mnN (D (B k)) (D (A k) + (W k * 100 + 1))) := by
        rw [mn_comm, hD _ hA, hD _ hB, nI_add, mn_nI (by omega) (by omega)]
      have s2 := set_rel (b := B k) (x := mnN (D (B k)) (D (A k) + (W k * 100 + 1))) hD
      have u410 : u2 M1 433 (B k) (nI (mnN (D (B k)) (D (A k) + (W k * 100 + 1)))) 410 k = nI (B k) := by rw [u2_o (by omega)]; exact k410
      have u409 : u2 M1 433 (B k) (nI (mnN (D (B k)) (D (A k) + (W k * 100 + 1)))) 409 k = nI (A k) := by rw [u2_o (by omega)]; exact k409
      have s3 : mn (u2 M1 433 (B k) (nI (mnN (D (B k)) (D (A k) + (W k * 100 + 1)))) 433 (B k) + nI (W k * 100 + 1)) (u2 M1 433 (B k) (nI (mnN (D (B k)) (D (A k) + (W k * 100 + 1)))) 433 (A k)) = nI (rlx (wyE A B W k) D (A k)) := by
        rw [mn_comm, s2 _ hA, s2 _ hB, nI_add, mn_nI (by have := q1 (A k); omega) (by have := q1 (B k); omega)]
        exact (congrArg nI updN_s).symm
      rw [if_neg (show ¬ (if true = true then (1 : Int32) else 0) = 0 by decide), if_pos ibk, if_pos ibk8, if_pos ibk8, ixk]
      dsimp only
      simp only [k410, k409, k401, ew, if_pos ibB, if_pos ibk8, if_pos ibA, ixA, ixB]
      rw [e151, bI_s, s1]
      simp only [u409, u410, if_pos ibA, if_pos ibB, ixA, ixB]
      rw [e151, bI_s, s3]
      try simp only [if_pos ibA]
      rw [edl, if_pos hb]
      obtain ⟨M2, w6', e2, f2, D2⟩ := ih (k + 1) (u2 (u2 M1 433 (B k) (nI (mnN (D (B k)) (D (A k) + (W k * 100 + 1))))) 433 (A k) (nI (rlx (wyE A B W k) D (A k)))) (rlx (wyE A B W k) D) (some (vI (nI (W k * 100 + 1)))) (by omega) (fun c hc => by rw [u2_o hc, u2_o hc]; exact hfr c hc) (fun v hv => by
        have := set_rel (b := A k) (x := rlx (wyE A B W k) D (A k)) s2 v hv
        rw [this]
        unfold rlx wyE
        congr 1
        unfold updN
        by_cases q : v = A k
        · rw [if_pos q, if_pos q, if_pos rfl]
        · rw [if_neg q, if_neg q]) (fun v => Nat.le_trans (rlx_le _ _ _) (hD6 v))
      exact ⟨M2, w6', e2, f2, D2⟩
theorem e209 (M : Nat → Nat → Int32) {n : Nat} {A B W : Nat → Nat} (hr : wyR M n A B W) (hn8 : n ≤ 8) (hf : ∀ k, k < n → A k < 8 ∧ B k < 8 ∧ 1 ≤ W k ∧ W k ≤ 9) {m : Nat} (hm : m < 512) {S : Nat → Bool} (hS : ∀ b, b < 9 → m.testBit b = S b) {s e : Nat} (hs : s < 8) (he : e < 8) :
    ∃ M', C E (d + 3) 209 [vR 1 12 400, vI (nI s), vI (nI e), vI (nI m)] (M, L) = some (some (vI (nI (rnds (edl (wyE A B W) S n 0) 7 (wd0 s) e))), (M', L)) ∧ ∀ c, c ≠ 433 → M' c = M c := by
  have hes := wy_es (S := S) (n := n) hf
  have h2 : ∀ r j (M1 : Nat → Nat → Int32) w5 w6, j + r = 8 → (∀ c, c ≠ 433 → M1 c = M c) → (∀ v, v < 8 → M1 433 v = nI (rnds (edl (wyE A B W) S n 0) j (wd0 s) v)) → ∃ M', X E (d + 2) me209 39 [some (vR 1 12 400), some (vI (nI s)), some (vI (nI e)), some (vI (nI m)), some (vI (nI j)), w5, w6] [] (M1, L) = some (some (vI (nI (rnds (edl (wyE A B W) S n 0) 7 (wd0 s) e))), (M', L)) ∧ ∀ c, c ≠ 433 → M' c = M c := by
    intro r
    induction r with
    | zero =>
      intro j M1 w5 w6 hj hfr hD
      have ej : j = 8 := by omega
      subst ej
      refine ⟨M1, ?_, hfr⟩
      rw [x209_39, if_pos (show (8 : Int32) ≤ nI 8 by decide), if_pos (by rw [ib_nI (by omega)]; exact he), ix_nI (by omega), hD e he]
      have h7 := seven (d := wd0 s) (fun e he => ⟨(hes e he).1, (hes e he).2.1, (hes e he).2.2.1⟩) (s := s) (far := 1000000) (fun v => rfl) 1 e he
      rw [show (7 : Nat) + 1 = 8 from rfl] at h7
      rw [h7]
    | succ r ih =>
      intro j M1 w5 w6 hj hfr hD
      rw [x209_39, if_neg (show ¬ (8 : Int32) ≤ nI j from nI_ge (b := 8) (by omega) (by omega))]
      obtain ⟨M2, w6', e2, f2, D2⟩ := l209 E d L M hr hn8 hf hm hS (nI s) (nI e) (nI j) n 0 M1 _ w6 (by omega) hfr hD (fun v => rnds_b j v)
      have e2 : X E (d + 2) me209 49 [some (vR 1 12 400), some (vI (nI s)), some (vI (nI e)), some (vI (nI m)), some (vI (nI j)), some (vI (0 : Int32)), w6] [] (M1, L) = _ := e2
      rw [e2, nI_1]
      exact ih (j + 1) M2 _ _ (by omega) f2 D2
  have h1 : ∀ r p (M1 : Nat → Nat → Int32), p + r = 8 → (∀ c, c ≠ 433 → M1 c = M c) → (∀ v, v < p → M1 433 v = nI (wd0 s v)) → ∃ M', X E (d + 2) me209 3 [some (vR 1 12 400), some (vI (nI s)), some (vI (nI e)), some (vI (nI m)), some (vI (nI p)), none, none] [] (M1, L) = some (some (vI (nI (rnds (edl (wyE A B W) S n 0) 7 (wd0 s) e))), (M', L)) ∧ ∀ c, c ≠ 433 → M' c = M c := by
    intro r
    induction r with
    | zero =>
      intro p M1 hp hfr hD
      have ep : p = 8 := by omega
      subst ep
      rw [x209_3, if_pos (show (8 : Int32) ≤ nI 8 by decide)]
      exact h2 8 0 M1 none none (by omega) hfr hD
    | succ r ih =>
      intro p M1 hp hfr hD
      have e0 : (nI p = nI s) = (p = s) := nI_eqB (by omega) (by omega)
      rw [x209_3, if_neg (show ¬ (8 : Int32) ≤ nI p from nI_ge (b := 8) (by omega) (by omega)), if_pos (show ib (nI p) 8 by rw [ib_nI (by omega)]; omega), if_pos (show ib (nI p) 8 by rw [ib_nI (by omega)]; omega), ix_nI (by omega), nI_1]
      have nx : ∀ x, x = nI (wd0 s p) → ∃ M', X E (d + 2) me209 3 [some (vR 1 12 400), some (vI (nI s)), some (vI (nI e)), some (vI (nI m)), some (vI (nI (p + 1))), none, none] [] (u2 M1 433 p x, L) = some (some (vI (nI (rnds (edl (wyE A B W) S n 0) 7 (wd0 s) e))), (M', L)) ∧ ∀ c, c ≠ 433 → M' c = M c := fun x hx => by
        refine ih (p + 1) _ (by omega) (fun c hc => by rw [u2_o hc]; exact hfr c hc) (fun v hv => ?_)
        by_cases q : v = p
        · rw [q, u2_s]; exact hx
        · rw [u2_n q]; exact hD v (by omega)
      by_cases q : p = s
      · rw [if_pos (by rw [e0]; exact q)]
        exact nx _ (by unfold wd0; rw [if_pos q]; rfl)
      · rw [if_neg (by rw [e0]; exact q)]
        exact nx _ (by unfold wd0; rw [if_neg q]; rfl)
  rw [x209]
  exact h1 8 0 M (by omega) (fun _ _ => rfl) (fun v hv => absurd hv (by omega))
end WAYS2
