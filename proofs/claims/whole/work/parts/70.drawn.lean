/-! counties drawn by lot -/
theorem t_us (x s : Int32) (k : Nat) (hs : ((s.toUInt32 &&& Int32.toUInt32 31).toBitVec % 32).toNat = k) (hk : 1 ≤ k) : 0 ≤ (us32 x s).toInt := by
  have h := pk_ushr x s k hs
  have h1 := x.toBitVec.isLt
  have h2 : (us32 x s).toBitVec.toNat = x.toBitVec.toNat / 2 ^ k := h
  have h3 : x.toBitVec.toNat / 2 ^ k ≤ x.toBitVec.toNat / 2 ^ 1 := Nat.div_le_div_left (Nat.pow_le_pow_right (by omega) hk) (by omega)
  have h4 : (us32 x s).toInt = ((us32 x s).toBitVec.toNat : Int) := BitVec.toInt_eq_toNat_of_lt (by omega)
  omega
theorem t_divn {a : Int32} (ha : a.toInt < 0) : (a / 10000).toInt ≤ 0 := by
  have h0 := t_lo a
  have e : (-a.toInt).tdiv 10000 = (-a.toInt) / 10000 := Int.tdiv_eq_ediv_of_nonneg (by omega)
  have e2 : a.toInt.tdiv 10000 = -((-a.toInt) / 10000) := by
    rw [← e, Int.neg_tdiv, Int.neg_neg]
  rw [Int32.toInt_div, show (10000 : Int32).toInt = 10000 from by decide, e2, t_bm (by omega) (by omega)]
  omega
theorem or_tb : ∀ k, k < 8 → ∀ m, m < 256 → ∀ b, b < 8 → (m ||| 2 ^ k).testBit b = (m.testBit b || b == k) := by decide +kernel
theorem sh_tb : ∀ b, b < 8 → ∀ m, m < 256 → (nI m >>> (nI b &&& 31)) &&& 1 = if m.testBit b then 1 else 0 := by decide +kernel
theorem sd_tb (S : Nat → Int32) : ∀ n, n ≤ 8 → ∃ m, m < 2 ^ n ∧ sdB S n = nI m ∧ ∀ b, b < n → m.testBit b = decide (0 < (S b).toInt)
  | 0, _ => ⟨0, by omega, rfl, fun b hb => absurd hb (by omega)⟩
  | n + 1, h => by
    obtain ⟨m, hm, e, hb⟩ := sd_tb S n (by omega)
    have h2 : 2 ^ n ≤ 2 ^ 7 := Nat.pow_le_pow_right (by omega) (by omega)
    have h3 : 2 ^ (n + 1) = 2 ^ n * 2 := Nat.pow_succ _ _
    have hz : m.testBit n = false := Nat.testBit_lt_two_pow hm
    unfold sdB
    by_cases q : 0 < (S n).toInt
    · rw [if_pos q]
      refine ⟨m ||| 2 ^ n, Nat.or_lt_two_pow (by omega) (by omega), ?_, fun b hb2 => ?_⟩
      · rw [e, or_bit n (by omega) m (by omega)]
      · rw [or_tb n (by omega) m (by omega) b (by omega)]
        by_cases e2 : b = n
        · subst e2
          rw [hz, decide_eq_true q]
          simp
        · rw [hb b (by omega)]
          have : (b == n) = false := by simp [e2]
          rw [this, Bool.or_false]
    · rw [if_neg q]
      refine ⟨m, by omega, e, fun b hb2 => ?_⟩
      by_cases e2 : b = n
      · subst e2
        rw [hz, decide_eq_false q]
      · exact hb b (by omega)
theorem sd_bit (S : Nat → Int32) {n b : Nat} (hn : n ≤ 8) (hb : b < n) : (sdB S n >>> (nI b &&& 31)) &&& 1 = if 0 < (S b).toInt then 1 else 0 := by
  obtain ⟨m, hm, e, h⟩ := sd_tb S n hn
  have h2 : 2 ^ n ≤ 2 ^ 8 := Nat.pow_le_pow_right (by omega) hn
  rw [e, sh_tb b (by omega) m (by omega), h b hb]
  by_cases q : 0 < (S b).toInt
  · rw [decide_eq_true q, if_pos rfl, if_pos q]
  · rw [decide_eq_false q, if_neg (by decide), if_neg q]
/-- the lot's next number; what a gift does -/
def zN (z : Int32) : Int32 := z * (1103515245 : Int32) + (12345 : Int32)
def gvT (T : TS) (z : Int32) (q : Nat) : TS := altM T q (hel (tM T q + rm32 (us32 z (16 : Int32)) (30 : Int32)) 99)
def whoZ (z : Int32) (g : Nat) : Nat := (rm32 (us32 z (8 : Int32)) (nI g)).toInt.toNat
def gift (luck : Int32) (g : Nat) (z : Int32) (T : TS) : TS := if luck ≤ rm32 (us32 z (24 : Int32)) (12 : Int32) then T else if g = 0 then T else gvT T z (whoZ z g)
theorem who_lt (z : Int32) {g : Nat} (hg : g ≤ 9) (h0 : g ≠ 0) : whoZ z g < g ∧ rm32 (us32 z (8 : Int32)) (nI g) = nI (whoZ z g) := by
  have h1 := t_us z 8 8 (by decide) (by decide)
  have h2 := t_rem h1 (b := nI g) (by rw [t_nI (by omega)]; omega)
  rw [t_nI (by omega)] at h2
  have h3 := Int.emod_nonneg (us32 z 8).toInt (show (g : Int) ≠ 0 by omega)
  have h4 := Int.emod_lt_of_pos (us32 z 8).toInt (show (0 : Int) < g by omega)
  unfold whoZ
  refine ⟨by omega, ?_⟩
  rw [t_eq, t_nI (by omega)]
  omega
/-- r days from the lot z -/
def dz (zf : Int32 → Int32) (P : TP) (luck : Int32) : Nat → Int32 → TS → Int32 × TS
  | 0, z, T => (z, T)
  | r + 1, z, T => dz zf P luck r (zf z) (dayA P (gift luck (pG P) (zf z) T))
def acz (zf : Int32 → Int32) (P : TP) (luck : Int32) (m : Nat) (T : TS) (ct : TS → Int32) : Nat → Int32 → Int32 → Int32
  | 0, _, a => a
  | r + 1, z, a => acz zf P luck m T ct r (dz zf P luck m z T).1 (a + ct (dz zf P luck m z T).2)
theorem gv_rng {P : TP} {T : TS} (h : rngT P T) (luck z : Int32) (g : Nat) : rngT P (gift luck g z T) := by
  unfold gift
  split
  · exact h
  · split
    · exact h
    · refine ⟨h.1, fun p hp => ?_, h.2.2⟩
      show 0 ≤ (if p = whoZ z g then hel (tM T (whoZ z g) + rm32 (us32 z (16 : Int32)) (30 : Int32)) 99 else tM T p).toInt ∧ (if p = whoZ z g then hel (tM T (whoZ z g) + rm32 (us32 z (16 : Int32)) (30 : Int32)) 99 else tM T p).toInt ≤ 99
      by_cases e : p = whoZ z g
      · rw [if_pos e]
        have := hel_rng (tM T (whoZ z g) + rm32 (us32 z (16 : Int32)) (30 : Int32)) 99 (by decide)
        rw [t_99] at this
        exact this
      · rw [if_neg e]; exact h.2.1 p hp
theorem gv_seat {T : TS} (luck z : Int32) (g : Nat) : tE (gift luck g z T) = tE T := by
  unfold gift
  split
  · rfl
  · split
    · rfl
    · rfl
section DRAWN
variable (E : Nat × (Nat → Int32)) (d : Nat) (L : Nat → Nat → Int64)
/-- the class's days of one county -/
theorem l92d (zf : Int32 → Int32) (hz : ∀ z : Int32, z * (1103515245 : Int32) + (12345 : Int32) = zf z) (M : Nat → Nat → Int32) {P : TP} (hn8 : pN P ≤ 8) (hg9 : pG P ≤ 9) (hl : LW E (pK P) M) (Rel : TS → TS → Prop) {luck x1 x2 x5 x6 x7 : Int32} {m : Nat} (hm : m ≤ 60)
    (hstep : ∀ (M1 : Nat → Nat → Int32) T1 T2, LW E (pK P) M1 → CH M1 140 P T1 → Rel T1 T2 → seatsOk P T2 → ∃ M2 T1', C E (d + 4) 29 [vR 1 2 140, vI x6, vI x7, vR 1 3 90] (M1, L) = some (none, (M2, L)) ∧ (∀ c, ¬ fT c → M2 c = M1 c) ∧ CH M2 140 P T1' ∧ Rel T1' (dayA P T2))
    (hgift : ∀ T1 T2 z q, q < pG P → Rel T1 T2 → Rel (gvT T1 z q) (gvT T2 z q)) :
    ∀ r k z c x8 (M1 : Nat → Nat → Int32) T1 T2, k + r = m → (∀ c, ¬ fT c → M1 c = M c) → CH M1 140 P T1 → Rel T1 T2 → seatsOk P T2 → ∃ M2 T1', X E (d + 4) me92 65 [some (vR 1 8 110), some (vI x1), some (vI x2), some (vI (nI m)), some (vI luck), some (vI x5), some (vI x6), some (vI x7), some (vI x8), some (vI z), some (vI c), some (vI (nI k))] [] (M1, L) = X E (d + 4) me92 65 [some (vR 1 8 110), some (vI x1), some (vI x2), some (vI (nI m)), some (vI luck), some (vI x5), some (vI x6), some (vI x7), some (vI x8), some (vI (dz zf P luck r z T2).1), some (vI c), some (vI (nI m))] [] (M2, L) ∧ (∀ c, ¬ fT c → M2 c = M c) ∧ CH M2 140 P T1' ∧ Rel T1' (dz zf P luck r z T2).2 ∧ seatsOk P (dz zf P luck r z T2).2 := by
  intro r
  induction r with
  | zero =>
    intro k z c x8 M1 T1 T2 hk hf hC hr hse
    have e : k = m := by omega
    subst e
    exact ⟨M1, T1, rfl, hf, hC, hr, hse⟩
  | succ r ih =>
    intro k z c x8 M1 T1 T2 hk hf hC hr hse
    have hlw : ∀ M3 : Nat → Nat → Int32, (∀ c, ¬ fT c → M3 c = M c) → LW E (pK P) M3 := fun M3 h3 => LW_T E hl h3
    have hse' : seatsOk P (dayA P (gift luck (pG P) (zf z) T2)) := fun p hp => by
      show -1 ≤ (tE (gift luck (pG P) (zf z) T2) p).toInt ∧ (tE (gift luck (pG P) (zf z) T2) p).toInt < _
      rw [gv_seat]; exact hse p hp
    have hse1 : seatsOk P (gift luck (pG P) (zf z) T2) := fun p hp => by rw [gv_seat]; exact hse p hp
    have hg12 : M1 140 12 = nI (pG P) := hC.2.1
    have fin : ∀ (M3 : Nat → Nat → Int32) T3, (∀ c, ¬ fT c → M3 c = M c) → CH M3 140 P T3 → Rel T3 (gift luck (pG P) (zf z) T2) → ∃ M2 T1', (bV (C E (d + 4) 29 [vR 1 2 140, vI x6, vI x7, vR 1 3 90] (M3, L)) fun s => X E (d + 4) me92 65 [some (vR 1 8 110), some (vI x1), some (vI x2), some (vI (nI m)), some (vI luck), some (vI x5), some (vI x6), some (vI x7), some (vI x8), some (vI (zf z)), some (vI c), some (vI (nI (k + 1)))] [] s) = X E (d + 4) me92 65 [some (vR 1 8 110), some (vI x1), some (vI x2), some (vI (nI m)), some (vI luck), some (vI x5), some (vI x6), some (vI x7), some (vI x8), some (vI (dz zf P luck (r + 1) z T2).1), some (vI c), some (vI (nI m))] [] (M2, L) ∧ (∀ c, ¬ fT c → M2 c = M c) ∧ CH M2 140 P T1' ∧ Rel T1' (dz zf P luck (r + 1) z T2).2 ∧ seatsOk P (dz zf P luck (r + 1) z T2).2 := by
      intro M3 T3 g1 g2 g3
      obtain ⟨M4, T4, e4, f4, c4, r4⟩ := hstep M3 T3 _ (hlw M3 g1) g2 g3 hse1
      obtain ⟨M5, T5, e5, f5⟩ := ih (k + 1) (zf z) c x8 M4 T4 (dayA P (gift luck (pG P) (zf z) T2)) (by omega) (fun c hc => (f4 c hc).trans (g1 c hc)) c4 r4 hse'
      exact ⟨M5, T5, by rw [e4, bV_s, e5]; rfl, f5⟩
    have gift1 : (luck ≤ rm32 (us32 (zf z) (24 : Int32)) (12 : Int32) ∨ pG P = 0) → gift luck (pG P) (zf z) T2 = T2 := fun h => by
      unfold gift
      rcases h with h | h
      · rw [if_pos h]
      · rw [if_pos h]
        split <;> rfl
    rw [x92_65, if_neg (nI_ge (by omega) (by omega)), hz, x92_82, nI_1, hg12]
    by_cases h1 : luck ≤ rm32 (us32 (zf z) (24 : Int32)) (12 : Int32)
    · rw [if_pos h1]
      exact fin M1 T1 hf hC (by rw [gift1 (Or.inl h1)]; exact hr)
    · rw [if_neg h1]
      by_cases h2 : pG P = 0
      · rw [if_pos (show nI (pG P) ≤ 0 by rw [h2]; decide)]
        exact fin M1 T1 hf hC (by rw [gift1 (Or.inr h2)]; exact hr)
      · obtain ⟨hq, eq⟩ := who_lt (zf z) hg9 h2
        rw [if_neg (show ¬ nI (pG P) ≤ 0 from nI_ge (b := pG P) (a := 0) (by omega) (by omega)), if_neg (show ¬ nI (pG P) = 0 from fun q => h2 (nI_inj (b := 0) (by omega) (by omega) q)), eq, e24_3 E _ M1 L 140 _ (by omega), bI_s]
        have htm : M1 (140 + 6) (whoZ (zf z) (pG P)) = tM T1 (whoZ (zf z) (pG P)) := (hC.2.2.2.2.2 _ hq).1
        rw [htm]
        refine fin _ (gvT T1 (zf z) (whoZ (zf z) (pG P))) (fun c hc => by rw [u2_o (by unfold fT at hc; omega)]; exact hf c hc) (chM hC (fun c _ _ q => u2_o q) (fun j _ => by rw [u2_ap, if_pos rfl])) ?_
        unfold gift
        rw [if_neg h1, if_neg h2]
        exact hgift T1 T2 _ _ hq hr
end DRAWN
