/-! a day in a county -/
section DAY
variable (E : Nat × (Nat → Int32)) (d : Nat) (L : Nat → Nat → Int64)
def tly (M : Nat → Nat → Int32) (o n p : Nat) : Nat → Nat → Int32 := if 0 ≤ (M (o + 9) p).toInt ∧ (M (o + 9) p).toInt < (n : Int) then (if (M (o + 6) p).toInt ≤ (M o 13).toInt then u2 M (o + 10) (ix (M (o + 9) p)) (M (o + 10) (ix (M (o + 9) p)) + 1) else u2 M (o + 11) (ix (M (o + 9) p)) (M (o + 11) (ix (M (o + 9) p)) + 1)) else M
theorem e27 (M : Nat → Nat → Int32) (o : Nat) {n p : Nat} (hn : M o 11 = nI n) (hn8 : n ≤ 8) (hp : p < 9) : C E (d + 2) 27 [vR 1 2 o, vI (nI p)] (M, L) = some (none, (tly M o n p, L)) := by
  have hib : ib (nI p) 9 := by rw [ib_nI (by omega)]; exact hp
  have hx := ix_nI (n := p) (by omega)
  rw [x27, if_pos hib, hx, e15, bI_s, hn, t_nI (by omega)]
  unfold tly
  by_cases h : 0 ≤ (M (o + 9) p).toInt ∧ (M (o + 9) p).toInt < (n : Int)
  · have hb : ib (M (o + 9) p) 8 := ⟨h.1, by omega⟩
    rw [if_neg (b1_ne ⟨h.1, h.2, by omega⟩), if_pos hib, if_pos h]
    simp only [t_lt, if_pos hb]
    by_cases h2 : (M (o + 6) p).toInt ≤ (M o 13).toInt
    · rw [if_neg (by omega), if_pos h2]
    · rw [if_pos (by omega), if_neg h2]
  · rw [if_pos (b1_e (fun q => h ⟨q.1, q.2.1⟩)), if_neg h]
def sFc (kf : (Nat → Int32) → Int32) (M : Nat → Nat → Int32) (o j : Nat) : Int32 := if 0 < (M (o + 4) j).toInt then mx 0 (M (o + 4) j - hel (kf (nmF (M (o + 3) j) (M (o + 10) j) (M (o + 11) j) (M (o + 5) j) (M o 14) (M (o + 4) j))) 20) else M (o + 4) j
theorem day3 (o : Nat) (ho : o + 11 < 90 ∨ 94 < o) {kf : (Nat → Int32) → Int32} {n h hm : Nat} (hn8 : n ≤ 8) (hm1 : hm ≤ h) (hm2 : hm ≤ n) (hm3 : hm = h ∨ hm = n) (lo : Int32) : ∀ (m k : Nat) (M : Nat → Nat → Int32) (w5 w6 : Option PV), k + m = 9 → LW E kf M → M o 11 = nI n →
    ∃ M', X E (d + 3) me29 182 [some (vR 1 2 o), some (vI lo), some (vI (nI h)), some (vR 1 3 90), some (vI (nI hm)), some (vI (nI k)), w5, w6] [] (M, L) = some (none, (M', L)) ∧ (∀ c, c ≠ o → c ≠ o + 4 → c ≠ 93 → c ≠ 94 → M' c = M c) ∧ (∀ j, j ≠ 14 → M' o j = M o j) ∧ M' o 14 = dayD (M o 14) ∧ ∀ j, M' (o + 4) j = if k ≤ j ∧ j < h ∧ j < n then sFc kf M o j else M (o + 4) j := by
  intro m
  induction m with
  | zero =>
    intro k M w5 w6 hk hl hn
    rw [x29_182, if_pos (show nI hm ≤ nI k from nI_le (by omega) (by omega))]
    have e6 : ((M o 14) < (6 : Int32)) = ((M o 14).toInt < 6) := by rw [t_lt, t_6]
    simp only [e6]
    refine ⟨u2 M o 14 (dayD (M o 14)), ?_, fun c h1 _ _ _ => u2_o h1, fun j hj => u2_n hj, u2_s, fun j => ?_⟩
    · unfold dayD; split <;> rfl
    · rw [if_neg (by omega), u2_o (by omega)]
  | succ m ih =>
    intro k M w5 w6 hk hl hn
    have e6 : ((M o 14) < (6 : Int32)) = ((M o 14).toInt < 6) := by rw [t_lt, t_6]
    rw [x29_182]
    by_cases hkh : hm ≤ k
    · rw [if_pos (show nI hm ≤ nI k from nI_le hkh (by omega))]
      simp only [e6]
      refine ⟨u2 M o 14 (dayD (M o 14)), ?_, fun c h1 _ _ _ => u2_o h1, fun j hj => u2_n hj, u2_s, fun j => ?_⟩
      · unfold dayD; split <;> rfl
      · rw [if_neg (by omega), u2_o (by omega)]
    have hib : ib (nI k) 8 := by rw [ib_nI (by omega)]; omega
    have hx := ix_nI (n := k) (by omega)
    rw [if_neg (show ¬ nI hm ≤ nI k from nI_ge (by omega) (by omega)), if_pos hib, hx, nI_1]
    by_cases hs : (M (o + 4) k).toInt ≤ 0
    · rw [if_pos (by rw [t_le, t_0]; exact hs)]
      obtain ⟨M', e, f1, f2, f3, f4⟩ := ih (k + 1) M w5 w6 (by omega) hl hn
      refine ⟨M', e, f1, f2, f3, fun j => ?_⟩
      rw [f4 j]
      by_cases hjk : j = k
      · rw [hjk, if_neg (by omega), if_pos (by omega)]
        unfold sFc
        rw [if_neg (by omega)]
      · by_cases hc : k ≤ j ∧ j < h ∧ j < n
        · rw [if_pos hc, if_pos (by omega)]
        · rw [if_neg hc, if_neg (by omega)]
    rw [if_neg (by rw [t_le, t_0]; exact hs), if_pos hib]
    obtain ⟨M1, e1, f1⟩ := e36 E d M L o ho hl hn hn8 (by omega : k < n)
    rw [e1, bI_s, e998, bI_s, if_pos hib]
    simp only
    generalize hv : mx 0 (M (o + 4) k - hel (kf (nmF (M (o + 3) k) (M (o + 10) k) (M (o + 11) k) (M (o + 5) k) (M o 14) (M (o + 4) k))) 20) = v
    have g : ∀ c, c ≠ o + 4 → c ≠ 93 → c ≠ 94 → u2 M1 (o + 4) k v c = M c := fun c h1 h2 h3 => by rw [u2_o h1, f1 c h2 h3]
    obtain ⟨M', e, q1, q2, q3, q4⟩ := ih (k + 1) (u2 M1 (o + 4) k v) w5 w6 (by omega) (hl.keep (g 90 (by omega) (by omega) (by omega)) (g 91 (by omega) (by omega) (by omega)) (g 92 (by omega) (by omega) (by omega))) (by rw [g o (by omega) (by omega) (by omega)]; exact hn)
    have go := g o (by omega) (by omega) (by omega)
    refine ⟨M', e, fun c h1 h2 h3 h4 => (q1 c h1 h2 h3 h4).trans (g c h2 h3 h4), fun j hj => by rw [q2 j hj, go], by rw [q3, go], fun j => ?_⟩
    have g4 : ∀ j, j ≠ k → u2 M1 (o + 4) k v (o + 4) j = M (o + 4) j := fun j hj => by rw [u2_n hj, f1 (o + 4) (by omega) (by omega)]
    rw [q4 j]
    by_cases hjk : j = k
    · rw [hjk, if_neg (by omega), if_pos (by omega), u2_s, ← hv]
      unfold sFc
      rw [if_pos (by omega)]
    · have es : sFc kf (u2 M1 (o + 4) k v) o j = sFc kf M o j := by
        unfold sFc
        rw [g4 j hjk, g (o + 3) (by omega) (by omega) (by omega), g (o + 10) (by omega) (by omega) (by omega), g (o + 11) (by omega) (by omega) (by omega), g (o + 5) (by omega) (by omega) (by omega), go]
      rw [g4 j hjk, es]
      by_cases hc : k ≤ j ∧ j < h ∧ j < n
      · rw [if_pos hc, if_pos (by omega)]
      · rw [if_neg hc, if_neg (by omega)]
def selP (lo : Int32) (h : Nat) (T : TS) (p : Nat) : Prop := lo.toInt ≤ (tE T p).toInt ∧ (tE T p).toInt < (h : Int)
def hF (P : TP) (T : TS) (k : Nat) : Nat → Bool := fun p => decide (tE T p = nI k ∧ (tM T p).toInt ≤ (pPr P).toInt)
def rF (P : TP) (T : TS) (k : Nat) : Nat → Bool := fun p => decide (tE T p = nI k ∧ ¬ (tM T p).toInt ≤ (pPr P).toInt)
def I2 (P : TP) (T : TS) (o h : Nat) (lo : Int32) (M0 : Nat → Nat → Int32) (b : Nat) (M : Nat → Nat → Int32) : Prop := (∀ c, c ≠ o + 6 → c ≠ o + 10 → c ≠ o + 11 → M c = M0 c) ∧ (∀ p, (p < b ∧ selP lo h T p → M (o + 6) p = dayM P T p) ∧ (¬ (p < b ∧ selP lo h T p) → M (o + 6) p = M0 (o + 6) p)) ∧ ∀ k, k < pN P → lo.toInt ≤ (k : Int) → k < h → M (o + 10) k = nI (cnt b (hF P T k)) ∧ M (o + 11) k = nI (cnt b (rF P T k))
theorem cnt_s {b : Nat} {f : Nat → Bool} : cnt (b + 1) f = cnt b f + (if f b then 1 else 0) := rfl
set_option maxHeartbeats 4000000 in
theorem day2 (o : Nat) {P : TP} {T : TS} {M0 : Nat → Nat → Int32} (hC : CH M0 o P T) (hn8 : pN P ≤ 8) (hg9 : pG P ≤ 9) {lo : Int32} {h : Nat} (hh : h ≤ 8) (hm : Nat) {v0 : Int32} (hv0 : mx lo 0 = v0) : ∀ (m b : Nat) (M : Nat → Nat → Int32) (w5 w6 : Option PV), b + m = pG P → I2 P T o h lo M0 b M →
    ∃ M' w5' w6', X E (d + 3) me29 54 [some (vR 1 2 o), some (vI lo), some (vI (nI h)), some (vR 1 3 90), some (vI (nI hm)), some (vI (nI b)), w5, w6] [] (M, L) = X E (d + 3) me29 182 [some (vR 1 2 o), some (vI lo), some (vI (nI h)), some (vR 1 3 90), some (vI (nI hm)), some (vI v0), w5', w6'] [] (M', L) ∧ I2 P T o h lo M0 (pG P) M' := by
  obtain ⟨c1, c2, c3, c4, c5, c6⟩ := hC
  intro m
  induction m with
  | zero =>
    intro b M w5 w6 hb hI
    have e0 := hI.1 o (by omega) (by omega) (by omega)
    refine ⟨M, w5, w6, ?_, by rw [← hb, Nat.add_zero]; exact hI⟩
    rw [x29_54, e0, c2, if_pos (show nI (pG P) ≤ nI b from nI_le (by omega) (by omega)), e998, bI_s, hv0]
  | succ m ih =>
    intro b M w5 w6 hb hI
    have e0 := hI.1 o (by omega) (by omega) (by omega)
    have e9 := hI.1 (o + 9) (by omega) (by omega) (by omega)
    obtain ⟨b1', b2', b3', b4'⟩ := c6 b (by omega)
    have hib : ib (nI b) 9 := by rw [ib_nI (by omega)]; omega
    have hx := ix_nI (n := b) (by omega)
    have hM6 : M (o + 6) b = tM T b := by rw [(hI.2.1 b).2 (by omega)]; exact b1'
    have hM8 : M (o + 8) b = pSd P b := by rw [hI.1 (o + 8) (by omega) (by omega) (by omega)]; exact b3'
    have hM7 : M (o + 7) b = pAs P b := by rw [hI.1 (o + 7) (by omega) (by omega) (by omega)]; exact b2'
    have hMe : M (o + 9) b = tE T b := by rw [e9]; exact b4'
    have hM13 : M o 13 = pPr P := by rw [e0]; exact c3
    have hMn : M o 11 = nI (pN P) := by rw [e0]; exact c1
    rw [x29_54, e0, c2, if_neg (show ¬ nI (pG P) ≤ nI b from nI_ge (by omega) (by omega)), if_neg (show ¬ (9 : Int32) ≤ nI b from nI_ge (b := 9) (by omega) (by omega)), if_pos hib, hx, hMe, nI_1]
    simp only [t_lt, t_le]
    rw [t_nI (by omega : h < 2147483648)]
    by_cases hs : selP lo h T b
    · rw [if_neg (by have := hs.1; omega), if_neg (by have := hs.2; omega), e27 E (d + 1) L M o hMn hn8 (by omega), bV_s, e15, bI_s]
      generalize hv : dayM P T b = v
      -- what comes next, for the state behind the tally
      have next : ∀ M1 : Nat → Nat → Int32, (∀ c, c ≠ o + 10 → c ≠ o + 11 → M1 c = M c) → (∀ k, k < pN P → lo.toInt ≤ (k : Int) → k < h → M1 (o + 10) k = nI (cnt (b + 1) (hF P T k)) ∧ M1 (o + 11) k = nI (cnt (b + 1) (rF P T k))) → I2 P T o h lo M0 (b + 1) (u2 M1 (o + 6) b v) := by
        intro M1 g1 g2
        refine ⟨fun c q1 q2 q3 => by rw [u2_o q1, g1 c q2 q3, hI.1 c q1 q2 q3], fun p => ⟨fun q => ?_, fun q => ?_⟩, fun k q1 q2 q3 => ?_⟩
        · by_cases e : p = b
          · rw [e, u2_s, hv]
          · rw [u2_n e, g1 (o + 6) (by omega) (by omega)]
            exact (hI.2.1 p).1 ⟨by omega, q.2⟩
        · have e : p ≠ b := fun e => q ⟨by omega, by rw [e]; exact hs⟩
          rw [u2_n e, g1 (o + 6) (by omega) (by omega)]
          exact (hI.2.1 p).2 (fun w => q ⟨by omega, w.2⟩)
        · rw [u2_o (by omega), u2_o (by omega)]
          exact g2 k q1 q2 q3
      by_cases hin : 0 ≤ (tE T b).toInt ∧ (tE T b).toInt < (pN P : Int)
      · obtain ⟨k, hk, hek⟩ := nI_ex (n := pN P) hin.1 hin.2
        have hkx := ix_nI (n := k) (by omega)
        have hkt : (tE T b).toInt = (k : Int) := by rw [hek, t_nI (by omega)]
        have hkib : ib (tE T b) 8 := ⟨hin.1, by omega⟩
        have hkh : k < h := by have := hs.2; omega
        have hkl : lo.toInt ≤ (k : Int) := by have := hs.1; omega
        have hT : ∀ c, c ≠ o + 10 → c ≠ o + 11 → tly M o (pN P) b c = M c := by
          intro c q1 q2
          unfold tly
          (repeat' split) <;> first | rfl | exact u2_o (by omega)
        have hM4 : M (o + 4) k = tS T k := by rw [hI.1 (o + 4) (by omega) (by omega) (by omega)]; exact (c5 k hk).2.1
        have hM5 : M (o + 5) k = pAl P k := by rw [hI.1 (o + 5) (by omega) (by omega) (by omega)]; exact (c5 k hk).2.2
        have hcn : ∀ k', k' < pN P → lo.toInt ≤ (k' : Int) → k' < h → tly M o (pN P) b (o + 10) k' = nI (cnt (b + 1) (hF P T k')) ∧ tly M o (pN P) b (o + 11) k' = nI (cnt (b + 1) (rF P T k')) := by
          intro k' q1 q2 q3
          obtain ⟨i1, i2⟩ := hI.2.2 k' q1 q2 q3
          have hek' : (tE T b = nI k') = (k' = k) := by
            rw [hek, nI_eqB (by omega) (by omega)]
            exact propext ⟨fun q => q.symm, fun q => q.symm⟩
          have hfb : hF P T k' b = decide (k' = k ∧ (tM T b).toInt ≤ (pPr P).toInt) := by unfold hF; simp only [hek']
          have rfb : rF P T k' b = decide (k' = k ∧ ¬ (tM T b).toInt ≤ (pPr P).toInt) := by unfold rF; simp only [hek']
          unfold tly
          rw [hMe, if_pos hin, hek, hkx, hM6, hM13, cnt_s, cnt_s, hfb, rfb]
          by_cases hp : (tM T b).toInt ≤ (pPr P).toInt
          · rw [if_pos hp, u2_o (c := o + 11) (by omega)]
            by_cases e : k' = k
            · subst e
              rw [u2_s, i1, i2, nI_1]
              constructor <;> simp [hp]
            · rw [u2_n e, i1, i2]
              constructor <;> simp [e]
          · rw [if_neg hp, u2_o (c := o + 10) (by omega)]
            by_cases e : k' = k
            · subst e
              rw [u2_s, i1, i2, nI_1]
              constructor <;> simp [hp]
            · rw [u2_n e, i1, i2]
              constructor <;> simp [e]
        have hI' := next (tly M o (pN P) b) hT hcn
        have h11 : tly M o (pN P) b o 11 = nI (pN P) := by rw [hT o (by omega) (by omega)]; exact hMn
        rw [h11, t_nI (by omega), if_neg (b1_ne ⟨hin.1, hin.2, by omega⟩), if_pos hkib]
        simp only [hT (o + 4) (by omega) (by omega), hT (o + 5) (by omega) (by omega), hT (o + 6) (by omega) (by omega), hT (o + 7) (by omega) (by omega), hT (o + 8) (by omega) (by omega), hek, hkx, hM4, hM5, hM6, hM7, hM8, t_0, if_pos hib]
        by_cases hS : (tS T k).toInt ≤ 0
        · rw [if_pos hS, e147, bI_s]
          have : hel (tM T b + 0 - pSd P b) 99 = v := by
            rw [← hv]
            unfold dayM gts
            rw [hek, hkx, if_neg (fun q => by have := q.2.2; omega)]
          rw [this]
          simp only
          exact ih (b + 1) _ _ _ (by omega) hI'
        · rw [if_neg hS, if_pos (by rw [ib_nI (by omega)]; omega), e997, bI_s]
          simp only [hT (o + 6) (by omega) (by omega), hT (o + 8) (by omega) (by omega), hM6, hM8]
          rw [e147, bI_s]
          have : hel (tM T b + mn (pAl P k) (pAs P b) - pSd P b) 99 = v := by
            rw [← hv]
            unfold dayM gts
            rw [hek, hkx, if_pos ⟨by rw [t_nI (by omega)]; omega, by rw [t_nI (by omega)]; omega, by omega⟩]
          rw [this]
          simp only
          exact ih (b + 1) _ _ _ (by omega) hI'
      · have hT : tly M o (pN P) b = M := by
          unfold tly
          rw [hMe, if_neg hin]
        rw [hT, hMn, t_nI (by omega), if_pos (b1_e (fun q => hin ⟨q.1, q.2.1⟩))]
        simp only [if_pos hib, hM6, hM8]
        rw [e147, bI_s]
        have : hel (tM T b + 0 - pSd P b) 99 = v := by
          rw [← hv]
          unfold dayM gts
          rw [if_neg (fun q => hin ⟨q.1, q.2.1⟩)]
        rw [this]
        simp only
        refine ih (b + 1) _ _ _ (by omega) (next M (fun _ _ _ => rfl) (fun k q1 q2 q3 => ?_))
        obtain ⟨i1, i2⟩ := hI.2.2 k q1 q2 q3
        have hne : ¬ tE T b = nI k := fun e => hin (by rw [e, t_nI (by omega)]; omega)
        rw [i1, i2, cnt_s, cnt_s]
        unfold hF rF
        simp [hne]
    · have hsk : ∃ w5' w6', (if (tE T b).toInt < lo.toInt then X E (d + 3) me29 54 [some (vR 1 2 o), some (vI lo), some (vI (nI h)), some (vR 1 3 90), some (vI (nI hm)), some (vI (nI (b + 1))), some (vI (tE T b)), w6] [] (M, L) else X E (d + 3) me29 54 [some (vR 1 2 o), some (vI lo), some (vI (nI h)), some (vR 1 3 90), some (vI (nI hm)), some (vI (nI (b + 1))), some (vI (tE T b)), w6] [] (M, L)) = X E (d + 3) me29 54 [some (vR 1 2 o), some (vI lo), some (vI (nI h)), some (vR 1 3 90), some (vI (nI hm)), some (vI (nI (b + 1))), w5', w6'] [] (M, L) := ⟨some (vI (tE T b)), w6, by split <;> rfl⟩
      have hIn : I2 P T o h lo M0 (b + 1) M := by
        refine ⟨hI.1, fun p => ⟨fun q => ?_, fun q => ?_⟩, fun k q1 q2 q3 => ?_⟩
        · have e : p ≠ b := fun e => hs (by rw [← e]; exact q.2)
          exact (hI.2.1 p).1 ⟨by omega, q.2⟩
        · exact (hI.2.1 p).2 (fun w => q ⟨by omega, w.2⟩)
        · obtain ⟨i1, i2⟩ := hI.2.2 k q1 q2 q3
          have hne : ¬ tE T b = nI k := fun e => hs (by unfold selP; rw [e, t_nI (by omega)]; omega)
          rw [i1, i2, cnt_s, cnt_s]
          unfold hF rF
          simp [hne]
      obtain ⟨M', w5', w6', e, hI'⟩ := ih (b + 1) M (some (vI (tE T b))) w6 (by omega) hIn
      refine ⟨M', w5', w6', ?_, hI'⟩
      rw [← e]
      by_cases h1 : (tE T b).toInt < lo.toInt
      · rw [if_pos h1]
      · have h2 : (h : Int) ≤ (tE T b).toInt := by
          by_cases h2 : (h : Int) ≤ (tE T b).toInt
          · exact h2
          · exact absurd ⟨by omega, by omega⟩ hs
        rw [if_neg h1, if_pos h2]
end DAY
