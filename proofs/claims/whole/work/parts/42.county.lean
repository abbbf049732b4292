/-! the county as a whole: a day, a copy, tallies, sums -/
theorem CH.keep9 {M M' : Nat → Nat → Int32} {o : Nat} {P : TP} {T : TS} (h : CH M o P T) (hk : ∀ c, o ≤ c → c ≤ o + 9 → M' c = M c) : CH M' o P T := by
  obtain ⟨h1, h2, h3, h4, h5, h6⟩ := h
  have e0 := hk o (by omega) (by omega)
  refine ⟨by rw [e0]; exact h1, by rw [e0]; exact h2, by rw [e0]; exact h3, by rw [e0]; exact h4, fun k hk' => ?_, fun p hp => ?_⟩
  · rw [hk (o + 3) (by omega) (by omega), hk (o + 4) (by omega) (by omega), hk (o + 5) (by omega) (by omega)]
    exact h5 k hk'
  · rw [hk (o + 6) (by omega) (by omega), hk (o + 7) (by omega) (by omega), hk (o + 8) (by omega) (by omega), hk (o + 9) (by omega) (by omega)]
    exact h6 p hp
theorem mx_lo {lo : Int32} : mx lo 0 = nI lo.toInt.toNat := by
  have h1 := t_hi lo
  apply Int32.toInt_inj.mp
  rw [t_mx, t_0, t_nI (by omega)]
  split <;> omega
theorem c2_i {M : Nat → Nat → Int32} {a b n i : Nat} (h : i < n) : c2 M a b 0 0 n b i = M a i := by
  rw [c2_ap, if_pos rfl, if_pos (by omega)]
  simp
section COUNTY2
variable (E : Nat × (Nat → Int32)) (d : Nat) (L : Nat → Nat → Int64)
theorem day1 (o : Nat) {n h hm : Nat} (hn8 : n ≤ 8) (hm1 : hm ≤ h) (hm2 : hm ≤ n) (hm3 : hm = h ∨ hm = n) (lo : Int32) : ∀ (m k : Nat) (M : Nat → Nat → Int32) (w5 w6 : Option PV), k + m = 9 →
    ∃ M', X E (d + 3) me29 22 [some (vR 1 2 o), some (vI lo), some (vI (nI h)), some (vR 1 3 90), some (vI (nI hm)), some (vI (nI k)), w5, w6] [] (M, L) = X E (d + 3) me29 54 [some (vR 1 2 o), some (vI lo), some (vI (nI h)), some (vR 1 3 90), some (vI (nI hm)), some (vI (nI 0)), w5, w6] [] (M', L) ∧ (∀ c, c ≠ o + 10 → c ≠ o + 11 → M' c = M c) ∧ (∀ j, j < k → M' (o + 10) j = M (o + 10) j ∧ M' (o + 11) j = M (o + 11) j) ∧ ∀ j, k ≤ j → j < h → j < n → M' (o + 10) j = 0 ∧ M' (o + 11) j = 0 := by
  intro m
  induction m with
  | zero =>
    intro k M w5 w6 hk
    rw [x29_22, if_pos (show nI hm ≤ nI k from nI_le (by omega) (by omega))]
    exact ⟨M, rfl, fun _ _ _ => rfl, fun _ _ => ⟨rfl, rfl⟩, fun j h1 h2 h3 => absurd h1 (by omega)⟩
  | succ m ih =>
    intro k M w5 w6 hk
    rw [x29_22]
    by_cases hkh : hm ≤ k
    · rw [if_pos (show nI hm ≤ nI k from nI_le hkh (by omega))]
      exact ⟨M, rfl, fun _ _ _ => rfl, fun _ _ => ⟨rfl, rfl⟩, fun j h1 h2 h3 => absurd h1 (by omega)⟩
    have hib : ib (nI k) 8 := by rw [ib_nI (by omega)]; omega
    have hx := ix_nI (n := k) (by omega)
    rw [if_neg (show ¬ nI hm ≤ nI k from nI_ge (by omega) (by omega)), if_pos hib, if_pos hib, hx, nI_1]
    obtain ⟨M', e, f1, f2, f3⟩ := ih (k + 1) (u2 (u2 M (o + 10) k 0) (o + 11) k 0) w5 w6 (by omega)
    refine ⟨M', e, fun c h1 h2 => by rw [f1 c h1 h2, u2_o h2, u2_o h1], fun j hj => ?_, fun j h1 h2 h3 => ?_⟩
    · obtain ⟨q1, q2⟩ := f2 j (by omega)
      rw [q1, q2, u2_o (by omega), u2_n (by omega), u2_n (by omega), u2_o (by omega)]
      exact ⟨rfl, rfl⟩
    · by_cases hjk : j = k
      · obtain ⟨q1, q2⟩ := f2 j (by omega)
        rw [q1, q2, hjk, u2_o (by omega), u2_s, u2_s]
        exact ⟨rfl, rfl⟩
      · exact f3 j (by omega) h2 h3
theorem e29f (M : Nat → Nat → Int32) (o : Nat) (ho : o + 11 < 90 ∨ 94 < o) {P : TP} {T : TS} (hC : CH M o P T) (hn8 : pN P ≤ 8) (hg9 : pG P ≤ 9) (hl : LW E (pK P) M) (lo : Int32) (h : Nat) (hh : h ≤ 8) (hlo : lo.toInt ≤ 8) :
    ∃ M', C E (d + 4) 29 [vR 1 2 o, vI lo, vI (nI h), vR 1 3 90] (M, L) = some (none, (M', L)) ∧ (∀ c, c ≠ o → c ≠ o + 4 → c ≠ o + 6 → c ≠ o + 10 → c ≠ o + 11 → c ≠ 93 → c ≠ 94 → M' c = M c) ∧ (∀ j, j ≠ 14 → M' o j = M o j) ∧ CH M' o P (pdT P lo.toInt h T) := by
  generalize hl0 : lo.toInt.toNat = l0
  have hle : ∀ k : Nat, lo.toInt ≤ (k : Int) ↔ l0 ≤ k := fun k => by omega
  have hmx : mx lo 0 = nI l0 := by rw [mx_lo, hl0]
  obtain ⟨hm, hm1, hm2, hm3⟩ : ∃ hm : Nat, hm ≤ h ∧ hm ≤ pN P ∧ (hm = h ∨ hm = pN P) := by
    by_cases q : h ≤ pN P
    · exact ⟨h, Nat.le_refl _, q, Or.inl rfl⟩
    · exact ⟨pN P, by omega, Nat.le_refl _, Or.inr rfl⟩
  have hmn1 : mn (M o 11) 8 = nI (pN P) := by
    apply Int32.toInt_inj.mp
    rw [hC.1, t_mn, t_nI (by omega), t_8]
    split <;> omega
  have hmn2 : mn (nI h) (nI (pN P)) = nI hm := by
    apply Int32.toInt_inj.mp
    rw [t_mn, t_nI (by omega), t_nI (by omega), t_nI (by omega)]
    split <;> omega
  rw [x29, e997, bI_s, hmn1, e997, bI_s, hmn2, e998, bI_s, hmx]
  obtain ⟨M1, e1, f1, f1a, f1b⟩ := day1 E d L o (n := pN P) (h := h) hn8 hm1 hm2 hm3 lo (9 - l0) l0 M none none (by omega)
  rw [e1]
  have hC1 : CH M1 o P T := hC.keep9 (fun c q1 q2 => f1 c (by omega) (by omega))
  obtain ⟨M2, w5, w6, e2, hI⟩ := day2 E d L o hC1 hn8 hg9 hh hm hmx (pG P) 0 M1 none none (by omega) ⟨fun _ _ _ _ => rfl, fun p => ⟨fun q => absurd q.1 (by omega), fun _ => rfl⟩, fun k q1 q2 q3 => by
    obtain ⟨r1, r2⟩ := f1b k ((hle k).mp q2) q3 q1
    rw [r1, r2]
    exact ⟨rfl, rfl⟩⟩
  rw [e2]
  have g2 : ∀ c, c ≠ o + 6 → c ≠ o + 10 → c ≠ o + 11 → M2 c = M c := fun c q1 q2 q3 => (hI.1 c q1 q2 q3).trans (f1 c q2 q3)
  have h2n : M2 o 11 = nI (pN P) := by rw [g2 o (by omega) (by omega) (by omega)]; exact hC.1
  obtain ⟨M3, e3, f3, f3a, f3b, f3c⟩ := day3 E d L o ho (n := pN P) (h := h) (kf := pK P) hn8 hm1 hm2 hm3 lo (9 - l0) l0 M2 w5 w6 (by omega) (hl.keep (g2 90 (by omega) (by omega) (by omega)) (g2 91 (by omega) (by omega) (by omega)) (g2 92 (by omega) (by omega) (by omega))) h2n
  rw [e3]
  have g0 := g2 o (by omega) (by omega) (by omega)
  refine ⟨M3, rfl, fun c z0 z4 z6 z10 z11 q2 q3 => by rw [f3 c z0 z4 q2 q3, g2 c z6 z10 z11], fun j hj => by rw [f3a j hj, g0], ?_⟩
  obtain ⟨c1, c2, c3, c4, c5, c6⟩ := hC
  refine ⟨by rw [f3a 11 (by omega), g0]; exact c1, by rw [f3a 12 (by omega), g0]; exact c2, by rw [f3a 13 (by omega), g0]; exact c3, by rw [f3b, g0, c4]; rfl, fun k hk => ⟨?_, ?_, ?_⟩, fun p hp => ⟨?_, ?_, ?_, ?_⟩⟩
  · rw [f3 (o + 3) (by omega) (by omega) (by omega) (by omega), g2 (o + 3) (by omega) (by omega) (by omega)]; exact (c5 k hk).1
  · rw [f3c k]
    have e4 : M2 (o + 4) k = tS T k := by rw [g2 (o + 4) (by omega) (by omega) (by omega)]; exact (c5 k hk).2.1
    show _ = if lo.toInt ≤ (k : Int) ∧ (k : Int) < (h : Int) then dayS P T k else tS T k
    by_cases hs : l0 ≤ k ∧ k < h
    · rw [if_pos ⟨hs.1, hs.2, hk⟩, if_pos ⟨(hle k).mpr hs.1, by omega⟩]
      obtain ⟨i1, i2⟩ := hI.2.2 k hk ((hle k).mpr hs.1) hs.2
      unfold sFc dayS crk
      rw [e4, i1, i2, g2 (o + 3) (by omega) (by omega) (by omega), g2 (o + 5) (by omega) (by omega) (by omega), g0, (c5 k hk).1, (c5 k hk).2.2, c4]
      rfl
    · rw [if_neg (fun q => hs ⟨q.1, q.2.1⟩), if_neg (fun q => hs ⟨(hle k).mp q.1, by omega⟩)]
      exact e4
  · rw [f3 (o + 5) (by omega) (by omega) (by omega) (by omega), g2 (o + 5) (by omega) (by omega) (by omega)]; exact (c5 k hk).2.2
  · rw [f3 (o + 6) (by omega) (by omega) (by omega) (by omega)]
    show _ = if lo.toInt ≤ (tE T p).toInt ∧ (tE T p).toInt < (h : Int) then dayM P T p else tM T p
    by_cases hs : lo.toInt ≤ (tE T p).toInt ∧ (tE T p).toInt < (h : Int)
    · rw [if_pos hs, (hI.2.1 p).1 ⟨hp, hs⟩]
    · rw [if_neg hs, (hI.2.1 p).2 (fun q => hs q.2), f1 (o + 6) (by omega) (by omega)]; exact (c6 p hp).1
  · rw [f3 (o + 7) (by omega) (by omega) (by omega) (by omega), g2 (o + 7) (by omega) (by omega) (by omega)]; exact (c6 p hp).2.1
  · rw [f3 (o + 8) (by omega) (by omega) (by omega) (by omega), g2 (o + 8) (by omega) (by omega) (by omega)]; exact (c6 p hp).2.2.1
  · rw [f3 (o + 9) (by omega) (by omega) (by omega) (by omega), g2 (o + 9) (by omega) (by omega) (by omega)]; exact (c6 p hp).2.2.2
theorem e29 (M : Nat → Nat → Int32) (o : Nat) (ho : o + 11 < 90 ∨ 94 < o) {P : TP} {T : TS} (hC : CH M o P T) (hn8 : pN P ≤ 8) (hg9 : pG P ≤ 9) (hl : LW E (pK P) M) (lo : Int32) (h : Nat) (hh : h ≤ 8) (hlo : lo.toInt ≤ 8) :
    ∃ M', C E (d + 4) 29 [vR 1 2 o, vI lo, vI (nI h), vR 1 3 90] (M, L) = some (none, (M', L)) ∧ (∀ c, ¬ (o ≤ c ∧ c ≤ o + 11) → c ≠ 93 → c ≠ 94 → M' c = M c) ∧ CH M' o P (pdT P lo.toInt h T) := by
  obtain ⟨M', e, f, -, c⟩ := e29f E d L M o ho hC hn8 hg9 hl lo h hh hlo
  exact ⟨M', e, fun c q1 q2 q3 => f c (by omega) (by omega) (by omega) (by omega) (by omega) q2 q3, c⟩
theorem e28 (M : Nat → Nat → Int32) (o : Nat) (ho : o + 11 < 90 ∨ 94 < o) {P : TP} {T : TS} (hC : CH M o P T) (hn8 : pN P ≤ 8) (hg9 : pG P ≤ 9) (hl : LW E (pK P) M) :
    ∃ M', C E (d + 5) 28 [vR 1 2 o, vR 1 3 90] (M, L) = some (none, (M', L)) ∧ (∀ c, ¬ (o ≤ c ∧ c ≤ o + 11) → c ≠ 93 → c ≠ 94 → M' c = M c) ∧ CH M' o P (pdT P (-1) (pN P) T) := by
  obtain ⟨M', e, f, c⟩ := e29 E d L M o ho hC hn8 hg9 hl (-1) (pN P) hn8 (by decide)
  refine ⟨M', ?_, f, c⟩
  rw [x28, hC.1, e, bV_s]
theorem e28f (M : Nat → Nat → Int32) (o : Nat) (ho : o + 11 < 90 ∨ 94 < o) {P : TP} {T : TS} (hC : CH M o P T) (hn8 : pN P ≤ 8) (hg9 : pG P ≤ 9) (hl : LW E (pK P) M) :
    ∃ M', C E (d + 5) 28 [vR 1 2 o, vR 1 3 90] (M, L) = some (none, (M', L)) ∧ (∀ c, c ≠ o → c ≠ o + 4 → c ≠ o + 6 → c ≠ o + 10 → c ≠ o + 11 → c ≠ 93 → c ≠ 94 → M' c = M c) ∧ (∀ j, j ≠ 14 → M' o j = M o j) ∧ CH M' o P (pdT P (-1) (pN P) T) := by
  obtain ⟨M', e, f, f', c⟩ := e29f E d L M o ho hC hn8 hg9 hl (-1) (pN P) hn8 (by decide)
  refine ⟨M', ?_, f, f', c⟩
  rw [x28, hC.1, e, bV_s]
theorem cp8 (M : Nat → Nat → Int32) (a b : Nat) : C E (d + 1) 999 [vR 2 8 a, vI (0 : Int32), vR 2 8 b, vI (0 : Int32), vI (8 : Int32)] (M, L) = some (none, (c2 M a b 0 0 8, L)) := e999 E d M L (sp := 0) (dp := 0) (n := 8) (by omega) (by omega) (by omega) (by omega)
theorem cp9 (M : Nat → Nat → Int32) (a b : Nat) : C E (d + 1) 999 [vR 2 9 a, vI (0 : Int32), vR 2 9 b, vI (0 : Int32), vI (9 : Int32)] (M, L) = some (none, (c2 M a b 0 0 9, L)) := e999 E d M L (sp := 0) (dp := 0) (n := 9) (by omega) (by omega) (by omega) (by omega)
set_option maxHeartbeats 2000000 in
theorem e25 (M : Nat → Nat → Int32) (o o0 : Nat) (hd : o + 11 < o0 ∨ o0 + 11 < o) : ∃ M', C E (d + 2) 25 [vR 1 2 o, vR 1 2 o0] (M, L) = some (none, (M', L)) ∧ (∀ c, ¬ (o ≤ c ∧ c ≤ o + 11) → M' c = M c) ∧ ∀ P T, CH M o0 P T → pN P ≤ 8 → pG P ≤ 9 → CH M' o P T := by
  rw [x25, cp8, bV_s, cp8, bV_s, cp8, bV_s, cp8, bV_s, cp8, bV_s, cp9, bV_s, cp9, bV_s, cp9, bV_s, cp9, bV_s]
  simp only
  generalize hM9 : c2 (c2 (c2 (c2 (c2 (c2 (c2 (c2 (c2 M (o0 + 1) (o + 1) 0 0 8) (o0 + 2) (o + 2) 0 0 8) (o0 + 3) (o + 3) 0 0 8) (o0 + 4) (o + 4) 0 0 8) (o0 + 5) (o + 5) 0 0 8) (o0 + 6) (o + 6) 0 0 9) (o0 + 7) (o + 7) 0 0 9) (o0 + 8) (o + 8) 0 0 9) (o0 + 9) (o + 9) 0 0 9 = M9
  have g : ∀ c, ¬ (o + 1 ≤ c ∧ c ≤ o + 9) → M9 c = M c := by
    intro c hc
    rw [← hM9]
    simp (disch := omega) only [c2_o]
  refine ⟨_, rfl, fun c hc => ?_, fun P T hC hn8 hg9 => ?_⟩
  · rw [u2_o (by omega), u2_o (by omega), u2_o (by omega), u2_o (by omega), g c (by omega)]
  · obtain ⟨h1, h2, h3, h4, h5, h6⟩ := hC
    refine ⟨?_, ?_, ?_, ?_, fun k hk => ⟨?_, ?_, ?_⟩, fun p hp => ⟨?_, ?_, ?_, ?_⟩⟩
    · simp (disch := omega) only [u2_s, u2_n, u2_o]; rw [g o0 (by omega)]; exact h1
    · simp (disch := omega) only [u2_s, u2_n, u2_o]; rw [g o0 (by omega)]; exact h2
    · simp (disch := omega) only [u2_s, u2_n, u2_o]; rw [g o0 (by omega)]; exact h3
    · simp (disch := omega) only [u2_s, u2_n, u2_o]; rw [g o0 (by omega)]; exact h4
    · simp (disch := omega) only [u2_o]; rw [← hM9]; simp (disch := omega) only [c2_o, c2_i]; exact (h5 k hk).1
    · simp (disch := omega) only [u2_o]; rw [← hM9]; simp (disch := omega) only [c2_o, c2_i]; exact (h5 k hk).2.1
    · simp (disch := omega) only [u2_o]; rw [← hM9]; simp (disch := omega) only [c2_o, c2_i]; exact (h5 k hk).2.2
    · simp (disch := omega) only [u2_o]; rw [← hM9]; simp (disch := omega) only [c2_o, c2_i]; exact (h6 p hp).1
    · simp (disch := omega) only [u2_o]; rw [← hM9]; simp (disch := omega) only [c2_o, c2_i]; exact (h6 p hp).2.1
    · simp (disch := omega) only [u2_o]; rw [← hM9]; simp (disch := omega) only [c2_o, c2_i]; exact (h6 p hp).2.2.1
    · simp (disch := omega) only [u2_o]; rw [← hM9]; simp (disch := omega) only [c2_o, c2_i]; exact (h6 p hp).2.2.2
end COUNTY2
