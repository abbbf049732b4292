/-! the reference's days -/
/-- the numbers that don't change with the days -/
def RQ (M : Nat → Nat → Int32) (P : TP) : Prop := M 400 6 = nI (pN P) ∧ M 400 7 = nI (pG P) ∧ M 401 60 = pPr P ∧ (∀ k, k < pN P → M 401 k = pSp P k ∧ M 401 (16 + k) = pAl P k) ∧ ∀ p, p < pG P → M 401 (33 + p) = pAs P p ∧ M 401 (42 + p) = pSd P p
def RB (M : Nat → Nat → Int32) (P : TP) (T : TS) : Prop := (∀ k, k < pN P → M 401 (8 + k) = tS T k) ∧ (∀ p, p < pG P → M 401 (24 + p) = tM T p ∧ M 401 (51 + p) = tE T p) ∧ M 401 61 = tD T
def RT (M : Nat → Nat → Int32) (P : TP) (T : TS) : Prop := (∀ k, k < pN P → M 427 k = tS T k) ∧ (∀ p, p < pG P → M 428 p = tM T p ∧ M 429 p = tE T p) ∧ M 400 29 = tD T
def frR (M M' : Nat → Nat → Int32) : Prop := (∀ c, c ≠ 400 → c ≠ 416 → c ≠ 426 → c ≠ 427 → c ≠ 428 → c ≠ 429 → c ≠ 431 → M' c = M c) ∧ ∀ j, j ≠ 29 → M' 400 j = M 400 j
theorem frR.refl (M : Nat → Nat → Int32) : frR M M := ⟨fun _ _ _ _ _ _ _ _ => rfl, fun _ _ => rfl⟩
theorem frR.tr {M M' M'' : Nat → Nat → Int32} (h : frR M M') (h' : frR M' M'') : frR M M'' := ⟨fun c h0 h1 h2 h3 h4 h5 h6 => (h'.1 c h0 h1 h2 h3 h4 h5 h6).trans (h.1 c h0 h1 h2 h3 h4 h5 h6), fun j hj => (h'.2 j hj).trans (h.2 j hj)⟩
theorem RQ.keep {M M' : Nat → Nat → Int32} {P : TP} (h : RQ M P) (h1 : M' 401 = M 401) (h2 : ∀ j, j ≠ 29 → M' 400 j = M 400 j) : RQ M' P := by
  obtain ⟨a, b, c, e, f⟩ := h
  exact ⟨by rw [h2 6 (by omega)]; exact a, by rw [h2 7 (by omega)]; exact b, by rw [h1]; exact c, fun k hk => by rw [h1]; exact e k hk, fun p hp => by rw [h1]; exact f p hp⟩
theorem RQ.frR {M M' : Nat → Nat → Int32} {P : TP} (h : RQ M P) (hf : frR M M') : RQ M' P := h.keep (hf.1 401 (by omega) (by omega) (by omega) (by omega) (by omega) (by omega) (by omega)) hf.2
theorem RB.frR {M M' : Nat → Nat → Int32} {P : TP} {T : TS} (h : RB M P T) (hf : frR M M') : RB M' P T := by
  unfold RB
  rw [hf.1 401 (by omega) (by omega) (by omega) (by omega) (by omega) (by omega) (by omega)]
  exact h
/-- what the reference's law gives -/
def RL (E : Nat × (Nat → Int32)) (kf : (Nat → Int32) → Int32) (M : Nat → Nat → Int32) : Prop := (∀ f g : Nat → Int32, (∀ i, i < 6 → f i = g i) → kf f = kf g) ∧ (((M 400 24).toInt ≤ 0 ∧ ∀ f, kf f = f 0 / 2 + 2 * f 2 - 4 * f 1) ∨ (0 < (M 400 24).toInt ∧ ∀ (M1 : Nat → Nat → Int32) (L1 : Nat → Nat → Int64) (d : Nat), M1 400 24 = M 400 24 → M1 422 = M 422 → M1 423 = M 423 → M1 424 = M 424 → ∃ M2, C E (d + 3) 187 [vR 1 12 400] (M1, L1) = some (some (vI (kf (M1 416))), (M2, L1)) ∧ ∀ c, c ≠ 426 → M2 c = M1 c))
theorem RL.keep {E : Nat × (Nat → Int32)} {kf : (Nat → Int32) → Int32} {M M' : Nat → Nat → Int32} (h : RL E kf M) (h0 : M' 400 24 = M 400 24) (h1 : M' 422 = M 422) (h2 : M' 423 = M 423) (h3 : M' 424 = M 424) : RL E kf M' := by
  refine ⟨h.1, ?_⟩
  rcases h.2 with ⟨a, b⟩ | ⟨a, b⟩
  · exact Or.inl ⟨by rw [h0]; exact a, b⟩
  · refine Or.inr ⟨by rw [h0]; exact a, fun M1 L1 d e0 e1 e2 e3 => b M1 L1 d (by rw [e0, h0]) (by rw [e1, h1]) (by rw [e2, h2]) (by rw [e3, h3])⟩
theorem RL.frR {E : Nat × (Nat → Int32)} {kf : (Nat → Int32) → Int32} {M M' : Nat → Nat → Int32} (h : RL E kf M) (hf : frR M M') : RL E kf M' := h.keep (hf.2 24 (by omega)) (hf.1 422 (by omega) (by omega) (by omega) (by omega) (by omega) (by omega) (by omega)) (hf.1 423 (by omega) (by omega) (by omega) (by omega) (by omega) (by omega) (by omega)) (hf.1 424 (by omega) (by omega) (by omega) (by omega) (by omega) (by omega) (by omega))
theorem hel_if (v m : Int32) (hm : 0 ≤ m.toInt) : (if 0 ≤ v then (if v ≤ m then v else m) else 0) = hel v m := by
  apply Int32.toInt_inj.mp
  rw [t_hel v m hm]
  simp only [t_le, t_0]
  (repeat' split) <;> first | rfl | (exfalso; omega) | (rw [t_0]; omega) | omega
theorem or0 (x : Int32) : x ||| (0 : Int32) = x := by
  apply Int32.toBitVec.inj
  simp
theorem addI (a k : Nat) : nI a + nI k = nI (a + k) := nI_add a k
section REFDAY
variable (E : Nat × (Nat → Int32)) (d : Nat) (L : Nat → Nat → Int64)
theorem e189 (M : Nat → Nat → Int32) {p : Nat} (hp : p < 9) : C E (d + 1) 189 [vR 1 12 400, vI (nI p)] (M, L) = some (some (vI (b1 ((M 428 p).toInt ≤ (M 401 60).toInt))), (M, L)) := by
  rw [x189, if_pos (by rw [ib_nI (by omega)]; exact hp), if_pos (show ib (60 : Int32) 62 by decide), ix_nI (by omega), show ix (60 : Int32) = 60 from by decide]
  simp only [t_lt]
  unfold b1
  (repeat' split) <;> first | rfl | (exfalso; omega)
theorem e190 (M : Nat → Nat → Int32) {P : TP} {T : TS} (hq : RQ M P) (ht : RT M P T) (hg9 : pG P ≤ 9) (b : Int32) (f : Nat → Bool) (w : Prop) [Decidable w] (hf : ∀ p, p < pG P → f p = decide (tE T p = b ∧ ((tM T p).toInt ≤ (pPr P).toInt ↔ w))) : C E (d + 2) 190 [vR 1 12 400, vI b, vI (b1 w)] (M, L) = some (some (vI (nI (cnt (pG P) f))), (M, L)) := by
  have h : ∀ m p, p + m = pG P → X E (d + 1) me190 5 [some (vR 1 12 400), some (vI b), some (vI (b1 w)), some (vI (nI (cnt p f))), some (vI (nI p))] [] (M, L) = some (some (vI (nI (cnt (pG P) f))), (M, L)) := by
    intro m
    induction m with
    | zero =>
      intro p hp
      have e : p = pG P := by omega
      rw [x190_5, hq.2.1, e, if_pos (nI_le (Nat.le_refl _) (by omega))]
    | succ m ih =>
      intro p hp
      have ih' := ih (p + 1) (by omega)
      rw [cnt_s, hf p (by omega)] at ih'
      rw [x190_5, hq.2.1, if_neg (nI_ge (by omega) (by omega)), if_pos (by rw [ib_nI (by omega)]; omega), ix_nI (by omega), (ht.2.1 p (by omega)).2, nI_1, nI_1, show (0 : Int32) = nI 0 from rfl, nI_add, Nat.add_zero]
      by_cases h1 : tE T p = b
      · rw [if_pos h1, e189 E d L M (by omega), bI_s, (ht.2.1 p (by omega)).1, hq.2.2.1]
        by_cases h2 : ((tM T p).toInt ≤ (pPr P).toInt ↔ w)
        · rw [if_pos (b1_congr h2)]
          rw [if_pos (by simp [h1, h2])] at ih'
          exact ih'
        · have : ¬ b1 ((tM T p).toInt ≤ (pPr P).toInt) = b1 w := by
            intro q
            apply h2
            by_cases a : (tM T p).toInt ≤ (pPr P).toInt
            · rw [b1_t a] at q
              exact ⟨fun _ => by rw [← b1_o (c := w)]; exact q.symm, fun _ => a⟩
            · rw [b1_f a] at q
              exact ⟨fun z => absurd z a, fun z => by rw [b1_t z] at q; exact absurd q (by decide)⟩
          rw [if_neg this]
          rw [if_neg (by simp [h1, h2])] at ih'
          exact ih'
      · rw [if_neg h1]
        rw [if_neg (by simp [h1])] at ih'
        exact ih'
  rw [x190]
  exact h (pG P) 0 (by omega)
theorem e190h (M : Nat → Nat → Int32) {P : TP} {T : TS} (hq : RQ M P) (ht : RT M P T) (hg9 : pG P ≤ 9) (k : Nat) : C E (d + 2) 190 [vR 1 12 400, vI (nI k), vI (1 : Int32)] (M, L) = some (some (vI (nI (hN P T k))), (M, L)) := by
  have := e190 E d L M hq ht hg9 (nI k) (hF P T k) True (fun p _ => by unfold hF; simp)
  rw [b1_t trivial] at this
  exact this
theorem e190r (M : Nat → Nat → Int32) {P : TP} {T : TS} (hq : RQ M P) (ht : RT M P T) (hg9 : pG P ≤ 9) (k : Nat) : C E (d + 2) 190 [vR 1 12 400, vI (nI k), vI (0 : Int32)] (M, L) = some (some (vI (nI (rN P T k))), (M, L)) := by
  have := e190 E d L M hq ht hg9 (nI k) (rF P T k) False (fun p _ => by unfold rF; simp)
  rw [b1_f (fun q => q)] at this
  exact this
set_option maxHeartbeats 2000000 in
theorem e191 (M : Nat → Nat → Int32) {P : TP} {T : TS} (hq : RQ M P) (ht : RT M P T) (hn8 : pN P ≤ 8) (hg9 : pG P ≤ 9) (hl : RL E (pK P) M) {k : Nat} (hk : k < pN P) : ∃ M', C E (d + 4) 191 [vR 1 12 400, vI (nI k)] (M, L) = some (some (vI (crk P T k)), (M', L)) ∧ ∀ c, c ≠ 416 → c ≠ 426 → M' c = M c := by
  have h62 : ∀ j, j < 62 → ib (nI j) 62 := fun j hj => by rw [ib_nI (by omega)]; exact hj
  have h6 : ∀ j, j < 6 → ib (nI j) 6 := fun j hj => by rw [ib_nI (by omega)]; exact hj
  have hx := ix_nI (n := k) (by omega)
  have h16 : (16 : Int32) + nI k = nI (16 + k) := nI_add 16 k
  rw [x191, e190h E (d + 1) L M hq ht hg9 k, bI_s, e190r E (d + 1) L M hq ht hg9 k, bI_s, if_pos (h62 k (by omega)), hx]
  rcases hl.2 with ⟨h0, hk0⟩ | ⟨h0, hk1⟩
  · refine ⟨M, ?_, fun _ _ _ => rfl⟩
    rw [if_pos (show M 400 24 ≤ 0 by rw [t_le, t_0]; exact h0)]
    unfold crk
    rw [hk0, ← hel_if _ 20 (by decide)]
    simp only [nmF, (hq.2.2.2.1 k hk).1]
    (repeat' split) <;> rfl
  · rw [if_neg (show ¬ M 400 24 ≤ 0 by rw [t_le, t_0]; omega)]
    simp only [if_pos (h62 k (by omega)), if_pos (show ib (nI k) 8 by rw [ib_nI (by omega)]; omega), h16, if_pos (h62 (16 + k) (by omega)), ix_nI (n := 16 + k) (by omega), if_pos (show ib (0 : Int32) 6 from h6 0 (by omega)), if_pos (show ib (1 : Int32) 6 from h6 1 (by omega)), if_pos (show ib (2 : Int32) 6 from h6 2 (by omega)), if_pos (show ib (3 : Int32) 6 from h6 3 (by omega)), if_pos (show ib (4 : Int32) 6 from h6 4 (by omega)), if_pos (show ib (5 : Int32) 6 from h6 5 (by omega)), ix_l0, ix_l1, ix_l2, ix_l3, ix_l4, ix_l5, hx]
    simp (disch := omega) only [u2_o]
    generalize hM1 : u2 (u2 (u2 (u2 (u2 (u2 M 416 0 (M 401 k)) 416 1 (nI (hN P T k))) 416 2 (nI (rN P T k))) 416 3 (M 401 (16 + k))) 416 4 (M 400 29)) 416 5 (M 427 k) = M1
    have hf : ∀ c, c ≠ 416 → M1 c = M c := by
      intro c hc
      rw [← hM1]
      simp (disch := omega) only [u2_o]
    obtain ⟨M2, e2, f2⟩ := hk1 M1 L d (by rw [hf 400 (by omega)]) (hf 422 (by omega)) (hf 423 (by omega)) (hf 424 (by omega))
    refine ⟨M2, ?_, fun c h1 h2 => (f2 c h2).trans (hf c h1)⟩
    rw [e2, bI_s]
    have : pK P (M1 416) = pK P (nmF (pSp P k) (nI (hN P T k)) (nI (rN P T k)) (pAl P k) (tD T) (tS T k)) := by
      apply hl.1
      intro i hi
      rw [← hM1]
      match i, hi with
      | 0, _ => simp (disch := omega) only [u2_n, u2_s]; exact (hq.2.2.2.1 k hk).1
      | 1, _ => simp (disch := omega) only [u2_n, u2_s]; rfl
      | 2, _ => simp (disch := omega) only [u2_n, u2_s]; rfl
      | 3, _ => simp (disch := omega) only [u2_n, u2_s]; exact (hq.2.2.2.1 k hk).2
      | 4, _ => simp (disch := omega) only [u2_n, u2_s]; exact ht.2.2
      | 5, _ => simp (disch := omega) only [u2_n, u2_s]; exact ht.1 k hk
    rw [this]
    unfold crk
    rw [← hel_if _ 20 (by decide)]
    (repeat' split) <;> rfl
def lessF (P : TP) (T : TS) (k : Nat) : Int32 := if 0 < (tS T k).toInt then crk P T k else 0
theorem rday1 {P : TP} {T : TS} (hn8 : pN P ≤ 8) (hg9 : pG P ≤ 9) : ∀ (m k : Nat) (M : Nat → Nat → Int32) (w2 w3 : Option PV), k + m = pN P → RQ M P → RT M P T → RL E (pK P) M → (∀ j, j < k → M 431 j = lessF P T j) →
    ∃ M', X E (d + 4) me192 2 [some (vR 1 12 400), some (vI (nI k)), w2, w3] [] (M, L) = X E (d + 4) me192 42 [some (vR 1 12 400), some (vI (nI 0)), w2, w3] [] (M', L) ∧ (∀ c, c ≠ 416 → c ≠ 426 → c ≠ 431 → M' c = M c) ∧ ∀ j, j < pN P → M' 431 j = lessF P T j := by
  intro m
  induction m with
  | zero =>
    intro k M w2 w3 hk hq ht hl hj
    have e : k = pN P := by omega
    refine ⟨M, ?_, fun _ _ _ _ => rfl, by rw [← e]; exact hj⟩
    rw [x192_2, hq.1, e, if_pos (nI_le (Nat.le_refl _) (by omega))]
    rfl
  | succ m ih =>
    intro k M w2 w3 hk hq ht hl hj
    have hib : ib (nI k) 8 := by rw [ib_nI (by omega)]; omega
    have hx := ix_nI (n := k) (by omega)
    rw [x192_2, hq.1, if_neg (nI_ge (by omega) (by omega)), if_pos hib, hx, ht.1 k (by omega), nI_1]
    simp only [t_le, t_0]
    have step : ∀ (M1 : Nat → Nat → Int32) (v : Int32), v = lessF P T k → (∀ c, c ≠ 416 → c ≠ 426 → M1 c = M c) → ∃ M', X E (d + 4) me192 2 [some (vR 1 12 400), some (vI (nI (k + 1))), w2, w3] [] (u2 M1 431 k v, L) = X E (d + 4) me192 42 [some (vR 1 12 400), some (vI (nI 0)), w2, w3] [] (M', L) ∧ (∀ c, c ≠ 416 → c ≠ 426 → c ≠ 431 → M' c = M c) ∧ ∀ j, j < pN P → M' 431 j = lessF P T j := by
      intro M1 v hv hf
      have g : ∀ c, c ≠ 416 → c ≠ 426 → c ≠ 431 → u2 M1 431 k v c = M c := fun c q1 q2 q3 => (u2_o q3).trans (hf c q1 q2)
      have g400 := g 400 (by omega) (by omega) (by omega)
      obtain ⟨M', e, f1, f2⟩ := ih (k + 1) (u2 M1 431 k v) w2 w3 (by omega) (hq.keep (g 401 (by omega) (by omega) (by omega)) (fun j _ => by rw [g400])) ⟨fun j hj => by rw [g 427 (by omega) (by omega) (by omega)]; exact ht.1 j hj, fun p hp => by rw [g 428 (by omega) (by omega) (by omega), g 429 (by omega) (by omega) (by omega)]; exact ht.2.1 p hp, by rw [g400]; exact ht.2.2⟩ (hl.keep (by rw [g400]) (g 422 (by omega) (by omega) (by omega)) (g 423 (by omega) (by omega) (by omega)) (g 424 (by omega) (by omega) (by omega))) (fun j hjk => by
        by_cases e : j = k
        · rw [e, u2_s]; exact hv
        · rw [u2_n e, hf 431 (by omega) (by omega)]; exact hj j (by omega))
      exact ⟨M', e, fun c q1 q2 q3 => (f1 c q1 q2 q3).trans (g c q1 q2 q3), f2⟩
    by_cases hs : (tS T k).toInt ≤ 0
    · rw [if_pos hs, if_pos hib]
      exact step M 0 (by unfold lessF; rw [if_neg (by omega)]) (fun _ _ _ => rfl)
    · rw [if_neg hs]
      obtain ⟨M1, e1, f1⟩ := e191 E d L M hq ht hn8 hg9 hl (by omega : k < pN P)
      rw [e1, bI_s, if_pos hib]
      exact step M1 _ (by unfold lessF; rw [if_pos (by omega)]) f1
theorem rday2 {P : TP} {T : TS} (hn8 : pN P ≤ 8) (hg9 : pG P ≤ 9) (hse : seatsOk P T) : ∀ (m p : Nat) (M : Nat → Nat → Int32) (w2 w3 : Option PV), p + m = pG P → RQ M P → (∀ k, k < pN P → M 427 k = tS T k) → (∀ q, q < pG P → M 428 q = (if q < p then dayM P T q else tM T q) ∧ M 429 q = tE T q) →
    ∃ M' w2' w3', X E (d + 4) me192 42 [some (vR 1 12 400), some (vI (nI p)), w2, w3] [] (M, L) = X E (d + 4) me192 149 [some (vR 1 12 400), some (vI (nI 0)), w2', w3'] [] (M', L) ∧ (∀ c, c ≠ 428 → M' c = M c) ∧ ∀ q, q < pG P → M' 428 q = dayM P T q := by
  intro m
  induction m with
  | zero =>
    intro p M w2 w3 hp hq h1 h2
    have e : p = pG P := by omega
    refine ⟨M, w2, w3, ?_, fun _ _ => rfl, fun q hqq => by have := (h2 q hqq).1; rw [if_pos (by omega)] at this; exact this⟩
    rw [x192_42, hq.2.1, e, if_pos (nI_le (Nat.le_refl _) (by omega))]
    rfl
  | succ m ih =>
    intro p M w2 w3 hp hq h1 h2
    have hib : ib (nI p) 9 := by rw [ib_nI (by omega)]; omega
    have hx := ix_nI (n := p) (by omega)
    have hi42 : (42 : Int32) + nI p = nI (42 + p) := nI_add 42 p
    have hi33 : (33 : Int32) + nI p = nI (33 + p) := nI_add 33 p
    have hb42 : ib (nI (42 + p)) 62 := by rw [ib_nI (by omega)]; omega
    have hb33 : ib (nI (33 + p)) 62 := by rw [ib_nI (by omega)]; omega
    obtain ⟨a1, a2⟩ := h2 p (by omega)
    rw [if_neg (by omega)] at a1
    obtain ⟨q1, q2⟩ := hq.2.2.2.2 p (by omega)
    obtain ⟨s1, s2⟩ := hse p (by omega)
    rw [x192_42, hq.2.1, if_neg (nI_ge (by omega) (by omega))]
    simp only [if_pos hib, hx, hi42, hi33, if_pos hb42, if_pos hb33, ix_nI (n := 42 + p) (by omega), ix_nI (n := 33 + p) (by omega), a1, a2, q1, q2, nI_1, e152, bI_s, e151, t_lt, t_le, t_0]
    have step : ∀ (v : Int32) (w2 w3 : Option PV), v = dayM P T p → ∃ M' w2' w3', X E (d + 4) me192 42 [some (vR 1 12 400), some (vI (nI (p + 1))), w2, w3] [] (u2 M 428 p v, L) = X E (d + 4) me192 149 [some (vR 1 12 400), some (vI (nI 0)), w2', w3'] [] (M', L) ∧ (∀ c, c ≠ 428 → M' c = M c) ∧ ∀ q, q < pG P → M' 428 q = dayM P T q := by
      intro v w2 w3 hv
      obtain ⟨M', w2', w3', e, f1, f2⟩ := ih (p + 1) (u2 M 428 p v) w2 w3 (by omega) (hq.keep (u2_o (by omega)) (fun j _ => by rw [u2_o (by omega)])) (fun k hk => by rw [u2_o (by omega)]; exact h1 k hk) (fun r hr => by
        refine ⟨?_, by rw [u2_o (by omega)]; exact (h2 r hr).2⟩
        by_cases e : r = p
        · rw [e, u2_s, if_pos (by omega)]; exact hv
        · rw [u2_n e, (h2 r hr).1]
          by_cases e2 : r < p
          · rw [if_pos e2, if_pos (by omega)]
          · rw [if_neg e2, if_neg (by omega)])
      exact ⟨M', w2', w3', e, fun c hc => (f1 c hc).trans (u2_o hc), f2⟩
    by_cases hs : (tE T p).toInt < 0
    · rw [if_pos hs]
      refine step _ _ _ ?_
      unfold dayM gts
      rw [if_neg (fun q => by omega)]
    · rw [if_neg hs]
      obtain ⟨j, hj, hej⟩ := nI_ex (n := pN P) (by omega : 0 ≤ (tE T p).toInt) s2
      have hg : gts P T p = if 0 < (tS T j).toInt then mn (pAl P j) (pAs P p) else 0 := by
        unfold gts
        rw [hej, ix_nI (by omega), t_nI (by omega)]
        by_cases q : 0 < (tS T j).toInt
        · rw [if_pos q, if_pos ⟨by omega, by omega, q⟩]
        · rw [if_neg q, if_neg (fun z => q z.2.2)]
      have hi16 : (16 : Int32) + nI j = nI (16 + j) := nI_add 16 j
      have hb16 : ib (nI (16 + j)) 62 := by rw [ib_nI (by omega)]; omega
      rw [hej, if_pos (by rw [ib_nI (by omega)]; omega), ix_nI (by omega), h1 j hj]
      simp only [hi16, if_pos hb16, ix_nI (n := 16 + j) (by omega), (hq.2.2.2.1 j hj).2]
      by_cases hS : (tS T j).toInt ≤ 0
      · rw [if_pos hS]
        refine step _ _ _ ?_
        unfold dayM
        rw [hg, if_neg (by omega)]
      · rw [if_neg hS]
        refine step _ _ _ ?_
        unfold dayM
        rw [hg, if_pos (by omega), mn_comm]
theorem rday3 {P : TP} {T : TS} (hn8 : pN P ≤ 8) : ∀ (m k : Nat) (M : Nat → Nat → Int32) (w2 w3 : Option PV), k + m = pN P → M 400 6 = nI (pN P) → (∀ j, j < pN P → M 431 j = lessF P T j) → (∀ j, j < pN P → M 427 j = if j < k then hel (tS T j - lessF P T j) 99 else tS T j) →
    ∃ M', X E (d + 4) me192 149 [some (vR 1 12 400), some (vI (nI k)), w2, w3] [] (M, L) = some (none, (u2 M' 400 29 (rm32 (M 400 29 + 1) 7), L)) ∧ (∀ c, c ≠ 427 → M' c = M c) ∧ ∀ j, j < pN P → M' 427 j = hel (tS T j - lessF P T j) 99 := by
  intro m
  induction m with
  | zero =>
    intro k M w2 w3 hk hq h1 h2
    have e : k = pN P := by omega
    refine ⟨M, ?_, fun _ _ => rfl, fun j hj => by have := h2 j hj; rw [if_pos (by omega)] at this; exact this⟩
    rw [x192_149, hq, e, if_pos (nI_le (Nat.le_refl _) (by omega))]
  | succ m ih =>
    intro k M w2 w3 hk hq h1 h2
    have hib : ib (nI k) 8 := by rw [ib_nI (by omega)]; omega
    have hx := ix_nI (n := k) (by omega)
    have a1 := h2 k (by omega)
    rw [if_neg (by omega)] at a1
    rw [x192_149, hq, if_neg (nI_ge (by omega) (by omega))]
    simp only [if_pos hib, hx, a1, h1 k (by omega), e152, bI_s, nI_1]
    obtain ⟨M', e, f1, f2⟩ := ih (k + 1) (u2 M 427 k (hel (tS T k - lessF P T k) 99)) w2 w3 (by omega) (by rw [u2_o (by omega)]; exact hq) (fun j hj => by rw [u2_o (by omega)]; exact h1 j hj) (fun j hj => by
      by_cases e : j = k
      · rw [e, u2_s, if_pos (by omega)]
      · rw [u2_n e, h2 j hj]
        by_cases e2 : j < k
        · rw [if_pos e2, if_pos (by omega)]
        · rw [if_neg e2, if_neg (by omega)])
    refine ⟨M', ?_, fun c hc => (f1 c hc).trans (u2_o hc), f2⟩
    rw [e, u2_o (by omega)]
theorem rm7 {D : Int32} (h : 0 ≤ D.toInt ∧ D.toInt ≤ 6) : rm32 (D + 1) 7 = dayD D := by
  obtain ⟨j, hj, e⟩ := nI_ex (n := 7) h.1 (by omega)
  rw [e]
  have : ∀ j, j < 7 → rm32 (nI j + 1) 7 = dayD (nI j) := by decide +kernel
  exact this j hj
theorem e192 (M : Nat → Nat → Int32) {P : TP} {T : TS} (hq : RQ M P) (ht : RT M P T) (hn8 : pN P ≤ 8) (hg9 : pG P ≤ 9) (hl : RL E (pK P) M) (hse : seatsOk P T) (hr : rngT P T) : ∃ M', C E (d + 5) 192 [vR 1 12 400] (M, L) = some (none, (M', L)) ∧ frR M M' ∧ RT M' P (dayA P T) := by
  rw [x192]
  obtain ⟨M1, e1, f1, l1⟩ := rday1 E d L hn8 hg9 (pN P) 0 M none none (by omega) hq ht hl (fun j hj => absurd hj (by omega))
  rw [show (0 : Int32) = nI 0 from rfl, e1]
  have g400 := f1 400 (by omega) (by omega) (by omega)
  obtain ⟨M2, w2, w3, e2, f2, l2⟩ := rday2 E d L (T := T) hn8 hg9 hse (pG P) 0 M1 none none (by omega) (hq.keep (f1 401 (by omega) (by omega) (by omega)) (fun j _ => by rw [g400])) (fun k hk => by rw [f1 427 (by omega) (by omega) (by omega)]; exact ht.1 k hk) (fun q hqq => by
    rw [if_neg (by omega), f1 428 (by omega) (by omega) (by omega), f1 429 (by omega) (by omega) (by omega)]
    exact ht.2.1 q hqq)
  rw [e2]
  have h400 := f2 400 (by omega)
  obtain ⟨M3, e3, f3, l3⟩ := rday3 E d L (T := T) hn8 (pN P) 0 M2 w2 w3 (by omega) (by rw [h400, g400]; exact hq.1) (fun j hj => by rw [f2 431 (by omega)]; exact l1 j hj) (fun j hj => by
    rw [if_neg (by omega), f2 427 (by omega), f1 427 (by omega) (by omega) (by omega)]
    exact ht.1 j hj)
  rw [e3]
  refine ⟨_, rfl, ⟨fun c h0 h1 h2 h3 h4 h5 h6 => by rw [u2_o h0, f3 c h3, f2 c h4, f1 c h1 h2 h6], fun j hj => by rw [u2_n hj, f3 400 (by omega), h400, g400]⟩, fun k hk => ?_, fun p hp => ⟨?_, ?_⟩, ?_⟩
  · rw [u2_o (by omega), l3 k hk]
    show _ = dayS P T k
    have hs := hr.1 k hk
    have hc := crk_rng P T k
    unfold lessF dayS
    by_cases h : 0 < (tS T k).toInt
    · rw [if_pos h, if_pos h]
      apply Int32.toInt_inj.mp
      rw [t_hel _ _ (by decide), t_mx, t_0, t_99, t_sub (by omega) (by omega)]
      (repeat' split) <;> omega
    · rw [if_neg h, if_neg h]
      apply Int32.toInt_inj.mp
      rw [t_hel _ _ (by decide), t_99, t_sub (by rw [t_0]; omega) (by rw [t_0]; omega), t_0]
      (repeat' split) <;> omega
  · rw [u2_o (by omega), f3 428 (by omega)]; exact l2 p hp
  · rw [u2_o (by omega), f3 429 (by omega), f2 429 (by omega), f1 429 (by omega) (by omega) (by omega)]; exact (ht.2.1 p hp).2
  · rw [u2_s, h400, g400, ht.2.2, rm7 hr.2.2]
    rfl
theorem e193 (M : Nat → Nat → Int32) {P : TP} {T : TS} (hq : RQ M P) (ht : RT M P T) (hn8 : pN P ≤ 8) (hg9 : pG P ≤ 9) (hl : RL E (pK P) M) (hse : seatsOk P T) (hr : rngT P T) {n : Nat} (hn : n < 1000) : ∃ M', C E (d + 6) 193 [vR 1 12 400, vI (nI n)] (M, L) = some (none, (M', L)) ∧ frR M M' ∧ RT M' P (itd (dayA P) n T) := by
  have h : ∀ m i (M1 : Nat → Nat → Int32), i + m = n → frR M M1 → RT M1 P (itd (dayA P) i T) → ∃ M', X E (d + 5) me193 2 [some (vR 1 12 400), some (vI (nI n)), some (vI (nI i))] [] (M1, L) = some (none, (M', L)) ∧ frR M M' ∧ RT M' P (itd (dayA P) n T) := by
    intro m
    induction m with
    | zero =>
      intro i M1 hi hf ht1
      have e : i = n := by omega
      subst e
      refine ⟨M1, ?_, hf, ht1⟩
      rw [x193_2, if_pos (nI_le (Nat.le_refl _) (by omega))]
    | succ m ih =>
      intro i M1 hi hf ht1
      obtain ⟨M2, e2, f2, t2⟩ := e192 E d L M1 (hq.frR hf) ht1 hn8 hg9 (hl.frR hf) (seats_days hse i) (rngT_days hr i)
      rw [x193_2, if_neg (nI_ge (by omega) (by omega)), e2, bV_s, nI_1]
      exact ih (i + 1) M2 (by omega) (hf.tr f2) t2
  rw [x193]
  exact h n 0 M (by omega) (frR.refl M) ht
theorem e188 (M : Nat → Nat → Int32) {P : TP} {T : TS} (hq : RQ M P) (hb : RB M P T) (hn8 : pN P ≤ 8) (hg9 : pG P ≤ 9) : ∃ M', C E (d + 1) 188 [vR 1 12 400] (M, L) = some (none, (M', L)) ∧ frR M M' ∧ RT M' P T := by
  have h2 : ∀ m p (M1 : Nat → Nat → Int32), p + m = pG P → (∀ c, c ≠ 427 → c ≠ 428 → c ≠ 429 → M1 c = M c) → (∀ k, k < pN P → M1 427 k = tS T k) → (∀ q, q < p → M1 428 q = tM T q ∧ M1 429 q = tE T q) → ∃ M', X E d me188 33 [some (vR 1 12 400), some (vI (nI p))] [] (M1, L) = some (none, (M', L)) ∧ frR M M' ∧ RT M' P T := by
    intro m
    induction m with
    | zero =>
      intro p M1 hp hf h1 h2
      have e : p = pG P := by omega
      have g400 := hf 400 (by omega) (by omega) (by omega)
      have g401 := hf 401 (by omega) (by omega) (by omega)
      rw [x188_33, g400, hq.2.1, e, if_pos (nI_le (Nat.le_refl _) (by omega)), if_pos (show ib (61 : Int32) 62 by decide), show ix (61 : Int32) = 61 from by decide, g401, hb.2.2]
      refine ⟨_, rfl, ⟨fun c a0 a1 a2 a3 a4 a5 a6 => by rw [u2_o a0]; exact hf c a3 a4 a5, fun j hj => by rw [u2_n hj, g400]⟩, fun k hk => by rw [u2_o (by omega)]; exact h1 k hk, fun q hqq => by rw [u2_o (by omega), u2_o (by omega)]; exact h2 q (by omega), u2_s⟩
    | succ m ih =>
      intro p M1 hp hf h1 h2
      have g400 := hf 400 (by omega) (by omega) (by omega)
      have g401 := hf 401 (by omega) (by omega) (by omega)
      have hib : ib (nI p) 9 := by rw [ib_nI (by omega)]; omega
      have hx := ix_nI (n := p) (by omega)
      obtain ⟨b1', b2'⟩ := hb.2.1 p (by omega)
      rw [x188_33, g400, hq.2.1, if_neg (nI_ge (by omega) (by omega))]
      simp only [show (24 : Int32) + nI p = nI (24 + p) from nI_add 24 p, show (51 : Int32) + nI p = nI (51 + p) from nI_add 51 p, if_pos (show ib (nI (24 + p)) 62 by rw [ib_nI (by omega)]; omega), if_pos (show ib (nI (51 + p)) 62 by rw [ib_nI (by omega)]; omega), if_pos hib, hx, ix_nI (n := 24 + p) (by omega), ix_nI (n := 51 + p) (by omega), nI_1]
      refine ih (p + 1) _ (by omega) (fun c a1 a2 a3 => by rw [u2_o a3, u2_o a2]; exact hf c a1 a2 a3) (fun k hk => by rw [u2_o (by omega), u2_o (by omega)]; exact h1 k hk) (fun q hqq => ?_)
      rw [u2_o (c := 401) (by omega), g401, b1', b2', u2_o (c := 428) (by omega)]
      by_cases e : q = p
      · rw [e, u2_s, u2_s]; exact ⟨rfl, rfl⟩
      · rw [u2_n e, u2_n e, u2_o (by omega)]; exact h2 q (by omega)
  have h1 : ∀ m k (M1 : Nat → Nat → Int32), k + m = pN P → (∀ c, c ≠ 427 → M1 c = M c) → (∀ j, j < k → M1 427 j = tS T j) → ∃ M', X E d me188 2 [some (vR 1 12 400), some (vI (nI k))] [] (M1, L) = some (none, (M', L)) ∧ frR M M' ∧ RT M' P T := by
    intro m
    induction m with
    | zero =>
      intro k M1 hk hf h1
      have e : k = pN P := by omega
      rw [x188_2, hf 400 (by omega), hq.1, e, if_pos (nI_le (Nat.le_refl _) (by omega))]
      exact h2 (pG P) 0 M1 (by omega) (fun c a _ _ => hf c a) (by rw [← e]; exact h1) (fun q hqq => absurd hqq (by omega))
    | succ m ih =>
      intro k M1 hk hf h1
      have hx := ix_nI (n := k) (by omega)
      rw [x188_2, hf 400 (by omega), hq.1, if_neg (nI_ge (by omega) (by omega)), show (8 : Int32) + nI k = nI (8 + k) from nI_add 8 k, if_pos (by rw [ib_nI (by omega)]; omega), if_pos (by rw [ib_nI (by omega)]; omega), hx, ix_nI (by omega), nI_1, hf 401 (by omega), hb.1 k (by omega)]
      refine ih (k + 1) _ (by omega) (fun c a => by rw [u2_o a]; exact hf c a) (fun j hj => ?_)
      by_cases e : j = k
      · rw [e, u2_s]
      · rw [u2_n e]; exact h1 j (by omega)
  rw [x188]
  exact h1 (pN P) 0 M (by omega) (fun _ _ => rfl) (fun j hj => absurd hj (by omega))
theorem e194 (M : Nat → Nat → Int32) {n : Nat} (hn : M 400 6 = nI n) (hn8 : n ≤ 8) : C E (d + 1) 194 [vR 1 12 400] (M, L) = some (some (vI (sdB (M 427) n)), (M, L)) := by
  have h : ∀ m k, k + m = n → X E d me194 4 [some (vR 1 12 400), some (vI (sdB (M 427) k)), some (vI (nI k))] [] (M, L) = some (some (vI (sdB (M 427) n)), (M, L)) := by
    intro m
    induction m with
    | zero =>
      intro k hk
      have e : k = n := by omega
      subst e
      rw [x194_4, hn, if_pos (nI_le (Nat.le_refl _) (by omega))]
    | succ m ih =>
      intro k hk
      rw [x194_4, hn, if_neg (nI_ge (by omega) (by omega)), if_pos (by rw [ib_nI (by omega)]; omega), ix_nI (by omega), nI_1, or0]
      have e : sdB (M 427) (k + 1) = if 0 < (M 427 k).toInt then sdB (M 427) k ||| bitI k else sdB (M 427) k := rfl
      have ih' := ih (k + 1) (by omega)
      rw [e] at ih'
      simp only [t_le, t_0]
      by_cases hs : (M 427 k).toInt ≤ 0
      · rw [if_pos hs]; rw [if_neg (by omega)] at ih'; exact ih'
      · rw [if_neg hs]; rw [if_pos (by omega)] at ih'; exact ih'
  rw [x194]
  exact h n 0 (by omega)
theorem e195 (M : Nat → Nat → Int32) {n : Nat} (hn : M 400 6 = nI n) (hn8 : n ≤ 8) : C E (d + 1) 195 [vR 1 12 400] (M, L) = some (some (vI (smB (M 427) n)), (M, L)) := by
  have h : ∀ m k, k + m = n → X E d me195 4 [some (vR 1 12 400), some (vI (smB (M 427) k)), some (vI (nI k))] [] (M, L) = some (some (vI (smB (M 427) n)), (M, L)) := by
    intro m
    induction m with
    | zero =>
      intro k hk
      have e : k = n := by omega
      subst e
      rw [x195_4, hn, if_pos (nI_le (Nat.le_refl _) (by omega))]
    | succ m ih =>
      intro k hk
      rw [x195_4, hn, if_neg (nI_ge (by omega) (by omega)), if_pos (by rw [ib_nI (by omega)]; omega), ix_nI (by omega), nI_1]
      exact ih (k + 1) (by omega)
  rw [x195]
  exact h n 0 (by omega)
theorem e196 (M : Nat → Nat → Int32) {n : Nat} (hn : M 400 7 = nI n) (hn8 : n ≤ 9) : C E (d + 2) 196 [vR 1 12 400] (M, L) = some (some (vI (poB (M 401 60) (M 428) n)), (M, L)) := by
  have h : ∀ m k, k + m = n → X E (d + 1) me196 4 [some (vR 1 12 400), some (vI (poB (M 401 60) (M 428) k)), some (vI (nI k))] [] (M, L) = some (some (vI (poB (M 401 60) (M 428) n)), (M, L)) := by
    intro m
    induction m with
    | zero =>
      intro k hk
      have e : k = n := by omega
      subst e
      rw [x196_4, hn, if_pos (nI_le (Nat.le_refl _) (by omega))]
    | succ m ih =>
      intro k hk
      rw [x196_4, hn, if_neg (nI_ge (by omega) (by omega)), e189 E d L M (by omega), bI_s, nI_1, or0]
      have e : poB (M 401 60) (M 428) (k + 1) = if (M 428 k).toInt ≤ (M 401 60).toInt then poB (M 401 60) (M 428) k ||| bitI k else poB (M 401 60) (M 428) k := rfl
      have ih' := ih (k + 1) (by omega)
      rw [e] at ih'
      by_cases hs : (M 428 k).toInt ≤ (M 401 60).toInt
      · rw [if_neg (b1_ne hs)]; rw [if_pos hs] at ih'; exact ih'
      · rw [if_pos (b1_e hs)]; rw [if_neg hs] at ih'; exact ih'
  rw [x196]
  exact h n 0 (by omega)
end REFDAY
