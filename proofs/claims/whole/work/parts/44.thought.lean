/-! days in thought, of one bridge, of one beggar, of all -/
def fT (c : Nat) : Prop := (140 ≤ c ∧ c ≤ 151) ∨ c = 93 ∨ c = 94
def ftr (p : Nat → Bool) : Nat → Nat → Int32
  | 0, _ => -2
  | m + 1, i => if p i then nI i else ftr p m (i + 1)
theorem ftr_congr {p q : Nat → Bool} : ∀ {m i : Nat}, (∀ j, i ≤ j → j < i + m → p j = q j) → ftr p m i = ftr q m i
  | 0, _, _ => rfl
  | m + 1, i, h => by
    unfold ftr
    rw [h i (Nat.le_refl _) (by omega), ftr_congr (m := m) (i := i + 1) (fun j h1 h2 => h j (by omega) (by omega))]
def rngT (P : TP) (T : TS) : Prop := (∀ k, k < pN P → 0 ≤ (tS T k).toInt ∧ (tS T k).toInt ≤ 99) ∧ (∀ p, p < pG P → 0 ≤ (tM T p).toInt ∧ (tM T p).toInt ≤ 99) ∧ 0 ≤ (tD T).toInt ∧ (tD T).toInt ≤ 6
theorem hel_rng (v m : Int32) (h : 0 ≤ m.toInt) : 0 ≤ (hel v m).toInt ∧ (hel v m).toInt ≤ m.toInt := by
  rw [t_hel v m h]
  (repeat' split) <;> omega
theorem crk_rng (P : TP) (T : TS) (k : Nat) : 0 ≤ (crk P T k).toInt ∧ (crk P T k).toInt ≤ 20 := by
  have := hel_rng (pK P (nmF (pSp P k) (nI (hN P T k)) (nI (rN P T k)) (pAl P k) (tD T) (tS T k))) 20 (by rw [t_20]; omega)
  rw [t_20] at this
  exact this
theorem dayS_rng {P : TP} {T : TS} {k : Nat} (h : 0 ≤ (tS T k).toInt ∧ (tS T k).toInt ≤ 99) : 0 ≤ (dayS P T k).toInt ∧ (dayS P T k).toInt ≤ (tS T k).toInt := by
  have hc := crk_rng P T k
  unfold dayS
  split
  · rw [t_mx, t_0, t_sub (by omega) (by omega)]
    split <;> omega
  · omega
theorem dayD_rng {D : Int32} (h : 0 ≤ D.toInt ∧ D.toInt ≤ 6) : 0 ≤ (dayD D).toInt ∧ (dayD D).toInt ≤ 6 := by
  unfold dayD
  split
  · rw [t_add (by rw [t_1]; omega) (by rw [t_1]; omega), t_1]; omega
  · rw [t_0]; omega
theorem rngT_day {P : TP} {T : TS} (h : rngT P T) : rngT P (dayA P T) := by
  refine ⟨fun k hk => ?_, fun p hp => ?_, dayD_rng h.2.2⟩
  · have h1 := h.1 k hk
    have h2 := dayS_rng (P := P) h1
    exact ⟨h2.1, by show (dayS P T k).toInt ≤ 99; omega⟩
  · have := hel_rng (tM T p + gts P T p - pSd P p) 99 (by rw [t_99]; omega)
    rw [t_99] at this
    exact this
theorem rngT_days {P : TP} {T : TS} (h : rngT P T) : ∀ i, rngT P (itd (dayA P) i T)
  | 0 => h
  | i + 1 => rngT_day (rngT_days h i)
section THOUGHT
variable (E : Nat × (Nat → Int32)) (d : Nat) (L : Nat → Nat → Int64)
theorem locStep (M : Nat → Nat → Int32) {P : TP} {T T' : TS} (hn8 : pN P ≤ 8) (hg9 : pG P ≤ 9) (hl : LW E (pK P) M) (hC : CH M 140 P T) {s : Int32} (h1 : -1 ≤ s.toInt) (h2 : s.toInt < (pN P : Int)) (hloc : LocS P s T T') :
    ∃ M', C E (d + 4) 29 [vR 1 2 140, vI s, vI (s + 1), vR 1 3 90] (M, L) = some (none, (M', L)) ∧ (∀ c, ¬ fT c → M' c = M c) ∧ ∃ T1, CH M' 140 P T1 ∧ LocS P s T1 (dayA P T') := by
  have e : s + 1 = nI (s.toInt + 1).toNat := by
    apply Int32.toInt_inj.mp
    rw [t_add (by rw [t_1]; omega) (by rw [t_1]; omega), t_1, t_nI (by omega)]
    omega
  obtain ⟨M', e1, f1, c1⟩ := e29 E d L M 140 (by omega) hC hn8 hg9 hl s (s.toInt + 1).toNat (by omega) (by omega)
  refine ⟨M', by rw [e]; exact e1, fun c hc => f1 c (fun q => hc (Or.inl q)) (fun q => hc (Or.inr (Or.inl q))) (fun q => hc (Or.inr (Or.inr q))), _, c1, ?_⟩
  have := locDay hn8 hloc
  rw [show s.toInt + 1 = ((s.toInt + 1).toNat : Int) by omega] at this
  exact this
theorem LW_T {P : TP} {M M' : Nat → Nat → Int32} (hl : LW E (pK P) M) (hf : ∀ c, ¬ fT c → M' c = M c) : LW E (pK P) M' := hl.keep (hf 90 (by unfold fT; omega)) (hf 91 (by unfold fT; omega)) (hf 92 (by unfold fT; omega))
/-- a copy into the trial -/
theorem e25T (M : Nat → Nat → Int32) (o0 : Nat) (ho : o0 + 11 < 140 ∨ 151 < o0) {P : TP} {T : TS} (hC : CH M o0 P T) (hn8 : pN P ≤ 8) (hg9 : pG P ≤ 9) : ∃ M', C E (d + 2) 25 [vR 1 2 140, vR 1 2 o0] (M, L) = some (none, (M', L)) ∧ (∀ c, ¬ fT c → M' c = M c) ∧ CH M' 140 P T := by
  obtain ⟨M', e, f, g⟩ := e25 E d L M 140 o0 (by omega)
  exact ⟨M', e, fun c hc => f c (fun q => hc (Or.inl q)), g P T hC hn8 hg9⟩
theorem nI_rng {k n : Nat} (hn : n ≤ 8) (hk : k < n) : -1 ≤ (nI k).toInt ∧ (nI k).toInt < (n : Int) := by
  rw [t_nI (by omega)]; omega
theorem e79 (M : Nat → Nat → Int32) (o0 : Nat) (ho : o0 + 11 < 140 ∨ 151 < o0) {P : TP} {T : TS} (hC : CH M o0 P T) (hn8 : pN P ≤ 8) (hg9 : pG P ≤ 9) (hl : LW E (pK P) M) {b n : Nat} (hb : b < pN P) (hn : n < 1000) :
    ∃ M', C E (d + 5) 79 [vR 1 8 110, vR 1 2 o0, vI (nI b), vI (nI n)] (M, L) = some (some (vI (tS (itd (dayA P) n T) b)), (M', L)) ∧ ∀ c, ¬ fT c → M' c = M c := by
  have hb1 := nI_rng hn8 hb
  have h : ∀ m i (M1 : Nat → Nat → Int32) (T1 : TS), i + m = n → (∀ c, ¬ fT c → M1 c = M c) → CH M1 140 P T1 → LocS P (nI b) T1 (itd (dayA P) i T) → ∃ M', X E (d + 4) me79 11 [some (vR 1 8 110), some (vR 1 2 o0), some (vI (nI b)), some (vI (nI n)), some (vI (nI i))] [] (M1, L) = some (some (vI (tS (itd (dayA P) n T) b)), (M', L)) ∧ ∀ c, ¬ fT c → M' c = M c := by
    intro m
    induction m with
    | zero =>
      intro i M1 T1 hi hf hC1 hloc
      have e : i = n := by omega
      subst e
      refine ⟨M1, ?_, hf⟩
      rw [x79_11, if_pos (nI_le (Nat.le_refl _) (by omega)), e22_1 E _ M1 L 140 (by omega), bI_s, (hC1.2.2.2.2.1 b hb).2.1, hloc.2.2.2 b hb rfl]
    | succ m ih =>
      intro i M1 T1 hi hf hC1 hloc
      have hSb : M1 (140 + 4) b = tS T1 b := (hC1.2.2.2.2.1 b hb).2.1
      rw [x79_11, if_neg (nI_ge (by omega) (by omega)), e81 E _ M1 L 140 (by omega), bI_s, hSb]
      by_cases hs : 0 < (tS T1 b).toInt
      · rw [if_neg (b1_ne hs)]
        obtain ⟨M2, e2, f2, T2, c2, l2⟩ := locStep E d L M1 hn8 hg9 (LW_T E hl hf) hC1 hb1.1 hb1.2 hloc
        rw [e2, bV_s, nI_1]
        exact ih (i + 1) M2 T2 (by omega) (fun c hc => (f2 c hc).trans (hf c hc)) c2 l2
      · rw [if_pos (b1_e hs), e22_1 E _ M1 L 140 (by omega), bI_s, hSb]
        refine ⟨M1, ?_, hf⟩
        have h1 := hloc.2.2.2 b hb rfl
        rw [h1] at hs ⊢
        rw [← hi, itd_add, itd_down hs]
  rw [x79]
  obtain ⟨M1, e1, f1, c1⟩ := e25T E (d + 2) L M o0 ho hC hn8 hg9
  rw [e1, bV_s]
  exact h n 0 M1 T (by omega) f1 c1 (LocS.of EqT.rfl')
def fallP (P : TP) (T : TS) (b : Nat) (i : Nat) : Bool := !decide (0 < (tS (itd (dayA P) i T) b).toInt)
theorem e80 (M : Nat → Nat → Int32) (o0 : Nat) (ho : o0 + 11 < 140 ∨ 151 < o0) {P : TP} {T : TS} (hC : CH M o0 P T) (hn8 : pN P ≤ 8) (hg9 : pG P ≤ 9) (hl : LW E (pK P) M) {b : Nat} (hb : b < pN P) :
    ∃ M', C E (d + 5) 80 [vR 1 8 110, vR 1 2 o0, vI (nI b)] (M, L) = some (some (vI (ftr (fallP P T b) 61 0)), (M', L)) ∧ ∀ c, ¬ fT c → M' c = M c := by
  have hb1 := nI_rng hn8 hb
  have h : ∀ m i (M1 : Nat → Nat → Int32) (T1 : TS), i + m = 61 → (∀ c, ¬ fT c → M1 c = M c) → CH M1 140 P T1 → LocS P (nI b) T1 (itd (dayA P) i T) → ∃ M', X E (d + 4) me80 10 [some (vR 1 8 110), some (vR 1 2 o0), some (vI (nI b)), some (vI (nI i))] [] (M1, L) = some (some (vI (ftr (fallP P T b) m i)), (M', L)) ∧ ∀ c, ¬ fT c → M' c = M c := by
    intro m
    induction m with
    | zero =>
      intro i M1 T1 hi hf hC1 hloc
      refine ⟨M1, ?_, hf⟩
      rw [x80_10, if_pos (show (60 : Int32) < nI i from nI_lt (a := 60) (by omega) (by omega))]
      rfl
    | succ m ih =>
      intro i M1 T1 hi hf hC1 hloc
      have hSb : M1 (140 + 4) b = tS (itd (dayA P) i T) b := ((hC1.2.2.2.2.1 b hb).2.1).trans (hloc.2.2.2 b hb rfl)
      rw [x80_10, if_neg (show ¬ (60 : Int32) < nI i from nI_nlt (a := 60) (by omega) (by omega)), e81 E _ M1 L 140 (by omega), bI_s, hSb]
      unfold ftr
      by_cases hs : 0 < (tS (itd (dayA P) i T) b).toInt
      · rw [if_neg (b1_ne hs), if_neg (by unfold fallP; simp [hs])]
        obtain ⟨M2, e2, f2, T2, c2, l2⟩ := locStep E d L M1 hn8 hg9 (LW_T E hl hf) hC1 hb1.1 hb1.2 hloc
        rw [e2, bV_s, nI_1]
        exact ih (i + 1) M2 T2 (by omega) (fun c hc => (f2 c hc).trans (hf c hc)) c2 l2
      · rw [if_pos (b1_e hs), if_pos (by unfold fallP; simp [hs])]
        exact ⟨M1, rfl, hf⟩
  rw [x80]
  obtain ⟨M1, e1, f1, c1⟩ := e25T E (d + 2) L M o0 ho hC hn8 hg9
  rw [e1, bV_s]
  exact h 61 0 M1 T (by omega) f1 c1 (LocS.of EqT.rfl')
theorem e83 (M : Nat → Nat → Int32) {P : TP} {T : TS} (hC : CH M 40 P T) (hn8 : pN P ≤ 8) (hg9 : pG P ≤ 9) (hl : LW E (pK P) M) (hse : seatsOk P T) {p n : Nat} (hp : p < pG P) (hn : n < 1000) :
    ∃ M', C E (d + 5) 83 [vR 1 8 110, vI (nI p), vI (nI n)] (M, L) = some (some (vI (tM (itd (dayA P) n T) p)), (M', L)) ∧ ∀ c, ¬ fT c → M' c = M c := by
  obtain ⟨s1, s2⟩ := hse p hp
  have h : ∀ m i (M1 : Nat → Nat → Int32) (T1 : TS), i + m = n → (∀ c, ¬ fT c → M1 c = M c) → CH M1 140 P T1 → LocS P (tE T p) T1 (itd (dayA P) i T) → ∃ M', X E (d + 4) me83 25 [some (vR 1 8 110), some (vI (nI p)), some (vI (nI n)), some (vI (tE T p)), some (vI (nI i))] [] (M1, L) = some (some (vI (tM (itd (dayA P) n T) p)), (M', L)) ∧ ∀ c, ¬ fT c → M' c = M c := by
    intro m
    induction m with
    | zero =>
      intro i M1 T1 hi hf hC1 hloc
      have e : i = n := by omega
      subst e
      refine ⟨M1, ?_, hf⟩
      have he : tE T1 p = tE T p := by rw [hloc.1 p hp, itd_seat]
      rw [x83_25, if_pos (nI_le (Nat.le_refl _) (by omega)), e22_3 E _ M1 L 140 (by omega), bI_s, (hC1.2.2.2.2.2 p hp).1, hloc.2.2.1 p hp he]
    | succ m ih =>
      intro i M1 T1 hi hf hC1 hloc
      rw [x83_25, if_neg (nI_ge (by omega) (by omega))]
      obtain ⟨M2, e2, f2, T2, c2, l2⟩ := locStep E d L M1 hn8 hg9 (LW_T E hl hf) hC1 s1 s2 hloc
      rw [e2, bV_s, nI_1]
      exact ih (i + 1) M2 T2 (by omega) (fun c hc => (f2 c hc).trans (hf c hc)) c2 l2
  rw [x83, e22_6 E _ M L 40 (by omega), bI_s, (hC.2.2.2.2.2 p hp).2.2.2]
  obtain ⟨M1, e1, f1, c1⟩ := e25T E (d + 2) L M 40 (by omega) hC hn8 hg9
  rw [e1, bV_s]
  exact h n 0 M1 T (by omega) f1 c1 (LocS.of EqT.rfl')
def richP (P : TP) (T : TS) (p : Nat) (i : Nat) : Bool := !decide ((tM (itd (dayA P) i T) p).toInt ≤ (pPr P).toInt)
theorem e84 (M : Nat → Nat → Int32) {P : TP} {T : TS} (hC : CH M 40 P T) (hn8 : pN P ≤ 8) (hg9 : pG P ≤ 9) (hl : LW E (pK P) M) (hse : seatsOk P T) (hr : rngT P T) (hpr : 0 ≤ (pPr P).toInt ∧ (pPr P).toInt ≤ 99) {p : Nat} (hp : p < pG P) :
    ∃ M', C E (d + 5) 84 [vR 1 8 110, vI (nI p)] (M, L) = some (some (vI (ftr (richP P T p) 61 0)), (M', L)) ∧ ∀ c, ¬ fT c → M' c = M c := by
  obtain ⟨s1, s2⟩ := hse p hp
  have h : ∀ m i (M1 : Nat → Nat → Int32) (T1 : TS), i + m = 61 → (∀ c, ¬ fT c → M1 c = M c) → CH M1 140 P T1 → LocS P (tE T p) T1 (itd (dayA P) i T) → ∃ M', X E (d + 4) me84 24 [some (vR 1 8 110), some (vI (nI p)), some (vI (tE T p)), some (vI (nI i))] [] (M1, L) = some (some (vI (ftr (richP P T p) m i)), (M', L)) ∧ ∀ c, ¬ fT c → M' c = M c := by
    intro m
    induction m with
    | zero =>
      intro i M1 T1 hi hf hC1 hloc
      refine ⟨M1, ?_, hf⟩
      rw [x84_24, if_pos (show (60 : Int32) < nI i from nI_lt (a := 60) (by omega) (by omega))]
      rfl
    | succ m ih =>
      intro i M1 T1 hi hf hC1 hloc
      have he : tE T1 p = tE T p := by rw [hloc.1 p hp, itd_seat]
      have hM : M1 (140 + 6) p = tM (itd (dayA P) i T) p := ((hC1.2.2.2.2.2 p hp).1).trans (hloc.2.2.1 p hp he)
      have hrg := (rngT_days hr i).2.1 p hp
      rw [x84_24, if_neg (show ¬ (60 : Int32) < nI i from nI_nlt (a := 60) (by omega) (by omega)), e33 E _ M1 L 140 (by omega) hC1.2.1 hg9 hp, bI_s, hM, hC1.2.2.1]
      have hmx : (mx 0 (tM (itd (dayA P) i T) p - pPr P)).toInt = if 0 < (tM (itd (dayA P) i T) p).toInt - (pPr P).toInt then (tM (itd (dayA P) i T) p).toInt - (pPr P).toInt else 0 := by
        rw [t_mx, t_0, t_sub (by omega) (by omega)]
      unfold ftr
      by_cases hs : (tM (itd (dayA P) i T) p).toInt ≤ (pPr P).toInt
      · rw [if_pos (by rw [t_le, hmx, t_0, if_neg (by omega)]; omega), if_neg (by unfold richP; simp [hs])]
        obtain ⟨M2, e2, f2, T2, c2, l2⟩ := locStep E d L M1 hn8 hg9 (LW_T E hl hf) hC1 s1 s2 hloc
        rw [e2, bV_s, nI_1]
        exact ih (i + 1) M2 T2 (by omega) (fun c hc => (f2 c hc).trans (hf c hc)) c2 l2
      · rw [if_neg (by rw [t_le, hmx, t_0, if_pos (by omega)]; omega), if_pos (by unfold richP; simp; omega)]
        exact ⟨M1, rfl, hf⟩
  rw [x84, e22_6 E _ M L 40 (by omega), bI_s, (hC.2.2.2.2.2 p hp).2.2.2]
  obtain ⟨M1, e1, f1, c1⟩ := e25T E (d + 2) L M 40 (by omega) hC hn8 hg9
  rw [e1, bV_s]
  exact h 61 0 M1 T (by omega) f1 c1 (LocS.of EqT.rfl')
/-- a whole day of the trial -/
theorem allStep (M : Nat → Nat → Int32) {P : TP} {T : TS} (hn8 : pN P ≤ 8) (hg9 : pG P ≤ 9) (hl : LW E (pK P) M) (hse : seatsOk P T) (hC : CH M 140 P T) :
    ∃ M', C E (d + 5) 28 [vR 1 2 140, vR 1 3 90] (M, L) = some (none, (M', L)) ∧ (∀ c, ¬ fT c → M' c = M c) ∧ CH M' 140 P (dayA P T) := by
  obtain ⟨M', e1, f1, c1⟩ := e28 E d L M 140 (by omega) hC hn8 hg9 hl
  exact ⟨M', e1, fun c hc => f1 c (fun q => hc (Or.inl q)) (fun q => hc (Or.inr (Or.inl q))) (fun q => hc (Or.inr (Or.inr q))), c1.eqT (pd_all hse)⟩
theorem seats_days {P : TP} {T : TS} (h : seatsOk P T) (i : Nat) : seatsOk P (itd (dayA P) i T) := by
  intro p hp
  rw [itd_seat]
  exact h p hp
theorem e78 (M : Nat → Nat → Int32) {P : TP} {T : TS} (hC : CH M 40 P T) (hn8 : pN P ≤ 8) (hg9 : pG P ≤ 9) (hl : LW E (pK P) M) (hse : seatsOk P T) {n : Nat} (hn : n < 1000) :
    ∃ M', C E (d + 6) 78 [vR 1 8 110, vI (nI n)] (M, L) = some (some (vR 1 2 140), (M', L)) ∧ (∀ c, ¬ fT c → M' c = M c) ∧ CH M' 140 P (itd (dayA P) n T) := by
  have h : ∀ m i (M1 : Nat → Nat → Int32), i + m = n → (∀ c, ¬ fT c → M1 c = M c) → CH M1 140 P (itd (dayA P) i T) → ∃ M', X E (d + 5) me78 13 [some (vR 1 8 110), some (vI (nI n)), some (vI (nI i))] [] (M1, L) = some (some (vR 1 2 140), (M', L)) ∧ (∀ c, ¬ fT c → M' c = M c) ∧ CH M' 140 P (itd (dayA P) n T) := by
    intro m
    induction m with
    | zero =>
      intro i M1 hi hf hC1
      have e : i = n := by omega
      subst e
      refine ⟨M1, ?_, hf, hC1⟩
      rw [x78_13, if_pos (nI_le (Nat.le_refl _) (by omega))]
    | succ m ih =>
      intro i M1 hi hf hC1
      rw [x78_13, if_neg (nI_ge (by omega) (by omega))]
      obtain ⟨M2, e2, f2, c2⟩ := allStep E d L M1 hn8 hg9 (LW_T E hl hf) (seats_days hse i) hC1
      rw [e2, bV_s, nI_1]
      exact ih (i + 1) M2 (by omega) (fun c hc => (f2 c hc).trans (hf c hc)) c2
  rw [x78]
  obtain ⟨M1, e1, f1, c1⟩ := e25T E (d + 3) L M 40 (by omega) hC hn8 hg9
  rw [e1, bV_s]
  exact h n 0 M1 (by omega) f1 c1
def downP (P : TP) (T : TS) (k : Nat) : Bool := !decide (0 < (tS T k).toInt)
def fall1 (P : TP) (T : TS) : Nat → Nat → Int32
  | 0, _ => -2
  | m + 1, i => if ftr (downP P (itd (dayA P) i T)) (pN P) 0 = -2 then fall1 P T m (i + 1) else ftr (downP P (itd (dayA P) i T)) (pN P) 0
theorem e82 (M : Nat → Nat → Int32) {P : TP} {T : TS} (hC : CH M 40 P T) (hn8 : pN P ≤ 8) (hg9 : pG P ≤ 9) (hl : LW E (pK P) M) (hse : seatsOk P T) :
    ∃ M', C E (d + 6) 82 [vR 1 8 110] (M, L) = some (some (vI (fall1 P T 61 0)), (M', L)) ∧ ∀ c, ¬ fT c → M' c = M c := by
  have h : ∀ m i (M1 : Nat → Nat → Int32) (w : Option PV), i + m = 61 → (∀ c, ¬ fT c → M1 c = M c) → CH M1 140 P (itd (dayA P) i T) → ∃ M', X E (d + 5) me82 13 [some (vR 1 8 110), some (vI (nI i)), w] [] (M1, L) = some (some (vI (fall1 P T m i)), (M', L)) ∧ ∀ c, ¬ fT c → M' c = M c := by
    intro m
    induction m with
    | zero =>
      intro i M1 w hi hf hC1
      refine ⟨M1, ?_, hf⟩
      rw [x82_13, if_pos (show (60 : Int32) < nI i from nI_lt (a := 60) (by omega) (by omega))]
      rfl
    | succ m ih =>
      intro i M1 w hi hf hC1
      rw [x82_13, if_neg (show ¬ (60 : Int32) < nI i from nI_nlt (a := 60) (by omega) (by omega))]
      have hin : ∀ r k, k + r = pN P → (X E (d + 5) me82 21 [some (vR 1 8 110), some (vI (nI i)), some (vI (nI k))] [] (M1, L) = if ftr (downP P (itd (dayA P) i T)) r k = -2 then X E (d + 5) me82 21 [some (vR 1 8 110), some (vI (nI i)), some (vI (nI (pN P)))] [] (M1, L) else some (some (vI (ftr (downP P (itd (dayA P) i T)) r k)), (M1, L))) := by
        intro r
        induction r with
        | zero =>
          intro k hk
          have e : k = pN P := by omega
          rw [e]
          show _ = if (-2 : Int32) = -2 then _ else _
          rw [if_pos rfl]
        | succ r ihr =>
          intro k hk
          rw [x82_21, hC1.1, if_neg (nI_ge (by omega) (by omega)), e81 E _ M1 L 140 (by omega), bI_s, (hC1.2.2.2.2.1 k (by omega)).2.1, nI_1]
          have eq : ftr (downP P (itd (dayA P) i T)) (r + 1) k = if downP P (itd (dayA P) i T) k then nI k else ftr (downP P (itd (dayA P) i T)) r (k + 1) := rfl
          rw [eq]
          by_cases hs : 0 < (tS (itd (dayA P) i T) k).toInt
          · rw [if_neg (b1_ne hs), if_neg (c := downP P (itd (dayA P) i T) k = true) (by unfold downP; simp [hs]), ihr (k + 1) (by omega)]
          · have hk2 : ¬ nI k = -2 := by
              intro q
              have := congrArg Int32.toInt q
              rw [t_nI (by omega), t_m2] at this
              omega
            rw [if_pos (b1_e hs), if_pos (c := downP P (itd (dayA P) i T) k = true) (by unfold downP; simp [hs]), if_neg hk2]
      have hz := hin (pN P) 0 (by omega)
      rw [show (0 : Int32) = nI 0 from rfl, hz]
      unfold fall1
      by_cases hd : ftr (downP P (itd (dayA P) i T)) (pN P) 0 = -2
      · rw [if_pos hd, if_pos hd, x82_21, hC1.1, if_pos (nI_le (Nat.le_refl _) (by omega))]
        obtain ⟨M2, e2, f2, c2⟩ := allStep E d L M1 hn8 hg9 (LW_T E hl hf) (seats_days hse i) hC1
        rw [e2, bV_s, nI_1]
        exact ih (i + 1) M2 _ (by omega) (fun c hc => (f2 c hc).trans (hf c hc)) c2
      · rw [if_neg hd, if_neg hd]
        exact ⟨M1, rfl, hf⟩
  rw [x82]
  obtain ⟨M1, e1, f1, c1⟩ := e25T E (d + 3) L M 40 (by omega) hC hn8 hg9
  rw [e1, bV_s]
  exact h 61 0 M1 none (by omega) f1 c1
end THOUGHT
