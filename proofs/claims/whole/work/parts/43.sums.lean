/-! bits and sums of the county; tallies -/
def bitI (k : Nat) : Int32 := (1 : Int32) <<< (nI k &&& 31)
def sdB (S : Nat → Int32) : Nat → Int32
  | 0 => 0
  | k + 1 => if 0 < (S k).toInt then sdB S k ||| bitI k else sdB S k
def smB (S : Nat → Int32) : Nat → Int32
  | 0 => 0
  | k + 1 => smB S k + S k
def poB (pr : Int32) (m : Nat → Int32) : Nat → Int32
  | 0 => 0
  | k + 1 => if (m k).toInt ≤ pr.toInt then poB pr m k ||| bitI k else poB pr m k
def clB (f t : Nat → Int32) (place : Int32) (h r : Nat → Nat) : Nat → Int32
  | 0 => 0
  | k + 1 => if f k = place ∨ t k = place then clB f t place h r k + (10 * nI (h k) + nI (r k)) else clB f t place h r k
theorem sdB_congr {S S' : Nat → Int32} : ∀ {n : Nat}, (∀ k, k < n → S k = S' k) → sdB S n = sdB S' n
  | 0, _ => rfl
  | n + 1, h => by
    unfold sdB
    rw [h n (by omega), sdB_congr (n := n) (fun k hk => h k (by omega))]
theorem smB_congr {S S' : Nat → Int32} : ∀ {n : Nat}, (∀ k, k < n → S k = S' k) → smB S n = smB S' n
  | 0, _ => rfl
  | n + 1, h => by
    unfold smB
    rw [h n (by omega), smB_congr (n := n) (fun k hk => h k (by omega))]
theorem poB_congr {pr : Int32} {S S' : Nat → Int32} : ∀ {n : Nat}, (∀ k, k < n → S k = S' k) → poB pr S n = poB pr S' n
  | 0, _ => rfl
  | n + 1, h => by
    unfold poB
    rw [h n (by omega), poB_congr (n := n) (fun k hk => h k (by omega))]
section SUMS
variable (E : Nat × (Nat → Int32)) (d : Nat) (L : Nat → Nat → Int64)
theorem e30 (M : Nat → Nat → Int32) (o : Nat) {n : Nat} (hn : M o 11 = nI n) (hn8 : n ≤ 8) : C E (d + 1) 30 [vR 1 2 o] (M, L) = some (some (vI (sdB (M (o + 4)) n)), (M, L)) := by
  have h : ∀ m k, k + m = n → X E d me30 4 [some (vR 1 2 o), some (vI (sdB (M (o + 4)) k)), some (vI (nI k))] [] (M, L) = some (some (vI (sdB (M (o + 4)) n)), (M, L)) := by
    intro m
    induction m with
    | zero =>
      intro k hk
      have e : k = n := by omega
      subst e
      rw [x30_4, hn, if_pos (nI_le (Nat.le_refl _) (by omega))]
    | succ m ih =>
      intro k hk
      rw [x30_4, hn, if_neg (nI_ge (by omega) (by omega)), if_neg (show ¬ (8 : Int32) ≤ nI k from nI_ge (b := 8) (by omega) (by omega)), if_pos (by rw [ib_nI (by omega)]; omega), ix_nI (by omega), nI_1]
      have e : sdB (M (o + 4)) (k + 1) = if 0 < (M (o + 4) k).toInt then sdB (M (o + 4)) k ||| bitI k else sdB (M (o + 4)) k := rfl
      have ih' := ih (k + 1) (by omega)
      rw [e] at ih'
      simp only [t_le, t_0]
      by_cases hs : (M (o + 4) k).toInt ≤ 0
      · rw [if_pos hs]; rw [if_neg (by omega)] at ih'; exact ih'
      · rw [if_neg hs]; rw [if_pos (by omega)] at ih'; exact ih'
  rw [x30]
  exact h n 0 (by omega)
theorem e31 (M : Nat → Nat → Int32) (o : Nat) {n : Nat} (hn : M o 11 = nI n) (hn8 : n ≤ 8) : C E (d + 1) 31 [vR 1 2 o] (M, L) = some (some (vI (smB (M (o + 4)) n)), (M, L)) := by
  have h : ∀ m k, k + m = n → X E d me31 4 [some (vR 1 2 o), some (vI (smB (M (o + 4)) k)), some (vI (nI k))] [] (M, L) = some (some (vI (smB (M (o + 4)) n)), (M, L)) := by
    intro m
    induction m with
    | zero =>
      intro k hk
      have e : k = n := by omega
      subst e
      rw [x31_4, hn, if_pos (nI_le (Nat.le_refl _) (by omega))]
    | succ m ih =>
      intro k hk
      rw [x31_4, hn, if_neg (nI_ge (by omega) (by omega)), if_neg (show ¬ (8 : Int32) ≤ nI k from nI_ge (b := 8) (by omega) (by omega)), if_pos (by rw [ib_nI (by omega)]; omega), ix_nI (by omega), nI_1]
      exact ih (k + 1) (by omega)
  rw [x31]
  exact h n 0 (by omega)
theorem e32 (M : Nat → Nat → Int32) (o : Nat) {n : Nat} (hn : M o 12 = nI n) (hn8 : n ≤ 9) : C E (d + 1) 32 [vR 1 2 o] (M, L) = some (some (vI (poB (M o 13) (M (o + 6)) n)), (M, L)) := by
  have h : ∀ m k, k + m = n → X E d me32 4 [some (vR 1 2 o), some (vI (poB (M o 13) (M (o + 6)) k)), some (vI (nI k))] [] (M, L) = some (some (vI (poB (M o 13) (M (o + 6)) n)), (M, L)) := by
    intro m
    induction m with
    | zero =>
      intro k hk
      have e : k = n := by omega
      subst e
      rw [x32_4, hn, if_pos (nI_le (Nat.le_refl _) (by omega))]
    | succ m ih =>
      intro k hk
      rw [x32_4, hn, if_neg (nI_ge (by omega) (by omega)), if_neg (show ¬ (9 : Int32) ≤ nI k from nI_ge (b := 9) (by omega) (by omega)), if_pos (by rw [ib_nI (by omega)]; omega), ix_nI (by omega), nI_1]
      have e : poB (M o 13) (M (o + 6)) (k + 1) = if (M (o + 6) k).toInt ≤ (M o 13).toInt then poB (M o 13) (M (o + 6)) k ||| bitI k else poB (M o 13) (M (o + 6)) k := rfl
      have ih' := ih (k + 1) (by omega)
      rw [e] at ih'
      simp only [t_lt]
      by_cases hs : (M (o + 6) k).toInt ≤ (M o 13).toInt
      · rw [if_neg (by omega)]; rw [if_pos hs] at ih'; exact ih'
      · rw [if_pos (by omega)]; rw [if_neg hs] at ih'; exact ih'
  rw [x32]
  exact h n 0 (by omega)
theorem e26 (M : Nat → Nat → Int32) (o : Nat) {P : TP} {T : TS} (hC : CH M o P T) (hn8 : pN P ≤ 8) (hg9 : pG P ≤ 9) :
    ∃ M', C E (d + 3) 26 [vR 1 2 o] (M, L) = some (none, (M', L)) ∧ (∀ c, c ≠ o + 10 → c ≠ o + 11 → M' c = M c) ∧ ∀ k, k < pN P → M' (o + 10) k = nI (hN P T k) ∧ M' (o + 11) k = nI (rN P T k) := by
  have h : ∀ m b (M1 : Nat → Nat → Int32), b + m = pG P → (∀ c, c ≠ o + 10 → c ≠ o + 11 → M1 c = M c) → (∀ k, k < pN P → M1 (o + 10) k = nI (cnt b (hF P T k)) ∧ M1 (o + 11) k = nI (cnt b (rF P T k))) → ∃ M', X E (d + 2) me26 18 [some (vR 1 2 o), some (vI (nI b))] [] (M1, L) = some (none, (M', L)) ∧ (∀ c, c ≠ o + 10 → c ≠ o + 11 → M' c = M c) ∧ ∀ k, k < pN P → M' (o + 10) k = nI (hN P T k) ∧ M' (o + 11) k = nI (rN P T k) := by
    intro m
    induction m with
    | zero =>
      intro b M1 hb hf hk
      have e : b = pG P := by omega
      rw [x26_18, hf o (by omega) (by omega), hC.2.1, e, if_pos (nI_le (Nat.le_refl _) (by omega))]
      rw [e] at hk
      exact ⟨M1, rfl, hf, hk⟩
    | succ m ih =>
      intro b M1 hb hf hk
      rw [x26_18, hf o (by omega) (by omega), hC.2.1, if_neg (nI_ge (by omega) (by omega)), if_neg (show ¬ (9 : Int32) ≤ nI b from nI_ge (b := 9) (by omega) (by omega)), e27 E d L M1 o (n := pN P) (by rw [hf o (by omega) (by omega)]; exact hC.1) hn8 (by omega), bV_s, nI_1]
      have he : M1 (o + 9) b = tE T b := by rw [hf _ (by omega) (by omega)]; exact (hC.2.2.2.2.2 b (by omega)).2.2.2
      have hm : M1 (o + 6) b = tM T b := by rw [hf _ (by omega) (by omega)]; exact (hC.2.2.2.2.2 b (by omega)).1
      have hp : M1 o 13 = pPr P := by rw [hf _ (by omega) (by omega)]; exact hC.2.2.1
      refine ih (b + 1) (tly M1 o (pN P) b) (by omega) (fun c q1 q2 => ?_) (fun k hk' => ?_)
      · rw [← hf c q1 q2]
        unfold tly
        (repeat' split) <;> first | rfl | exact u2_o (by omega)
      · obtain ⟨i1, i2⟩ := hk k hk'
        unfold tly
        rw [he, hm, hp, cnt_s, cnt_s]
        by_cases hin : 0 ≤ (tE T b).toInt ∧ (tE T b).toInt < (pN P : Int)
        · obtain ⟨j, hj, hej⟩ := nI_ex (n := pN P) hin.1 hin.2
          have hek' : (tE T b = nI k) = (k = j) := by
            rw [hej, nI_eqB (by omega) (by omega)]
            exact propext ⟨fun q => q.symm, fun q => q.symm⟩
          have hfb : hF P T k b = decide (k = j ∧ (tM T b).toInt ≤ (pPr P).toInt) := by unfold hF; simp only [hek']
          have rfb : rF P T k b = decide (k = j ∧ ¬ (tM T b).toInt ≤ (pPr P).toInt) := by unfold rF; simp only [hek']
          rw [if_pos hin, hej, ix_nI (by omega), hfb, rfb]
          by_cases hq : (tM T b).toInt ≤ (pPr P).toInt
          · rw [if_pos hq, u2_o (c := o + 11) (by omega)]
            by_cases e : k = j
            · subst e
              rw [u2_s, i1, i2, nI_1]
              constructor <;> simp [hq]
            · rw [u2_n e, i1, i2]
              constructor <;> simp [e]
          · rw [if_neg hq, u2_o (c := o + 10) (by omega)]
            by_cases e : k = j
            · subst e
              rw [u2_s, i1, i2, nI_1]
              constructor <;> simp [hq]
            · rw [u2_n e, i1, i2]
              constructor <;> simp [e]
        · have hne : ¬ tE T b = nI k := fun e => hin (by rw [e, t_nI (by omega)]; omega)
          have hfb : hF P T k b = false := by unfold hF; simp [hne]
          have rfb : rF P T k b = false := by unfold rF; simp [hne]
          rw [if_neg hin, i1, i2, hfb, rfb]
          exact ⟨rfl, rfl⟩
  rw [x26, e252 E _ M L (o + 10) 8 0 (by omega), bV_s, e252 E _ _ L (o + 11) 8 0 (by omega), bV_s]
  refine h (pG P) 0 _ (by omega) (fun c q1 q2 => by rw [fi_o _ q2, fi_o _ q1]) (fun k hk => ?_)
  have hk8 : k < 8 := by omega
  rw [fi_o _ (by omega), fi_i _ hk8, fi_i _ hk8]
  exact ⟨rfl, rfl⟩
theorem e36C (M : Nat → Nat → Int32) (o : Nat) (ho : o + 11 < 90 ∨ 94 < o) {P : TP} {T : TS} (hC : CH M o P T) (hn8 : pN P ≤ 8) (hl : LW E (pK P) M) {k : Nat} (hk : k < pN P) (h1 : M (o + 10) k = nI (hN P T k)) (h2 : M (o + 11) k = nI (rN P T k)) : ∃ M', C E (d + 3) 36 [vR 1 3 90, vR 1 2 o, vI (nI k)] (M, L) = some (some (vI (crk P T k)), (M', L)) ∧ ∀ c, c ≠ 93 → c ≠ 94 → M' c = M c := by
  obtain ⟨M', e, f⟩ := e36 E d M L o ho hl hC.1 hn8 hk
  obtain ⟨a1, a2, a3⟩ := hC.2.2.2.2.1 k hk
  refine ⟨M', ?_, f⟩
  rw [e, h1, h2, a1, a2, a3, hC.2.2.2.1]
  rfl
theorem e34 (M : Nat → Nat → Int32) (o : Nat) {P : TP} {T : TS} (hC : CH M o P T) (hn8 : pN P ≤ 8) (hg9 : pG P ≤ 9) (place : Int32) :
    ∃ M', C E (d + 4) 34 [vR 1 2 o, vI place] (M, L) = some (some (vI (clB (M (o + 1)) (M (o + 2)) place (hN P T) (rN P T) (pN P))), (M', L)) ∧ (∀ c, c ≠ o + 10 → c ≠ o + 11 → M' c = M c) := by
  obtain ⟨M1, e1, f1, g1⟩ := e26 E d L M o hC hn8 hg9
  rw [x34, e1, bV_s]
  refine ⟨M1, ?_, f1⟩
  have h : ∀ m k, k + m = pN P → X E (d + 3) me34 8 [some (vR 1 2 o), some (vI place), some (vI (clB (M (o + 1)) (M (o + 2)) place (hN P T) (rN P T) k)), some (vI (nI k))] [] (M1, L) = some (some (vI (clB (M (o + 1)) (M (o + 2)) place (hN P T) (rN P T) (pN P))), (M1, L)) := by
    intro m
    induction m with
    | zero =>
      intro k hk
      have e : k = pN P := by omega
      subst e
      rw [x34_8, f1 o (by omega) (by omega), hC.1, if_pos (nI_le (Nat.le_refl _) (by omega))]
    | succ m ih =>
      intro k hk
      have hib : ib (nI k) 8 := by rw [ib_nI (by omega)]; omega
      have hx := ix_nI (n := k) (by omega)
      obtain ⟨q1, q2⟩ := g1 k (by omega)
      have ih' := ih (k + 1) (by omega)
      have e : clB (M (o + 1)) (M (o + 2)) place (hN P T) (rN P T) (k + 1) = if M (o + 1) k = place ∨ M (o + 2) k = place then clB (M (o + 1)) (M (o + 2)) place (hN P T) (rN P T) k + (10 * nI (hN P T k) + nI (rN P T k)) else clB (M (o + 1)) (M (o + 2)) place (hN P T) (rN P T) k := rfl
      rw [e] at ih'
      rw [x34_8, f1 o (by omega) (by omega), hC.1, if_neg (nI_ge (by omega) (by omega)), if_neg (show ¬ (8 : Int32) ≤ nI k from nI_ge (b := 8) (by omega) (by omega))]
      simp only [if_pos hib, hx, nI_1, f1 (o + 1) (by omega) (by omega), f1 (o + 2) (by omega) (by omega), q1, q2]
      by_cases hf : M (o + 1) k = place
      · rw [if_pos hf]; rw [if_pos (Or.inl hf)] at ih'; exact ih'
      · rw [if_neg hf]
        by_cases ht : M (o + 2) k = place
        · rw [if_pos ht]; rw [if_pos (Or.inr ht)] at ih'; exact ih'
        · rw [if_neg ht]; rw [if_neg (fun q => q.elim hf ht)] at ih'; exact ih'
  exact h (pN P) 0 (by omega)
end SUMS
/-! days go on; what is no matter to a seat -/
def dayA (P : TP) (T : TS) : TS := (dayS P T, dayM P T, tE T, dayD (tD T))
def itd (F : TS → TS) : Nat → TS → TS
  | 0, T => T
  | i + 1, T => F (itd F i T)
def EqT (P : TP) (T T' : TS) : Prop := (∀ k, k < pN P → tS T k = tS T' k) ∧ (∀ p, p < pG P → tM T p = tM T' p ∧ tE T p = tE T' p) ∧ tD T = tD T'
theorem EqT.rfl' {P : TP} {T : TS} : EqT P T T := ⟨fun _ _ => rfl, fun _ _ => ⟨rfl, rfl⟩, rfl⟩
theorem EqT.tr {P : TP} {T T' T'' : TS} (h : EqT P T T') (h' : EqT P T' T'') : EqT P T T'' := ⟨fun k hk => (h.1 k hk).trans (h'.1 k hk), fun p hp => ⟨((h.2.1 p hp).1).trans (h'.2.1 p hp).1, ((h.2.1 p hp).2).trans (h'.2.1 p hp).2⟩, h.2.2.trans h'.2.2⟩
theorem EqT.sy {P : TP} {T T' : TS} (h : EqT P T T') : EqT P T' T := ⟨fun k hk => (h.1 k hk).symm, fun p hp => ⟨((h.2.1 p hp).1).symm, ((h.2.1 p hp).2).symm⟩, h.2.2.symm⟩
theorem CH.eqT {M : Nat → Nat → Int32} {o : Nat} {P : TP} {T T' : TS} (h : CH M o P T) (q : EqT P T T') : CH M o P T' := by
  obtain ⟨h1, h2, h3, h4, h5, h6⟩ := h
  refine ⟨h1, h2, h3, h4.trans q.2.2, fun k hk => ?_, fun p hp => ?_⟩
  · obtain ⟨a, b, c⟩ := h5 k hk
    exact ⟨a, b.trans (q.1 k hk), c⟩
  · obtain ⟨a, b, c, e⟩ := h6 p hp
    exact ⟨a.trans (q.2.1 p hp).1, b, c, e.trans (q.2.1 p hp).2⟩
/-- alike for the seat s -/
def LocS (P : TP) (s : Int32) (T T' : TS) : Prop := (∀ p, p < pG P → tE T p = tE T' p) ∧ tD T = tD T' ∧ (∀ p, p < pG P → tE T p = s → tM T p = tM T' p) ∧ ∀ k, k < pN P → s = nI k → tS T k = tS T' k
theorem LocS.of {P : TP} {s : Int32} {T T' : TS} (h : EqT P T T') : LocS P s T T' := ⟨fun p hp => (h.2.1 p hp).2, h.2.2, fun p hp _ => (h.2.1 p hp).1, fun k hk _ => h.1 k hk⟩
theorem locCrk {P : TP} {T T' : TS} {k : Nat} (h : LocS P (nI k) T T') (hk : k < pN P) : crk P T k = crk P T' k := by
  have h1 : hN P T k = hN P T' k := by
    apply cnt_congr
    intro p hp
    rw [h.1 p hp]
    by_cases e : tE T' p = nI k
    · rw [h.2.2.1 p hp ((h.1 p hp).trans e)]
    · simp [e]
  have h2 : rN P T k = rN P T' k := by
    apply cnt_congr
    intro p hp
    rw [h.1 p hp]
    by_cases e : tE T' p = nI k
    · rw [h.2.2.1 p hp ((h.1 p hp).trans e)]
    · simp [e]
  unfold crk
  rw [h1, h2, h.2.1, h.2.2.2 k hk rfl]
theorem locDayS {P : TP} {T T' : TS} {k : Nat} (h : LocS P (nI k) T T') (hk : k < pN P) : dayS P T k = dayS P T' k := by
  unfold dayS
  rw [locCrk h hk, h.2.2.2 k hk rfl]
theorem locDayM {P : TP} {s : Int32} {T T' : TS} {p : Nat} (h : LocS P s T T') (hn : pN P ≤ 8) (hp : p < pG P) (hs : tE T p = s) : dayM P T p = dayM P T' p := by
  have hs' : tE T' p = s := (h.1 p hp).symm.trans hs
  unfold dayM gts
  rw [h.2.2.1 p hp hs, hs, hs']
  by_cases hin : 0 ≤ s.toInt ∧ s.toInt < (pN P : Int)
  · obtain ⟨j, hj, hej⟩ := nI_ex (n := pN P) hin.1 hin.2
    rw [hej, ix_nI (by omega), h.2.2.2 j hj hej]
  · rw [if_neg (fun q => hin ⟨q.1, q.2.1⟩), if_neg (fun q => hin ⟨q.1, q.2.1⟩)]
theorem locDay {P : TP} {s : Int32} {T T' : TS} (hn : pN P ≤ 8) (h : LocS P s T T') : LocS P s (pdT P s.toInt (s.toInt + 1) T) (dayA P T') := by
  refine ⟨h.1, by show dayD (tD T) = dayD (tD T'); rw [h.2.1], fun p hp hs => ?_, fun k hk hs => ?_⟩
  · have hs : tE T p = s := hs
    show (if s.toInt ≤ (tE T p).toInt ∧ (tE T p).toInt < s.toInt + 1 then _ else _) = _
    rw [if_pos (by rw [hs]; omega)]
    exact locDayM h hn hp hs
  · subst hs
    show (if (nI k).toInt ≤ (k : Int) ∧ (k : Int) < (nI k).toInt + 1 then _ else _) = _
    rw [if_pos (by rw [t_nI (by omega)]; omega)]
    exact locDayS h hk
theorem EqT.day {P : TP} {T T' : TS} (hn : pN P ≤ 8) (h : EqT P T T') : EqT P (dayA P T) (dayA P T') := by
  refine ⟨fun k hk => locDayS (LocS.of h) hk, fun p hp => ⟨locDayM (LocS.of (s := tE T p) h) hn hp rfl, (h.2.1 p hp).2⟩, ?_⟩
  show dayD (tD T) = dayD (tD T')
  rw [h.2.2]
theorem EqT.days {P : TP} {T T' : TS} (hn : pN P ≤ 8) (h : EqT P T T') : ∀ i, EqT P (itd (dayA P) i T) (itd (dayA P) i T')
  | 0 => h
  | i + 1 => EqT.day hn (EqT.days hn h i)
def seatsOk (P : TP) (T : TS) : Prop := ∀ p, p < pG P → -1 ≤ (tE T p).toInt ∧ (tE T p).toInt < (pN P : Int)
theorem pd_all {P : TP} {T : TS} (hs : seatsOk P T) : EqT P (pdT P (-1) (pN P) T) (dayA P T) := by
  refine ⟨fun k hk => ?_, fun p hp => ⟨?_, rfl⟩, rfl⟩
  · show (if (-1 : Int) ≤ (k : Int) ∧ (k : Int) < (pN P : Int) then _ else _) = _
    rw [if_pos (by omega)]
    rfl
  · show (if (-1 : Int) ≤ (tE T p).toInt ∧ (tE T p).toInt < (pN P : Int) then _ else _) = _
    rw [if_pos (hs p hp)]
    rfl
theorem itd_seat {P : TP} {T : TS} : ∀ i, tE (itd (dayA P) i T) = tE T
  | 0 => rfl
  | i + 1 => itd_seat i
theorem itd_add {F : TS → TS} {T : TS} {i : Nat} : ∀ j, itd F (i + j) T = itd F j (itd F i T)
  | 0 => rfl
  | j + 1 => by show F (itd F (i + j) T) = F _; rw [itd_add j]
theorem itd_down {P : TP} {T : TS} {k : Nat} (h : ¬ 0 < (tS T k).toInt) : ∀ i, tS (itd (dayA P) i T) k = tS T k
  | 0 => rfl
  | i + 1 => by
    show dayS P (itd (dayA P) i T) k = tS T k
    unfold dayS
    rw [itd_down h i, if_neg h]
