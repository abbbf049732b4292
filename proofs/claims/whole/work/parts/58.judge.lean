/-! the book: judged, had, given -/
theorem locA {P : TP} {s : Int32} {T T' : TS} (hn : pN P ≤ 8) (h : LocS P s T T') : LocS P s (dayA P T) (dayA P T') := by
  refine ⟨h.1, by show dayD (tD T) = dayD (tD T'); rw [h.2.1], fun p hp hs => locDayM h hn hp hs, fun k hk hs => ?_⟩
  subst hs
  exact locDayS h hk
theorem locAs {P : TP} {s : Int32} {T T' : TS} (hn : pN P ≤ 8) (h : LocS P s T T') : ∀ i, LocS P s (itd (dayA P) i T) (itd (dayA P) i T')
  | 0 => h
  | i + 1 => locA hn (locAs hn h i)
/-- other alms on one bridge -/
def altA (P : TP) (k : Nat) (v : Int32) : TP := (pN P, pG P, pSp P, fun j => if j = k then v else pAl P j, pAs P, pSd P, pPr P, pK P)
def altM (T : TS) (p : Nat) (v : Int32) : TS := (tS T, fun q => if q = p then v else tM T q, tE T, tD T)
theorem locAlt {P : TP} {b k : Nat} {v : Int32} (hn : pN P ≤ 8) (hb : b < pN P) (hbk : b ≠ k) {T T' : TS} (h : LocS P (nI b) T T') : LocS P (nI b) (dayA P T) (dayA (altA P k v) T') := by
  have hal : pAl (altA P k v) b = pAl P b := if_neg hbk
  refine ⟨h.1, by show dayD (tD T) = dayD (tD T'); rw [h.2.1], fun p hp hs => ?_, fun k' hk hs => ?_⟩
  · have hs : tE T p = nI b := hs
    have hs' : tE T' p = nI b := (h.1 p hp).symm.trans hs
    show dayM P T p = dayM (altA P k v) T' p
    unfold dayM gts
    rw [h.2.2.1 p hp hs, hs, hs', ix_nI (by omega), h.2.2.2 b hb rfl, hal]
    rfl
  · have e : k' = b := (nI_inj (by omega) (by omega) hs).symm
    subst e
    show dayS P T k' = dayS (altA P k v) T' k'
    have : crk (altA P k v) T' k' = crk P T' k' := by
      unfold crk
      rw [hal]
      rfl
    unfold dayS
    rw [this, locCrk h hk, h.2.2.2 k' hk rfl]
theorem locAlts {P : TP} {b k : Nat} {v : Int32} (hn : pN P ≤ 8) (hb : b < pN P) (hbk : b ≠ k) {T : TS} (i : Nat) : LocS P (nI b) (itd (dayA P) i T) (itd (dayA (altA P k v)) i T) := by
  induction i with
  | zero =>
    have h : LocS P (nI b) T T := LocS.of EqT.rfl'
    have e1 : itd (dayA P) 0 T = T := by unfold itd; rfl
    have e2 : itd (dayA (altA P k v)) 0 T = T := by unfold itd; rfl
    rw [e1, e2]
    exact h
  | succ i ih =>
    have e1 : itd (dayA P) (i + 1) T = dayA P (itd (dayA P) i T) := by rw [itd]
    have e2 : itd (dayA (altA P k v)) (i + 1) T = dayA (altA P k v) (itd (dayA (altA P k v)) i T) := by rw [itd]
    rw [e1, e2]
    exact locAlt hn hb hbk ih
theorem ftr_zero {f : Nat → Bool} : ∀ n i, (∀ j, i ≤ j → j < i + n → f j = false) → ftr f n i = -2
  | 0, _, _ => rfl
  | n + 1, i, h => by
    unfold ftr
    rw [h i (Nat.le_refl _) (by omega), if_neg (by simp)]
    exact ftr_zero n (i + 1) (fun j h1 h2 => h j (by omega) (by omega))
theorem ftr_hit {f : Nat → Bool} {v : Nat} (hv : f v = true) : ∀ m i k, i + m = v → (∀ j, i ≤ j → j < v → f j = false) → ftr f (m + 1 + k) i = nI v
  | 0, i, k, h, _ => by
    have e : i = v := by omega
    rw [show 0 + 1 + k = k + 1 by omega]
    unfold ftr
    rw [e, if_pos hv]
  | m + 1, i, k, h, hz => by
    rw [show m + 1 + 1 + k = (m + 1 + k) + 1 by omega]
    unfold ftr
    rw [hz i (Nat.le_refl _) (by omega), if_neg (by simp)]
    exact ftr_hit hv m (i + 1) k (by omega) (fun j h1 h2 => hz j (by omega) h2)
theorem cnt_none {f : Nat → Bool} {n : Nat} (h : cnt n f = 0) : ∀ j, j < n → f j = false := fun j hj => f_of (fun q => by have := cnt_ge1 hj q; omega)
section JUDGE
variable (E : Nat × (Nat → Int32)) (d : Nat) (L : Nat → Nat → Int64)
theorem e90 (M : Nat → Nat → Int32) (o0 : Nat) (ho : o0 + 11 < 140 ∨ 151 < o0) (ho2 : o0 + 11 < 330 ∨ 340 < o0) {P : TP} {T : TS} (hC : CH M o0 P T) (hn8 : pN P ≤ 8) (hg9 : pG P ≤ 9) (hl : LW E (pK P) M) {b s m : Nat} (hb : b < pN P) (hs : s < 6) (hk : M 331 s = nI 0) (hm : M 332 s = nI m) (hm60 : m ≤ 60) :
    ∃ M', C E (d + 5) 90 [vR 1 8 110, vR 1 2 o0, vI (nI b), vR 1 6 330, vI (nI s)] (M, L) = some (some (vI (ftr (wrP P T b (L (334 + s))) m 0)), (M', L)) ∧ ∀ c, ¬ fT c → M' c = M c := by
  have hb1 := nI_rng hn8 hb
  have hrow : ∀ M1 : Nat → Nat → Int32, (∀ c, ¬ fT c → M1 c = M c) → (0 ≤ (M1 331 s).toInt ∧ (M1 331 s).toInt ≤ 4) ∧ M1 332 s = nI m := fun M1 hf => by
    rw [hf 331 (by unfold fT; omega), hf 332 (by unfold fT; omega), hk, hm]
    exact ⟨by decide, rfl⟩
  have h : ∀ r i (M1 : Nat → Nat → Int32) (T1 : TS), i + r = m → (∀ c, ¬ fT c → M1 c = M c) → CH M1 140 P T1 → LocS P (nI b) T1 (itd (dayA P) i T) → ∃ M', X E (d + 4) me90 19 [some (vR 1 8 110), some (vR 1 2 o0), some (vI (nI b)), some (vR 1 6 330), some (vI (nI s)), some (vI (nI m)), some (vI (nI i))] [] (M1, L) = some (some (vI (ftr (wrP P T b (L (334 + s))) r i)), (M', L)) ∧ ∀ c, ¬ fT c → M' c = M c := by
    intro r
    induction r with
    | zero =>
      intro i M1 T1 hi hf hC1 hloc
      refine ⟨M1, ?_, hf⟩
      rw [x90_19, if_pos (nI_le (by omega) (by omega))]
      rfl
    | succ r ih =>
      intro i M1 T1 hi hf hC1 hloc
      have hSb : M1 (140 + 4) b = tS (itd (dayA P) i T) b := ((hC1.2.2.2.2.1 b hb).2.1).trans (hloc.2.2.2 b hb rfl)
      obtain ⟨q1, q2⟩ := hrow M1 hf
      rw [x90_19, if_neg (nI_ge (by omega) (by omega)), e61 E _ L M1 hs q1 q2 hm60 (by omega), bL_s, e22_1 E _ M1 L 140 (by omega), bI_s, hSb]
      simp only [cmp_eq, tl_i]
      unfold ftr
      by_cases he : (L (334 + s) i).toInt = (tS (itd (dayA P) i T) b).toInt
      · rw [if_pos he, if_neg (by unfold wrP; simp [he])]
        obtain ⟨M2, e2, f2, T2, c2, l2⟩ := locStep E d L M1 hn8 hg9 (LW_T E hl hf) hC1 hb1.1 hb1.2 hloc
        rw [e2, bV_s, nI_1]
        exact ih (i + 1) M2 T2 (by omega) (fun c hc => (f2 c hc).trans (hf c hc)) c2 l2
      · rw [if_neg he, if_pos (by unfold wrP; simp [he])]
        exact ⟨M1, rfl, hf⟩
  rw [x90]
  obtain ⟨M1, e1, f1, c1⟩ := e25T E (d + 2) L M o0 ho hC hn8 hg9
  obtain ⟨q1, q2⟩ := hrow M1 f1
  rw [e1, bV_s, e51 E _ L M1 hs, bI_s, if_pos q1, q2]
  exact h m 0 M1 T (by omega) f1 c1 (LocS.of EqT.rfl')
theorem r213 (M : Nat → Nat → Int32) {P : TP} {T : TS} (h : RX E M P T) (hb : pN P ≤ 8 ∧ pG P ≤ 9) (hse : seatsOk P T) (hr : rngT P T) {b s m : Nat} (hbn : b < pN P) (hs : s < 6) (hm : M 448 s = nI m) (hm60 : m ≤ 60) :
    ∃ M', C E (d + 6) 213 [vR 1 12 400, vI (nI s), vI (nI b)] (M, L) = some (some (vI (ftr (wrP P T b (fun i => L 449 (60 * s + i))) m 0)), (M', L)) ∧ frR M M' := by
  have h0 : ∀ r i (M1 : Nat → Nat → Int32), i + r = m → frR M M1 → RT M1 P (itd (dayA P) i T) → ∃ M', X E (d + 5) me213 6 [some (vR 1 12 400), some (vI (nI s)), some (vI (nI b)), some (vI (nI i))] [] (M1, L) = some (some (vI (ftr (wrP P T b (fun i => L 449 (60 * s + i))) r i)), (M', L)) ∧ frR M M' := by
    intro r
    induction r with
    | zero =>
      intro i M1 hi hf ht1
      refine ⟨M1, ?_, hf⟩
      rw [x213_6, if_pos (by rw [ib_nI (by omega)]; exact hs), ix_nI (by omega), hf.1 448 (by omega) (by omega) (by omega) (by omega) (by omega) (by omega) (by omega), hm, if_pos (nI_le (by omega) (by omega))]
      rfl
    | succ r ih =>
      intro i M1 hi hf ht1
      rw [x213_6, if_pos (by rw [ib_nI (by omega)]; exact hs), ix_nI (n := s) (by omega), hf.1 448 (by omega) (by omega) (by omega) (by omega) (by omega) (by omega) (by omega), hm, if_neg (nI_ge (by omega) (by omega)), idx, if_pos (by rw [ib_nI (by omega)]; omega), if_pos (by rw [ib_nI (by omega)]; omega), ix_nI (n := 60 * s + i) (by omega), ix_nI (n := b) (by omega), ht1.1 b hbn]
      simp only [cmp_eq, tl_i]
      unfold ftr
      by_cases he : (L 449 (60 * s + i)).toInt = (tS (itd (dayA P) i T) b).toInt
      · rw [if_pos he, if_neg (by unfold wrP; simp [he])]
        obtain ⟨M2, e2, f2, t2⟩ := e192 E d L M1 (h.1.frR hf) ht1 hb.1 hb.2 (h.2.2.frR hf) (seats_days hse i) (rngT_days hr i)
        rw [e2, bV_s, nI_1]
        exact ih (i + 1) M2 (by omega) (hf.tr f2) t2
      · rw [if_neg he, if_pos (by unfold wrP; simp [he])]
        exact ⟨M1, rfl, hf⟩
  rw [x213]
  obtain ⟨M1, e1, f1, t1⟩ := e188 E (d + 4) L M h.1 h.2.1 hb.1 hb.2
  rw [e1, bV_s]
  exact h0 m 0 M1 (by omega) f1 t1
/-- a shelf that ought to hold bytes, on both sides -/
theorem refBy {M : Nat → Nat → Int32} {s : Nat} (hr : Rs1 M L s) (hs : s < 6) : (∃ m, m ≤ 60 ∧ M 331 s = nI 0 ∧ M 332 s = nI m ∧ M 447 s = nI 50 ∧ M 448 s = nI m ∧ (∀ i, i < m → L 449 (60 * s + i) = L (334 + s) i) ∧ C E (d + 4) 57 [vR 1 6 330, vI (nI s)] (M, L) = some (some (vI (0 : Int32)), (M, L)) ∧ ∀ (M1 : Nat → Nat → Int32), M1 447 = M 447 → C E (d + 4) 212 [vR 1 12 400, vI (nI s)] (M1, L) = some (some (vI (1 : Int32)), (M1, L))) ∨ ∃ r : Int32, (r = -11 ∨ r = -12) ∧ C E (d + 4) 57 [vR 1 6 330, vI (nI s)] (M, L) = some (some (vI r), (M, L)) ∧ ∀ (M1 : Nat → Nat → Int32), M1 447 = M 447 → C E (d + 4) 212 [vR 1 12 400, vI (nI s)] (M1, L) = some (some (vI r), (M1, L)) := by
  have hib : ib (nI s) 6 := by rw [ib_nI (by omega)]; exact hs
  have hx := ix_nI (n := s) (by omega)
  have c212 : ∀ (M1 : Nat → Nat → Int32), M1 447 = M 447 → C E (d + 4) 212 [vR 1 12 400, vI (nI s)] (M1, L) = (if 0 ≤ M 447 s then (if M 447 s = (50 : Int32) then some (some (vI (1 : Int32)), (M1, L)) else some (some (vI (-12 : Int32)), (M1, L))) else some (some (vI (-11 : Int32)), (M1, L))) := by
    intro M1 h447
    rw [x212, e240n E _ _ _ hs, bI_s, if_neg (by decide)]
    simp only [if_pos hib, hx, h447]
  rcases hr with ⟨z1, z2⟩ | ⟨z1, j, z2, z3, z4, z5⟩ | ⟨k, m, z1, z2, z3, z4, z5, z6, z7, z8⟩
  · right
    refine ⟨-11, Or.inl rfl, ?_, fun M1 hM1 => ?_⟩
    · rw [e57 E _ L M hs, z1]; rfl
    · rw [c212 M1 hM1, z2, if_neg (by decide)]
  · right
    refine ⟨-12, Or.inr rfl, ?_, fun M1 hM1 => ?_⟩
    · rw [e57 E _ L M hs, z1]; rfl
    · rw [c212 M1 hM1, z3, if_pos (show 0 ≤ nI j by rw [t_le, t_0, t_nI (by omega)]; omega), if_neg (fun q => by have := nI_inj (b := 50) (by omega) (by omega) q; omega)]
  · by_cases hk : k = 0
    · subst hk
      left
      refine ⟨m, z2, z3, z4, z5, z6, z7, ?_, fun M1 hM1 => ?_⟩
      · rw [e57 E _ L M hs, z3]; rfl
      · rw [c212 M1 hM1, z5, if_pos (by decide), if_pos (show nI (50 + 0) = (50 : Int32) from rfl)]
    · right
      refine ⟨-12, Or.inr rfl, ?_, fun M1 hM1 => ?_⟩
      · have hk1 : ¬ nI k = -1 := fun q => by
          have := congrArg Int32.toInt q
          rw [t_nI (by omega), t_m1] at this
          omega
        rw [e57 E _ L M hs, z3]
        unfold refB
        rw [if_neg hk1, if_pos (by rw [t_nI (by omega)]; omega), if_neg (nI_ne0 (by omega) (by omega))]
      · rw [c212 M1 hM1, z5, if_pos (show 0 ≤ nI (50 + k) by rw [t_le, t_0, t_nI (by omega)]; omega), if_neg (fun q => by have := nI_inj (b := 50) (by omega) (by omega) q; omega)]
theorem e212x (M : Nat → Nat → Int32) {p : Int32} (h : ¬ (0 ≤ p.toInt ∧ p.toInt < 6)) : C E (d + 3) 212 [vR 1 12 400, vI p] (M, L) = some (some (vI (-1 : Int32)), (M, L)) := by
  rw [x212, e240x E _ _ _ h, bI_s, if_pos rfl]
theorem op_judge (p0 p1 : Int32) : Opk E d 120 214 [vI p0, vI p1] := by
  intro M L h
  have hR := h
  obtain ⟨P, T, hc, hrc, hP, hT⟩ := RR.cx E h
  obtain ⟨c1, c2, c3, ⟨c4, c5⟩, c6, c7, c8, c9, c10⟩ := id hc
  have hs : Rsh M L := by obtain ⟨n, g, kf, -, -, -, -, -, -, -, hs⟩ := h; exact hs
  rcases shN E (d + 98) L M p0 with ⟨s, hs6, es, e48', -⟩ | ⟨hns, e48'⟩
  · rcases brn E c1 c4 p1 (d + 98) L with ⟨b, hb, e1, eb⟩ | ⟨h1, eb⟩
    · rcases refBy E (d + 95) L (hs s hs6) hs6 with ⟨m, m60, z1, z2, z3, z4, z5, z6, z7⟩ | ⟨r, hr, z6, z7⟩
      · obtain ⟨M1, g1, f1⟩ := e90 E (d + 94) L M 40 (by omega) (by omega) c1 c4 c5 c6 hb hs6 z1 z2 m60
        have k1 := Kp.ofT f1
        have rx := Ctx.rx E hc k1
        obtain ⟨M2, g2, f2⟩ := r213 E (d + 93) L M1 rx ⟨c4, c5⟩ c8 c9 hb hs6 (m := m) (by rw [f1 448 (by unfold fT; omega)]; exact z4) m60
        refine opq E d hR (r := ftr (wrP P T b (L (334 + s))) m 0) (M1 := M1) (M2 := M2) ?_ k1 ?_ (Kp.ofR f2)
        · rw [x120, e48', bI_s, if_neg (by decide), eb, bI_s, if_neg (by decide), es, z6, bI_s, if_pos rfl, e1, g1, bI_s]
        · have h447 := f1 447 (by unfold fT; omega)
          rw [x214, es, z7 M1 h447, bI_s, if_neg (by decide), e156 E _ L M1 _ rx.1.1 c4, bI_s, if_neg (b1_ne (by rw [tl_i, e1]; exact inN (by omega) hb)), z7 M1 h447, bI_s, if_pos (by decide), e1, g2, bI_s]
          have : ftr (wrP P T b (fun i => L 449 (60 * s + i))) m 0 = ftr (wrP P T b (L (334 + s))) m 0 := ftr_congr (fun j h1 h2 => by unfold wrP; simp only [z5 j (show j < m by omega)])
          rw [this]
      · refine opq E d hR (r := r) (M1 := M) (M2 := M) ?_ (Kp.re M) ?_ (Kp.re M)
        · rw [x120, e48', bI_s, if_neg (by decide), eb, bI_s, if_neg (by decide), es, z6, bI_s, if_neg (by rcases hr with rfl | rfl <;> decide)]
        · rw [x214, es, z7 M rfl, bI_s, if_neg (by rcases hr with rfl | rfl <;> decide), e156 E _ L M _ c2.1 c4, bI_s, if_neg (b1_ne (by rw [tl_i, e1]; exact inN (by omega) hb)), z7 M rfl, bI_s, if_neg (by rcases hr with rfl | rfl <;> decide), z7 M rfl, bI_s]
    · refine opq E d hR (r := -1) (M1 := M) (M2 := M) ?_ (Kp.re M) ?_ (Kp.re M)
      · rw [x120, e48', bI_s, if_neg (by decide), eb, bI_s, if_pos rfl]
      · have : ∃ r, C E (d + 99) 212 [vR 1 12 400, vI p0] (M, L) = some (some (vI r), (M, L)) := by
          rcases refBy E (d + 95) L (hs s hs6) hs6 with ⟨m, m60, z1, z2, z3, z4, z5, z6, z7⟩ | ⟨r, hr, z6, z7⟩
          · exact ⟨1, by rw [es]; exact z7 M rfl⟩
          · exact ⟨r, by rw [es]; exact z7 M rfl⟩
        obtain ⟨r, e⟩ := this
        rw [x214, e, bI_s]
        by_cases hr1 : r = -1
        · rw [if_pos hr1]
        · rw [if_neg hr1, e156 E _ L M _ c2.1 c4, bI_s, if_pos (b1_e (by rw [tl_i]; exact h1))]
  · refine opq E d hR (r := -1) (M1 := M) (M2 := M) ?_ (Kp.re M) ?_ (Kp.re M)
    · rw [x120, e48', bI_s, if_pos rfl]
    · rw [x214, e212x E _ L M hns, bI_s, if_pos rfl]
end JUDGE
