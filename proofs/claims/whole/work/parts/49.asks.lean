/-! the reference's questions of days, and both sides together -/
theorem z_iff {x : Int32} : (x = 0) = (x.toInt = 0) := by rw [t_eq, t_0]
section ASKS
variable (E : Nat × (Nat → Int32)) (d : Nat) (L : Nat → Nat → Int64)
def Ctx (M : Nat → Nat → Int32) (P : TP) (T : TS) : Prop := CH M 40 P T ∧ RQ M P ∧ RB M P T ∧ (pN P ≤ 8 ∧ pG P ≤ 9) ∧ LW E (pK P) M ∧ RL E (pK P) M ∧ seatsOk P T ∧ rngT P T ∧ btw 0 99 (pPr P)
def RX (M : Nat → Nat → Int32) (P : TP) (T : TS) : Prop := RQ M P ∧ RB M P T ∧ RL E (pK P) M
theorem RX.kp {M M' : Nat → Nat → Int32} {P : TP} {T : TS} (h : RX E M P T) (k : Kp M M') : RX E M' P T := by
  obtain ⟨h1, h2, h3⟩ := h
  obtain ⟨k1, k2, k3, k4⟩ := k
  have q401 := k1 401 (by unfold perC; omega)
  refine ⟨⟨by rw [k4 6 (by unfold perS; omega)]; exact h1.1, by rw [k4 7 (by unfold perS; omega)]; exact h1.2.1, by rw [q401]; exact h1.2.2.1, by rw [q401]; exact h1.2.2.2.1, by rw [q401]; exact h1.2.2.2.2⟩, by unfold RB; rw [q401]; exact h2, h3.keep (k4 24 (by unfold perS; omega)) (k1 422 (by unfold perC; omega)) (k1 423 (by unfold perC; omega)) (k1 424 (by unfold perC; omega))⟩
theorem RX.fr {M M' : Nat → Nat → Int32} {P : TP} {T : TS} (h : RX E M P T) (f : frR M M') : RX E M' P T := h.kp E (Kp.ofR f)
theorem Ctx.rx {M M' : Nat → Nat → Int32} {P : TP} {T : TS} (h : Ctx E M P T) (k : Kp M M') : RX E M' P T := RX.kp E ⟨h.2.1, h.2.2.1, h.2.2.2.2.2.1⟩ k
theorem RR.cx {M : Nat → Nat → Int32} {L : Nat → Nat → Int64} (h : RR E M L) : ∃ P T, Ctx E M P T ∧ Rc M (pN P) (pG P) ∧ P = Pm M (pN P) (pG P) (pK P) ∧ T = Tm M := by
  obtain ⟨n, g, kf, h1, ⟨h2, h3⟩, -⟩ := h
  exact ⟨Pm M n g kf, Tm M, ⟨h1.ch kf, h1.rq kf, h1.rb kf, ⟨h1.1, h1.2.1⟩, h2, h3, h1.se kf, h1.rg kf, h1.2.2.2.1.2⟩, h1, rfl, rfl⟩
theorem r201 (M : Nat → Nat → Int32) {P : TP} {T : TS} (hq : RQ M P) (hrl : RL E (pK P) M) (ht : RT M P T) (hb : pN P ≤ 8 ∧ pG P ≤ 9) (hse : seatsOk P T) (hr : rngT P T) {b : Nat} (hbn : b < pN P) :
    ∃ M', C E (d + 6) 201 [vR 1 12 400, vI (nI b)] (M, L) = some (some (vI (ftr (fallP P T b) 61 0)), (M', L)) ∧ frR M M' := by
  have h0 : ∀ m i (M1 : Nat → Nat → Int32), i + m = 61 → frR M M1 → RT M1 P (itd (dayA P) i T) → ∃ M', X E (d + 5) me201 2 [some (vR 1 12 400), some (vI (nI b)), some (vI (nI i))] [] (M1, L) = some (some (vI (ftr (fallP P T b) m i)), (M', L)) ∧ frR M M' := by
    intro m
    induction m with
    | zero =>
      intro i M1 hi hf ht1
      refine ⟨M1, ?_, hf⟩
      rw [x201_2, if_pos (show (60 : Int32) < nI i from nI_lt (a := 60) (by omega) (by omega))]
      rfl
    | succ m ih =>
      intro i M1 hi hf ht1
      have hrg := (rngT_days hr i).1 b hbn
      rw [x201_2, if_neg (show ¬ (60 : Int32) < nI i from nI_nlt (a := 60) (by omega) (by omega)), if_pos (by rw [ib_nI (by omega)]; omega), ix_nI (by omega), ht1.1 b hbn]
      unfold ftr
      by_cases hs : 0 < (tS (itd (dayA P) i T) b).toInt
      · rw [if_neg (by rw [z_iff]; omega), if_neg (by unfold fallP; simp [hs])]
        obtain ⟨M2, e2, f2, t2⟩ := e192 E d L M1 (hq.frR hf) ht1 hb.1 hb.2 (hrl.frR hf) (seats_days hse i) (rngT_days hr i)
        rw [e2, bV_s, nI_1]
        exact ih (i + 1) M2 (by omega) (hf.tr f2) t2
      · rw [if_pos (by rw [z_iff]; omega), if_pos (by unfold fallP; simp [hs])]
        exact ⟨M1, rfl, hf⟩
  rw [x201]
  exact h0 61 0 M (by omega) (frR.refl M) ht
theorem r202all (M : Nat → Nat → Int32) {P : TP} {T : TS} (h : RX E M P T) (ht : RT M P T) (hb : pN P ≤ 8 ∧ pG P ≤ 9) (hse : seatsOk P T) (hr : rngT P T) (x1 : Int32) (w : Option PV) :
    ∃ M', X E (d + 5) me202 32 [some (vR 1 12 400), some (vI x1), some (vI (nI 0)), w] [] (M, L) = some (some (vI (fall1 P T 61 0)), (M', L)) ∧ frR M M' := by
  have h0 : ∀ m i (M1 : Nat → Nat → Int32) (w : Option PV), i + m = 61 → frR M M1 → RT M1 P (itd (dayA P) i T) → ∃ M', X E (d + 5) me202 32 [some (vR 1 12 400), some (vI x1), some (vI (nI i)), w] [] (M1, L) = some (some (vI (fall1 P T m i)), (M', L)) ∧ frR M M' := by
    intro m
    induction m with
    | zero =>
      intro i M1 w hi hf ht1
      refine ⟨M1, ?_, hf⟩
      rw [x202_32, if_pos (show (60 : Int32) < nI i from nI_lt (a := 60) (by omega) (by omega))]
      rfl
    | succ m ih =>
      intro i M1 w hi hf ht1
      have hn1 : M1 400 6 = nI (pN P) := (h.1.frR hf).1
      rw [x202_32, if_neg (show ¬ (60 : Int32) < nI i from nI_nlt (a := 60) (by omega) (by omega))]
      have hin : ∀ r k, k + r = pN P → (X E (d + 5) me202 40 [some (vR 1 12 400), some (vI x1), some (vI (nI i)), some (vI (nI k))] [] (M1, L) = if ftr (downP P (itd (dayA P) i T)) r k = -2 then X E (d + 5) me202 40 [some (vR 1 12 400), some (vI x1), some (vI (nI i)), some (vI (nI (pN P)))] [] (M1, L) else some (some (vI (ftr (downP P (itd (dayA P) i T)) r k)), (M1, L))) := by
        intro r
        induction r with
        | zero =>
          intro k hk
          have e : k = pN P := by omega
          rw [e]
          show _ = if (-2 : Int32) = -2 then _ else _
          rw [if_pos rfl]
        | succ r ihr =>
          intro k hk
          have hrg := (rngT_days hr i).1 k (by omega)
          rw [x202_40, hn1, if_neg (nI_ge (by omega) (by omega)), if_pos (by rw [ib_nI (by omega)]; omega), ix_nI (by omega), ht1.1 k (by omega), nI_1]
          have eq : ftr (downP P (itd (dayA P) i T)) (r + 1) k = if downP P (itd (dayA P) i T) k then nI k else ftr (downP P (itd (dayA P) i T)) r (k + 1) := rfl
          rw [eq]
          by_cases hs : 0 < (tS (itd (dayA P) i T) k).toInt
          · rw [if_neg (by rw [z_iff]; omega), if_neg (c := downP P (itd (dayA P) i T) k = true) (by unfold downP; simp [hs]), ihr (k + 1) (by omega)]
          · have hk2 : ¬ nI k = -2 := by
              intro q
              have := congrArg Int32.toInt q
              rw [t_nI (by omega), t_m2] at this
              omega
            rw [if_pos (by rw [z_iff]; omega), if_pos (c := downP P (itd (dayA P) i T) k = true) (by unfold downP; simp [hs]), if_neg hk2]
      have hz := hin (pN P) 0 (by omega)
      rw [show (0 : Int32) = nI 0 from rfl, hz]
      unfold fall1
      by_cases hd : ftr (downP P (itd (dayA P) i T)) (pN P) 0 = -2
      · rw [if_pos hd, if_pos hd, x202_40, hn1, if_pos (nI_le (Nat.le_refl _) (by omega))]
        obtain ⟨M2, e2, f2, t2⟩ := e192 E d L M1 (h.1.frR hf) ht1 hb.1 hb.2 (h.2.2.frR hf) (seats_days hse i) (rngT_days hr i)
        rw [e2, bV_s, nI_1]
        exact ih (i + 1) M2 _ (by omega) (hf.tr f2) t2
      · rw [if_neg hd, if_neg hd]
        exact ⟨M1, rfl, hf⟩
  exact h0 61 0 M w (by omega) (frR.refl M) ht
theorem r203 (M : Nat → Nat → Int32) {P : TP} {T : TS} (h : RX E M P T) (ht : RT M P T) (hb : pN P ≤ 8 ∧ pG P ≤ 9) (hse : seatsOk P T) (hr : rngT P T) {p : Nat} (hp : p < pG P) :
    ∃ M', X E (d + 5) me203 17 [some (vR 1 12 400), some (vI (nI p)), some (vI (nI 0))] [] (M, L) = some (some (vI (ftr (richP P T p) 61 0)), (M', L)) ∧ frR M M' := by
  have h0 : ∀ m i (M1 : Nat → Nat → Int32), i + m = 61 → frR M M1 → RT M1 P (itd (dayA P) i T) → ∃ M', X E (d + 5) me203 17 [some (vR 1 12 400), some (vI (nI p)), some (vI (nI i))] [] (M1, L) = some (some (vI (ftr (richP P T p) m i)), (M', L)) ∧ frR M M' := by
    intro m
    induction m with
    | zero =>
      intro i M1 hi hf ht1
      refine ⟨M1, ?_, hf⟩
      rw [x203_17, if_pos (show (60 : Int32) < nI i from nI_lt (a := 60) (by omega) (by omega))]
      rfl
    | succ m ih =>
      intro i M1 hi hf ht1
      rw [x203_17, if_neg (show ¬ (60 : Int32) < nI i from nI_nlt (a := 60) (by omega) (by omega)), e189 E _ L M1 (by omega), bI_s, (ht1.2.1 p hp).1, (h.1.frR hf).2.2.1]
      unfold ftr
      by_cases hs : (tM (itd (dayA P) i T) p).toInt ≤ (pPr P).toInt
      · rw [if_neg (b1_ne hs), if_neg (by unfold richP; simp [hs])]
        obtain ⟨M2, e2, f2, t2⟩ := e192 E d L M1 (h.1.frR hf) ht1 hb.1 hb.2 (h.2.2.frR hf) (seats_days hse i) (rngT_days hr i)
        rw [e2, bV_s, nI_1]
        exact ih (i + 1) M2 (by omega) (hf.tr f2) t2
      · rw [if_pos (b1_e hs), if_pos (by unfold richP; simp; omega)]
        exact ⟨M1, rfl, hf⟩
  exact h0 61 0 M (by omega) (frR.refl M) ht
theorem seats_off {P : TP} {T : TS} (h : seatsOk P T) (b : Nat) : seatsOk P (offT T b) := by
  intro p hp
  have := h p hp
  show -1 ≤ (if tE T p = nI b then (-1 : Int32) else tE T p).toInt ∧ (if tE T p = nI b then (-1 : Int32) else tE T p).toInt < (pN P : Int)
  split
  · rw [t_m1]; omega
  · exact this
theorem r204 (M : Nat → Nat → Int32) {P : TP} {T : TS} (h : RX E M P T) (ht : RT M P T) (hb : pN P ≤ 8 ∧ pG P ≤ 9) (hse : seatsOk P T) (hr : rngT P T) {b : Nat} (hbn : b < pN P) :
    ∃ M', X E (d + 6) me204 17 [some (vR 1 12 400), some (vI (nI b)), some (vI (nI 0))] [] (M, L) = some (some (vI (ftr (fallP P (offT T b) b) 61 0)), (M', L)) ∧ frR M M' := by
  have h0 : ∀ m i (M1 : Nat → Nat → Int32), i + m = pG P → (∀ c, c ≠ 429 → M1 c = M c) → (∀ p, p < pG P → M1 429 p = if p < i ∧ tE T p = nI b then -1 else tE T p) → ∃ M', X E (d + 6) me204 17 [some (vR 1 12 400), some (vI (nI b)), some (vI (nI i))] [] (M1, L) = some (some (vI (ftr (fallP P (offT T b) b) 61 0)), (M', L)) ∧ frR M M' := by
    intro m
    induction m with
    | zero =>
      intro i M1 hi hf he
      have hf1 : frR M M1 := ⟨fun c h0 h1 h2 h3 h4 h5 h6 => hf c h5, fun j _ => by rw [hf 400 (by omega)]⟩
      have ht1 : RT M1 P (offT T b) := ⟨fun k hk => by rw [hf 427 (by omega)]; exact ht.1 k hk, fun p hp => ⟨by rw [hf 428 (by omega)]; exact (ht.2.1 p hp).1, by
        rw [he p hp]
        show (if p < i ∧ tE T p = nI b then -1 else tE T p) = if tE T p = nI b then -1 else tE T p
        by_cases e : tE T p = nI b <;> simp [e]; omega⟩, by rw [hf 400 (by omega)]; exact ht.2.2⟩
      rw [x204_17, hf 400 (by omega), h.1.2.1, if_pos (nI_le (by omega) (by omega))]
      obtain ⟨M2, e2, f2⟩ := r201 E d L M1 (h.fr E hf1).1 (h.fr E hf1).2.2 ht1 hb (seats_off hse b) hr hbn
      rw [e2, bI_s]
      exact ⟨M2, rfl, hf1.tr f2⟩
    | succ m ih =>
      intro i M1 hi hf he
      have hib : ib (nI i) 9 := by rw [ib_nI (by omega)]; omega
      have hx := ix_nI (n := i) (by omega)
      have hei : M1 429 i = tE T i := by rw [he i (by omega), if_neg (by omega)]
      rw [x204_17, hf 400 (by omega), h.1.2.1, if_neg (nI_ge (by omega) (by omega))]
      simp only [if_pos hib, hx, hei, nI_1]
      by_cases hb' : tE T i = nI b
      · rw [if_pos hb']
        refine ih (i + 1) _ (by omega) (fun c hc => by rw [u2_o hc]; exact hf c hc) (fun p hp => ?_)
        by_cases e : p = i
        · rw [e, u2_s, if_pos ⟨by omega, hb'⟩]
        · rw [u2_n e, he p hp]
          by_cases q : p < i ∧ tE T p = nI b
          · rw [if_pos q, if_pos ⟨by omega, q.2⟩]
          · rw [if_neg q, if_neg (fun z => q ⟨by omega, z.2⟩)]
      · rw [if_neg hb']
        refine ih (i + 1) _ (by omega) (fun c hc => by rw [u2_o hc]; exact hf c hc) (fun p hp => ?_)
        by_cases e : p = i
        · rw [e, u2_s, if_neg (fun z => hb' z.2)]
        · rw [u2_n e, he p hp]
          by_cases q : p < i ∧ tE T p = nI b
          · rw [if_pos q, if_pos ⟨by omega, q.2⟩]
          · rw [if_neg q, if_neg (fun z => q ⟨by omega, z.2⟩)]
  exact h0 (pG P) 0 M (by omega) (fun _ _ => rfl) (fun p hp => by rw [if_neg (by omega)]; exact (ht.2.1 p hp).2)
/-- one call on both -/
def Opk (y1 y2 : Nat) (args : List PV) : Prop := ∀ (M : Nat → Nat → Int32) (L : Nat → Nat → Int64), RR E M L → ∃ (r : Int32) (M1 : Nat → Nat → Int32) (L1 : Nat → Nat → Int64) (M2 : Nat → Nat → Int32) (L2 : Nat → Nat → Int64), C E (d + 100) y1 (vR 1 11 10 :: args) (M, L) = some (some (vI r), (M1, L1)) ∧ C E (d + 100) y2 (vR 1 12 400 :: args) (M1, L1) = some (some (vI r), (M2, L2)) ∧ RR E M2 L2
theorem opq {y1 y2 : Nat} {args : List PV} {M : Nat → Nat → Int32} {L : Nat → Nat → Int64} (h : RR E M L) {r : Int32} {M1 M2 : Nat → Nat → Int32} (e1 : C E (d + 100) y1 (vR 1 11 10 :: args) (M, L) = some (some (vI r), (M1, L))) (k1 : Kp M M1) (e2 : C E (d + 100) y2 (vR 1 12 400 :: args) (M1, L) = some (some (vI r), (M2, L))) (k2 : Kp M1 M2) : ∃ (r : Int32) (M1 : Nat → Nat → Int32) (L1 : Nat → Nat → Int64) (M2 : Nat → Nat → Int32) (L2 : Nat → Nat → Int64), C E (d + 100) y1 (vR 1 11 10 :: args) (M, L) = some (some (vI r), (M1, L1)) ∧ C E (d + 100) y2 (vR 1 12 400 :: args) (M1, L1) = some (some (vI r), (M2, L2)) ∧ RR E M2 L2 := ⟨r, M1, L, M2, L, e1, e2, h.kp (k1.tra k2)⟩
theorem op_later (p0 p1 p2 : Int32) : Opk E d 111 199 [vI p0, vI p1, vI p2] := by
  intro M L h
  obtain ⟨P, T, hc, -⟩ := RR.cx E h
  obtain ⟨c1, c2, c3, ⟨c4, c5⟩, c6, c7, c8, c9, c10⟩ := hc
  by_cases h0 : 0 ≤ p0.toInt ∧ p0.toInt ≤ 60
  · obtain ⟨i, hi, e0⟩ := nI_ex (n := 61) h0.1 (by omega)
    by_cases hz : p2 = 0
    · by_cases h1 : 0 ≤ p1.toInt ∧ p1.toInt < (pN P : Int)
      · obtain ⟨b, hb, e1⟩ := nI_ex (n := pN P) h1.1 h1.2
        obtain ⟨M1, g1, f1⟩ := e79 E (d + 94) L M 40 (by omega) c1 c4 c5 c6 hb (n := i) (by omega)
        have rx := Ctx.rx E ⟨c1, c2, c3, ⟨c4, c5⟩, c6, c7, c8, c9, c10⟩ (Kp.ofT f1)
        obtain ⟨M2, g2, f2, t2⟩ := e188 E (d + 98) L M1 rx.1 rx.2.1 c4 c5
        have rx2 := rx.fr E f2
        obtain ⟨M3, g3, f3, t3⟩ := e193 E (d + 93) L M2 rx2.1 t2 c4 c5 rx2.2.2 c8 c9 (n := i) (by omega)
        refine opq E d h (r := tS (itd (dayA P) i T) b) (M1 := M1) (M2 := M3) ?_ (Kp.ofT f1) ?_ ((Kp.ofR f2).tra (Kp.ofR f3))
        · rw [x111, e145, bI_s, if_neg (b1_ne (by rw [t_0, t_60]; exact h0)), if_pos hz, e15, bI_s, if_neg (b1_ne ⟨h1.1, by rw [c1.1, t_nI (by omega)]; exact h1.2, by omega⟩), e0, e1, g1, bI_s]
        · rw [x199, e198, bI_s, if_neg (b1_ne h0), e148, bI_s, if_neg (b1_ne (by rw [tl_i, hz, l_0, l_1, t_0]; omega)), if_pos hz, e156 E _ L M1 _ rx.1.1 c4, bI_s, if_neg (b1_ne (by rw [tl_i]; exact h1)), g2, bV_s, e0, g3, bV_s, if_pos hz, e1, if_pos (by rw [ib_nI (by omega)]; omega), ix_nI (by omega)]
          show some (some (vI (M3 427 b)), (M3, L)) = _
          rw [t3.1 b hb]
      · have e15' : C E (d + 99) 15 [vR 1 2 40, vI p1] (M, L) = some (some (vI (0 : Int32)), (M, L)) := by
          rw [e15, b1_f (fun q => h1 ⟨q.1, by have := q.2.1; rw [c1.1, t_nI (by omega)] at this; exact this⟩)]
        refine opq E d h (r := -1) (M1 := M) (M2 := M) ?_ (Kp.re M) ?_ (Kp.re M)
        · rw [x111, e145, bI_s, if_neg (b1_ne (by rw [t_0, t_60]; exact h0)), if_pos hz, e15', bI_s, if_pos rfl, if_neg (by rw [hz]; decide)]
        · rw [x199, e198, bI_s, if_neg (b1_ne h0), e148, bI_s, if_neg (b1_ne (by rw [tl_i, hz, l_0, l_1, t_0]; omega)), if_pos hz, e156 E _ L M _ c2.1 c4, bI_s, if_pos (b1_e (by rw [tl_i]; exact h1))]
    · by_cases ho : p2 = 1
      · by_cases h1 : 0 ≤ p1.toInt ∧ p1.toInt < (pG P : Int)
        · obtain ⟨p, hp, e1⟩ := nI_ex (n := pG P) h1.1 h1.2
          obtain ⟨M1, g1, f1⟩ := e83 E (d + 94) L M c1 c4 c5 c6 c8 hp (n := i) (by omega)
          have rx := Ctx.rx E ⟨c1, c2, c3, ⟨c4, c5⟩, c6, c7, c8, c9, c10⟩ (Kp.ofT f1)
          obtain ⟨M2, g2, f2, t2⟩ := e188 E (d + 98) L M1 rx.1 rx.2.1 c4 c5
          have rx2 := rx.fr E f2
          obtain ⟨M3, g3, f3, t3⟩ := e193 E (d + 93) L M2 rx2.1 t2 c4 c5 rx2.2.2 c8 c9 (n := i) (by omega)
          refine opq E d h (r := tM (itd (dayA P) i T) p) (M1 := M1) (M2 := M3) ?_ (Kp.ofT f1) ?_ ((Kp.ofR f2).tra (Kp.ofR f3))
          · rw [x111, e145, bI_s, if_neg (b1_ne (by rw [t_0, t_60]; exact h0)), if_neg hz, if_pos ho, e16, bI_s, if_neg (b1_ne ⟨h1.1, by rw [c1.2.1, t_nI (by omega)]; exact h1.2, by omega⟩), e0, e1, g1, bI_s]
          · rw [x199, e198, bI_s, if_neg (b1_ne h0), e148, bI_s, if_neg (b1_ne (by rw [tl_i, ho, l_0, l_1, t_1]; omega)), if_neg hz, e157 E _ L M1 _ rx.1.2.1 c5, bI_s, if_neg (b1_ne (by rw [tl_i]; exact h1)), g2, bV_s, e0, g3, bV_s, if_neg hz, e1, if_pos (by rw [ib_nI (by omega)]; omega), ix_nI (by omega)]
            show some (some (vI (M3 428 p)), (M3, L)) = _
            rw [(t3.2.1 p hp).1]
        · have e16' : C E (d + 99) 16 [vR 1 2 40, vI p1] (M, L) = some (some (vI (0 : Int32)), (M, L)) := by
            rw [e16, b1_f (fun q => h1 ⟨q.1, by have := q.2.1; rw [c1.2.1, t_nI (by omega)] at this; exact this⟩)]
          refine opq E d h (r := -1) (M1 := M) (M2 := M) ?_ (Kp.re M) ?_ (Kp.re M)
          · rw [x111, e145, bI_s, if_neg (b1_ne (by rw [t_0, t_60]; exact h0)), if_neg hz, if_pos ho, e16', bI_s, if_pos rfl]
          · rw [x199, e198, bI_s, if_neg (b1_ne h0), e148, bI_s, if_neg (b1_ne (by rw [tl_i, ho, l_0, l_1, t_1]; omega)), if_neg hz, e157 E _ L M _ c2.2.1 c5, bI_s, if_pos (b1_e (by rw [tl_i]; exact h1))]
      · refine opq E d h (r := -1) (M1 := M) (M2 := M) ?_ (Kp.re M) ?_ (Kp.re M)
        · rw [x111, e145, bI_s, if_neg (b1_ne (by rw [t_0, t_60]; exact h0)), if_neg hz, if_neg ho]
        · have hz' : ¬ p2.toInt = 0 := fun q => hz (by rw [z_iff]; exact q)
          have ho' : ¬ p2.toInt = 1 := fun q => ho (by rw [t_eq, t_1]; exact q)
          rw [x199, e198, bI_s, if_neg (b1_ne h0), e148, bI_s, if_pos (b1_e (by rw [tl_i, l_0, l_1]; omega))]
  · refine opq E d h (r := -1) (M1 := M) (M2 := M) ?_ (Kp.re M) ?_ (Kp.re M)
    · rw [x111, e145, bI_s, if_pos (b1_e (by rw [t_0, t_60]; exact h0))]
    · rw [x199, e198, bI_s, if_pos (b1_e h0)]
theorem op_county (p0 p1 : Int32) : Opk E d 112 200 [vI p0, vI p1] := by
  intro M L h
  obtain ⟨P, T, hc, -⟩ := RR.cx E h
  obtain ⟨c1, c2, c3, ⟨c4, c5⟩, c6, c7, c8, c9, c10⟩ := hc
  by_cases h0 : 0 ≤ p0.toInt ∧ p0.toInt ≤ 60
  · obtain ⟨i, hi, e0⟩ := nI_ex (n := 61) h0.1 (by omega)
    by_cases h1 : 0 ≤ p1.toInt ∧ p1.toInt ≤ 2
    · obtain ⟨M1, g1, f1, q1⟩ := e78 E (d + 93) L M c1 c4 c5 c6 c8 (n := i) (by omega)
      have rx := Ctx.rx E ⟨c1, c2, c3, ⟨c4, c5⟩, c6, c7, c8, c9, c10⟩ (Kp.ofT f1)
      obtain ⟨M2, g2, f2, t2⟩ := e188 E (d + 98) L M1 rx.1 rx.2.1 c4 c5
      have rx2 := rx.fr E f2
      obtain ⟨M3, g3, f3, t3⟩ := e193 E (d + 93) L M2 rx2.1 t2 c4 c5 rx2.2.2 c8 c9 (n := i) (by omega)
      have rx3 := rx2.fr E f3
      have hc1 : C E (d + 100) 112 [vR 1 11 10, vI p0, vI p1] (M, L) = (if p1 = 0 then (bI (C E (d + 99) 30 [vR 1 2 140] (M1, L)) fun r4 s4 => some (some (vI r4), s4)) else (if p1 = (1 : Int32) then (bI (C E (d + 99) 31 [vR 1 2 140] (M1, L)) fun r5 s5 => some (some (vI r5), s5)) else (bI (C E (d + 99) 32 [vR 1 2 140] (M1, L)) fun r6 s6 => some (some (vI r6), s6)))) := by
        rw [x112, e145, bI_s, if_neg (b1_ne (by rw [t_0, t_60]; exact h0)), e145, bI_s, if_neg (b1_ne (by rw [t_0, t_2]; exact h1)), e0, g1, bR_s, x112_29c]
      have hc2 : C E (d + 100) 200 [vR 1 12 400, vI p0, vI p1] (M1, L) = (if p1 = 0 then (bI (C E (d + 99) 194 [vR 1 12 400] (M3, L)) fun r5 s5 => some (some (vI r5), s5)) else (if p1 = (1 : Int32) then (bI (C E (d + 99) 195 [vR 1 12 400] (M3, L)) fun r6 s6 => some (some (vI r6), s6)) else (bI (C E (d + 99) 196 [vR 1 12 400] (M3, L)) fun r7 s7 => some (some (vI r7), s7)))) := by
        rw [x200, e198, bI_s, if_neg (b1_ne h0), e148, bI_s, if_neg (b1_ne (by rw [tl_i, l_0, l_2]; exact h1)), g2, bV_s, e0, g3, bV_s]
      have k3 : Kp M1 M3 := (Kp.ofR f2).tra (Kp.ofR f3)
      by_cases hz : p1 = 0
      · refine opq E d h (r := sdB (tS (itd (dayA P) i T)) (pN P)) (M1 := M1) (M2 := M3) ?_ (Kp.ofT f1) ?_ k3
        · rw [hc1, if_pos hz, e30 E _ L M1 140 q1.1 c4, bI_s, sdB_congr (fun k hk => (q1.2.2.2.2.1 k hk).2.1)]
        · rw [hc2, if_pos hz, e194 E _ L M3 rx3.1.1 c4, bI_s, sdB_congr (fun k hk => t3.1 k hk)]
      · by_cases ho : p1 = 1
        · refine opq E d h (r := smB (tS (itd (dayA P) i T)) (pN P)) (M1 := M1) (M2 := M3) ?_ (Kp.ofT f1) ?_ k3
          · rw [hc1, if_neg hz, if_pos ho, e31 E _ L M1 140 q1.1 c4, bI_s, smB_congr (fun k hk => (q1.2.2.2.2.1 k hk).2.1)]
          · rw [hc2, if_neg hz, if_pos ho, e195 E _ L M3 rx3.1.1 c4, bI_s, smB_congr (fun k hk => t3.1 k hk)]
        · refine opq E d h (r := poB (pPr P) (tM (itd (dayA P) i T)) (pG P)) (M1 := M1) (M2 := M3) ?_ (Kp.ofT f1) ?_ k3
          · rw [hc1, if_neg hz, if_neg ho, e32 E _ L M1 140 q1.2.1 c5, bI_s, q1.2.2.1, poB_congr (fun k hk => (q1.2.2.2.2.2 k hk).1)]
          · rw [hc2, if_neg hz, if_neg ho, e196 E _ L M3 rx3.1.2.1 c5, bI_s, rx3.1.2.2.1, poB_congr (fun k hk => (t3.2.1 k hk).1)]
    · refine opq E d h (r := -1) (M1 := M) (M2 := M) ?_ (Kp.re M) ?_ (Kp.re M)
      · rw [x112, e145, bI_s, if_neg (b1_ne (by rw [t_0, t_60]; exact h0)), e145, bI_s, if_pos (b1_e (by rw [t_0, t_2]; exact h1))]
      · rw [x200, e198, bI_s, if_neg (b1_ne h0), e148, bI_s, if_pos (b1_e (by rw [tl_i, l_0, l_2]; exact h1))]
  · refine opq E d h (r := -1) (M1 := M) (M2 := M) ?_ (Kp.re M) ?_ (Kp.re M)
    · rw [x112, e145, bI_s, if_pos (b1_e (by rw [t_0, t_60]; exact h0))]
    · rw [x200, e198, bI_s, if_pos (b1_e h0)]
/-- the number of a bridge, or none -/
theorem brn {M : Nat → Nat → Int32} {P : TP} {T : TS} (c1 : CH M 40 P T) (c4 : pN P ≤ 8) (p : Int32) (d : Nat) (L : Nat → Nat → Int64) : (∃ b, b < pN P ∧ p = nI b ∧ C E (d + 1) 15 [vR 1 2 40, vI p] (M, L) = some (some (vI (1 : Int32)), (M, L))) ∨ (¬ (0 ≤ p.toInt ∧ p.toInt < (pN P : Int)) ∧ C E (d + 1) 15 [vR 1 2 40, vI p] (M, L) = some (some (vI (0 : Int32)), (M, L))) := by
  by_cases h1 : 0 ≤ p.toInt ∧ p.toInt < (pN P : Int)
  · obtain ⟨b, hb, e1⟩ := nI_ex (n := pN P) h1.1 h1.2
    left
    refine ⟨b, hb, e1, ?_⟩
    rw [e15, b1_t ⟨h1.1, by rw [c1.1, t_nI (by omega)]; exact h1.2, by omega⟩]
  · right
    refine ⟨h1, ?_⟩
    rw [e15, b1_f (fun q => h1 ⟨q.1, by have := q.2.1; rw [c1.1, t_nI (by omega)] at this; exact this⟩)]
theorem bgn {M : Nat → Nat → Int32} {P : TP} {T : TS} (c1 : CH M 40 P T) (c5 : pG P ≤ 9) (p : Int32) (d : Nat) (L : Nat → Nat → Int64) : (∃ b, b < pG P ∧ p = nI b ∧ C E (d + 1) 16 [vR 1 2 40, vI p] (M, L) = some (some (vI (1 : Int32)), (M, L))) ∨ (¬ (0 ≤ p.toInt ∧ p.toInt < (pG P : Int)) ∧ C E (d + 1) 16 [vR 1 2 40, vI p] (M, L) = some (some (vI (0 : Int32)), (M, L))) := by
  by_cases h1 : 0 ≤ p.toInt ∧ p.toInt < (pG P : Int)
  · obtain ⟨b, hb, e1⟩ := nI_ex (n := pG P) h1.1 h1.2
    left
    refine ⟨b, hb, e1, ?_⟩
    rw [e16, b1_t ⟨h1.1, by rw [c1.2.1, t_nI (by omega)]; exact h1.2, by omega⟩]
  · right
    refine ⟨h1, ?_⟩
    rw [e16, b1_f (fun q => h1 ⟨q.1, by have := q.2.1; rw [c1.2.1, t_nI (by omega)] at this; exact this⟩)]
theorem inN {b n : Nat} (hn : n ≤ 1000) (hb : b < n) : 0 ≤ (nI b).toInt ∧ (nI b).toInt < (n : Int) := by rw [t_nI (by omega)]; omega
theorem op_falls (p0 : Int32) : Opk E d 113 202 [vI p0] := by
  intro M L h
  obtain ⟨P, T, hc, -⟩ := RR.cx E h
  obtain ⟨c1, c2, c3, ⟨c4, c5⟩, c6, c7, c8, c9, c10⟩ := id hc
  by_cases hm : p0 = -1
  · obtain ⟨M1, g1, f1⟩ := e82 E (d + 93) L M c1 c4 c5 c6 c8
    have rx := Ctx.rx E hc (Kp.ofT f1)
    obtain ⟨M2, g2, f2, t2⟩ := e188 E (d + 98) L M1 rx.1 rx.2.1 c4 c5
    obtain ⟨M3, g3, f3⟩ := r202all E (d + 94) L M2 (rx.fr E f2) t2 ⟨c4, c5⟩ c8 c9 p0 none
    refine opq E d h (r := fall1 P T 61 0) (M1 := M1) (M2 := M3) ?_ (Kp.ofT f1) ?_ ((Kp.ofR f2).tra (Kp.ofR f3))
    · rw [x113, if_pos hm, g1, bI_s]
    · rw [x202, if_pos hm, g2, bV_s, if_pos (by rw [hm]; decide)]
      exact g3
  · rcases brn E c1 c4 p0 (d + 98) L with ⟨b, hb, e1, eb⟩ | ⟨h1, eb⟩
    · obtain ⟨M1, g1, f1⟩ := e80 E (d + 94) L M 40 (by omega) c1 c4 c5 c6 hb
      have rx := Ctx.rx E hc (Kp.ofT f1)
      obtain ⟨M2, g2, f2, t2⟩ := e188 E (d + 98) L M1 rx.1 rx.2.1 c4 c5
      obtain ⟨M3, g3, f3⟩ := r201 E (d + 93) L M2 (rx.fr E f2).1 (rx.fr E f2).2.2 t2 ⟨c4, c5⟩ c8 c9 hb
      refine opq E d h (r := ftr (fallP P T b) 61 0) (M1 := M1) (M2 := M3) ?_ (Kp.ofT f1) ?_ ((Kp.ofR f2).tra (Kp.ofR f3))
      · rw [x113, if_neg hm, eb, bI_s, if_neg (by decide), e1, g1, bI_s]
      · rw [x202, if_neg hm, e156 E _ L M1 _ rx.1.1 c4, bI_s, if_neg (b1_ne (by rw [tl_i, e1]; exact inN (by omega) hb)), g2, bV_s, e1, if_neg (nI_pos (by omega)), g3, bI_s]
    · refine opq E d h (r := -1) (M1 := M) (M2 := M) ?_ (Kp.re M) ?_ (Kp.re M)
      · rw [x113, if_neg hm, eb, bI_s, if_pos rfl]
      · rw [x202, if_neg hm, e156 E _ L M _ c2.1 c4, bI_s, if_pos (b1_e (by rw [tl_i]; exact h1))]
theorem op_rich (p0 : Int32) : Opk E d 114 203 [vI p0] := by
  intro M L h
  obtain ⟨P, T, hc, -⟩ := RR.cx E h
  obtain ⟨c1, c2, c3, ⟨c4, c5⟩, c6, c7, c8, c9, c10⟩ := id hc
  rcases bgn E c1 c5 p0 (d + 98) L with ⟨b, hb, e1, eb⟩ | ⟨h1, eb⟩
  · obtain ⟨M1, g1, f1⟩ := e84 E (d + 94) L M c1 c4 c5 c6 c8 c9 c10 hb
    have rx := Ctx.rx E hc (Kp.ofT f1)
    obtain ⟨M2, g2, f2, t2⟩ := e188 E (d + 98) L M1 rx.1 rx.2.1 c4 c5
    obtain ⟨M3, g3, f3⟩ := r203 E (d + 94) L M2 (rx.fr E f2) t2 ⟨c4, c5⟩ c8 c9 hb
    refine opq E d h (r := ftr (richP P T b) 61 0) (M1 := M1) (M2 := M3) ?_ (Kp.ofT f1) ?_ ((Kp.ofR f2).tra (Kp.ofR f3))
    · rw [x114, eb, bI_s, if_neg (by decide), e1, g1, bI_s]
    · rw [x203, e157 E _ L M1 _ rx.1.2.1 c5, bI_s, if_neg (b1_ne (by rw [tl_i, e1]; exact inN (by omega) hb)), g2, bV_s, e1]
      exact g3
  · refine opq E d h (r := -1) (M1 := M) (M2 := M) ?_ (Kp.re M) ?_ (Kp.re M)
    · rw [x114, eb, bI_s, if_pos rfl]
    · rw [x203, e157 E _ L M _ c2.2.1 c5, bI_s, if_pos (b1_e (by rw [tl_i]; exact h1))]
theorem op_without (p0 : Int32) : Opk E d 115 204 [vI p0] := by
  intro M L h
  obtain ⟨P, T, hc, -⟩ := RR.cx E h
  obtain ⟨c1, c2, c3, ⟨c4, c5⟩, c6, c7, c8, c9, c10⟩ := id hc
  rcases brn E c1 c4 p0 (d + 98) L with ⟨b, hb, e1, eb⟩ | ⟨h1, eb⟩
  · obtain ⟨M1, g1, f1⟩ := e85 E (d + 93) L M c1 c4 c5 c6 hb
    have rx := Ctx.rx E hc (Kp.ofQ f1)
    obtain ⟨M2, g2, f2, t2⟩ := e188 E (d + 98) L M1 rx.1 rx.2.1 c4 c5
    obtain ⟨M3, g3, f3⟩ := r204 E (d + 93) L M2 (rx.fr E f2) t2 ⟨c4, c5⟩ c8 c9 hb
    refine opq E d h (r := ftr (fallP P (offT T b) b) 61 0) (M1 := M1) (M2 := M3) ?_ (Kp.ofQ f1) ?_ ((Kp.ofR f2).tra (Kp.ofR f3))
    · rw [x115, eb, bI_s, if_neg (by decide), e1, g1, bI_s]
    · rw [x204, e156 E _ L M1 _ rx.1.1 c4, bI_s, if_neg (b1_ne (by rw [tl_i, e1]; exact inN (by omega) hb)), g2, bV_s, e1]
      exact g3
  · refine opq E d h (r := -1) (M1 := M) (M2 := M) ?_ (Kp.re M) ?_ (Kp.re M)
    · rw [x115, eb, bI_s, if_pos rfl]
    · rw [x204, e156 E _ L M _ c2.1 c4, bI_s, if_pos (b1_e (by rw [tl_i]; exact h1))]
theorem op_cracks (p0 : Int32) : Opk E d 110 197 [vI p0] := by
  intro M L h
  obtain ⟨P, T, hc, -⟩ := RR.cx E h
  obtain ⟨c1, c2, c3, ⟨c4, c5⟩, c6, c7, c8, c9, c10⟩ := id hc
  rcases brn E c1 c4 p0 (d + 98) L with ⟨b, hb, e1, eb⟩ | ⟨h1, eb⟩
  · obtain ⟨M1, g1, f1, q1⟩ := e26 E (d + 96) L M 40 c1 c4 c5
    obtain ⟨M2, g2, f2⟩ := e36C E (d + 96) L M1 40 (by omega) (c1.keep9 (fun c a b => f1 c (by omega) (by omega))) c4 (c6.keep (f1 90 (by omega) (by omega)) (f1 91 (by omega) (by omega)) (f1 92 (by omega) (by omega))) hb (q1 b hb).1 (q1 b hb).2
    have k2 : Kp M M2 := Kp.ofQ (fun c hc => by unfold fQ at hc; rw [f2 c (by omega) (by omega), f1 c (by omega) (by omega)])
    have rx := Ctx.rx E hc k2
    obtain ⟨M3, g3, f3, t3⟩ := e188 E (d + 98) L M2 rx.1 rx.2.1 c4 c5
    have rx3 := rx.fr E f3
    obtain ⟨M4, g4, f4⟩ := e191 E (d + 95) L M3 rx3.1 t3 c4 c5 rx3.2.2 hb
    have k4 : frR M3 M4 := ⟨fun c h0 h1 h2 h3 h4 h5 h6 => f4 c h1 h2, fun j _ => by rw [f4 400 (by omega) (by omega)]⟩
    refine opq E d h (r := crk P T b) (M1 := M2) (M2 := M4) ?_ k2 ?_ ((Kp.ofR f3).tra (Kp.ofR k4))
    · rw [x110, eb, bI_s, if_neg (by decide), g1, bV_s, e1, g2, bI_s]
    · rw [x197, e156 E _ L M2 _ rx.1.1 c4, bI_s, if_neg (b1_ne (by rw [tl_i, e1]; exact inN (by omega) hb)), g3, bV_s, e1, g4, bI_s]
  · refine opq E d h (r := -1) (M1 := M) (M2 := M) ?_ (Kp.re M) ?_ (Kp.re M)
    · rw [x110, eb, bI_s, if_pos rfl]
    · rw [x197, e156 E _ L M _ c2.1 c4, bI_s, if_pos (b1_e (by rw [tl_i]; exact h1))]
end ASKS
