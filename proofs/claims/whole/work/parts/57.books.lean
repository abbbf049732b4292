/-! taken, fined, claimed, judged -/
def abC (x : Int32) : Int32 := if 0 ≤ x.toInt ∧ x.toInt < 8 then stA.getD (ix x) 0 else -1
def unC (k : Int32) : Nat → Int32 → Int32
  | 0, _ => 0
  | m + 1, a => if a < 0 then 0 else if a = k then 1 else unC k m (abC a)
def abR (x : Int32) : Int32 := if x = 3 then 2 else if x = 4 then 1 else if x = 5 then 3 else if x = 7 then 4 else 0
def unR (k : Int32) : Nat → Int32 → Bool
  | 0, _ => false
  | m + 1, a => if a = k then true else if a ≤ 0 then false else unR k m (abR a)
theorem abR_lt : ∀ k, k < 8 → 0 < k → ∃ j, j < k ∧ abR (nI k) = nI j := by decide +kernel
theorem un_eq : ∀ a, a < 8 → ∀ k, k < 8 → unC (nI k) 8 (nI a) = if unR (nI k) 8 (nI a) then 1 else 0 := by decide +kernel
def svP (P : TP) (T : TS) (p : Nat) : Int32 := mx 0 (tM T p - pPr P)
def svS (P : TP) (T : TS) : Nat → Int32
  | 0 => 0
  | k + 1 => svS P T k + svP P T k
theorem svP_rng {P : TP} {T : TS} (hr : rngT P T) (hpr : btw 0 99 (pPr P)) {p : Nat} (hp : p < pG P) : 0 ≤ (svP P T p).toInt ∧ (svP P T p).toInt ≤ 99 := by
  have h1 := hr.2.1 p hp
  unfold btw at hpr
  unfold svP
  rw [t_mx, t_0, t_sub (by omega) (by omega)]
  split <;> omega
theorem svS_rng {P : TP} {T : TS} (hr : rngT P T) (hpr : btw 0 99 (pPr P)) (hg : pG P ≤ 9) : ∀ k, k ≤ pG P → 0 ≤ (svS P T k).toInt ∧ (svS P T k).toInt ≤ 99 * k
  | 0, _ => by show 0 ≤ (0 : Int32).toInt ∧ (0 : Int32).toInt ≤ 99 * (0 : Nat); rw [t_0]; omega
  | k + 1, h => by
    have h1 := svS_rng hr hpr hg k (by omega)
    have h2 := svP_rng hr hpr (p := k) (by omega)
    show 0 ≤ (svS P T k + svP P T k).toInt ∧ (svS P T k + svP P T k).toInt ≤ 99 * ((k + 1 : Nat) : Int)
    rw [t_add (by omega) (by omega)]
    omega
def chN (f t : Nat → Int32) (place : Int32) (h : Nat → Nat) : Nat → Nat
  | 0 => 0
  | k + 1 => if f k = place ∨ t k = place then chN f t place h k + h k else chN f t place h k
theorem clB_eq (f t : Nat → Int32) (place : Int32) (h r : Nat → Nat) : ∀ k, clB f t place h r k = nI (10 * chN f t place h k + chN f t place r k)
  | 0 => rfl
  | k + 1 => by
    unfold clB chN
    rw [clB_eq f t place h r k]
    split
    · rw [show (10 : Int32) = nI 10 from rfl]
      unfold nI
      rw [← Int32.ofNat_mul, ← Int32.ofNat_add, ← Int32.ofNat_add]
      congr 1
      omega
    · rfl
theorem chN_congr {f f' t t' : Nat → Int32} {place : Int32} {h : Nat → Nat} : ∀ {k : Nat}, (∀ j, j < k → f j = f' j ∧ t j = t' j) → chN f t place h k = chN f' t' place h k
  | 0, _ => rfl
  | k + 1, q => by
    unfold chN
    rw [(q k (by omega)).1, (q k (by omega)).2, chN_congr (k := k) (fun j hj => q j (by omega))]
def wrP (P : TP) (T : TS) (b : Nat) (f : Nat → Int64) (i : Nat) : Bool := !decide ((f i).toInt = (tS (itd (dayA P) i T) b).toInt)
section BOOKS
variable (E : Nat × (Nat → Int32)) (d : Nat) (L : Nat → Nat → Int64)
theorem e3 (M : Nat → Nat → Int32) (x : Int32) : C E (d + 1) 3 [vI x] (M, L) = some (some (vI (abC x)), (M, L)) := by
  rw [x3]
  unfold abC
  by_cases h : 0 ≤ x.toInt ∧ x.toInt < 8
  · rw [if_neg (by rw [t_lt, t_0]; omega), if_neg (by rw [t_le, t_8]; omega), if_pos ⟨h.1, by omega⟩, if_pos h]
    rfl
  · rw [if_neg h]
    by_cases a : x < 0
    · rw [if_pos a]
    · rw [if_neg a, if_pos (by rw [t_lt, t_0] at a; rw [t_le, t_8]; omega)]
theorem un5 (M : Nat → Nat → Int32) (x1 k : Int32) : ∀ m c a, c + m = 8 → X E (d + 1) me5 9 [some (vR 1 0 320), some (vI x1), some (vI k), some (vI a), some (vI (nI c))] [] (M, L) = some (some (vI (unC k m a)), (M, L)) := by
  intro m
  induction m with
  | zero =>
    intro c a hc
    rw [x5_9, if_pos (show (8 : Int32) ≤ nI c from nI_le (a := 8) (by omega) (by omega))]
    rfl
  | succ m ih =>
    intro c a hc
    rw [x5_9, if_neg (show ¬ (8 : Int32) ≤ nI c from nI_ge (b := 8) (by omega) (by omega))]
    unfold unC
    by_cases h1 : a < 0
    · rw [if_pos h1, if_pos h1]
    · rw [if_neg h1, if_neg h1]
      by_cases h2 : a = k
      · rw [if_pos h2, if_pos h2]
      · rw [if_neg h2, if_neg h2, e3, bI_s, nI_1]
        exact ih (c + 1) _ (by omega)
theorem un248 (M : Nat → Nat → Int32) (k : Int32) {s j : Nat} {v : Int32} (hs : s < 6) (hj : M 447 s = nI j) (hj50 : j < 50) (hv : M 442 j = v) : ∀ m a, a < 8 → a < m → X E (d + 1) me248 58 [some (vR 1 12 400), some (vI (nI s)), some (vI k), some (vI (nI a))] [] (M, L) = if unR k m (nI a) then some (some (vI v), (M, L)) else some (some (vI (-12 : Int32)), (M, L)) := by
  intro m
  have c230 : C E (d + 1) 230 [vR 1 12 400, vI (nI j)] (M, L) = some (some (vI v), (M, L)) := by
    rw [x230, if_pos (by rw [ib_nI (by omega)]; exact hj50), ix_nI (by omega), hv]
  induction m with
  | zero => intro a _ h; omega
  | succ m ih =>
    intro a ha hm
    have hib : ib (nI s) 6 := by rw [ib_nI (by omega)]; exact hs
    rw [x248_58]
    unfold unR
    by_cases h : nI a = k
    · rw [if_pos h, if_pos h, if_pos hib, ix_nI (by omega), hj, c230, bI_s, if_pos h, if_pos rfl]
    · rw [if_neg h, if_neg h]
      by_cases h0 : nI a ≤ 0
      · rw [if_pos h0, if_neg h, if_pos h0, if_neg (by decide)]
      · have ha0 : 0 < a := by
          rcases Nat.eq_zero_or_pos a with q | q
          · rw [q] at h0; exact absurd (by decide) h0
          · exact q
        obtain ⟨b, hb, e⟩ := abR_lt a ha ha0
        have c232 : C E (d + 1) 232 [vI (nI a)] (M, L) = some (some (vI (nI b)), (M, L)) := by
          rw [x232, ← e]
          unfold abR
          (repeat' split) <;> rfl
        rw [if_neg h0, c232, bI_s, if_neg h, if_neg h0, e]
        exact ih b (by omega) (by omega)
theorem op_taken (p0 p1 : Int32) : Opk E d 143 248 [vI p0, vI p1] := by
  intro M L h
  have hR := h
  obtain ⟨n, g, kf, hc, ⟨hl, hrl⟩, ht, hch, hld, hi, ha, hs⟩ := h
  obtain ⟨b, r, b50, r1000, a1, a2, a3, a4, a5, a6⟩ := ha
  rcases shN E (d + 98) L M p0 with ⟨s, hs6, es, e48', -⟩ | ⟨hns, e48'⟩
  · have hib : ib (nI s) 6 := by rw [ib_nI (by omega)]; exact hs6
    have hx := ix_nI (n := s) (by omega)
    by_cases h1 : 0 ≤ p1.toInt ∧ p1.toInt ≤ 7
    · obtain ⟨k, hk, ek⟩ := nI_ex (n := 8) h1.1 (by omega)
      have hd1 : ∀ r : PR, (∃ q, r = q) := fun r => ⟨r, rfl⟩
      have c143 : C E (d + 100) 143 [vR 1 11 10, vI p0, vI p1] (M, L) = if M 331 s = -1 then some (some (vI (-11 : Int32)), (M, L)) else (bI (C E (d + 99) 52 [vR 1 6 330, vI p0] (M, L)) fun r4 s4 => (bI (C E (d + 99) 0 [vR 1 0 320, vI r4] s4) fun r5 s5 => (if r5 = 0 then some (some (vI (-12 : Int32)), s5) else (bI (C E (d + 99) 5 [vR 1 0 320, vI r4, vI p1] s5) fun r6 s6 => (if r6 = 0 then some (some (vI (-12 : Int32)), s6) else (bI (C E (d + 99) 2 [vR 1 0 320, vI r4] s6) fun r7 s7 => some (some (vI r7), s7))))))) := by
        rw [x143, e48', bI_s, if_neg (by decide), e145, bI_s, if_neg (b1_ne (by rw [t_0, t_7]; exact h1)), es, e49 E _ L M hs6, bI_s]
        by_cases a : M 331 s = -1
        · rw [if_neg (b1_ne a), if_pos a]
        · rw [if_pos (b1_e a), if_neg a]
      have c248 : C E (d + 100) 248 [vR 1 12 400, vI p0, vI p1] (M, L) = (if 0 ≤ M 447 s then (if M 447 s < (50 : Int32) then (bI (C E (d + 99) 230 [vR 1 12 400, vI (M 447 s)] (M, L)) fun r3 s3 => X E (d + 99) me248 58 [some (vR 1 12 400), some (vI p0), some (vI p1), some (vI r3)] [] s3) else some (some (vI (-12 : Int32)), (M, L))) else some (some (vI (-11 : Int32)), (M, L))) := by
        rw [x248, es, e240n E _ _ _ hs6, bI_s, if_neg (by decide), e148, bI_s, if_neg (b1_ne (by rw [tl_i, l_0, l_7]; exact h1))]
        simp only [if_pos hib, hx]
      rcases hs s hs6 with ⟨z1, z2⟩ | ⟨z1, j, z2, z3, z4, z5⟩ | ⟨kk, m, z1, z2, z3, z4, z5, z6, z7, z8⟩
      · refine opq E d hR (r := -11) (M1 := M) (M2 := M) ?_ (Kp.re M) ?_ (Kp.re M)
        · rw [c143, if_pos z1]
        · rw [c248, z2, if_neg (by decide)]
      · rw [a1, t_nI (by omega)] at z4
        obtain ⟨q1, a, ha8, q2⟩ := a5 j (by omega)
        have c0 : ∀ D, C E (D + 1) 0 [vR 1 0 320, vI (nI j)] (M, L) = some (some (vI (1 : Int32)), (M, L)) := fun D => by
          rw [e0, b1_t (by rw [t_nI (by omega), a1, t_nI (by omega)]; omega)]
        have c2 : ∀ D, C E (D + 2) 2 [vR 1 0 320, vI (nI j)] (M, L) = some (some (vI (nI a)), (M, L)) := fun D => by
          rw [x2, c0, bI_s, if_neg (by decide), if_pos (by rw [ib_nI (by omega)]; exact z5), ix_nI (by omega)]
          show some (some (vI (M 321 j)), (M, L)) = _
          rw [q2]
        have c52 : C E (d + 99) 52 [vR 1 6 330, vI p0] (M, L) = some (some (vI (nI j)), (M, L)) := by
          rw [es, x52, e48n E _ L M hs6, bI_s, if_neg (by decide), if_pos hib]
          simp only [hx, if_pos hib, z1, z2]
          rw [if_pos trivial]
        have c5 : C E (d + 99) 5 [vR 1 0 320, vI (nI j), vI p1] (M, L) = some (some (vI (unC (nI k) 8 (nI a))), (M, L)) := by
          rw [x5, c2, bI_s, ek]
          exact un5 E (d + 97) L M (nI j) (nI k) 8 0 (nI a) (by omega)
        have hu := un_eq a ha8 k hk
        have e442 : M 442 j = nI a := by rw [q1, q2]
        have cX : (bI (C E (d + 99) 230 [vR 1 12 400, vI (nI j)] (M, L)) fun r3 s3 => X E (d + 99) me248 58 [some (vR 1 12 400), some (vI p0), some (vI p1), some (vI r3)] [] s3) = if unR (nI k) 8 (nI a) then some (some (vI (nI a)), (M, L)) else some (some (vI (-12 : Int32)), (M, L)) := by
          rw [x230, if_pos (by rw [ib_nI (by omega)]; exact z5), ix_nI (by omega), bI_s, e442, es, ek]
          exact un248 E (d + 98) L M (nI k) hs6 z3 z5 e442 8 a ha8 ha8
        by_cases hu2 : unR (nI k) 8 (nI a) = true
        · rw [if_pos hu2] at hu
          refine opq E d hR (r := nI a) (M1 := M) (M2 := M) ?_ (Kp.re M) ?_ (Kp.re M)
          · rw [c143, z1, if_neg (by decide), c52, bI_s, c0, bI_s, if_neg (by decide), c5, bI_s, hu, if_neg (by decide), c2, bI_s]
          · rw [c248, z3, if_pos (show 0 ≤ nI j by rw [t_le, t_0, t_nI (by omega)]; omega), if_pos (show nI j < (50 : Int32) from nI_lt (b := 50) z5 (by omega)), cX, if_pos hu2]
        · rw [if_neg hu2] at hu
          refine opq E d hR (r := -12) (M1 := M) (M2 := M) ?_ (Kp.re M) ?_ (Kp.re M)
          · rw [c143, z1, if_neg (by decide), c52, bI_s, c0, bI_s, if_neg (by decide), c5, bI_s, hu, if_pos rfl]
          · rw [c248, z3, if_pos (show 0 ≤ nI j by rw [t_le, t_0, t_nI (by omega)]; omega), if_pos (show nI j < (50 : Int32) from nI_lt (b := 50) z5 (by omega)), cX, if_neg hu2]
      · have hk1 : ¬ nI kk = -1 := fun q => by
          have := congrArg Int32.toInt q
          rw [t_nI (by omega), t_m1] at this
          omega
        have hk5 : ¬ nI kk = (5 : Int32) := fun q => by have := nI_inj (b := 5) (by omega) (by omega) q; omega
        refine opq E d hR (r := -12) (M1 := M) (M2 := M) ?_ (Kp.re M) ?_ (Kp.re M)
        · rw [c143, z3, if_neg hk1, es, x52, e48n E _ L M hs6, bI_s, if_neg (by decide), if_pos hib]
          simp only [hx, z3]
          rw [if_neg hk5, bI_s, e0, bI_s, b1_f (by rw [t_m1]; omega), if_pos rfl]
        · rw [c248, z5, if_pos (show 0 ≤ nI (50 + kk) by rw [t_le, t_0, t_nI (by omega)]; omega), if_neg (show ¬ nI (50 + kk) < (50 : Int32) from nI_nlt (b := 50) (by omega) (by omega))]
    · refine opq E d hR (r := -1) (M1 := M) (M2 := M) ?_ (Kp.re M) ?_ (Kp.re M)
      · rw [x143, e48', bI_s, if_neg (by decide), e145, bI_s, if_pos (b1_e (by rw [t_0, t_7]; exact h1))]
      · rw [x248, es, e240n E _ _ _ hs6, bI_s, if_neg (by decide), e148, bI_s, if_pos (b1_e (by rw [tl_i, l_0, l_7]; exact h1))]
  · refine opq E d hR (r := -1) (M1 := M) (M2 := M) ?_ (Kp.re M) ?_ (Kp.re M)
    · rw [x143, e48', bI_s, if_pos rfl]
    · rw [x248, e240x E _ L _ hns, bI_s, if_pos rfl]
theorem r216 (M : Nat → Nat → Int32) {P : TP} {T : TS} (hq : RQ M P) (ht : RT M P T) (hr : rngT P T) (hpr : btw 0 99 (pPr P)) {p : Nat} (hp : p < pG P) (hg : pG P ≤ 9) : C E (d + 2) 216 [vR 1 12 400, vI (nI p)] (M, L) = some (some (vI (svP P T p)), (M, L)) := by
  have h1 := hr.2.1 p hp
  unfold btw at hpr
  rw [x216, e189 E d L M (by omega), bI_s, (ht.2.1 p hp).1, hq.2.2.1]
  have hs : (tM T p - pPr P).toInt = (tM T p).toInt - (pPr P).toInt := t_sub (by omega) (by omega)
  by_cases h : (tM T p).toInt ≤ (pPr P).toInt
  · rw [if_neg (b1_ne h)]
    have : svP P T p = 0 := by
      apply Int32.toInt_inj.mp
      unfold svP
      rw [t_mx, t_0, hs, if_neg (by omega)]
    rw [this]
  · rw [if_pos (b1_e h), if_pos (by rw [ib_nI (by omega)]; omega), if_pos (show ib (60 : Int32) 62 by decide), ix_nI (by omega), show ix (60 : Int32) = 60 from by decide]
    have : svP P T p = tM T p - pPr P := by
      apply Int32.toInt_inj.mp
      unfold svP
      rw [t_mx, t_0, hs, if_pos (by omega)]
    rw [this]
    show some (some (vI (M 428 p - M 401 60)), (M, L)) = _
    rw [(ht.2.1 p hp).1, hq.2.2.1]
theorem op_fined (p0 p1 : Int32) : Opk E d 122 217 [vI p0, vI p1] := by
  intro M L h
  obtain ⟨P, T, hc, -⟩ := RR.cx E h
  obtain ⟨c1, c2, c3, ⟨c4, c5⟩, c6, c7, c8, c9, c10⟩ := id hc
  rcases bgn E c1 c5 p0 (d + 98) L with ⟨p, hp, e1, eb⟩ | ⟨h1, eb⟩
  · by_cases h2 : 0 ≤ p1.toInt ∧ p1.toInt ≤ 9999
    · obtain ⟨M2, g2, f2, t2⟩ := e188 E (d + 98) L M c2 c3 c4 c5
      have rx2 : RX E M2 P T := (Ctx.rx E hc (Kp.re M)).fr E f2
      have hsr := svS_rng c9 c10 c5 (pG P) (Nat.le_refl _)
      have cl : ∀ m k, k + m = pG P → X E (d + 99) me122 29 [some (vR 1 11 10), some (vI p0), some (vI p1), some (vI (svS P T k)), some (vI (nI k))] [] (M, L) = if 0 < svS P T (pG P) then (if svS P T (pG P) = 0 then none else some (some (vI ((p1 * svP P T p) / svS P T (pG P))), (M, L))) else some (some (vI (0 : Int32)), (M, L)) := by
        intro m
        induction m with
        | zero =>
          intro k hk
          have e : k = pG P := by omega
          subst e
          rw [x122_29, c1.2.1, if_pos (nI_le (Nat.le_refl _) (by omega)), e1, e33 E _ M L 40 (by omega) c1.2.1 c5 hp, bI_s, (c1.2.2.2.2.2 p hp).1, c1.2.2.1]
          rfl
        | succ m ih =>
          intro k hk
          rw [x122_29, c1.2.1, if_neg (nI_ge (by omega) (by omega)), e33 E _ M L 40 (by omega) c1.2.1 c5 (by omega), bI_s, (c1.2.2.2.2.2 k (by omega)).1, c1.2.2.1, nI_1]
          exact ih (k + 1) (by omega)
      have rl : ∀ m k, k + m = pG P → X E (d + 99) me217 32 [some (vR 1 12 400), some (vI p0), some (vI p1), some (vI (svS P T k)), some (vI (nI k))] [] (M2, L) = if svS P T (pG P) = 0 then some (some (vI (0 : Int32)), (M2, L)) else (if svS P T (pG P) = 0 then none else some (some (vI ((p1 * svP P T p) / svS P T (pG P))), (M2, L))) := by
        intro m
        induction m with
        | zero =>
          intro k hk
          have e : k = pG P := by omega
          subst e
          rw [x217_32, rx2.1.2.1, if_pos (nI_le (Nat.le_refl _) (by omega)), e1, r216 E _ L M2 rx2.1 t2 c9 c10 hp c5, bI_s]
        | succ m ih =>
          intro k hk
          rw [x217_32, rx2.1.2.1, if_neg (nI_ge (by omega) (by omega)), r216 E _ L M2 rx2.1 t2 c9 c10 (by omega) c5, bI_s, nI_1]
          exact ih (k + 1) (by omega)
      have g1 : C E (d + 100) 122 [vR 1 11 10, vI p0, vI p1] (M, L) = if 0 < svS P T (pG P) then (if svS P T (pG P) = 0 then none else some (some (vI ((p1 * svP P T p) / svS P T (pG P))), (M, L))) else some (some (vI (0 : Int32)), (M, L)) := by
        rw [x122, eb, bI_s, if_neg (by decide), e145, bI_s, if_neg (b1_ne (by rw [t_0, t_9999]; exact h2))]
        exact cl (pG P) 0 (by omega)
      have g3 : C E (d + 100) 217 [vR 1 12 400, vI p0, vI p1] (M, L) = if svS P T (pG P) = 0 then some (some (vI (0 : Int32)), (M2, L)) else (if svS P T (pG P) = 0 then none else some (some (vI ((p1 * svP P T p) / svS P T (pG P))), (M2, L))) := by
        rw [x217, e157 E _ L M _ c2.2.1 c5, bI_s, if_neg (b1_ne (by rw [tl_i, e1]; exact inN (by omega) hp)), e148, bI_s, if_neg (b1_ne (by rw [tl_i, l_0, l_9999]; exact h2)), g2, bV_s]
        exact rl (pG P) 0 (by omega)
      by_cases hz : svS P T (pG P) = 0
      · refine opq E d h (r := 0) (M1 := M) (M2 := M2) ?_ (Kp.re M) ?_ (Kp.ofR f2)
        · rw [g1, if_neg (by rw [hz]; decide)]
        · rw [g3, if_pos hz]
      · have hz' : ¬ (svS P T (pG P)).toInt = 0 := fun q => hz (by rw [z_iff]; exact q)
        refine opq E d h (r := (p1 * svP P T p) / svS P T (pG P)) (M1 := M) (M2 := M2) ?_ (Kp.re M) ?_ (Kp.ofR f2)
        · rw [g1, if_pos (by rw [t_lt, t_0]; omega), if_neg hz]
        · rw [g3, if_neg hz, if_neg hz]
    · refine opq E d h (r := -1) (M1 := M) (M2 := M) ?_ (Kp.re M) ?_ (Kp.re M)
      · rw [x122, eb, bI_s, if_neg (by decide), e145, bI_s, if_pos (b1_e (by rw [t_0, t_9999]; exact h2))]
      · rw [x217, e157 E _ L M _ c2.2.1 c5, bI_s, if_neg (b1_ne (by rw [tl_i, e1]; exact inN (by omega) hp)), e148, bI_s, if_pos (b1_e (by rw [tl_i, l_0, l_9999]; exact h2))]
  · refine opq E d h (r := -1) (M1 := M) (M2 := M) ?_ (Kp.re M) ?_ (Kp.re M)
    · rw [x122, eb, bI_s, if_pos rfl]
    · rw [x217, e157 E _ L M _ c2.2.1 c5, bI_s, if_pos (b1_e (by rw [tl_i]; exact h1))]
theorem op_claim (p0 : Int32) : Opk E d 123 218 [vI p0] := by
  intro M L h
  obtain ⟨P, T, hc, hrc, hP, hT⟩ := RR.cx E h
  obtain ⟨c1, c2, c3, ⟨c4, c5⟩, c6, c7, c8, c9, c10⟩ := id hc
  by_cases h0 : 0 ≤ p0.toInt ∧ p0.toInt ≤ 7
  · obtain ⟨M1, g1, f1⟩ := e34 E (d + 95) L M 40 c1 c4 c5 p0
    have k1 : Kp M M1 := Kp.ofQ (fun c hcc => f1 c (by unfold fQ at hcc; omega) (by unfold fQ at hcc; omega))
    have rx := Ctx.rx E hc k1
    obtain ⟨M2, g2, f2, t2⟩ := e188 E (d + 98) L M1 rx.1 rx.2.1 c4 c5
    have rx2 := rx.fr E f2
    have e409 : ∀ k, k < pN P → M2 409 k = M (40 + 1) k ∧ M2 410 k = M (40 + 2) k := by
      intro k hk
      have := (hrc.2.2.2.2.2.1 k hk).1
      rw [f2.1 409 (by omega) (by omega) (by omega) (by omega) (by omega) (by omega) (by omega), f2.1 410 (by omega) (by omega) (by omega) (by omega) (by omega) (by omega) (by omega), f1 409 (by omega) (by omega), f1 410 (by omega) (by omega)]
      exact ⟨this.2.2.2.1, this.2.2.2.2⟩
    have rl : ∀ m k, k + m = pN P → X E (d + 99) me218 21 [some (vR 1 12 400), some (vI p0), some (vI (nI (chN (M 41) (M 42) p0 (hN P T) k))), some (vI (nI (chN (M 41) (M 42) p0 (rN P T) k))), some (vI (nI k))] [] (M2, L) = some (some (vI (10 * nI (chN (M 41) (M 42) p0 (hN P T) (pN P)) + nI (chN (M 41) (M 42) p0 (rN P T) (pN P)))), (M2, L)) := by
      intro m
      induction m with
      | zero =>
        intro k hk
        have e : k = pN P := by omega
        subst e
        rw [x218_21, rx2.1.1, if_pos (nI_le (Nat.le_refl _) (by omega))]
      | succ m ih =>
        intro k hk
        have hib : ib (nI k) 8 := by rw [ib_nI (by omega)]; omega
        have ih' := ih (k + 1) (by omega)
        have s1 : ∀ f : Nat → Nat, chN (M 41) (M 42) p0 f (k + 1) = if M 41 k = p0 ∨ M 42 k = p0 then chN (M 41) (M 42) p0 f k + f k else chN (M 41) (M 42) p0 f k := fun _ => rfl
        rw [s1, s1] at ih'
        obtain ⟨q1, q2⟩ := e409 k (by omega)
        rw [x218_21, rx2.1.1, if_neg (nI_ge (by omega) (by omega)), if_pos hib, if_pos hib, ix_nI (by omega), q1, q2, e190h E _ L M2 rx2.1 t2 c5 k, bI_s, e190r E _ L M2 rx2.1 t2 c5 k, bI_s, nI_1, nI_add, nI_add]
        by_cases ha : M 41 k = p0
        · rw [if_pos ha]
          rw [if_pos (Or.inl ha), if_pos (Or.inl ha)] at ih'
          exact ih'
        · rw [if_neg ha]
          by_cases hb : M 42 k = p0
          · rw [if_pos hb]
            rw [if_pos (Or.inr hb), if_pos (Or.inr hb)] at ih'
            exact ih'
          · rw [if_neg hb]
            rw [if_neg (fun q => q.elim ha hb), if_neg (fun q => q.elim ha hb)] at ih'
            exact ih'
    refine opq E d h (r := clB (M (40 + 1)) (M (40 + 2)) p0 (hN P T) (rN P T) (pN P)) (M1 := M1) (M2 := M2) ?_ k1 ?_ (Kp.ofR f2)
    · rw [x123, e145, bI_s, if_neg (b1_ne (by rw [t_0, t_7]; exact h0)), g1, bI_s]
    · rw [x218, e158, bI_s, if_neg (b1_ne (by rw [tl_i]; exact h0)), g2, bV_s, clB_eq]
      have := rl (pN P) 0 (by omega)
      have e2 : (10 : Int32) * nI (chN (M 41) (M 42) p0 (hN P T) (pN P)) + nI (chN (M 41) (M 42) p0 (rN P T) (pN P)) = nI (10 * chN (M 41) (M 42) p0 (hN P T) (pN P) + chN (M 41) (M 42) p0 (rN P T) (pN P)) := by
        rw [show (10 : Int32) = nI 10 from rfl]
        unfold nI
        rw [← Int32.ofNat_mul, ← Int32.ofNat_add]
      rw [e2] at this
      exact this
  · refine opq E d h (r := -1) (M1 := M) (M2 := M) ?_ (Kp.re M) ?_ (Kp.re M)
    · rw [x123, e145, bI_s, if_pos (b1_e (by rw [t_0, t_7]; exact h0))]
    · rw [x218, e158, bI_s, if_pos (b1_e (by rw [tl_i]; exact h0))]
end BOOKS
