/-! a beggar moves: the reference's walk and the call -/
def fo9 (P : TP) (n : Nat) (T : TS) (p : Nat) : Nat → Nat → Int × Int32 → Int × Int32
  | 0, _, a => a
  | r + 1, k, a => fo9 P n T p r (k + 1) (if k < pN P then stp P n T p k a else if k = 8 then lst P n T p a else a)
theorem fo9_end {P : TP} {n : Nat} {T : TS} {p : Nat} : ∀ m k a, k + m = 8 → pN P ≤ k → fo9 P n T p (m + 1) k a = lst P n T p a
  | 0, k, a, h1, h2 => by
    show (if k < pN P then stp P n T p k a else if k = 8 then lst P n T p a else a) = _
    rw [if_neg (by omega), if_pos (by omega)]
  | m + 1, k, a, h1, h2 => by
    show fo9 P n T p (m + 1) (k + 1) (if k < pN P then stp P n T p k a else if k = 8 then lst P n T p a else a) = _
    rw [if_neg (by omega), if_neg (by omega)]
    exact fo9_end m (k + 1) a (by omega) (by omega)
theorem fo9_eq {P : TP} {n : Nat} {T : TS} {p : Nat} (hn : pN P ≤ 8) : ∀ r k m a, k + r = pN P → k + m = 9 → fo9 P n T p m k a = fo P n T p r k a
  | 0, k, m, a, h, hm => by
    rw [show m = (8 - k) + 1 by omega]
    exact fo9_end (8 - k) k a (by omega) (by omega)
  | r + 1, k, m, a, h, hm => by
    rw [show m = (m - 1) + 1 by omega]
    show fo9 P n T p (m - 1) (k + 1) (if k < pN P then stp P n T p k a else if k = 8 then lst P n T p a else a) = _
    rw [if_pos (by omega)]
    exact fo9_eq hn r (k + 1) (m - 1) _ (by omega) (by omega)
section MOVED5
variable (E : Nat × (Nat → Int32)) (d : Nat) (L : Nat → Nat → Int64)
theorem cd205 (M M1 : Nat → Nat → Int32) {P : TP} {T : TS} (hx : RX E M P T) (hn8 : pN P ≤ 8) (hg9 : pG P ≤ 9) (hse : seatsOk P T) (hr : rngT P T) {n p : Nat} (hn : n ≤ 20) (hp : p < pG P) (hf : frR M M1) {x : Int32} (hxr : -1 ≤ x.toInt ∧ x.toInt < (pN P : Int)) (G : PS → PR) :
    ∃ M3, (bV (C E (d + 8) 188 [vR 1 12 400] (M1, L)) fun s => (if ib (nI p) 9 then (bV (C E (d + 8) 193 [vR 1 12 400, vI (nI n)] ((u2 s.1 429 (ix (nI p)) x), s.2)) G) else none)) = G (M3, L) ∧ frR M M3 ∧ RT M3 P (itd (dayA P) n (setE T p x)) := by
  have rx1 := hx.fr E hf
  obtain ⟨M2, e2, f2, t1, t2, t3⟩ := e188 E (d + 7) L M1 rx1.1 rx1.2.1 hn8 hg9
  have rx2 := rx1.fr E f2
  have fu : frR M2 (u2 M2 429 p x) := ⟨fun c q0 q1 q2 q3 q4 q5 q6 => u2_o q5, fun j hj => by rw [u2_o (by omega)]⟩
  have ht' : RT (u2 M2 429 p x) P (setE T p x) := by
    refine ⟨fun k hk => by rw [u2_o (by omega)]; exact t1 k hk, fun q hq => ?_, by rw [u2_o (by omega)]; exact t3⟩
    rw [u2_o (c := 428) (by omega)]
    refine ⟨(t2 q hq).1, ?_⟩
    show _ = if q = p then x else tE T q
    by_cases e : q = p
    · rw [if_pos e, e, u2_s]
    · rw [if_neg e, u2_n e]; exact (t2 q hq).2
  have hse' : seatsOk P (setE T p x) := fun q hq => by
    show -1 ≤ (if q = p then x else tE T q).toInt ∧ (if q = p then x else tE T q).toInt < _
    by_cases e : q = p
    · rw [if_pos e]; exact hxr
    · rw [if_neg e]; exact hse q hq
  have rx3 := rx2.fr E fu
  obtain ⟨M3, e3', f3, t3'⟩ := e193 E (d + 2) L (u2 M2 429 p x) rx3.1 ht' hn8 hg9 rx3.2.2 hse' (rngE hr p x) (n := n) (by omega)
  refine ⟨M3, ?_, (hf.tr f2).tr (fu.tr f3), t3'⟩
  rw [e2, bV_s, if_pos (by rw [ib_nI (by omega)]; omega), ix_nI (by omega), e3', bV_s]
theorem l205i (M : Nat → Nat → Int32) {P : TP} {T : TS} (hx : RX E M P T) (hn8 : pN P ≤ 8) (hg9 : pG P ≤ 9) (hse : seatsOk P T) (hr : rngT P T) {n p : Nat} (hn : n ≤ 20) (hp : p < pG P) (what : Int32) :
    ∀ r k x3 x4 x5 w8 w9 (M1 : Nat → Nat → Int32) a, k + r = 9 → frR M M1 → RefA a x3 x4 x5 → ∃ M2 x3' x4' x5' w8' w9', X E (d + 8) me205 69 [some (vR 1 12 400), some (vI (nI n)), some (vI what), some (vI x3), some (vI x4), some (vI x5), some (vI (nI p)), some (vI (nI k)), w8, w9] [] (M1, L) = X E (d + 8) me205 57 [some (vR 1 12 400), some (vI (nI n)), some (vI what), some (vI x3'), some (vI x4'), some (vI x5'), some (vI (nI (p + 1))), some (vI (nI 9)), w8', w9'] [] (M2, L) ∧ frR M M2 ∧ RefA (fo9 P n T p r k a) x3' x4' x5' := by
  have cd : ∀ k, (100 : Int32) * nI p + nI k = nI (100 * p + k) := fun k => by
    rw [show (100 : Int32) = nI 100 from rfl]; unfold nI; rw [← Int32.ofNat_mul, ← Int32.ofNat_add]
  intro r
  induction r with
  | zero =>
    intro k x3 x4 x5 w8 w9 M1 a hk hf hA
    have e : k = 9 := by omega
    subst e
    refine ⟨M1, x3, x4, x5, w8, w9, ?_, hf, hA⟩
    rw [x205_69, if_pos (show (8 : Int32) < nI 9 by decide), nI_1]
  | succ r ih =>
    intro k x3 x4 x5 w8 w9 M1 a hk hf hA
    have hn6 : M1 400 6 = nI (pN P) := by rw [hf.2 6 (by omega)]; exact hx.1.1
    have hib : ib (nI (51 + p)) 62 := by rw [ib_nI (by omega)]; omega
    have e51' : (51 : Int32) + nI p = nI (51 + p) := nI_add 51 p
    have hst : M1 401 (51 + p) = tE T p := by rw [hf.1 401 (by omega) (by omega) (by omega) (by omega) (by omega) (by omega) (by omega)]; exact (hx.2.1.2.1 p hp).2
    rw [x205_69, if_neg (show ¬ (8 : Int32) < nI k from nI_nlt (a := 8) (by omega) (by omega))]
    show ∃ M2 x3' x4' x5' w8' w9', _ ∧ _ ∧ RefA (fo9 P n T p r (k + 1) (if k < pN P then stp P n T p k a else if k = 8 then lst P n T p a else a)) x3' x4' x5'
    by_cases e8 : k = 8
    · rw [if_pos (show nI k = (8 : Int32) by rw [e8]; rfl), e160 E _ L M1 _ hn6 hn8, bI_s, if_neg (b1_ne (by rw [tl_i, t_m1]; omega)), e51', if_pos hib, if_neg (show ¬ k < pN P by omega), if_pos e8, ix_nI (n := 51 + p) (by omega)]
      show ∃ M2 x3' x4' x5' w8' w9', (if (-1 : Int32) = M1 401 (51 + p) then _ else _) = _ ∧ _
      rw [hst]
      unfold lst
      by_cases q : tE T p = -1
      · rw [if_pos q.symm, if_pos q, nI_1]
        exact ih (k + 1) x3 x4 x5 _ _ M1 a (by omega) hf hA
      · rw [if_neg (fun z => q z.symm), if_neg q]
        obtain ⟨M3, e3', f3, t3⟩ := cd205 E d L M M1 hx hn8 hg9 hse hr hn hp hf (x := -1) (by rw [t_m1]; omega) _
        rw [e3']
        obtain ⟨y3, y4, y5, w, e4, hA2⟩ := tl205 E (d + 6) L M3 hn8 (by rw [f3.2 6 (by omega)]; exact hx.1.1) (rngE hr p (-1)) t3 hA (nI (100 * p + 8)) (fun z3 z4 z5 zw s => X E (d + 8) me205 69 [some (vR 1 12 400), some (vI (nI n)), some (vI what), some (vI z3), some (vI z4), some (vI z5), some (vI (nI p)), some (vI (nI k + 1)), some (vI (-1 : Int32)), zw] [] s)
        obtain ⟨M4, v3, v4, v5, v8, v9, e5, f5, hA5⟩ := ih (k + 1) y3 y4 y5 (some (vI (-1 : Int32))) w M3 _ (by omega) f3 hA2
        refine ⟨M4, v3, v4, v5, v8, v9, ?_, f5, hA5⟩
        have cd8 := cd k
        rw [show 100 * p + k = 100 * p + 8 by omega] at cd8
        rw [cd8]
        refine Eq.trans e4 ?_
        show X E (d + 8) me205 69 _ [] (M3, L) = _
        rw [nI_1]
        exact e5
    · rw [if_neg (show ¬ nI k = (8 : Int32) from fun q => e8 (nI_inj (b := 8) (by omega) (by omega) q)), e160 E _ L M1 _ hn6 hn8, bI_s]
      by_cases hkn : k < pN P
      · rw [if_neg (b1_ne (by rw [tl_i, t_nI (by omega)]; omega)), e51', if_pos hib, if_pos hkn, ix_nI (n := 51 + p) (by omega)]
        show ∃ M2 x3' x4' x5' w8' w9', (if nI k = M1 401 (51 + p) then _ else _) = _ ∧ _
        rw [hst]
        unfold stp
        by_cases q : nI k = tE T p
        · rw [if_pos q, if_pos q, nI_1]
          exact ih (k + 1) x3 x4 x5 _ _ M1 a (by omega) hf hA
        · rw [if_neg q, if_neg q]
          obtain ⟨M3, e3', f3, t3⟩ := cd205 E d L M M1 hx hn8 hg9 hse hr hn hp hf (x := nI k) (by rw [t_nI (by omega)]; omega) _
          rw [e3']
          obtain ⟨y3, y4, y5, w, e4, hA2⟩ := tl205 E (d + 6) L M3 hn8 (by rw [f3.2 6 (by omega)]; exact hx.1.1) (rngE hr p (nI k)) t3 hA (nI (100 * p + k)) (fun z3 z4 z5 zw s => X E (d + 8) me205 69 [some (vR 1 12 400), some (vI (nI n)), some (vI what), some (vI z3), some (vI z4), some (vI z5), some (vI (nI p)), some (vI (nI k + 1)), some (vI (nI k)), zw] [] s)
          obtain ⟨M4, v3, v4, v5, v8, v9, e5, f5, hA5⟩ := ih (k + 1) y3 y4 y5 (some (vI (nI k))) w M3 _ (by omega) f3 hA2
          refine ⟨M4, v3, v4, v5, v8, v9, ?_, f5, hA5⟩
          rw [cd k]
          refine Eq.trans e4 ?_
          show X E (d + 8) me205 69 _ [] (M3, L) = _
          rw [nI_1]
          exact e5
      · rw [if_pos (b1_e (by rw [tl_i, t_nI (by omega)]; omega)), if_neg hkn, if_neg e8, nI_1]
        exact ih (k + 1) x3 x4 x5 _ _ M1 a (by omega) hf hA
theorem l205o (M : Nat → Nat → Int32) {P : TP} {T : TS} (hx : RX E M P T) (hn8 : pN P ≤ 8) (hg9 : pG P ≤ 9) (hse : seatsOk P T) (hr : rngT P T) {n : Nat} (hn : n ≤ 20) (what : Int32) :
    ∀ r p x3 x4 x5 w7 w8 w9 (M1 : Nat → Nat → Int32) a, p + r = pG P → frR M M1 → RefA a x3 x4 x5 → ∃ M2 x3' x4' x5', X E (d + 8) me205 57 [some (vR 1 12 400), some (vI (nI n)), some (vI what), some (vI x3), some (vI x4), some (vI x5), some (vI (nI p)), w7, w8, w9] [] (M1, L) = some (some (vI (if what = 0 then x4' else if what = 1 then x5' else x3')), (M2, L)) ∧ frR M M2 ∧ RefA (fb P n T r p a) x3' x4' x5' := by
  intro r
  induction r with
  | zero =>
    intro p x3 x4 x5 w7 w8 w9 M1 a hp hf hA
    refine ⟨M1, x3, x4, x5, ?_, hf, hA⟩
    rw [x205_57, hf.2 7 (by omega), hx.1.2.1, if_pos (nI_le (by omega) (by omega))]
    by_cases q : what = 0
    · rw [if_pos q, if_pos q]
    · rw [if_neg q, if_neg q]
      by_cases q2 : what = 1
      · rw [if_pos q2, if_pos q2]
      · rw [if_neg q2, if_neg q2]
  | succ r ih =>
    intro p x3 x4 x5 w7 w8 w9 M1 a hp hf hA
    rw [x205_57, hf.2 7 (by omega), hx.1.2.1, if_neg (nI_ge (by omega) (by omega)), n_0]
    obtain ⟨M2, y3, y4, y5, w8', w9', e2, f2, hA2⟩ := l205i E d L M hx hn8 hg9 hse hr hn (p := p) (by omega) what 9 0 x3 x4 x5 w8 w9 M1 a (by omega) hf hA
    rw [fo9_eq hn8 (pN P) 0 9 a (by omega) (by omega)] at hA2
    rw [e2]
    exact ih (p + 1) y3 y4 y5 _ w8' w9' M2 _ (by omega) f2 hA2
end MOVED5
