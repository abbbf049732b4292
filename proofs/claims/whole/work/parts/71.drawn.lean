/-! counties drawn by lot: the walks -/
def cP (P : TP) (T : TS) : Int32 := nI (popN (sdB (tS T) (pN P)).toInt.toNat)
def cB (x3 : Int32) (T : TS) : Int32 := if x3 < 0 then 0 else if tS T (ix x3) ≤ 0 then 0 else 1
section DRAWN2
variable (E : Nat × (Nat → Int32)) (d : Nat) (L : Nat → Nat → Int64)
theorem l92o (zf : Int32 → Int32) (hz : ∀ z : Int32, z * (1103515245 : Int32) + (12345 : Int32) = zf z) (M : Nat → Nat → Int32) {P : TP} {T : TS} (hC : CH M 40 P T) (hn8 : pN P ≤ 8) (hg9 : pG P ≤ 9) (hl : LW E (pK P) M) (hse : seatsOk P T) (Rel : TS → TS → Prop) (h0 : Rel T T) {luck x1 x5 x6 x7 : Int32} {n m : Nat} (hm : m ≤ 60) (hn : n ≤ 30) (ct : TS → Int32)
    (hstep : ∀ (M1 : Nat → Nat → Int32) T1 T2, LW E (pK P) M1 → CH M1 140 P T1 → Rel T1 T2 → seatsOk P T2 → ∃ M2 T1', C E (d + 4) 29 [vR 1 2 140, vI x6, vI x7, vR 1 3 90] (M1, L) = some (none, (M2, L)) ∧ (∀ c, ¬ fT c → M2 c = M1 c) ∧ CH M2 140 P T1' ∧ Rel T1' (dayA P T2))
    (hgift : ∀ T1 T2 z q, q < pG P → Rel T1 T2 → Rel (gvT T1 z q) (gvT T2 z q))
    (hend : ∀ (M3 : Nat → Nat → Int32) T1 T2 z c x8, CH M3 140 P T1 → Rel T1 T2 → ∃ w, X E (d + 4) me92 65 [some (vR 1 8 110), some (vI x1), some (vI (nI n)), some (vI (nI m)), some (vI luck), some (vI x5), some (vI x6), some (vI x7), some (vI x8), some (vI z), some (vI c), some (vI (nI m))] [] (M3, L) = X E (d + 4) me92 45 [some (vR 1 8 110), some (vI x1), some (vI (nI n)), some (vI (nI m)), some (vI luck), some (vI x5), some (vI x6), some (vI x7), some (vI (x8 + ct T2)), some (vI z), some (vI (c + 1)), w] [] (M3, L)) :
    ∀ r c z x8 w11 (M1 : Nat → Nat → Int32), c + r = n → (∀ c, ¬ fT c → M1 c = M c) → ∃ M2, X E (d + 4) me92 45 [some (vR 1 8 110), some (vI x1), some (vI (nI n)), some (vI (nI m)), some (vI luck), some (vI x5), some (vI x6), some (vI x7), some (vI x8), some (vI z), some (vI (nI c)), w11] [] (M1, L) = some (some (vI (acz zf P luck m T ct r z x8)), (M2, L)) ∧ ∀ c, ¬ fT c → M2 c = M c := by
  intro r
  induction r with
  | zero =>
    intro c z x8 w11 M1 hc hf
    refine ⟨M1, ?_, hf⟩
    rw [x92_45, if_pos (nI_le (by omega) (by omega))]
    rfl
  | succ r ih =>
    intro c z x8 w11 M1 hc hf
    rw [x92_45, if_neg (nI_ge (by omega) (by omega))]
    obtain ⟨M2, e2, f2, c2'⟩ := e25T E (d + 2) L M1 40 (by omega) (hC.keep (fun c h1 h2 => hf c (by unfold fT; omega))) hn8 hg9
    rw [e2, bV_s]
    obtain ⟨M3, T3, e3', f3, c3, r3, s3⟩ := l92d E d L zf hz M hn8 hg9 hl Rel (luck := luck) (x1 := x1) (x2 := nI n) (x5 := x5) (x6 := x6) (x7 := x7) (m := m) hm hstep hgift m 0 z (nI c) x8 M2 T T (by omega) (fun c hc => (f2 c hc).trans (hf c hc)) c2' h0 hse
    rw [n_0, e3']
    obtain ⟨w, e4⟩ := hend M3 T3 _ (dz zf P luck m z T).1 (nI c) x8 c3 r3
    rw [e4, nI_1]
    exact ih (c + 1) _ _ w M3 (by omega) f3
theorem l221d (zf : Int32 → Int32) (hz : ∀ z : Int32, z * (1103515245 : Int32) + (12345 : Int32) = zf z) (M : Nat → Nat → Int32) {P : TP} (hn8 : pN P ≤ 8) (hg9 : pG P ≤ 9) (hq : RQ M P) (hrl : RL E (pK P) M) {luck x1 x2 x3 : Int32} {m : Nat} (hm : m ≤ 60) (hm2 : rm32 (x2 / (100 : Int32)) (100 : Int32) = nI m) (hlu : rm32 x2 (100 : Int32) = luck) :
    ∀ r k z x5 x6 x7 w9 (M1 : Nat → Nat → Int32) T2, k + r = m → frR M M1 → RT M1 P T2 → seatsOk P T2 → rngT P T2 → ∃ M2 w9', X E (d + 5) me221 98 [some (vR 1 12 400), some (vI x1), some (vI x2), some (vI x3), some (vI z), some (vI x5), some (vI x6), some (vI x7), some (vI (nI k)), w9] [] (M1, L) = X E (d + 5) me221 98 [some (vR 1 12 400), some (vI x1), some (vI x2), some (vI x3), some (vI (dz zf P luck r z T2).1), some (vI x5), some (vI x6), some (vI x7), some (vI (nI m)), w9'] [] (M2, L) ∧ frR M M2 ∧ RT M2 P (dz zf P luck r z T2).2 := by
  intro r
  induction r with
  | zero =>
    intro k z x5 x6 x7 w9 M1 T2 hk hf ht hse hr
    have e : k = m := by omega
    subst e
    exact ⟨M1, w9, rfl, hf, ht⟩
  | succ r ih =>
    intro k z x5 x6 x7 w9 M1 T2 hk hf ht hse hr
    have hse1 : seatsOk P (gift luck (pG P) (zf z) T2) := fun p hp => by rw [gv_seat]; exact hse p hp
    have hse' : seatsOk P (dayA P (gift luck (pG P) (zf z) T2)) := fun p hp => by
      show -1 ≤ (tE (gift luck (pG P) (zf z) T2) p).toInt ∧ (tE (gift luck (pG P) (zf z) T2) p).toInt < _
      rw [gv_seat]; exact hse p hp
    have hr1 := gv_rng hr luck (zf z) (pG P)
    have hg7 : M1 400 7 = nI (pG P) := by rw [hf.2 7 (by omega)]; exact hq.2.1
    have fin : ∀ (M3 : Nat → Nat → Int32) w, frR M M3 → RT M3 P (gift luck (pG P) (zf z) T2) → ∃ M2 w9', (bV (C E (d + 5) 192 [vR 1 12 400] (M3, L)) fun s => X E (d + 5) me221 98 [some (vR 1 12 400), some (vI x1), some (vI x2), some (vI x3), some (vI (zf z)), some (vI x5), some (vI x6), some (vI x7), some (vI (nI (k + 1))), w] [] s) = X E (d + 5) me221 98 [some (vR 1 12 400), some (vI x1), some (vI x2), some (vI x3), some (vI (dz zf P luck (r + 1) z T2).1), some (vI x5), some (vI x6), some (vI x7), some (vI (nI m)), w9'] [] (M2, L) ∧ frR M M2 ∧ RT M2 P (dz zf P luck (r + 1) z T2).2 := by
      intro M3 w g1 g2
      obtain ⟨M4, e4, f4, t4⟩ := e192 E d L M3 (hq.frR g1) g2 hn8 hg9 (hrl.frR g1) hse1 hr1
      obtain ⟨M5, w5, e5, f5⟩ := ih (k + 1) (zf z) x5 x6 x7 w M4 (dayA P (gift luck (pG P) (zf z) T2)) (by omega) (g1.tr f4) t4 hse' (rngT_day hr1)
      exact ⟨M5, w5, by rw [e4, bV_s, e5]; rfl, f5⟩
    have gift1 : (luck ≤ rm32 (us32 (zf z) (24 : Int32)) (12 : Int32) ∨ pG P = 0) → gift luck (pG P) (zf z) T2 = T2 := fun h => by
      unfold gift
      rcases h with h | h
      · rw [if_pos h]
      · rw [if_pos h]
        split <;> rfl
    rw [x221_98, hm2, if_neg (nI_ge (by omega) (by omega)), hz, x221_122, nI_1, hg7, hlu]
    by_cases h2 : pG P = 0
    · rw [if_pos (show nI (pG P) ≤ 0 by rw [h2]; decide)]
      exact fin M1 _ hf (by rw [gift1 (Or.inr h2)]; exact ht)
    · rw [if_neg (show ¬ nI (pG P) ≤ 0 from nI_ge (b := pG P) (a := 0) (by omega) (by omega))]
      by_cases h1 : luck ≤ rm32 (us32 (zf z) (24 : Int32)) (12 : Int32)
      · rw [if_pos h1]
        exact fin M1 _ hf (by rw [gift1 (Or.inl h1)]; exact ht)
      · obtain ⟨hwq, eq⟩ := who_lt (zf z) hg9 h2
        have hib : ib (nI (whoZ (zf z) (pG P))) 9 := by rw [ib_nI (by omega)]; omega
        rw [if_neg h1, if_neg (show ¬ nI (pG P) = 0 from fun q => h2 (nI_inj (b := 0) (by omega) (by omega) q)), eq, if_pos hib, ix_nI (by omega), e152, bI_s, if_pos hib]
        have htm : M1 428 (whoZ (zf z) (pG P)) = tM T2 (whoZ (zf z) (pG P)) := (ht.2.1 _ hwq).1
        rw [htm]
        refine fin _ _ ⟨fun c q0 q1 q2 q3 q4 q5 q6 => by rw [u2_o q4]; exact hf.1 c q0 q1 q2 q3 q4 q5 q6, fun j hj => by rw [u2_o (by omega)]; exact hf.2 j hj⟩ ?_
        unfold gift
        rw [if_neg h1, if_neg h2]
        obtain ⟨t1, t2, t3⟩ := ht
        refine ⟨fun k hk => by rw [u2_o (by omega)]; exact t1 k hk, fun p hp => ?_, by rw [u2_o (by omega)]; exact t3⟩
        rw [u2_o (c := 429) (by omega)]
        refine ⟨?_, (t2 p hp).2⟩
        show _ = if p = whoZ (zf z) (pG P) then hel (tM T2 (whoZ (zf z) (pG P)) + rm32 (us32 (zf z) (16 : Int32)) (30 : Int32)) 99 else tM T2 p
        by_cases e : p = whoZ (zf z) (pG P)
        · rw [if_pos e, e, u2_s]
        · rw [if_neg e, u2_n e]; exact (t2 p hp).1
theorem sd_pop (S : Nat → Int32) {n : Nat} (hn : n ≤ 8) : ∃ mm, mm < 512 ∧ sdB S n = nI mm ∧ (sdB S n).toInt.toNat = mm := by
  obtain ⟨mm, h1, h2⟩ := sd_256 S hn
  refine ⟨mm, by omega, h2, ?_⟩
  rw [h2, t_nI (by omega)]
  omega
theorem l221o (zf : Int32 → Int32) (hz : ∀ z : Int32, z * (1103515245 : Int32) + (12345 : Int32) = zf z) (M : Nat → Nat → Int32) {P : TP} {T : TS} (hx : RX E M P T) (hn8 : pN P ≤ 8) (hg9 : pG P ≤ 9) (hse : seatsOk P T) (hr : rngT P T) {luck x1 x2 x3 : Int32} {n m : Nat} (hm : m ≤ 60) (hn : n ≤ 30) (hn2 : x2 / (10000 : Int32) = nI n) (hm2 : rm32 (x2 / (100 : Int32)) (100 : Int32) = nI m) (hlu : rm32 x2 (100 : Int32) = luck) (hx3 : x3 < 0 ∨ ∃ b, b < pN P ∧ x3 = nI b) :
    ∀ r c z x5 x6 w8 w9 (M1 : Nat → Nat → Int32), c + r = n → frR M M1 → ∃ M2, X E (d + 5) me221 81 [some (vR 1 12 400), some (vI x1), some (vI x2), some (vI x3), some (vI z), some (vI x5), some (vI x6), some (vI (nI c)), w8, w9] [] (M1, L) = some (some (vI (if 0 ≤ x3 then acz zf P luck m T (cB x3) r z x6 else acz zf P luck m T (cP P) r z x5)), (M2, L)) ∧ frR M M2 := by
  intro r
  induction r with
  | zero =>
    intro c z x5 x6 w8 w9 M1 hc hf
    refine ⟨M1, ?_, hf⟩
    rw [x221_81, hn2, if_pos (nI_le (by omega) (by omega))]
    unfold acz
    by_cases q : 0 ≤ x3
    · rw [if_pos q, if_pos q]
    · rw [if_neg q, if_neg q]
  | succ r ih =>
    intro c z x5 x6 w8 w9 M1 hc hf
    rw [x221_81, hn2, if_neg (nI_ge (by omega) (by omega))]
    have rx1 := hx.fr E hf
    obtain ⟨M2, e2, f2, t2⟩ := e188 E (d + 4) L M1 rx1.1 rx1.2.1 hn8 hg9
    rw [e2, bV_s]
    obtain ⟨M3, w3, e3', f3, t3⟩ := l221d E d L zf hz M hn8 hg9 hx.1 hx.2.2 (luck := luck) (x1 := x1) (x2 := x2) (x3 := x3) (m := m) hm hm2 hlu m 0 z x5 x6 (nI c) w9 M2 T (by omega) (hf.tr f2) t2 hse hr
    rw [n_0, e3', x221_98, hm2, if_pos (nI_le (Nat.le_refl _) (by omega)), e194 E _ L M3 (by rw [f3.2 6 (by omega)]; exact hx.1.1) hn8, bI_s, sdB_congr (S' := tS (dz zf P luck m z T).2) (fun k hk => t3.1 k hk)]
    obtain ⟨mm, g1, g2, g3⟩ := sd_pop (tS (dz zf P luck m z T).2) hn8
    have hcp : cP P (dz zf P luck m z T).2 = nI (popN mm) := by unfold cP; rw [g3]
    rw [g2, e150 E _ M3 L g1, bI_s, nI_1]
    unfold acz
    rw [hcp]
    have fin : ∀ y w, y = cB x3 (dz zf P luck m z T).2 → ∃ M2, X E (d + 5) me221 81 [some (vR 1 12 400), some (vI x1), some (vI x2), some (vI x3), some (vI (dz zf P luck m z T).1), some (vI (x5 + nI (popN mm))), some (vI (x6 + y)), some (vI (nI (c + 1))), some (vI (nI m)), w] [] (M3, L) = some (some (vI (if 0 ≤ x3 then acz zf P luck m T (cB x3) r (dz zf P luck m z T).1 (x6 + cB x3 (dz zf P luck m z T).2) else acz zf P luck m T (cP P) r (dz zf P luck m z T).1 (x5 + nI (popN mm)))), (M2, L)) ∧ frR M M2 := fun y w hy => by
      rw [← hy]
      exact ih (c + 1) _ _ _ _ w M3 (by omega) f3
    rcases hx3 with h3 | ⟨b, hb, h3⟩
    · rw [if_pos h3]
      exact fin 0 _ (by unfold cB; rw [if_pos h3])
    · have hib : ib x3 8 := by rw [h3, ib_nI (by omega)]; omega
      have hneg : ¬ x3 < 0 := by rw [h3]; exact nI_pos (by omega)
      have hixb : ix x3 = b := by rw [h3]; exact ix_nI (by omega)
      rw [if_neg hneg, if_pos hib, hixb]
      by_cases q : tS (dz zf P luck m z T).2 b ≤ 0
      · rw [if_pos (show (M3, L).1 427 b ≤ 0 by show M3 427 b ≤ 0; rw [t3.1 b hb]; exact q)]
        exact fin 0 _ (by unfold cB; rw [if_neg hneg, hixb, if_pos q])
      · rw [if_neg (show ¬ (M3, L).1 427 b ≤ 0 by show ¬ M3 427 b ≤ 0; rw [t3.1 b hb]; exact q)]
        exact fin 1 _ (by unfold cB; rw [if_neg hneg, hixb, if_neg q])
end DRAWN2
