/-! counties drawn by lot: the call -/
section DRAWN3
variable (E : Nat × (Nat → Int32)) (d : Nat) (L : Nat → Nat → Int64)
theorem op_drawn (p0 p1 p2 : Int32) : Opk E d 125 221 [vI p0, vI p1, vI p2] := by
  intro M L h
  have hR := h
  obtain ⟨P, T, hc, hrc, hP, hT⟩ := RR.cx E h
  obtain ⟨c1, c2, c3, ⟨c4, c5⟩, c6, c7, c8, c9, c10⟩ := id hc
  obtain ⟨zf, hz⟩ : ∃ zf : Int32 → Int32, ∀ z : Int32, z * (1103515245 : Int32) + (12345 : Int32) = zf z := ⟨fun z => z * (1103515245 : Int32) + (12345 : Int32), fun _ => rfl⟩
  have lo : C E (d + 100) 125 [vR 1 11 10, vI p0, vI p1, vI p2] (M, L) = some (some (vI (-1 : Int32)), (M, L)) → C E (d + 100) 221 [vR 1 12 400, vI p0, vI p1, vI p2] (M, L) = some (some (vI (-1 : Int32)), (M, L)) → ∃ r M1 L1 M2 L2, C E (d + 100) 125 [vR 1 11 10, vI p0, vI p1, vI p2] (M, L) = some (some (vI r), (M1, L1)) ∧ C E (d + 100) 221 [vR 1 12 400, vI p0, vI p1, vI p2] (M1, L1) = some (some (vI r), (M2, L2)) ∧ RR E M2 L2 := fun a b => opq E d hR a (Kp.re M) b (Kp.re M)
  by_cases hneg : p1 < 0
  · have := t_divn (a := p1) (by rw [t_lt, t_0] at hneg; exact hneg)
    refine lo ?_ ?_
    · rw [x125, e145, bI_s, if_pos (b1_e (by rw [t_1]; omega))]
    · rw [x221, if_pos hneg]
  · by_cases h1 : 1 ≤ (p1 / 10000).toInt ∧ (p1 / 10000).toInt ≤ 30
    · by_cases h2 : 1 ≤ (rm32 (p1 / 100) 100).toInt ∧ (rm32 (p1 / 100) 100).toInt ≤ 60
      · by_cases h3 : 0 ≤ (rm32 p1 100).toInt ∧ (rm32 p1 100).toInt ≤ 12
        · have cl : C E (d + 100) 125 [vR 1 11 10, vI p0, vI p1, vI p2] (M, L) = (if p2 = (-1 : Int32) then (bI (C E (d + 99) 92 [vR 1 8 110, vI p0, vI (p1 / (10000 : Int32)), vI (rm32 (p1 / (100 : Int32)) (100 : Int32)), vI (rm32 p1 (100 : Int32)), vI p2] (M, L)) fun r4 s4 => some (some (vI r4), s4)) else (bI (C E (d + 99) 15 [vR 1 2 40, vI p2] (M, L)) fun r5 s5 => (if r5 = 0 then some (some (vI (-1 : Int32)), s5) else (bI (C E (d + 99) 92 [vR 1 8 110, vI p0, vI (p1 / (10000 : Int32)), vI (rm32 (p1 / (100 : Int32)) (100 : Int32)), vI (rm32 p1 (100 : Int32)), vI p2] s5) fun r6 s6 => some (some (vI r6), s6))))) := by
            rw [x125, e145, bI_s, if_neg (b1_ne (by rw [t_1, t_30]; exact h1)), e145, bI_s, if_neg (b1_ne (by rw [t_1, t_60]; exact h2)), e145, bI_s, if_neg (b1_ne (by rw [t_0, t_12]; exact h3))]
          have rf : ∀ M1 : Nat → Nat → Int32, C E (d + 100) 221 [vR 1 12 400, vI p0, vI p1, vI p2] (M1, L) = (if p2 = (-1 : Int32) then X E (d + 99) me221 81 [some (vR 1 12 400), some (vI p0), some (vI p1), some (vI p2), some (vI p0), some (vI (0 : Int32)), some (vI (0 : Int32)), some (vI (0 : Int32)), none, none] [] (M1, L) else (bI (C E (d + 99) 156 [vR 1 12 400, vL (Int32.toInt64 p2)] (M1, L)) fun r4 s4 => (if r4 = 0 then some (some (vI (-1 : Int32)), s4) else X E (d + 99) me221 81 [some (vR 1 12 400), some (vI p0), some (vI p1), some (vI p2), some (vI p0), some (vI (0 : Int32)), some (vI (0 : Int32)), some (vI (0 : Int32)), none, none] [] s4))) := fun M1 => by
            rw [x221, if_neg hneg, e148, bI_s, if_neg (b1_ne (by rw [tl_i, l_1, l_30]; exact h1)), e148, bI_s, if_neg (b1_ne (by rw [tl_i, l_1, l_60]; exact h2)), e148, bI_s, if_neg (b1_ne (by rw [tl_i, l_0, l_12]; exact h3))]
          obtain ⟨n, hn, en⟩ := nI_ex (x := p1 / 10000) (n := 31) (by omega) (by omega)
          obtain ⟨m, hm, em⟩ := nI_ex (x := rm32 (p1 / 100) 100) (n := 61) (by omega) (by omega)
          by_cases hp : p2 = -1
          · have hend : ∀ (M3 : Nat → Nat → Int32) T1 T2 z c x8, CH M3 140 P T1 → EqT P T1 T2 → ∃ w, X E (d + 94 + 4) me92 65 [some (vR 1 8 110), some (vI p0), some (vI (nI n)), some (vI (nI m)), some (vI (rm32 p1 100)), some (vI p2), some (vI (-1 : Int32)), some (vI (nI (pN P))), some (vI x8), some (vI z), some (vI c), some (vI (nI m))] [] (M3, L) = X E (d + 94 + 4) me92 45 [some (vR 1 8 110), some (vI p0), some (vI (nI n)), some (vI (nI m)), some (vI (rm32 p1 100)), some (vI p2), some (vI (-1 : Int32)), some (vI (nI (pN P))), some (vI (x8 + cP P T2)), some (vI z), some (vI (c + 1)), w] [] (M3, L) := by
              intro M3 T1 T2 z c x8 g1 g2
              obtain ⟨mm, q1, q2, q3⟩ := sd_pop (tS T2) c4
              have hcp : cP P T2 = nI (popN mm) := by unfold cP; rw [q3]
              refine ⟨some (vI (nI mm)), ?_⟩
              rw [x92_65, if_pos (nI_le (Nat.le_refl _) (by omega)), e30 E _ L M3 140 g1.1 c4, bI_s, if_pos hp, sdB_congr (S' := tS T2) (fun k hk => ((g1.2.2.2.2.1 k hk).2.1).trans (g2.1 k hk)), q2, e250 E _ M3 L q1, bI_s, hcp]
            obtain ⟨M1, g1, f1⟩ := l92o E (d + 94) L zf hz M c1 c4 c5 c6 c8 (EqT P) EqT.rfl' (luck := rm32 p1 100) (x1 := p0) (x5 := p2) (x6 := -1) (x7 := nI (pN P)) (n := n) (m := m) (by omega) (by omega) (cP P)
              (fun M1 T1 T2 hl1 hC1 hre hs2 => by
                obtain ⟨M2, e2, f2, c2'⟩ := e29 E (d + 94) L M1 140 (by omega) hC1 c4 c5 hl1 (-1) (pN P) c4 (by decide)
                have hs1 : seatsOk P T1 := fun p hp => by rw [(hre.2.1 p hp).2]; exact hs2 p hp
                exact ⟨M2, _, e2, fun c hc => f2 c (fun q => hc (by unfold fT; omega)) (fun q => hc (by unfold fT; omega)) (fun q => hc (by unfold fT; omega)), c2', (pd_all hs1).tr (hre.day c4)⟩)
              (fun T1 T2 z q hq hre => ⟨hre.1, fun p hp => ⟨by
                show (if p = q then hel (tM T1 q + rm32 (us32 z 16) 30) 99 else tM T1 p) = (if p = q then hel (tM T2 q + rm32 (us32 z 16) 30) 99 else tM T2 p)
                rw [(hre.2.1 q hq).1, (hre.2.1 p hp).1], (hre.2.1 p hp).2⟩, hre.2.2⟩) hend n 0 p0 0 none M (by omega) (fun _ _ => rfl)
            have k1 := Kp.ofT f1
            have rx := Ctx.rx E hc k1
            obtain ⟨M2, g2, f2⟩ := l221o E (d + 94) L zf hz M1 rx c4 c5 c8 c9 (luck := rm32 p1 100) (x1 := p0) (x2 := p1) (x3 := p2) (n := n) (m := m) (by omega) (by omega) en em rfl (Or.inl (by rw [hp]; decide)) n 0 p0 0 0 none none M1 (by omega) (frR.refl M1)
            refine opq E d hR (r := acz zf P (rm32 p1 100) m T (cP P) n p0 0) (M1 := M1) (M2 := M2) ?_ k1 ?_ (Kp.ofR f2)
            · rw [cl, if_pos hp, x92, if_pos hp, if_pos hp, en, em, c1.1]
              have : X E (d + 98) me92 45 [some (vR 1 8 110), some (vI p0), some (vI (nI n)), some (vI (nI m)), some (vI (rm32 p1 100)), some (vI p2), some (vI (-1 : Int32)), some (vI (nI (pN P))), some (vI (0 : Int32)), some (vI p0), some (vI (0 : Int32)), none] [] (M, L) = _ := g1
              rw [this, bI_s]
            · rw [rf, if_pos hp]
              rw [if_neg (show ¬ 0 ≤ p2 by rw [hp]; decide)] at g2
              exact g2
          · rcases brn E c1 c4 p2 (d + 98) L with ⟨b, hb, e1, eb⟩ | ⟨hb, eb⟩
            · have hrb := nI_rng c4 hb
              have hend : ∀ (M3 : Nat → Nat → Int32) T1 T2 z c x8, CH M3 140 P T1 → LocS P (nI b) T1 T2 → ∃ w, X E (d + 94 + 4) me92 65 [some (vR 1 8 110), some (vI p0), some (vI (nI n)), some (vI (nI m)), some (vI (rm32 p1 100)), some (vI p2), some (vI (nI b)), some (vI (nI b + 1)), some (vI x8), some (vI z), some (vI c), some (vI (nI m))] [] (M3, L) = X E (d + 94 + 4) me92 45 [some (vR 1 8 110), some (vI p0), some (vI (nI n)), some (vI (nI m)), some (vI (rm32 p1 100)), some (vI p2), some (vI (nI b)), some (vI (nI b + 1)), some (vI (x8 + cB (nI b) T2)), some (vI z), some (vI (c + 1)), w] [] (M3, L) := by
                intro M3 T1 T2 z c x8 g1 g2
                have hcb : cB (nI b) T2 = if 0 < (M3 (140 + 4) b).toInt then 1 else 0 := by
                  have hb4 : M3 (140 + 4) b = tS T2 b := ((g1.2.2.2.2.1 b hb).2.1).trans (g2.2.2.2 b hb rfl)
                  unfold cB
                  rw [if_neg (nI_pos (by omega)), ix_nI (by omega), hb4]
                  by_cases q : 0 < (tS T2 b).toInt
                  · rw [if_pos q, if_neg (by rw [t_le, t_0]; omega)]
                  · rw [if_neg q, if_pos (by rw [t_le, t_0]; omega)]
                refine ⟨some (vI (sdB (M3 (140 + 4)) (pN P))), ?_⟩
                rw [x92_65, if_pos (nI_le (Nat.le_refl _) (by omega)), e30 E _ L M3 140 g1.1 c4, bI_s, if_neg hp, hcb, e1, sd_bit (M3 (140 + 4)) c4 hb]
              obtain ⟨M1, g1, f1⟩ := l92o E (d + 94) L zf hz M c1 c4 c5 c6 c8 (LocS P (nI b)) (LocS.of EqT.rfl') (luck := rm32 p1 100) (x1 := p0) (x5 := p2) (x6 := nI b) (x7 := nI b + 1) (n := n) (m := m) (by omega) (by omega) (cB (nI b))
                (fun M1 T1 T2 hl1 hC1 hre hs2 => by
                  obtain ⟨M2, e2, f2, T3, c2', l2⟩ := locStep E (d + 94) L M1 c4 c5 hl1 hC1 hrb.1 hrb.2 hre
                  exact ⟨M2, T3, e2, f2, c2', l2⟩)
                (fun T1 T2 z q hq hre => ⟨hre.1, hre.2.1, fun p hp hs => by
                  have hs' : tE T1 p = nI b := hs
                  show (if p = q then hel (tM T1 q + rm32 (us32 z 16) 30) 99 else tM T1 p) = (if p = q then hel (tM T2 q + rm32 (us32 z 16) 30) 99 else tM T2 p)
                  by_cases e : p = q
                  · rw [if_pos e, if_pos e, ← e, hre.2.2.1 p hp hs']
                  · rw [if_neg e, if_neg e]; exact hre.2.2.1 p hp hs', hre.2.2.2⟩) hend n 0 p0 0 none M (by omega) (fun _ _ => rfl)
              have k1 := Kp.ofT f1
              have rx := Ctx.rx E hc k1
              obtain ⟨M2, g2, f2⟩ := l221o E (d + 94) L zf hz M1 rx c4 c5 c8 c9 (luck := rm32 p1 100) (x1 := p0) (x2 := p1) (x3 := p2) (n := n) (m := m) (by omega) (by omega) en em rfl (Or.inr ⟨b, hb, e1⟩) n 0 p0 0 0 none none M1 (by omega) (frR.refl M1)
              refine opq E d hR (r := acz zf P (rm32 p1 100) m T (cB (nI b)) n p0 0) (M1 := M1) (M2 := M2) ?_ k1 ?_ (Kp.ofR f2)
              · rw [cl, if_neg hp, eb, bI_s, if_neg (by decide), x92, if_neg hp, if_neg hp, en, em]
                have : X E (d + 98) me92 45 [some (vR 1 8 110), some (vI p0), some (vI (nI n)), some (vI (nI m)), some (vI (rm32 p1 100)), some (vI p2), some (vI (nI b)), some (vI (nI b + 1)), some (vI (0 : Int32)), some (vI p0), some (vI (0 : Int32)), none] [] (M, L) = _ := g1
                rw [show X E (d + 98) me92 45 [some (vR 1 8 110), some (vI p0), some (vI (nI n)), some (vI (nI m)), some (vI (rm32 p1 100)), some (vI p2), some (vI p2), some (vI (p2 + 1)), some (vI (0 : Int32)), some (vI p0), some (vI (0 : Int32)), none] [] (M, L) = X E (d + 98) me92 45 [some (vR 1 8 110), some (vI p0), some (vI (nI n)), some (vI (nI m)), some (vI (rm32 p1 100)), some (vI p2), some (vI (nI b)), some (vI (nI b + 1)), some (vI (0 : Int32)), some (vI p0), some (vI (0 : Int32)), none] [] (M, L) by rw [e1], this, bI_s]
              · rw [rf, if_neg hp, e156 E _ L M1 _ rx.1.1 c4, bI_s, if_neg (b1_ne (by rw [tl_i, e1]; exact inN (by omega) hb))]
                rw [if_pos (show 0 ≤ p2 by rw [e1, t_le, t_0, t_nI (by omega)]; omega)] at g2
                rw [show cB (nI b) = cB p2 by rw [e1]]
                exact g2
            · refine lo ?_ ?_
              · rw [cl, if_neg hp, eb, bI_s, if_pos rfl]
              · rw [rf, if_neg hp, e156 E _ L M _ c2.1 c4, bI_s, if_pos (b1_e (by rw [tl_i]; exact hb))]
        · refine lo ?_ ?_
          · rw [x125, e145, bI_s, if_neg (b1_ne (by rw [t_1, t_30]; exact h1)), e145, bI_s, if_neg (b1_ne (by rw [t_1, t_60]; exact h2)), e145, bI_s, if_pos (b1_e (by rw [t_0, t_12]; exact h3))]
          · rw [x221, if_neg hneg, e148, bI_s, if_neg (b1_ne (by rw [tl_i, l_1, l_30]; exact h1)), e148, bI_s, if_neg (b1_ne (by rw [tl_i, l_1, l_60]; exact h2)), e148, bI_s, if_pos (b1_e (by rw [tl_i, l_0, l_12]; exact h3))]
      · refine lo ?_ ?_
        · rw [x125, e145, bI_s, if_neg (b1_ne (by rw [t_1, t_30]; exact h1)), e145, bI_s, if_pos (b1_e (by rw [t_1, t_60]; exact h2))]
        · rw [x221, if_neg hneg, e148, bI_s, if_neg (b1_ne (by rw [tl_i, l_1, l_30]; exact h1)), e148, bI_s, if_pos (b1_e (by rw [tl_i, l_1, l_60]; exact h2))]
    · refine lo ?_ ?_
      · rw [x125, e145, bI_s, if_pos (b1_e (by rw [t_1, t_30]; exact h1))]
      · rw [x221, if_neg hneg, e148, bI_s, if_pos (b1_e (by rw [tl_i, l_1, l_30]; exact h1))]
end DRAWN3
