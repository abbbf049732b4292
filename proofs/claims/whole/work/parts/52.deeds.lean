/-! more deeds and tellings -/
theorem okN.mono {n n2 s : Nat} {v : Int32} (h : okN n s v) (hn : n ≤ n2) : okN n2 s v := by
  refine ⟨h.1, Int.le_trans h.2 ?_⟩
  unfold hiS
  (repeat' split) <;> omega
theorem valS.mono {n n2 g g2 s j : Nat} (h : valS n g s j) (hn : n ≤ n2) (hg : g ≤ g2) : valS n2 g2 s j := by
  refine ⟨h.1, Nat.lt_of_lt_of_le h.2 ?_⟩
  unfold cntS
  (repeat' split) <;> omega
theorem Rch.mono {M : Nat → Nat → Int32} {n n2 g g2 : Nat} (h : Rch M n g) (hn : n ≤ n2) (hg : g ≤ g2) : Rch M n2 g2 := by
  obtain ⟨c, a, h1, h2, h3, h4, h5, h6, h7⟩ := h
  refine ⟨c, a, h1, h2, h3, h4, h5, h6, fun i hi => ?_⟩
  obtain ⟨s, j, q1, q2, q3, q4, q5, q6, q7, q8⟩ := h7 i hi
  exact ⟨s, j, q1.mono hn hg, q2, q3, q4, q5, q6, q7.mono hn, q8.mono hn⟩
theorem Rimg.mono {M : Nat → Nat → Int32} {n n2 g g2 : Nat} (h : Rimg M n g) (hn : n ≤ n2) (hg : g ≤ g2) : Rimg M n2 g2 := by
  rcases h with h | ⟨h1, h2, h3, n', g', h4, h5, h6, h7, h8, h9, h10, h11, h12⟩
  · exact Or.inl h
  · refine Or.inr ⟨h1, h2, h3, n', g', by omega, by omega, h6, h7, h8, h9, h10, h11, fun p hp => ?_⟩
    obtain ⟨q1, q2, q3⟩ := h12 p hp
    refine ⟨q1, q2, q3.1, ?_⟩
    have := q3.2
    omega
section DEEDS2
variable (E : Nat × (Nat → Int32)) (d : Nat) (L : Nat → Nat → Int64)
theorem op_given (p0 p1 : Int32) : Opk E d 128 224 [vI p0, vI p1] := by
  intro M L h
  have hR := h
  obtain ⟨n, g, kf, hc, ⟨hl, hrl⟩, ht, hch, hld, hi, ha, hs⟩ := h
  obtain ⟨hn, hn', hg, hg'⟩ := hc.2.2.1
  have hn8 := hc.1
  have hg9 := hc.2.1
  rcases bgN E (d + 98) L hg hg9 p0 with ⟨j, hj, e1, eb⟩ | ⟨h1, eb⟩
  · by_cases ho : 1 ≤ p1.toInt ∧ p1.toInt ≤ 99
    · have hv : valS n g 3 j := ⟨by omega, by show j < cntS n g 3; unfold cntS; simp; exact hj⟩
      have hrd := (hc.rd hv).1
      have hpl : plN 3 j = 24 + j := rfl
      rw [hpl] at hrd
      have hrd : M 401 (24 + j) = M 46 j := hrd
      have eR : (24 : Int32) + nI j = nI (24 + j) := nI_add 24 j
      have iR : ib (nI (24 + j)) 62 := by rw [ib_nI (by omega)]; omega
      have hok : okN n 3 (hel (M 46 j + p1) 99) := by
        have := hel_rng (M 46 j + p1) 99 (by rw [t_99]; omega)
        rw [t_99] at this
        exact this
      have g1 : C E (d + 100) 128 [vR 1 11 10, vI p0, vI p1] (M, L) = some (some (vI (hel (M 46 j + p1) 99)), (u2 (u2 M 281 2 (M 281 2 + p1)) 46 j (hel (M 46 j + p1) 99), L)) := by
        rw [x128, eb, bI_s, if_neg (by decide), e145, bI_s, if_neg (b1_ne (by rw [t_1, t_99]; exact ho)), e40l E _ L _ 2 (by omega) 2 rfl, bV_s, e1, e24_3 E _ _ L 40 p1 (by omega), bI_s, u2_o (c := 40 + 6) (by omega)]
      generalize hv1 : hel (M 46 j + p1) 99 = v1 at g1 hok
      generalize hM1 : u2 (u2 M 281 2 (M 281 2 + p1)) 46 j v1 = M1 at g1
      have f1 : ∀ c, c ≠ 46 → c ≠ 281 → M1 c = M c := by
        intro c q1 q2
        rw [← hM1, u2_o q1, u2_o q2]
      have e400 := f1 400 (by omega) (by omega)
      have g2 : C E (d + 100) 224 [vR 1 12 400, vI p0, vI p1] (M1, L) = some (some (vI v1), (u2 (u2 M1 401 (24 + j) v1) 435 2 (M 435 2 + p1), L)) := by
        rw [x224, e157 E _ L M1 _ (by rw [e400]; exact hg') hg9, bI_s, if_neg (b1_ne (by rw [tl_i, e1]; exact inN (by omega) hj)), e148, bI_s, if_neg (b1_ne (by rw [tl_i, l_1, l_99]; exact ho)), e1]
        simp only [eR, if_pos iR, ix_nI (n := 24 + j) (by omega)]
        rw [f1 401 (by omega) (by omega), hrd, e152, bI_s, hv1]
        simp only [if_pos (show ib (2 : Int32) 5 by decide), ix_l2]
        rw [u2_o (c := 435) (by omega), f1 435 (by omega) (by omega), u2_o (c := 401) (by omega), u2_s]
      generalize hM2 : u2 (u2 M1 401 (24 + j) v1) 435 2 (M 435 2 + p1) = M2 at g2
      have F : ∀ c, ¬ (c = 46 ∨ c = 281 ∨ c = 401 ∨ c = 435) → M2 c = M c := by
        intro c q
        rw [← hM2, u2_o (by omega), u2_o (by omega), f1 c (by omega) (by omega)]
      have G : ∀ j : Nat, j < 1000 → M2 400 j = M 400 j := fun j _ => by rw [F 400 (by omega)]
      refine ⟨_, _, _, _, _, g1, g2, n, g, kf, ?_, ⟨(hl.keep4 (by rw [F 90 (by omega)]) (F 91 (by omega)) (F 92 (by omega))), (hrl.keep (G 24 (by omega)) (F 422 (by omega)) (F 423 (by omega)) (F 424 (by omega)))⟩, (ht.kp (by rw [F 70 (by omega)]) (G 11 (by omega)) (F 411 (by omega)) (F 71 (by omega))), ?_, ?_, ?_, ?_, (hs.kp (F 331 (by omega)) (F 332 (by omega)) (F 447 (by omega)) (F 448 (by omega)) (by rw [F 320 (by omega)]))⟩
      · refine hc.set hv hok (fun c hcc => ?_) ?_ (fun c hcc => F c (by omega)) (fun i hi => G i (by omega))
        · rw [← hM2, u2_o (by omega), u2_o (by omega), ← hM1]
          by_cases e : c = 46
          · rw [e]
            exact u2_cc (u2_o (by omega))
          · rw [u2_o e, u2_o (by omega)]
            exact (u2_o e).symm
        · rw [← hM2, u2_o (by omega), hpl]
          exact u2_cc (f1 401 (by omega) (by omega))
      · exact hch.kp (fun c q1 q2 => F c (by omega)) (fun c q1 q2 => F c (by omega)) (fun c q => G c (by omega))
      · refine hld.add (k := 2) (v := p1) ?_ ?_ (by omega)
        · rw [← hM2, u2_o (by omega), u2_o (by omega), ← hM1, u2_o (by omega)]
        · rw [← hM2]
          exact u2_cc (by rw [u2_o (by omega), f1 435 (by omega) (by omega)])
      · exact (hi.kp (F 280 (by omega)) (F 282 (by omega)) (fun c q1 q2 => F c (by omega)) (F 439 (by omega)) (F 440 (by omega)) (fun c q => G c (by omega)))
      · exact (ha.kp (fun c q1 q2 => F c (by omega)) (F 442 (by omega)) (F 443 (by omega)) (fun c q => G c (by omega)))
    · refine opq E d hR (r := -1) (M1 := M) (M2 := M) ?_ (Kp.re M) ?_ (Kp.re M)
      · rw [x128, eb, bI_s, if_neg (by decide), e145, bI_s, if_pos (b1_e (by rw [t_1, t_99]; exact ho))]
      · rw [x224, e157 E _ L M _ hg' hg9, bI_s, if_neg (b1_ne (by rw [tl_i, e1]; exact inN (by omega) hj)), e148, bI_s, if_pos (b1_e (by rw [tl_i, l_1, l_99]; exact ho))]
  · refine opq E d hR (r := -1) (M1 := M) (M2 := M) ?_ (Kp.re M) ?_ (Kp.re M)
    · rw [x128, eb, bI_s, if_pos rfl]
    · rw [x224, e157 E _ L M _ hg' hg9, bI_s, if_pos (b1_e (by rw [tl_i]; exact h1))]
theorem op_repair (p0 p1 : Int32) : Opk E d 129 225 [vI p0, vI p1] := by
  intro M L h
  have hR := h
  obtain ⟨n, g, kf, hc, ⟨hl, hrl⟩, ht, hch, hld, hi, ha, hs⟩ := h
  obtain ⟨hn, hn', hg, hg'⟩ := hc.2.2.1
  have hn8 := hc.1
  have hg9 := hc.2.1
  rcases brN E (d + 98) L hn hn8 p0 with ⟨j, hj, e1, eb⟩ | ⟨h1, eb⟩
  · by_cases ho : 1 ≤ p1.toInt ∧ p1.toInt ≤ 99
    · have hv : valS n g 1 j := ⟨by omega, by show j < cntS n g 1; unfold cntS; simp; exact hj⟩
      have hrd := (hc.rd hv).1
      have hpl : plN 1 j = 8 + j := rfl
      rw [hpl] at hrd
      have hrd : M 401 (8 + j) = M 44 j := hrd
      have eR : (8 : Int32) + nI j = nI (8 + j) := nI_add 8 j
      have iR : ib (nI (8 + j)) 62 := by rw [ib_nI (by omega)]; omega
      have hok : okN n 1 (hel (M 44 j + p1) 99) := by
        have := hel_rng (M 44 j + p1) 99 (by rw [t_99]; omega)
        rw [t_99] at this
        exact this
      have g1 : C E (d + 100) 129 [vR 1 11 10, vI p0, vI p1] (M, L) = some (some (vI (hel (M 44 j + p1) 99)), (u2 (u2 M 281 3 (M 281 3 + p1)) 44 j (hel (M 44 j + p1) 99), L)) := by
        rw [x129, eb, bI_s, if_neg (by decide), e145, bI_s, if_neg (b1_ne (by rw [t_1, t_99]; exact ho)), e40l E _ L _ 3 (by omega) 3 rfl, bV_s, e1, e24_1 E _ _ L 40 p1 (by omega), bI_s, u2_o (c := 40 + 4) (by omega)]
      generalize hv1 : hel (M 44 j + p1) 99 = v1 at g1 hok
      generalize hM1 : u2 (u2 M 281 3 (M 281 3 + p1)) 44 j v1 = M1 at g1
      have f1 : ∀ c, c ≠ 44 → c ≠ 281 → M1 c = M c := by
        intro c q1 q2
        rw [← hM1, u2_o q1, u2_o q2]
      have e400 := f1 400 (by omega) (by omega)
      have g2 : C E (d + 100) 225 [vR 1 12 400, vI p0, vI p1] (M1, L) = some (some (vI v1), (u2 (u2 M1 401 (8 + j) v1) 435 3 (M 435 3 + p1), L)) := by
        rw [x225, e156 E _ L M1 _ (by rw [e400]; exact hn') hn8, bI_s, if_neg (b1_ne (by rw [tl_i, e1]; exact inN (by omega) hj)), e148, bI_s, if_neg (b1_ne (by rw [tl_i, l_1, l_99]; exact ho)), e1]
        simp only [eR, if_pos iR, ix_nI (n := 8 + j) (by omega)]
        rw [f1 401 (by omega) (by omega), hrd, e152, bI_s, hv1]
        simp only [if_pos (show ib (3 : Int32) 5 by decide), ix_l3]
        rw [u2_o (c := 435) (by omega), f1 435 (by omega) (by omega), u2_o (c := 401) (by omega), u2_s]
      generalize hM2 : u2 (u2 M1 401 (8 + j) v1) 435 3 (M 435 3 + p1) = M2 at g2
      have F : ∀ c, ¬ (c = 44 ∨ c = 281 ∨ c = 401 ∨ c = 435) → M2 c = M c := by
        intro c q
        rw [← hM2, u2_o (by omega), u2_o (by omega), f1 c (by omega) (by omega)]
      have G : ∀ j : Nat, j < 1000 → M2 400 j = M 400 j := fun j _ => by rw [F 400 (by omega)]
      refine ⟨_, _, _, _, _, g1, g2, n, g, kf, ?_, ⟨(hl.keep4 (by rw [F 90 (by omega)]) (F 91 (by omega)) (F 92 (by omega))), (hrl.keep (G 24 (by omega)) (F 422 (by omega)) (F 423 (by omega)) (F 424 (by omega)))⟩, (ht.kp (by rw [F 70 (by omega)]) (G 11 (by omega)) (F 411 (by omega)) (F 71 (by omega))), ?_, ?_, ?_, ?_, (hs.kp (F 331 (by omega)) (F 332 (by omega)) (F 447 (by omega)) (F 448 (by omega)) (by rw [F 320 (by omega)]))⟩
      · refine hc.set hv hok (fun c hcc => ?_) ?_ (fun c hcc => F c (by omega)) (fun i hi => G i (by omega))
        · rw [← hM2, u2_o (by omega), u2_o (by omega), ← hM1]
          by_cases e : c = 44
          · rw [e]
            exact u2_cc (u2_o (by omega))
          · rw [u2_o e, u2_o (by omega)]
            exact (u2_o e).symm
        · rw [← hM2, u2_o (by omega), hpl]
          exact u2_cc (f1 401 (by omega) (by omega))
      · exact hch.kp (fun c q1 q2 => F c (by omega)) (fun c q1 q2 => F c (by omega)) (fun c q => G c (by omega))
      · refine hld.add (k := 3) (v := p1) ?_ ?_ (by omega)
        · rw [← hM2, u2_o (by omega), u2_o (by omega), ← hM1, u2_o (by omega)]
        · rw [← hM2]
          exact u2_cc (by rw [u2_o (by omega), f1 435 (by omega) (by omega)])
      · exact (hi.kp (F 280 (by omega)) (F 282 (by omega)) (fun c q1 q2 => F c (by omega)) (F 439 (by omega)) (F 440 (by omega)) (fun c q => G c (by omega)))
      · exact (ha.kp (fun c q1 q2 => F c (by omega)) (F 442 (by omega)) (F 443 (by omega)) (fun c q => G c (by omega)))
    · refine opq E d hR (r := -1) (M1 := M) (M2 := M) ?_ (Kp.re M) ?_ (Kp.re M)
      · rw [x129, eb, bI_s, if_neg (by decide), e145, bI_s, if_pos (b1_e (by rw [t_1, t_99]; exact ho))]
      · rw [x225, e156 E _ L M _ hn' hn8, bI_s, if_neg (b1_ne (by rw [tl_i, e1]; exact inN (by omega) hj)), e148, bI_s, if_pos (b1_e (by rw [tl_i, l_1, l_99]; exact ho))]
  · refine opq E d hR (r := -1) (M1 := M) (M2 := M) ?_ (Kp.re M) ?_ (Kp.re M)
    · rw [x129, eb, bI_s, if_pos rfl]
    · rw [x225, e156 E _ L M _ hn' hn8, bI_s, if_pos (b1_e (by rw [tl_i]; exact h1))]
theorem op_feed (p0 : Int32) : Opk E d 108 170 [vI p0] := by
  intro M L h
  have hR := h
  obtain ⟨n, g, kf, hc, ⟨hl, hrl⟩, ht, hch, hld, hi, ha, hs⟩ := h
  obtain ⟨hn, hn', hg, hg'⟩ := hc.2.2.1
  have hn8 := hc.1
  have hg9 := hc.2.1
  obtain ⟨t, ht1, ht2, ht3, ht4⟩ := ht
  by_cases h0 : 0 ≤ p0.toInt ∧ p0.toInt ≤ 255
  · by_cases h1 : t < 120
    · have hib : ib (nI t) 120 := by rw [ib_nI (by omega)]; omega
      have g1 : C E (d + 100) 108 [vR 1 11 10, vI p0] (M, L) = some (some (vI (nI (t + 1))), (u2 (u2 M 70 3 (nI (t + 1))) 71 t p0, L)) := by
        rw [x108, e145, bI_s, if_neg (b1_ne (by rw [t_0, t_255]; exact h0)), x65, ht2, if_pos (show nI t < (120 : Int32) from nI_lt (b := 120) h1 (by omega)), if_pos hib, bI_s, ix_nI (by omega), nI_1]
        show some (some (vI (u2 (u2 M 70 3 (nI (t + 1))) 71 t p0 70 3)), _) = _
        rw [u2_o (by omega), u2_s]
      generalize hM1 : u2 (u2 M 70 3 (nI (t + 1))) 71 t p0 = M1 at g1
      have f1 : ∀ c, c ≠ 70 → c ≠ 71 → M1 c = M c := by
        intro c q1 q2
        rw [← hM1, u2_o q2, u2_o q1]
      have e400 := f1 400 (by omega) (by omega)
      have g2 : C E (d + 100) 170 [vR 1 12 400, vI p0] (M1, L) = some (some (vI (nI (t + 1))), (u2 (u2 M1 411 t p0) 400 11 (nI (t + 1)), L)) := by
        rw [x170, e148, bI_s, if_neg (b1_ne (by rw [tl_i, l_0, l_255]; exact h0))]
        simp only [e400, ht3, ix_nI (n := t) (by omega), if_pos hib]
        rw [if_neg (show ¬ nI t = (120 : Int32) from fun q => by have := nI_inj (b := 120) (by omega) (by omega) q; omega)]
        simp (disch := omega) only [u2_o, u2_s, e400, ht3, nI_1]
      generalize hM2 : u2 (u2 M1 411 t p0) 400 11 (nI (t + 1)) = M2 at g2
      have F : ∀ c, ¬ (c = 70 ∨ c = 71 ∨ c = 411 ∨ c = 400) → M2 c = M c := by
        intro c q
        rw [← hM2, u2_o (by omega), u2_o (by omega), f1 c (by omega) (by omega)]
      have G : ∀ j : Nat, j ≠ 11 → M2 400 j = M 400 j := fun j hj => by rw [← hM2, u2_n hj, u2_o (by omega), e400]
      refine ⟨_, _, _, _, _, g1, g2, n, g, kf, (hc.kp (fun c q1 q2 => F c (by omega)) (fun c q => F c (by omega)) (fun j q => G j (by omega))), ⟨(hl.keep4 (by rw [F 90 (by omega)]) (F 91 (by omega)) (F 92 (by omega))), (hrl.keep (G 24 (by omega)) (F 422 (by omega)) (F 423 (by omega)) (F 424 (by omega)))⟩, ⟨t + 1, by omega, ?_, ?_, fun i hi => ?_⟩, (hch.kp (fun c q1 q2 => F c (by omega)) (fun c q1 q2 => F c (by omega)) (fun c q => G c (by omega))), (hld.kp (F 435 (by omega)) (F 281 (by omega))), (hi.kp (F 280 (by omega)) (F 282 (by omega)) (fun c q1 q2 => F c (by omega)) (F 439 (by omega)) (F 440 (by omega)) (fun c q => G c (by omega))), (ha.kp (fun c q1 q2 => F c (by omega)) (F 442 (by omega)) (F 443 (by omega)) (fun c q => G c (by omega))), (hs.kp (F 331 (by omega)) (F 332 (by omega)) (F 447 (by omega)) (F 448 (by omega)) (by rw [F 320 (by omega)]))⟩
      · rw [← hM2, u2_o (by omega), u2_o (by omega), ← hM1, u2_o (by omega), u2_s]
      · rw [← hM2, u2_s]
      · rw [← hM2, u2_o (c := 411) (by omega), u2_o (c := 71) (by omega), u2_o (c := 71) (by omega), ← hM1]
        by_cases e : i = t
        · rw [e, u2_s, u2_s]; exact ⟨rfl, h0⟩
        · rw [u2_n e, u2_n e, u2_o (c := 411) (by omega), u2_o (c := 411) (by omega), u2_o (c := 71) (by omega)]
          exact ht4 i (by omega)
    · have et : t = 120 := by omega
      refine opq E d hR (r := -3) (M1 := M) (M2 := M) ?_ (Kp.re M) ?_ (Kp.re M)
      · rw [x108, e145, bI_s, if_neg (b1_ne (by rw [t_0, t_255]; exact h0)), x65, ht2, et, if_neg (show ¬ nI 120 < (120 : Int32) by decide), bI_s]
      · rw [x170, e148, bI_s, if_neg (b1_ne (by rw [tl_i, l_0, l_255]; exact h0))]
        simp only [ht3, et]
        rw [if_pos (show nI 120 = (120 : Int32) from rfl)]
  · refine opq E d hR (r := -1) (M1 := M) (M2 := M) ?_ (Kp.re M) ?_ (Kp.re M)
    · rw [x108, e145, bI_s, if_pos (b1_e (by rw [t_0, t_255]; exact h0))]
    · rw [x170, e148, bI_s, if_pos (b1_e (by rw [tl_i, l_0, l_255]; exact h0))]
theorem op_bridge (p0 p1 : Int32) : Opk E d 102 161 [vI p0, vI p1] := by
  intro M L h
  have hR := h
  obtain ⟨n, g, kf, hc, ⟨hl, hrl⟩, ht, hch, hld, hi, ha, hs⟩ := h
  obtain ⟨hn, hn', hg, hg'⟩ := hc.2.2.1
  have hn8 := hc.1
  have hg9 := hc.2.1
  by_cases h0 : okft p0
  · by_cases h1 : okN n 0 p1
    · have h1' : 1 ≤ p1.toInt ∧ p1.toInt ≤ 9 := h1
      by_cases h2 : n < 8
      · have hib : ib (nI n) 8 := by rw [ib_nI (by omega)]; exact h2
        have i62 : ∀ k, k < 62 → ib (nI k) 62 := fun k hk => by rw [ib_nI (by omega)]; exact hk
        have hx := ix_nI (n := n) (by omega)
        have g1 : C E (d + 100) 102 [vR 1 11 10, vI p0, vI p1] (M, L) = some (some (vI (nI n)), (u2 (u2 (u2 (u2 (u2 (u2 M 40 11 (nI (n + 1))) 41 n (p0 / 10)) 42 n (rm32 p0 10)) 43 n p1) 44 n 99) 45 n 3, L)) := by
          rw [x102, e146, bI_s, if_neg (b1_ne h0), e20l E _ L M 0 hn hn8 (by omega) 0 rfl, bI_s, if_neg (b1_ne h1), x17, hn, if_pos (show nI n < (8 : Int32) from nI_lt (b := 8) h2 (by omega))]
          simp only [if_pos hib, hx, nI_1, bI_s]
        generalize hM1 : u2 (u2 (u2 (u2 (u2 (u2 M 40 11 (nI (n + 1))) 41 n (p0 / 10)) 42 n (rm32 p0 10)) 43 n p1) 44 n 99) 45 n 3 = M1 at g1
        have f1 : ∀ c, ¬ (40 ≤ c ∧ c ≤ 45) → M1 c = M c := by
          intro c q
          rw [← hM1]
          simp (disch := omega) only [u2_o]
        have e400 := f1 400 (by omega)
        have g2 : C E (d + 100) 161 [vR 1 12 400, vI p0, vI p1] (M1, L) = some (some (vI (nI n)), (u2 (u2 (u2 (u2 (u2 (u2 M1 409 n (p0 / 10)) 410 n (rm32 p0 10)) 401 n p1) 401 (8 + n) 99) 401 (16 + n) 3) 400 6 (nI (n + 1)), L)) := by
          rw [x161, e159, bI_s, if_neg (b1_ne h0), e148, bI_s, if_neg (b1_ne (by rw [tl_i, l_1, l_9]; exact h1'))]
          simp (disch := omega) only [u2_o, u2_s, u2_n, e400, hn', hx, if_pos hib, show (8 : Int32) + nI n = nI (8 + n) from nI_add 8 n, show (16 : Int32) + nI n = nI (16 + n) from nI_add 16 n, if_pos (i62 n (by omega)), if_pos (i62 (8 + n) (by omega)), if_pos (i62 (16 + n) (by omega)), ix_nI (n := 8 + n) (by omega), ix_nI (n := 16 + n) (by omega), nI_1]
          rw [if_neg (show ¬ nI n = (8 : Int32) from fun q => by have := nI_inj (b := 8) (by omega) (by omega) q; omega), nI_pred]
        generalize hM2 : u2 (u2 (u2 (u2 (u2 (u2 M1 409 n (p0 / 10)) 410 n (rm32 p0 10)) 401 n p1) 401 (8 + n) 99) 401 (16 + n) 3) 400 6 (nI (n + 1)) = M2 at g2
        have F : ∀ c, ¬ ((40 ≤ c ∧ c ≤ 45) ∨ c = 409 ∨ c = 410 ∨ c = 401 ∨ c = 400) → M2 c = M c := by
          intro c q
          rw [← hM2]
          simp (disch := omega) only [u2_o]
          exact f1 c (by omega)
        have G : ∀ j : Nat, j ≠ 6 → M2 400 j = M 400 j := fun j hj => by
          rw [← hM2, u2_n hj]
          simp (disch := omega) only [u2_o]
          rw [e400]
        have hch := hch.mono (n2 := n + 1) (g2 := g) (by omega) (by omega)
        have hi := hi.mono (n2 := n + 1) (g2 := g) (by omega) (by omega)
        have hd1 := t_div (b := 10) h0.1 (by decide)
        have hd2 := t_rem (b := 10) h0.1 (by decide)
        rw [t_10] at hd1 hd2
        obtain ⟨z0, z1, z2, z3⟩ := h0
        obtain ⟨r1, r2, r3, r4, r5, r6, r7⟩ := hc
        have D1 : ∀ c, 40 ≤ c → c ≤ 45 → M2 c = M1 c := by
          intro c q1 q2
          rw [← hM2]
          simp (disch := omega) only [u2_o]
        have D2 : ∀ c, 46 ≤ c → c ≤ 49 → M2 c = M c := fun c q1 q2 => F c (by omega)
        have V40 : ∀ j, M1 40 j = if j = 11 then nI (n + 1) else M 40 j := by
          intro j
          rw [← hM1]
          simp (disch := omega) only [u2_o]
          rw [u2_ap, if_pos rfl]
        refine ⟨_, _, _, _, _, g1, g2, n + 1, g, kf, ⟨by omega, r2, ⟨?_, ?_, ?_, ?_⟩, ?_, ?_, fun k hk => ?_, fun p hp => ?_⟩, ⟨(hl.keep4 (by rw [F 90 (by omega)]) (F 91 (by omega)) (F 92 (by omega))), (hrl.keep (G 24 (by omega)) (F 422 (by omega)) (F 423 (by omega)) (F 424 (by omega)))⟩, (ht.kp (by rw [F 70 (by omega)]) (G 11 (by omega)) (F 411 (by omega)) (F 71 (by omega))), (hch.kp (fun c q1 q2 => F c (by omega)) (fun c q1 q2 => F c (by omega)) (fun c q => G c (by omega))), (hld.kp (F 435 (by omega)) (F 281 (by omega))), (hi.kp (F 280 (by omega)) (F 282 (by omega)) (fun c q1 q2 => F c (by omega)) (F 439 (by omega)) (F 440 (by omega)) (fun c q => G c (by omega))), (ha.kp (fun c q1 q2 => F c (by omega)) (F 442 (by omega)) (F 443 (by omega)) (fun c q => G c (by omega))), (hs.kp (F 331 (by omega)) (F 332 (by omega)) (F 447 (by omega)) (F 448 (by omega)) (by rw [F 320 (by omega)]))⟩
        · rw [D1 40 (by omega) (by omega), V40, if_pos rfl]
        · rw [← hM2, u2_s]
        · rw [D1 40 (by omega) (by omega), V40, if_neg (by omega)]; exact hg
        · rw [G 7 (by omega)]; exact hg'
        · rw [D1 40 (by omega) (by omega), V40, if_neg (by omega), ← hM2]
          simp (disch := omega) only [u2_o, u2_n]
          rw [f1 401 (by omega)]
          exact r4
        · rw [D1 40 (by omega) (by omega), V40, if_neg (by omega), ← hM2]
          simp (disch := omega) only [u2_o, u2_n]
          rw [f1 401 (by omega)]
          exact r5
        · unfold Rbr
          rw [D1 41 (by omega) (by omega), D1 42 (by omega) (by omega), D1 43 (by omega) (by omega), D1 44 (by omega) (by omega), D1 45 (by omega) (by omega), ← hM2]
          by_cases e : k = n
          · subst e
            simp (disch := omega) only [u2_o, u2_n, u2_s]
            rw [← hM1]
            simp (disch := omega) only [u2_o, u2_n, u2_s]
            unfold btw
            refine ⟨⟨trivial, trivial, trivial, trivial, trivial⟩, h1', by rw [t_99]; omega, by rw [t_3]; omega, by rw [hd1]; omega, by rw [hd2]; omega, fun q => z3 (by rw [← hd1, ← hd2, q])⟩
          · simp (disch := omega) only [u2_o, u2_n]
            rw [f1 401 (by omega), f1 409 (by omega), f1 410 (by omega), ← hM1]
            simp (disch := omega) only [u2_o, u2_n]
            exact r6 k (by omega)
        · have := r7 p hp
          unfold Rbg at *
          rw [D2 46 (by omega) (by omega), D2 47 (by omega) (by omega), D2 48 (by omega) (by omega), D2 49 (by omega) (by omega), ← hM2]
          simp (disch := omega) only [u2_o, u2_n]
          rw [f1 401 (by omega)]
          obtain ⟨a1, a2, a3, a4, a5⟩ := this
          refine ⟨a1, a2, a3, a4, a5.1, ?_⟩
          have := a5.2
          omega
      · have en : n = 8 := by omega
        refine opq E d hR (r := -3) (M1 := M) (M2 := M) ?_ (Kp.re M) ?_ (Kp.re M)
        · rw [x102, e146, bI_s, if_neg (b1_ne h0), e20l E _ L M 0 hn hn8 (by omega) 0 rfl, bI_s, if_neg (b1_ne h1), x17, hn, en, if_neg (show ¬ nI 8 < (8 : Int32) by decide), bI_s]
        · rw [x161, e159, bI_s, if_neg (b1_ne h0), e148, bI_s, if_neg (b1_ne (by rw [tl_i, l_1, l_9]; exact h1'))]
          simp only [hn', en]
          rw [if_pos (show nI 8 = (8 : Int32) from rfl)]
    · have h1' : ¬ (1 ≤ p1.toInt ∧ p1.toInt ≤ 9) := h1
      refine opq E d hR (r := -1) (M1 := M) (M2 := M) ?_ (Kp.re M) ?_ (Kp.re M)
      · rw [x102, e146, bI_s, if_neg (b1_ne h0), e20l E _ L M 0 hn hn8 (by omega) 0 rfl, bI_s, if_pos (b1_e h1)]
      · rw [x161, e159, bI_s, if_neg (b1_ne h0), e148, bI_s, if_pos (b1_e (by rw [tl_i, l_1, l_9]; exact h1'))]
  · refine opq E d hR (r := -1) (M1 := M) (M2 := M) ?_ (Kp.re M) ?_ (Kp.re M)
    · rw [x102, e146, bI_s, if_pos (b1_e h0)]
    · rw [x161, e159, bI_s, if_pos (b1_e h0)]
theorem e18 (M : Nat → Nat → Int32) (o : Nat) {g : Nat} (hg : M o 12 = nI g) (hlt : g < 9) (a b c e : Int32) : C E (d + 1) 18 [vR 1 2 o, vI a, vI b, vI c, vI e] (M, L) = some (some (vI (nI g)), (u2 (u2 (u2 (u2 (u2 M o 12 (nI (g + 1))) (o + 6) g a) (o + 7) g b) (o + 8) g c) (o + 9) g e, L)) := by
  rw [x18, hg, if_pos (show nI g < (9 : Int32) from nI_lt (b := 9) hlt (by omega))]
  simp only [if_pos (show ib (nI g) 9 by rw [ib_nI (by omega)]; exact hlt), ix_nI (n := g) (by omega), nI_1]
theorem e163 (M : Nat → Nat → Int32) {g : Nat} (hg : M 400 7 = nI g) (hlt : g < 9) (a b c e : Int32) : C E (d + 1) 163 [vR 1 12 400, vI a, vI b, vI c, vI e] (M, L) = some (none, (u2 (u2 (u2 (u2 (u2 M 401 (24 + g) a) 401 (33 + g) b) 401 (42 + g) c) 401 (51 + g) e) 400 7 (nI (g + 1)), L)) := by
  have i62 : ∀ k, k < 62 → ib (nI k) 62 := fun k hk => by rw [ib_nI (by omega)]; exact hk
  rw [x163]
  simp (disch := omega) only [u2_o, hg, show (24 : Int32) + nI g = nI (24 + g) from nI_add 24 g, show (33 : Int32) + nI g = nI (33 + g) from nI_add 33 g, show (42 : Int32) + nI g = nI (42 + g) from nI_add 42 g, show (51 : Int32) + nI g = nI (51 + g) from nI_add 51 g, if_pos (i62 (24 + g) (by omega)), if_pos (i62 (33 + g) (by omega)), if_pos (i62 (42 + g) (by omega)), if_pos (i62 (51 + g) (by omega)), ix_nI (n := 24 + g) (by omega), ix_nI (n := 33 + g) (by omega), ix_nI (n := 42 + g) (by omega), ix_nI (n := 51 + g) (by omega), nI_1]
def addC (M : Nat → Nat → Int32) (g : Nat) (a b c e : Int32) : Nat → Nat → Int32 := u2 (u2 (u2 (u2 (u2 M 40 12 (nI (g + 1))) 46 g a) 47 g b) 48 g c) 49 g e
def addR (M : Nat → Nat → Int32) (g : Nat) (a b c e : Int32) : Nat → Nat → Int32 := u2 (u2 (u2 (u2 (u2 M 401 (24 + g) a) 401 (33 + g) b) 401 (42 + g) c) 401 (51 + g) e) 400 7 (nI (g + 1))
/-- one beggar more -/
theorem RR_add {M M2 : Nat → Nat → Int32} {n g : Nat} {kf : (Nat → Int32) → Int32} {L : Nat → Nat → Int64} (hc : Rc M n g) (hl : LW E kf M) (hrl : RL E kf M) (ht : Rt M) (hch : Rch M n g) (hld : Rled M) (hi : Rimg M n g) (ha : Rar M) (hs : Rsh M L) (hlt : g < 9) {a b c e : Int32} (oa : btw 0 99 a) (ob : btw 0 9 b) (oc : btw 0 9 c) (oe : btw (-1) ((n : Int) - 1) e) (q1 : ∀ x, 40 ≤ x → x ≤ 49 → M2 x = addC M g a b c e x) (q2 : ∀ x, x = 400 ∨ x = 401 → M2 x = addR M g a b c e x) (q3 : ∀ x, ¬ ((40 ≤ x ∧ x ≤ 49) ∨ x = 400 ∨ x = 401) → M2 x = M x) : Rc M2 n (g + 1) ∧ LW E kf M2 ∧ RL E kf M2 ∧ Rt M2 ∧ Rch M2 n (g + 1) ∧ Rled M2 ∧ Rimg M2 n (g + 1) ∧ Rar M2 ∧ Rsh M2 L := by
  have F := q3
  have G : ∀ j : Nat, j ≠ 7 → M2 400 j = M 400 j := fun j hj => by
    rw [q2 400 (by omega)]
    unfold addR
    rw [u2_n hj]
    simp (disch := omega) only [u2_o]
  have hch := hch.mono (n2 := n) (g2 := g + 1) (by omega) (by omega)
  have hi := hi.mono (n2 := n) (g2 := g + 1) (by omega) (by omega)
  obtain ⟨r1, r2, r3, r4, r5, r6, r7⟩ := hc
  refine ⟨⟨r1, by omega, ⟨?_, ?_, ?_, ?_⟩, ?_, ?_, fun k hk => ?_, fun p hp => ?_⟩, (hl.keep4 (by rw [F 90 (by omega)]) (F 91 (by omega)) (F 92 (by omega))), (hrl.keep (G 24 (by omega)) (F 422 (by omega)) (F 423 (by omega)) (F 424 (by omega))), (ht.kp (by rw [F 70 (by omega)]) (G 11 (by omega)) (F 411 (by omega)) (F 71 (by omega))), (hch.kp (fun c q1 q2 => F c (by omega)) (fun c q1 q2 => F c (by omega)) (fun c q => G c (by omega))), (hld.kp (F 435 (by omega)) (F 281 (by omega))), (hi.kp (F 280 (by omega)) (F 282 (by omega)) (fun c q1 q2 => F c (by omega)) (F 439 (by omega)) (F 440 (by omega)) (fun c q => G c (by omega))), (ha.kp (fun c q1 q2 => F c (by omega)) (F 442 (by omega)) (F 443 (by omega)) (fun c q => G c (by omega))), (hs.kp (F 331 (by omega)) (F 332 (by omega)) (F 447 (by omega)) (F 448 (by omega)) (by rw [F 320 (by omega)]))⟩
  · rw [q1 40 (by omega) (by omega)]; unfold addC; simp (disch := omega) only [u2_o, u2_n]; exact r3.1
  · rw [G 6 (by omega)]; exact r3.2.1
  · rw [q1 40 (by omega) (by omega)]; unfold addC; simp (disch := omega) only [u2_o, u2_s]
  · rw [q2 400 (by omega)]; unfold addR; rw [u2_s]
  · rw [q1 40 (by omega) (by omega), q2 401 (by omega)]; unfold addC addR; simp (disch := omega) only [u2_o, u2_n]; exact r4
  · rw [q1 40 (by omega) (by omega), q2 401 (by omega)]; unfold addC addR; simp (disch := omega) only [u2_o, u2_n]; exact r5
  · have := r6 k hk
    unfold Rbr at *
    rw [q1 41 (by omega) (by omega), q1 42 (by omega) (by omega), q1 43 (by omega) (by omega), q1 44 (by omega) (by omega), q1 45 (by omega) (by omega), q2 401 (by omega), q3 409 (by omega), q3 410 (by omega)]
    unfold addC addR
    simp (disch := omega) only [u2_o, u2_n]
    exact this
  · unfold Rbg
    rw [q1 46 (by omega) (by omega), q1 47 (by omega) (by omega), q1 48 (by omega) (by omega), q1 49 (by omega) (by omega), q2 401 (by omega)]
    unfold addC addR
    by_cases e1 : p = g
    · subst e1
      simp (disch := omega) only [u2_o, u2_n, u2_s]
      exact ⟨⟨trivial, trivial, trivial, trivial⟩, oa, ob, oc, oe⟩
    · simp (disch := omega) only [u2_o, u2_n]
      exact r7 p (by omega)
theorem e162 (M : Nat → Nat → Int32) (a b c e : Int64) {n : Nat} (hn : M 400 6 = nI n) (hn8 : n ≤ 8) : C E (d + 4) 162 [vR 1 12 400, vL a, vL b, vL c, vL e] (M, L) = some (some (vI (b1 ((0 ≤ a.toInt ∧ a.toInt ≤ 99) ∧ (0 ≤ b.toInt ∧ b.toInt ≤ 9) ∧ (0 ≤ c.toInt ∧ c.toInt ≤ 9) ∧ -1 ≤ e.toInt ∧ e.toInt ≤ (n : Int) - 1))), (M, L)) := by
  rw [x162, e148, bI_s, l_0, l_99]
  by_cases h1 : 0 ≤ a.toInt ∧ a.toInt ≤ 99
  · rw [if_neg (b1_ne h1), e148, bI_s, l_0, l_9]
    by_cases h2 : 0 ≤ b.toInt ∧ b.toInt ≤ 9
    · rw [if_neg (b1_ne h2), e148, bI_s, l_0, l_9]
      by_cases h3 : 0 ≤ c.toInt ∧ c.toInt ≤ 9
      · rw [if_neg (b1_ne h3), e160 E _ L M _ hn hn8, bI_s]
        by_cases h4 : -1 ≤ e.toInt ∧ e.toInt ≤ (n : Int) - 1
        · rw [if_neg (b1_ne h4), b1_t ⟨h1, h2, h3, h4⟩]
        · rw [if_pos (b1_e h4), b1_f (fun q => h4 q.2.2.2)]
      · rw [if_pos (b1_e h3), b1_f (fun q => h3 q.2.2.1)]
    · rw [if_pos (b1_e h2), b1_f (fun q => h2 q.2.1)]
  · rw [if_pos (b1_e h1), b1_f (fun q => h1 q.1)]
theorem op_beggar (p0 p1 : Int32) : Opk E d 103 164 [vI p0, vI p1] := by
  intro M L h
  have hR := h
  obtain ⟨n, g, kf, hc, ⟨hl, hrl⟩, ht, hch, hld, hi, ha, hs⟩ := h
  obtain ⟨hn, hn', hg, hg'⟩ := hc.2.2.1
  have hn8 := hc.1
  have hg9 := hc.2.1
  by_cases h0 : okN n 4 p0
  · have h0' : btw 0 9 p0 := h0
    by_cases h1 : okN n 5 p1
    · have h1' : btw 0 9 p1 := h1
      have hm : (0 ≤ (0 : Int64).toInt ∧ (0 : Int64).toInt ≤ 99) ∧ (0 ≤ (Int32.toInt64 p0).toInt ∧ (Int32.toInt64 p0).toInt ≤ 9) ∧ (0 ≤ (Int32.toInt64 p1).toInt ∧ (Int32.toInt64 p1).toInt ≤ 9) ∧ -1 ≤ (-1 : Int64).toInt ∧ (-1 : Int64).toInt ≤ (n : Int) - 1 := by
        rw [tl_i, tl_i, l_0, l_m1]
        exact ⟨by omega, h0', h1', by omega, by omega⟩
      by_cases h2 : g < 9
      · have g1 : C E (d + 100) 103 [vR 1 11 10, vI p0, vI p1] (M, L) = some (some (vI (nI g)), (addC M g 0 p0 p1 (-1), L)) := by
          rw [x103, e20l E _ L M 4 hn hn8 (by omega) 4 rfl, bI_s, if_neg (b1_ne h0), e20l E _ L M 5 hn hn8 (by omega) 5 rfl, bI_s, if_neg (b1_ne h1), e18 E _ L M 40 hg h2, bI_s]
          rfl
        have f1 : ∀ c, ¬ (40 ≤ c ∧ c ≤ 49) → addC M g 0 p0 p1 (-1) c = M c := by
          intro c q
          unfold addC
          simp (disch := omega) only [u2_o]
        generalize hM1 : addC M g 0 p0 p1 (-1) = M1 at g1 f1
        have e400 := f1 400 (by omega)
        have g2 : C E (d + 100) 164 [vR 1 12 400, vI p0, vI p1] (M1, L) = some (some (vI (nI g)), (addR M1 g 0 p0 p1 (-1), L)) := by
          rw [x164, e162 E _ L M1 _ _ _ _ (by rw [e400]; exact hn') hn8, bI_s, if_neg (b1_ne hm)]
          simp only [e400, hg']
          rw [if_neg (show ¬ nI g = (9 : Int32) from fun q => by have := nI_inj (b := 9) (by omega) (by omega) q; omega), e163 E _ L M1 (by rw [e400]; exact hg') h2, bV_s]
          simp only [u2_s]
          rw [nI_pred]
          rfl
        refine ⟨_, _, _, _, _, g1, g2, n, g + 1, kf, ?_⟩
        obtain ⟨z1, z2, z3, z4⟩ := RR_add E hc hl hrl ht hch hld hi ha hs h2 (M2 := addR M1 g 0 p0 p1 (-1)) (a := 0) (b := p0) (c := p1) (e := -1) (by unfold btw; rw [t_0]; omega) h0' h1' (by unfold btw; rw [t_m1]; omega) (fun x a b => by
            rw [← hM1]
            unfold addR
            simp (disch := omega) only [u2_o]) (fun x hx => by
            unfold addR
            rcases hx with rfl | rfl
            · refine u2_cc ?_
              simp (disch := omega) only [u2_o]
              exact f1 400 (by omega)
            · rw [u2_o (a := 400) (by omega), u2_o (a := 400) (by omega)]
              exact u2_cc (u2_cc (u2_cc (u2_cc (f1 401 (by omega)))))) (fun x hx => by
            unfold addR
            simp (disch := omega) only [u2_o]
            exact f1 x (by omega))
        exact ⟨z1, ⟨z2, z3⟩, z4⟩
      · have eg : g = 9 := by omega
        refine opq E d hR (r := -3) (M1 := M) (M2 := M) ?_ (Kp.re M) ?_ (Kp.re M)
        · rw [x103, e20l E _ L M 4 hn hn8 (by omega) 4 rfl, bI_s, if_neg (b1_ne h0), e20l E _ L M 5 hn hn8 (by omega) 5 rfl, bI_s, if_neg (b1_ne h1), x18, hg, eg, if_neg (show ¬ nI 9 < (9 : Int32) by decide), bI_s]
        · rw [x164, e162 E _ L M _ _ _ _ hn' hn8, bI_s, if_neg (b1_ne hm)]
          simp only [hg', eg]
          rw [if_pos (show nI 9 = (9 : Int32) from rfl)]
    · have h1' : ¬ btw 0 9 p1 := h1
      refine opq E d hR (r := -1) (M1 := M) (M2 := M) ?_ (Kp.re M) ?_ (Kp.re M)
      · rw [x103, e20l E _ L M 4 hn hn8 (by omega) 4 rfl, bI_s, if_neg (b1_ne h0), e20l E _ L M 5 hn hn8 (by omega) 5 rfl, bI_s, if_pos (b1_e h1)]
      · rw [x164, e162 E _ L M _ _ _ _ hn' hn8, bI_s, if_pos (b1_e (fun q => h1' (by have := q.2.2.1; rw [tl_i] at this; exact this)))]
  · have h0' : ¬ btw 0 9 p0 := h0
    refine opq E d hR (r := -1) (M1 := M) (M2 := M) ?_ (Kp.re M) ?_ (Kp.re M)
    · rw [x103, e20l E _ L M 4 hn hn8 (by omega) 4 rfl, bI_s, if_pos (b1_e h0)]
    · rw [x164, e162 E _ L M _ _ _ _ hn' hn8, bI_s, if_pos (b1_e (fun q => h0' (by have := q.2.1; rw [tl_i] at this; exact this)))]
end DEEDS2
