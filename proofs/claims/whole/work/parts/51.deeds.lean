/-! deeds and tellings on both sides -/
theorem clS_o {M : Nat → Nat → Int32} {s j c : Nat} {v : Int32} (hs : s ≤ 8) (h : ¬ (40 ≤ c ∧ c ≤ 49)) : clS M s j v c = M c := by
  unfold clS
  split <;> exact u2_o (by omega)
theorem u2_cc {M M' : Nat → Nat → Int32} {a j : Nat} {x : Int32} (h : M a = M' a) : u2 M a j x a = u2 M' a j x a := by
  unfold u2
  rw [if_pos rfl, if_pos rfl, h]
theorem clS_u {M : Nat → Nat → Int32} {s j c a i : Nat} {v x : Int32} (h : ¬ (40 ≤ a ∧ a ≤ 49)) (hc : 40 ≤ c ∧ c ≤ 49) : clS (u2 M a i x) s j v c = clS M s j v c := by
  unfold clS
  split
  · by_cases e : c = 43 + s
    · subst e
      exact u2_cc (u2_o (by omega))
    · rw [u2_o e, u2_o e, u2_o (by omega)]
  · by_cases e : c = 40
    · subst e
      exact u2_cc (u2_o (by omega))
    · rw [u2_o e, u2_o e, u2_o (by omega)]
section DEEDS
variable (E : Nat × (Nat → Int32)) (d : Nat) (L : Nat → Nat → Int64)
theorem brN {M : Nat → Nat → Int32} {n : Nat} (hn : M 40 11 = nI n) (hn8 : n ≤ 8) (p : Int32) : (∃ b, b < n ∧ p = nI b ∧ C E (d + 1) 15 [vR 1 2 40, vI p] (M, L) = some (some (vI (1 : Int32)), (M, L))) ∨ (¬ (0 ≤ p.toInt ∧ p.toInt < (n : Int)) ∧ C E (d + 1) 15 [vR 1 2 40, vI p] (M, L) = some (some (vI (0 : Int32)), (M, L))) := by
  by_cases h1 : 0 ≤ p.toInt ∧ p.toInt < (n : Int)
  · obtain ⟨b, hb, e1⟩ := nI_ex (n := n) h1.1 h1.2
    left
    refine ⟨b, hb, e1, ?_⟩
    rw [e15, b1_t ⟨h1.1, by rw [hn, t_nI (by omega)]; exact h1.2, by omega⟩]
  · right
    refine ⟨h1, ?_⟩
    rw [e15, b1_f (fun q => h1 ⟨q.1, by have := q.2.1; rw [hn, t_nI (by omega)] at this; exact this⟩)]
theorem bgN {M : Nat → Nat → Int32} {g : Nat} (hg : M 40 12 = nI g) (hg9 : g ≤ 9) (p : Int32) : (∃ b, b < g ∧ p = nI b ∧ C E (d + 1) 16 [vR 1 2 40, vI p] (M, L) = some (some (vI (1 : Int32)), (M, L))) ∨ (¬ (0 ≤ p.toInt ∧ p.toInt < (g : Int)) ∧ C E (d + 1) 16 [vR 1 2 40, vI p] (M, L) = some (some (vI (0 : Int32)), (M, L))) := by
  by_cases h1 : 0 ≤ p.toInt ∧ p.toInt < (g : Int)
  · obtain ⟨b, hb, e1⟩ := nI_ex (n := g) h1.1 h1.2
    left
    refine ⟨b, hb, e1, ?_⟩
    rw [e16, b1_t ⟨h1.1, by rw [hg, t_nI (by omega)]; exact h1.2, by omega⟩]
  · right
    refine ⟨h1, ?_⟩
    rw [e16, b1_f (fun q => h1 ⟨q.1, by have := q.2.1; rw [hg, t_nI (by omega)] at this; exact this⟩)]
theorem e40l (M : Nat → Nat → Int32) (k : Nat) (hk : k < 5) (x : Int32) (hx : x = nI k) (v : Int32) : C E (d + 1) 40 [vR 1 4 280, vI x, vI v] (M, L) = some (none, (u2 M 281 k (M 281 k + v), L)) := by
  have hib : ib (nI k) 5 := by rw [ib_nI (by omega)]; exact hk
  rw [hx, x40, if_neg (nI_pos (by omega)), if_neg (show ¬ (5 : Int32) ≤ nI k from nI_ge (b := 5) hk (by omega)), if_pos hib, if_pos hib, ix_nI (by omega)]
theorem e20l (M : Nat → Nat → Int32) {n : Nat} (s : Nat) (hn : M 40 11 = nI n) (hn8 : n ≤ 8) (hs : s ≤ 8) (x : Int32) (hx : x = nI s) (v : Int32) : C E (d + 2) 20 [vR 1 2 40, vI x, vI v] (M, L) = some (some (vI (b1 (okN n s v))), (M, L)) := by
  rw [hx]
  exact e20 E d L M hn hn8 hs v
theorem Rled.add {M M' : Nat → Nat → Int32} (h : Rled M) {k : Nat} {v : Int32} (h1 : M' 281 = u2 M 281 k (M 281 k + v) 281) (h2 : M' 435 = u2 M 435 k (M 435 k + v) 435) (hk : k < 5) : Rled M' := by
  intro i hi
  rw [h1, h2]
  by_cases e : i = k
  · subst e
    rw [u2_s, u2_s, h i hi]
  · rw [u2_n e, u2_n e, h i hi]
theorem op_sits (p0 p1 : Int32) : Opk E d 127 223 [vI p0, vI p1] := by
  intro M L h
  have hR := h
  obtain ⟨n, g, kf, hc, ⟨hl, hrl⟩, ht, hch, hld, hi, ha, hs⟩ := h
  obtain ⟨hn, hn', hg, hg'⟩ := hc.2.2.1
  have hn8 := hc.1
  have hg9 := hc.2.1
  rcases bgN E (d + 98) L hg hg9 p0 with ⟨j, hj, e1, eb⟩ | ⟨h1, eb⟩
  · have hv : valS n g 6 j := ⟨by omega, by show j < cntS n g 6; unfold cntS; simp; exact hj⟩
    by_cases ho : okN n 6 p1
    · have ho' : -1 ≤ p1.toInt ∧ p1.toInt ≤ (n : Int) - 1 := ho
      have hrd := (hc.rd hv).1
      have hpl : plN 6 j = 51 + j := rfl
      rw [hpl] at hrd
      have hrd : M 401 (51 + j) = M 49 j := hrd
      have e51 : (51 : Int32) + nI j = nI (51 + j) := nI_add 51 j
      have i51 : ib (nI (51 + j)) 62 := by rw [ib_nI (by omega)]; omega
      have g1 : C E (d + 100) 127 [vR 1 11 10, vI p0, vI p1] (M, L) = some (some (vI (M 49 j)), (u2 (u2 M 49 j p1) 281 1 (M 281 1 + 1), L)) := by
        rw [x127, eb, bI_s, if_neg (by decide), e20l E _ L M 6 hn hn8 (by omega) 6 rfl, bI_s, if_neg (b1_ne ho), e1, e22_6 E _ M L 40 (by omega), bI_s, e23_6 E _ M L 40 p1 (by omega), bV_s, e40l E _ L _ 1 (by omega) 1 rfl, bV_s, u2_o (c := 281) (by omega)]
      generalize hM1 : u2 (u2 M 49 j p1) 281 1 (M 281 1 + 1) = M1 at g1
      have f1 : ∀ c, c ≠ 49 → c ≠ 281 → M1 c = M c := by
        intro c q1 q2
        rw [← hM1, u2_o q2, u2_o q1]
      have g2 : C E (d + 100) 223 [vR 1 12 400, vI p0, vI p1] (M1, L) = some (some (vI (M 49 j)), (u2 (u2 M1 401 (51 + j) p1) 435 1 (M 435 1 + 1), L)) := by
        have e400 := f1 400 (by omega) (by omega)
        rw [x223, e157 E _ L M1 _ (by rw [e400]; exact hg') hg9, bI_s, if_neg (b1_ne (by rw [tl_i, e1]; exact inN (by omega) hj)), e160 E _ L M1 _ (by rw [e400]; exact hn') hn8, bI_s, if_neg (b1_ne (by rw [tl_i]; exact ho')), e1]
        simp only [e51, if_pos i51, if_pos (show ib (1 : Int32) 5 by decide), ix_nI (n := 51 + j) (by omega), ix_l1]
        rw [u2_o (c := 435) (by omega), f1 401 (by omega) (by omega), f1 435 (by omega) (by omega), hrd]
      refine ⟨_, _, _, _, _, g1, g2, n, g, kf, ?_, ⟨?_, ?_⟩, ?_, ?_, ?_, ?_, ?_, ?_⟩
      · refine hc.set hv ho (fun c hcc => ?_) ?_ (fun c hcc => ?_) (fun i hi => ?_)
        · rw [u2_o (by omega), u2_o (by omega), ← hM1, u2_o (by omega)]; rfl
        · rw [u2_o (by omega), hpl]
          exact u2_cc (f1 401 (by omega) (by omega))
        · rw [u2_o (by omega), u2_o (by omega), f1 c (by omega) (by omega)]
        · rw [u2_o (by omega), u2_o (by omega), f1 400 (by omega) (by omega)]
      · refine hl.keep4 ?_ ?_ ?_ <;> rw [u2_o (by omega), u2_o (by omega), f1 _ (by omega) (by omega)]
      · refine hrl.keep ?_ ?_ ?_ ?_ <;> rw [u2_o (by omega), u2_o (by omega), f1 _ (by omega) (by omega)]
      · refine ht.kp ?_ ?_ ?_ ?_ <;> rw [u2_o (by omega), u2_o (by omega), f1 _ (by omega) (by omega)]
      · refine hch.kp (fun c q1 q2 => ?_) (fun c q1 q2 => ?_) (fun c q => ?_) <;> rw [u2_o (by omega), u2_o (by omega), f1 _ (by omega) (by omega)]
      · refine hld.add (k := 1) (v := 1) ?_ ?_ (by omega)
        · rw [u2_o (by omega), u2_o (by omega), ← hM1]
          exact u2_cc (u2_o (by omega))
        · exact u2_cc (by rw [u2_o (by omega), f1 435 (by omega) (by omega)])
      · refine hi.kp ?_ ?_ (fun c q1 q2 => ?_) ?_ ?_ (fun c q => ?_) <;> rw [u2_o (by omega), u2_o (by omega), f1 _ (by omega) (by omega)]
      · refine ha.kp (fun c q1 q2 => ?_) ?_ ?_ (fun c q => ?_) <;> rw [u2_o (by omega), u2_o (by omega), f1 _ (by omega) (by omega)]
      · refine hs.kp ?_ ?_ ?_ ?_ ?_ <;> rw [u2_o (by omega), u2_o (by omega), f1 _ (by omega) (by omega)]
    · refine opq E d hR (r := -2000000000) (M1 := M) (M2 := M) ?_ (Kp.re M) ?_ (Kp.re M)
      · rw [x127, eb, bI_s, if_neg (by decide), e20l E _ L M 6 hn hn8 (by omega) 6 rfl, bI_s, if_pos (b1_e ho)]
      · have ho' : ¬ (-1 ≤ p1.toInt ∧ p1.toInt ≤ (n : Int) - 1) := ho
        rw [x223, e157 E _ L M _ hg' hg9, bI_s, if_neg (b1_ne (by rw [tl_i, e1]; exact inN (by omega) hj)), e160 E _ L M _ hn' hn8, bI_s, if_pos (b1_e (by rw [tl_i]; exact ho'))]
  · refine opq E d hR (r := -2000000000) (M1 := M) (M2 := M) ?_ (Kp.re M) ?_ (Kp.re M)
    · rw [x127, eb, bI_s, if_pos rfl]
    · rw [x223, e157 E _ L M _ hg' hg9, bI_s, if_pos (b1_e (by rw [tl_i]; exact h1))]
theorem op_led (p0 : Int32) : Opk E d 130 226 [vI p0] := by
  intro M L h
  have hR := h
  obtain ⟨n, g, kf, hc, ⟨hl, hrl⟩, ht, hch, hld, hi, ha, hs⟩ := h
  by_cases h0 : 0 ≤ p0.toInt ∧ p0.toInt ≤ 4
  · obtain ⟨i, hi5, e⟩ := nI_ex (n := 5) h0.1 (by omega)
    have hib : ib (nI i) 5 := by rw [ib_nI (by omega)]; exact hi5
    refine opq E d hR (r := M 281 i) (M1 := M) (M2 := M) ?_ (Kp.re M) ?_ (Kp.re M)
    · rw [x130, e145, bI_s, if_neg (b1_ne (by rw [t_0, t_4]; exact h0)), x39, e, if_neg (nI_pos (by omega)), if_neg (show ¬ (5 : Int32) ≤ nI i from nI_ge (b := 5) hi5 (by omega)), if_pos hib, bI_s, ix_nI (by omega)]
    · rw [x226, e148, bI_s, if_neg (b1_ne (by rw [tl_i, l_0, l_4]; exact h0)), e, if_pos hib, ix_nI (by omega)]
      show some (some (vI (M 435 i)), (M, L)) = _
      rw [hld i hi5]
  · refine opq E d hR (r := -1) (M1 := M) (M2 := M) ?_ (Kp.re M) ?_ (Kp.re M)
    · rw [x130, e145, bI_s, if_pos (b1_e (by rw [t_0, t_4]; exact h0))]
    · rw [x226, e148, bI_s, if_pos (b1_e (by rw [tl_i, l_0, l_4]; exact h0))]
end DEEDS
