/-! the numbers by sort and number, on both sides -/
def rdS (M : Nat → Nat → Int32) (s j : Nat) : Int32 := if s ≤ 6 then M (43 + s) j else M 40 (s + 6)
def clS (M : Nat → Nat → Int32) (s j : Nat) (v : Int32) : Nat → Nat → Int32 := if s ≤ 6 then u2 M (43 + s) j v else u2 M 40 (s + 6) v
theorem cnt9 {n g s j : Nat} (hn : n ≤ 8) (hg : g ≤ 9) (h : valS n g s j) : j < 9 ∧ (s ≤ 2 → j < 8) ∧ (s ≤ 2 → j < n) ∧ (3 ≤ s → s ≤ 6 → j < g) ∧ (7 ≤ s → j = 0) := by
  obtain ⟨h1, h2⟩ := h
  unfold cntS at h2
  (repeat' split at h2) <;> refine ⟨by omega, by omega, by omega, by omega, by omega⟩
section BYS
variable (E : Nat × (Nat → Int32)) (d : Nat) (L : Nat → Nat → Int64)
theorem e20 (M : Nat → Nat → Int32) {n s : Nat} (hn : M 40 11 = nI n) (hn8 : n ≤ 8) (hs : s ≤ 8) (v : Int32) : C E (d + 2) 20 [vR 1 2 40, vI (nI s), vI v] (M, L) = some (some (vI (b1 (okN n s v))), (M, L)) := by
  rcases (show s = 0 ∨ s = 1 ∨ s = 2 ∨ s = 3 ∨ s = 4 ∨ s = 5 ∨ s = 6 ∨ s = 7 ∨ s = 8 by omega) with rfl | rfl | rfl | rfl | rfl | rfl | rfl | rfl | rfl
  · rw [← n_0, x20, if_pos rfl, e145, bI_s, bz, t_1, t_9]
    rfl
  · rw [← n_1, x20, if_neg (by decide), if_pos rfl, e145, bI_s, bz, t_0, t_99]
    rfl
  · rw [← n_2, x20, if_neg (by decide), if_neg (by decide), if_pos rfl, e145, bI_s, bz, t_0, t_9]
    rfl
  · rw [← n_3, x20, if_neg (by decide), if_neg (by decide), if_neg (by decide), if_pos rfl, e145, bI_s, bz, t_0, t_99]
    rfl
  · rw [← n_4, x20, if_neg (by decide), if_neg (by decide), if_neg (by decide), if_neg (by decide), if_pos rfl, e145, bI_s, bz, t_0, t_9]
    rfl
  · rw [← n_5, x20, if_neg (by decide), if_neg (by decide), if_neg (by decide), if_neg (by decide), if_neg (by decide), if_pos rfl, e145, bI_s, bz, t_0, t_9]
    rfl
  · rw [← n_6, x20, if_neg (by decide), if_neg (by decide), if_neg (by decide), if_neg (by decide), if_neg (by decide), if_neg (by decide), if_pos rfl]
    have hh : okN n 6 v ↔ (-1 ≤ v.toInt ∧ v.toInt ≤ (n : Int) - 1) := Iff.rfl
    by_cases h : v = -1
    · rw [if_pos h, b1_t (by rw [hh, h, t_m1]; omega)]
    · have h' : ¬ v.toInt = -1 := fun q => h (by rw [t_eq, t_m1]; exact q)
      rw [if_neg h, e15, bI_s, hn, t_nI (by omega)]
      by_cases h2 : 0 ≤ v.toInt ∧ v.toInt < (n : Int) ∧ v.toInt < 8
      · rw [if_neg (b1_ne h2), b1_t (by rw [hh]; omega)]
      · rw [if_pos (b1_e h2), b1_f (by rw [hh]; omega)]
  · rw [← n_7, x20, if_neg (by decide), if_neg (by decide), if_neg (by decide), if_neg (by decide), if_neg (by decide), if_neg (by decide), if_neg (by decide), if_pos rfl, e145, bI_s, bz, t_0, t_99]
    rfl
  · rw [← n_8, x20, if_neg (by decide), if_neg (by decide), if_neg (by decide), if_neg (by decide), if_neg (by decide), if_neg (by decide), if_neg (by decide), if_neg (by decide), if_pos rfl, e145, bI_s, bz, t_0, t_6]
    rfl
theorem e19 (M : Nat → Nat → Int32) {n g s : Nat} (hn : M 40 11 = nI n) (hg : M 40 12 = nI g) (hn8 : n ≤ 8) (hg9 : g ≤ 9) (hs : s ≤ 10) (p : Int32) : C E (d + 2) 19 [vR 1 2 40, vI p, vI (nI s)] (M, L) = some (some (vI (b1 (0 ≤ p.toInt ∧ p.toInt < (cntS n g s : Int)))), (M, L)) := by
  have hb : C E (d + 1) 15 [vR 1 2 40, vI p] (M, L) = some (some (vI (b1 (0 ≤ p.toInt ∧ p.toInt < (n : Int)))), (M, L)) := by
    rw [e15, hn, t_nI (by omega), b1_congr (e := 0 ≤ p.toInt ∧ p.toInt < (n : Int)) (by omega)]
  have hp : C E (d + 1) 16 [vR 1 2 40, vI p] (M, L) = some (some (vI (b1 (0 ≤ p.toInt ∧ p.toInt < (g : Int)))), (M, L)) := by
    rw [e16, hg, t_nI (by omega), b1_congr (e := 0 ≤ p.toInt ∧ p.toInt < (g : Int)) (by omega)]
  rcases (show s = 0 ∨ s = 1 ∨ s = 2 ∨ s = 3 ∨ s = 4 ∨ s = 5 ∨ s = 6 ∨ s = 7 ∨ s = 8 ∨ s = 9 ∨ s = 10 by omega) with rfl | rfl | rfl | rfl | rfl | rfl | rfl | rfl | rfl | rfl | rfl
  · rw [← n_0, x19, if_neg (by decide), if_neg (by decide), if_pos (by decide), if_neg (by decide), if_neg (by decide), hb, bI_s]
    show _ = some (some (vI (b1 (0 ≤ p.toInt ∧ p.toInt < (n : Int)))), (M, L))
    by_cases h : 0 ≤ p.toInt ∧ p.toInt < (n : Int)
    · rw [if_neg (b1_ne h), b1_t h]
    · rw [if_pos (b1_e h), b1_f h]
  · rw [← n_1, x19, if_neg (by decide), if_neg (by decide), if_pos (by decide), if_neg (by decide), if_neg (by decide), hb, bI_s]
    show _ = some (some (vI (b1 (0 ≤ p.toInt ∧ p.toInt < (n : Int)))), (M, L))
    by_cases h : 0 ≤ p.toInt ∧ p.toInt < (n : Int)
    · rw [if_neg (b1_ne h), b1_t h]
    · rw [if_pos (b1_e h), b1_f h]
  · rw [← n_2, x19, if_neg (by decide), if_neg (by decide), if_pos (by decide), if_neg (by decide), if_neg (by decide), hb, bI_s]
    show _ = some (some (vI (b1 (0 ≤ p.toInt ∧ p.toInt < (n : Int)))), (M, L))
    by_cases h : 0 ≤ p.toInt ∧ p.toInt < (n : Int)
    · rw [if_neg (b1_ne h), b1_t h]
    · rw [if_pos (b1_e h), b1_f h]
  · rw [← n_3, x19, if_neg (by decide), if_neg (by decide), if_neg (by decide), if_neg (by decide), hp, bI_s, bz]
    rfl
  · rw [← n_4, x19, if_neg (by decide), if_neg (by decide), if_neg (by decide), if_neg (by decide), hp, bI_s, bz]
    rfl
  · rw [← n_5, x19, if_neg (by decide), if_neg (by decide), if_neg (by decide), if_neg (by decide), hp, bI_s, bz]
    rfl
  · rw [← n_6, x19, if_neg (by decide), if_neg (by decide), if_neg (by decide), if_neg (by decide), hp, bI_s, bz]
    rfl
  · rw [← n_7, x19, if_pos rfl]
    show _ = some (some (vI (b1 (0 ≤ p.toInt ∧ p.toInt < ((1 : Nat) : Int)))), (M, L))
    by_cases h : p = 0
    · rw [if_pos h, b1_t (by rw [h, t_0]; omega)]
    · have h0 : ¬ p.toInt = 0 := fun q => h (by rw [z_iff]; exact q)
      rw [if_neg h, b1_f (by omega)]
  · rw [← n_8, x19, if_neg (by decide), if_pos rfl]
    show _ = some (some (vI (b1 (0 ≤ p.toInt ∧ p.toInt < ((1 : Nat) : Int)))), (M, L))
    by_cases h : p = 0
    · rw [if_pos h, b1_t (by rw [h, t_0]; omega)]
    · have h0 : ¬ p.toInt = 0 := fun q => h (by rw [z_iff]; exact q)
      rw [if_neg h, b1_f (by omega)]
  · rw [← n_9, x19, if_neg (by decide), if_neg (by decide), if_neg (by decide), if_pos (by decide), if_neg (by decide), if_neg (by decide), hb, bI_s]
    show _ = some (some (vI (b1 (0 ≤ p.toInt ∧ p.toInt < (n : Int)))), (M, L))
    by_cases h : 0 ≤ p.toInt ∧ p.toInt < (n : Int)
    · rw [if_neg (b1_ne h), b1_t h]
    · rw [if_pos (b1_e h), b1_f h]
  · rw [← n_10, x19, if_neg (by decide), if_neg (by decide), if_neg (by decide), if_pos (by decide), if_neg (by decide), if_neg (by decide), hb, bI_s]
    show _ = some (some (vI (b1 (0 ≤ p.toInt ∧ p.toInt < (n : Int)))), (M, L))
    by_cases h : 0 ≤ p.toInt ∧ p.toInt < (n : Int)
    · rw [if_neg (b1_ne h), b1_t h]
    · rw [if_pos (b1_e h), b1_f h]
theorem e22s (M : Nat → Nat → Int32) {n g s j : Nat} (hn8 : n ≤ 8) (hg9 : g ≤ 9) (h : valS n g s j) : C E (d + 2) 22 [vR 1 2 40, vI (nI j), vI (nI s)] (M, L) = some (some (vI (rdS M s j)), (M, L)) := by
  obtain ⟨h1, h2, h3, h4, h5⟩ := cnt9 hn8 hg9 h
  have hs := h.1
  rcases (show s = 0 ∨ s = 1 ∨ s = 2 ∨ s = 3 ∨ s = 4 ∨ s = 5 ∨ s = 6 ∨ s = 7 ∨ s = 8 by omega) with rfl | rfl | rfl | rfl | rfl | rfl | rfl | rfl | rfl
  · exact e22_0 E d M L 40 (by omega)
  · exact e22_1 E d M L 40 (by omega)
  · exact e22_2 E d M L 40 (by omega)
  · exact e22_3 E d M L 40 (by omega)
  · exact e22_4 E d M L 40 (by omega)
  · exact e22_5 E d M L 40 (by omega)
  · exact e22_6 E d M L 40 (by omega)
  · exact e22_7 E (d + 1) M L 40 (nI j)
  · exact e22_8 E (d + 1) M L 40 (nI j)
theorem e23s (M : Nat → Nat → Int32) {n g s j : Nat} (hn8 : n ≤ 8) (hg9 : g ≤ 9) (h : valS n g s j) (v : Int32) : C E (d + 2) 23 [vR 1 2 40, vI (nI j), vI (nI s), vI v] (M, L) = some (none, (clS M s j v, L)) := by
  obtain ⟨h1, h2, h3, h4, h5⟩ := cnt9 hn8 hg9 h
  have hs := h.1
  rcases (show s = 0 ∨ s = 1 ∨ s = 2 ∨ s = 3 ∨ s = 4 ∨ s = 5 ∨ s = 6 ∨ s = 7 ∨ s = 8 by omega) with rfl | rfl | rfl | rfl | rfl | rfl | rfl | rfl | rfl
  · exact e23_0 E d M L 40 v (by omega)
  · exact e23_1 E d M L 40 v (by omega)
  · exact e23_2 E d M L 40 v (by omega)
  · exact e23_3 E d M L 40 v (by omega)
  · exact e23_4 E d M L 40 v (by omega)
  · exact e23_5 E d M L 40 v (by omega)
  · exact e23_6 E d M L 40 v (by omega)
  · exact e23_7 E (d + 1) M L 40 (nI j) v
  · exact e23_8 E (d + 1) M L 40 (nI j) v
theorem e166 (M : Nat → Nat → Int32) {n g s : Nat} (hn : M 400 6 = nI n) (hg : M 400 7 = nI g) (hn8 : n ≤ 8) (hg9 : g ≤ 9) (hs : s ≤ 8) (p : Int32) : (∃ j, p = nI j ∧ valS n g s j ∧ C E (d + 3) 166 [vR 1 12 400, vI p, vI (nI s)] (M, L) = some (some (vI (nI (plN s j))), (M, L))) ∨ ((¬ (0 ≤ p.toInt ∧ p.toInt < (cntS n g s : Int))) ∧ C E (d + 3) 166 [vR 1 12 400, vI p, vI (nI s)] (M, L) = some (some (vI (-1 : Int32)), (M, L))) := by
  have hts : (nI s).toInt = (s : Int) := t_nI (by omega)
  by_cases h : 0 ≤ p.toInt ∧ p.toInt < (cntS n g s : Int)
  · left
    obtain ⟨j, hj, e⟩ := nI_ex h.1 h.2
    have hv : valS n g s j := ⟨hs, hj⟩
    obtain ⟨h1, h2, h3, h4, h5⟩ := cnt9 hn8 hg9 hv
    refine ⟨j, e, hv, ?_⟩
    rw [x166, e148, bI_s, tl_i, l_0, l_2, hts]
    by_cases a : s ≤ 2
    · rw [if_neg (b1_ne (by omega)), e156 E _ L M _ hn hn8, bI_s, if_neg (b1_ne (by rw [tl_i, e]; exact inN (by omega) (h3 a))), e, show (8 : Int32) * nI s + nI j = nI (8 * s + j) from by rw [show (8 : Int32) = nI 8 from rfl]; unfold nI; rw [← Int32.ofNat_mul, ← Int32.ofNat_add]]
      unfold plN
      rw [if_pos a]
    · rw [if_pos (b1_e (by omega)), e148, bI_s, tl_i, l_3, l_6, hts]
      by_cases b : s ≤ 6
      · rw [if_neg (b1_ne (by omega)), e157 E _ L M _ hg hg9, bI_s, if_neg (b1_ne (by rw [tl_i, e]; exact inN (by omega) (h4 (by omega) b))), e]
        unfold plN
        rw [if_neg a, if_pos b]
        have : (nI s - 3 : Int32) = nI (s - 3) := by
          apply Int32.toInt_inj.mp
          rw [t_sub (by rw [hts, t_3]; omega) (by rw [hts, t_3]; omega), hts, t_3, t_nI (by omega)]
          omega
        rw [this, show (24 : Int32) + 9 * nI (s - 3) + nI j = nI (24 + 9 * (s - 3) + j) from by rw [show (24 : Int32) = nI 24 from rfl, show (9 : Int32) = nI 9 from rfl]; unfold nI; rw [← Int32.ofNat_mul, ← Int32.ofNat_add, ← Int32.ofNat_add]]
      · have hj0 : j = 0 := h5 (by omega)
        subst hj0
        rw [if_pos (b1_e (by omega)), if_pos (show p = 0 from e), e148, bI_s, tl_i, l_7, l_8, hts, if_neg (b1_ne (by omega))]
        unfold plN
        rw [if_neg a, if_neg b]
        have : ((60 : Int32) + nI s - 7) = nI (60 + (s - 7) + 0) := by
          rw [show (60 : Int32) + nI s = nI (60 + s) from nI_add 60 s]
          apply Int32.toInt_inj.mp
          rw [t_sub (by rw [t_nI (by omega), t_7]; omega) (by rw [t_nI (by omega), t_7]; omega), t_nI (by omega), t_7, t_nI (by omega)]
          omega
        rw [this]
  · right
    refine ⟨h, ?_⟩
    unfold cntS at h
    rw [x166, e148, bI_s, tl_i, l_0, l_2, hts]
    by_cases a : s ≤ 2
    · rw [if_pos a] at h
      rw [if_neg (b1_ne (by omega)), e156 E _ L M _ hn hn8, bI_s, if_pos (b1_e (by rw [tl_i]; exact h))]
    · rw [if_neg a] at h
      rw [if_pos (b1_e (by omega)), e148, bI_s, tl_i, l_3, l_6, hts]
      by_cases b : s ≤ 6
      · rw [if_pos b] at h
        rw [if_neg (b1_ne (by omega)), e157 E _ L M _ hg hg9, bI_s, if_pos (b1_e (by rw [tl_i]; exact h))]
      · rw [if_neg b, if_pos hs] at h
        have hp : ¬ p = 0 := fun q => h (by rw [q, t_0]; omega)
        rw [if_pos (b1_e (by omega)), if_neg hp]
theorem e167 (M : Nat → Nat → Int32) {n s : Nat} (hn : M 400 6 = nI n) (hn8 : n ≤ 8) (hs : s ≤ 8) (v : Int32) : C E (d + 4) 167 [vR 1 12 400, vI (nI s), vI v] (M, L) = some (some (vI (b1 (okN n s v))), (M, L)) := by
  rcases (show s = 0 ∨ s = 1 ∨ s = 2 ∨ s = 3 ∨ s = 4 ∨ s = 5 ∨ s = 6 ∨ s = 7 ∨ s = 8 by omega) with rfl | rfl | rfl | rfl | rfl | rfl | rfl | rfl | rfl
  · rw [← n_0, x167, if_pos rfl, e148, bI_s, bz, tl_i, l_1, l_9]
    rfl
  · rw [← n_1, x167, if_neg (by decide), if_pos rfl, e148, bI_s, bz, tl_i, l_0, l_99]
    rfl
  · rw [← n_2, x167, if_neg (by decide), if_neg (by decide), if_pos rfl, e148, bI_s, bz, tl_i, l_0, l_9]
    rfl
  · rw [← n_3, x167, if_neg (by decide), if_neg (by decide), if_neg (by decide), if_pos rfl, e148, bI_s, bz, tl_i, l_0, l_99]
    rfl
  · rw [← n_4, x167, if_neg (by decide), if_neg (by decide), if_neg (by decide), if_neg (by decide), if_pos rfl, e148, bI_s, bz, tl_i, l_0, l_9]
    rfl
  · rw [← n_5, x167, if_neg (by decide), if_neg (by decide), if_neg (by decide), if_neg (by decide), if_neg (by decide), if_pos rfl, e148, bI_s, bz, tl_i, l_0, l_9]
    rfl
  · rw [← n_6, x167, if_neg (by decide), if_neg (by decide), if_neg (by decide), if_neg (by decide), if_neg (by decide), if_neg (by decide), if_pos rfl, e160 E _ L M _ hn hn8, bI_s, bz, tl_i]
    rfl
  · rw [← n_7, x167, if_neg (by decide), if_neg (by decide), if_neg (by decide), if_neg (by decide), if_neg (by decide), if_neg (by decide), if_neg (by decide), if_pos rfl, e148, bI_s, bz, tl_i, l_0, l_99]
    rfl
  · rw [← n_8, x167, if_neg (by decide), if_neg (by decide), if_neg (by decide), if_neg (by decide), if_neg (by decide), if_neg (by decide), if_neg (by decide), if_neg (by decide), if_pos rfl, e148, bI_s, bz, tl_i, l_0, l_6]
    rfl
end BYS
theorem Rc.rd {M : Nat → Nat → Int32} {n g s j : Nat} (h : Rc M n g) (hv : valS n g s j) : M 401 (plN s j) = rdS M s j ∧ okN n s (rdS M s j) := by
  obtain ⟨h1, h2, h3, h4, h5⟩ := cnt9 h.1 h.2.1 hv
  obtain ⟨q1, q2, q3, q4, q5, q6, q7⟩ := h
  have hs := hv.1
  rcases (show s = 0 ∨ s = 1 ∨ s = 2 ∨ s = 3 ∨ s = 4 ∨ s = 5 ∨ s = 6 ∨ s = 7 ∨ s = 8 by omega) with rfl | rfl | rfl | rfl | rfl | rfl | rfl | rfl | rfl
  · exact ⟨(by rw [show plN 0 j = j from by unfold plN; simp]; exact (q6 j (h3 (by omega))).1.1), (q6 j (h3 (by omega))).2.1⟩
  · exact ⟨(by rw [show plN 1 j = 8 * 1 + j from rfl]; exact (q6 j (h3 (by omega))).1.2.1), (q6 j (h3 (by omega))).2.2.1⟩
  · exact ⟨(by rw [show plN 2 j = 8 * 2 + j from rfl]; exact (q6 j (h3 (by omega))).1.2.2.1), (q6 j (h3 (by omega))).2.2.2.1⟩
  · exact ⟨(q7 j (h4 (by omega) (by omega))).1.1, (q7 j (h4 (by omega) (by omega))).2.1⟩
  · exact ⟨(q7 j (h4 (by omega) (by omega))).1.2.1, (q7 j (h4 (by omega) (by omega))).2.2.1⟩
  · exact ⟨(q7 j (h4 (by omega) (by omega))).1.2.2.1, (q7 j (h4 (by omega) (by omega))).2.2.2.1⟩
  · exact ⟨(q7 j (h4 (by omega) (by omega))).1.2.2.2, (q7 j (h4 (by omega) (by omega))).2.2.2.2⟩
  · have := h5 (by omega)
    subst this
    exact ⟨q4.1, q4.2⟩
  · have := h5 (by omega)
    subst this
    exact ⟨q5.1, q5.2⟩
theorem Rc.set {M M' : Nat → Nat → Int32} {n g s j : Nat} {v : Int32} (h : Rc M n g) (hv : valS n g s j) (ho : okN n s v) (q1 : ∀ c, (40 ≤ c ∧ c ≤ 49) → M' c = clS M s j v c) (q2 : M' 401 = u2 M 401 (plN s j) v 401) (q3 : ∀ c, c = 409 ∨ c = 410 → M' c = M c) (q4 : ∀ i, i = 6 ∨ i = 7 → M' 400 i = M 400 i) : Rc M' n g := by
  obtain ⟨h1, h2, h3, h4, h5⟩ := cnt9 h.1 h.2.1 hv
  obtain ⟨r1, r2, r3, r4, r5, r6, r7⟩ := h
  have hs := hv.1
  have e40 := q1 40 (by omega)
  have e41 := q1 41 (by omega)
  have e42 := q1 42 (by omega)
  have e43 := q1 43 (by omega)
  have e44 := q1 44 (by omega)
  have e45 := q1 45 (by omega)
  have e46 := q1 46 (by omega)
  have e47 := q1 47 (by omega)
  have e48 := q1 48 (by omega)
  have e49 := q1 49 (by omega)
  have e9 := q3 409 (by omega)
  have e10 := q3 410 (by omega)
  have e6 := q4 6 (by omega)
  have e7 := q4 7 (by omega)
  unfold Rc Rbr Rbg
  rw [e40, e41, e42, e43, e44, e45, e46, e47, e48, e49, q2, e9, e10, e6, e7]
  rcases (show s = 0 ∨ s = 1 ∨ s = 2 ∨ s = 3 ∨ s = 4 ∨ s = 5 ∨ s = 6 ∨ s = 7 ∨ s = 8 by omega) with rfl | rfl | rfl | rfl | rfl | rfl | rfl | rfl | rfl
  · have hcl : clS M 0 j v = u2 M 43 j v := rfl
    have hpl : plN 0 j = j := by unfold plN; simp
    rw [hcl, hpl]
    refine ⟨r1, r2, ?_, ?_, ?_, fun k hk => ?_, fun p hp => ?_⟩
    · simp (disch := omega) only [u2_o, u2_n, u2_s, Nat.add_zero]; exact r3
    · simp (disch := omega) only [u2_o, u2_n, u2_s, Nat.add_zero]; exact r4
    · simp (disch := omega) only [u2_o, u2_n, u2_s, Nat.add_zero]; exact r5
    · obtain ⟨⟨a1, a2, a3, a4, a5⟩, b1', b2, b3, b4⟩ := r6 k hk
      by_cases e : k = j
      · subst e; simp (disch := omega) only [u2_o, u2_n, u2_s, Nat.add_zero]; exact ⟨⟨trivial, a2, a3, a4, a5⟩, ho, b2, b3, b4⟩
      · simp (disch := omega) only [u2_o, u2_n, u2_s, Nat.add_zero]; exact r6 k hk
    · have := h3 (by omega); simp (disch := omega) only [u2_o, u2_n, u2_s, Nat.add_zero]; exact r7 p hp
  · have hcl : clS M 1 j v = u2 M 44 j v := rfl
    have hpl : plN 1 j = 8 + j := rfl
    rw [hcl, hpl]
    refine ⟨r1, r2, ?_, ?_, ?_, fun k hk => ?_, fun p hp => ?_⟩
    · simp (disch := omega) only [u2_o, u2_n, u2_s, Nat.add_zero]; exact r3
    · simp (disch := omega) only [u2_o, u2_n, u2_s, Nat.add_zero]; exact r4
    · simp (disch := omega) only [u2_o, u2_n, u2_s, Nat.add_zero]; exact r5
    · obtain ⟨⟨a1, a2, a3, a4, a5⟩, b1', b2, b3, b4⟩ := r6 k hk
      by_cases e : k = j
      · subst e; simp (disch := omega) only [u2_o, u2_n, u2_s, Nat.add_zero]; exact ⟨⟨a1, trivial, a3, a4, a5⟩, b1', ho, b3, b4⟩
      · simp (disch := omega) only [u2_o, u2_n, u2_s, Nat.add_zero]; exact r6 k hk
    · have := h3 (by omega); simp (disch := omega) only [u2_o, u2_n, u2_s, Nat.add_zero]; exact r7 p hp
  · have hcl : clS M 2 j v = u2 M 45 j v := rfl
    have hpl : plN 2 j = 16 + j := rfl
    rw [hcl, hpl]
    refine ⟨r1, r2, ?_, ?_, ?_, fun k hk => ?_, fun p hp => ?_⟩
    · simp (disch := omega) only [u2_o, u2_n, u2_s, Nat.add_zero]; exact r3
    · simp (disch := omega) only [u2_o, u2_n, u2_s, Nat.add_zero]; exact r4
    · simp (disch := omega) only [u2_o, u2_n, u2_s, Nat.add_zero]; exact r5
    · obtain ⟨⟨a1, a2, a3, a4, a5⟩, b1', b2, b3, b4⟩ := r6 k hk
      by_cases e : k = j
      · subst e; simp (disch := omega) only [u2_o, u2_n, u2_s, Nat.add_zero]; exact ⟨⟨a1, a2, trivial, a4, a5⟩, b1', b2, ho, b4⟩
      · simp (disch := omega) only [u2_o, u2_n, u2_s, Nat.add_zero]; exact r6 k hk
    · have := h3 (by omega); simp (disch := omega) only [u2_o, u2_n, u2_s, Nat.add_zero]; exact r7 p hp
  · have hcl : clS M 3 j v = u2 M 46 j v := rfl
    have hpl : plN 3 j = 24 + j := rfl
    rw [hcl, hpl]
    refine ⟨r1, r2, ?_, ?_, ?_, fun k hk => ?_, fun p hp => ?_⟩
    · simp (disch := omega) only [u2_o, u2_n, u2_s, Nat.add_zero]; exact r3
    · simp (disch := omega) only [u2_o, u2_n, u2_s, Nat.add_zero]; exact r4
    · simp (disch := omega) only [u2_o, u2_n, u2_s, Nat.add_zero]; exact r5
    · have := h4 (by omega) (by omega); simp (disch := omega) only [u2_o, u2_n, u2_s, Nat.add_zero]; exact r6 k hk
    · obtain ⟨⟨a1, a2, a3, a4⟩, b1', b2, b3, b4⟩ := r7 p hp
      have := h4 (by omega) (by omega)
      by_cases e : p = j
      · subst e; simp (disch := omega) only [u2_o, u2_n, u2_s, Nat.add_zero]; exact ⟨⟨trivial, a2, a3, a4⟩, ho, b2, b3, b4⟩
      · simp (disch := omega) only [u2_o, u2_n, u2_s, Nat.add_zero]; exact r7 p hp
  · have hcl : clS M 4 j v = u2 M 47 j v := rfl
    have hpl : plN 4 j = 33 + j := rfl
    rw [hcl, hpl]
    refine ⟨r1, r2, ?_, ?_, ?_, fun k hk => ?_, fun p hp => ?_⟩
    · simp (disch := omega) only [u2_o, u2_n, u2_s, Nat.add_zero]; exact r3
    · simp (disch := omega) only [u2_o, u2_n, u2_s, Nat.add_zero]; exact r4
    · simp (disch := omega) only [u2_o, u2_n, u2_s, Nat.add_zero]; exact r5
    · have := h4 (by omega) (by omega); simp (disch := omega) only [u2_o, u2_n, u2_s, Nat.add_zero]; exact r6 k hk
    · obtain ⟨⟨a1, a2, a3, a4⟩, b1', b2, b3, b4⟩ := r7 p hp
      have := h4 (by omega) (by omega)
      by_cases e : p = j
      · subst e; simp (disch := omega) only [u2_o, u2_n, u2_s, Nat.add_zero]; exact ⟨⟨a1, trivial, a3, a4⟩, b1', ho, b3, b4⟩
      · simp (disch := omega) only [u2_o, u2_n, u2_s, Nat.add_zero]; exact r7 p hp
  · have hcl : clS M 5 j v = u2 M 48 j v := rfl
    have hpl : plN 5 j = 42 + j := rfl
    rw [hcl, hpl]
    refine ⟨r1, r2, ?_, ?_, ?_, fun k hk => ?_, fun p hp => ?_⟩
    · simp (disch := omega) only [u2_o, u2_n, u2_s, Nat.add_zero]; exact r3
    · simp (disch := omega) only [u2_o, u2_n, u2_s, Nat.add_zero]; exact r4
    · simp (disch := omega) only [u2_o, u2_n, u2_s, Nat.add_zero]; exact r5
    · have := h4 (by omega) (by omega); simp (disch := omega) only [u2_o, u2_n, u2_s, Nat.add_zero]; exact r6 k hk
    · obtain ⟨⟨a1, a2, a3, a4⟩, b1', b2, b3, b4⟩ := r7 p hp
      have := h4 (by omega) (by omega)
      by_cases e : p = j
      · subst e; simp (disch := omega) only [u2_o, u2_n, u2_s, Nat.add_zero]; exact ⟨⟨a1, a2, trivial, a4⟩, b1', b2, ho, b4⟩
      · simp (disch := omega) only [u2_o, u2_n, u2_s, Nat.add_zero]; exact r7 p hp
  · have hcl : clS M 6 j v = u2 M 49 j v := rfl
    have hpl : plN 6 j = 51 + j := rfl
    rw [hcl, hpl]
    refine ⟨r1, r2, ?_, ?_, ?_, fun k hk => ?_, fun p hp => ?_⟩
    · simp (disch := omega) only [u2_o, u2_n, u2_s, Nat.add_zero]; exact r3
    · simp (disch := omega) only [u2_o, u2_n, u2_s, Nat.add_zero]; exact r4
    · simp (disch := omega) only [u2_o, u2_n, u2_s, Nat.add_zero]; exact r5
    · have := h4 (by omega) (by omega); simp (disch := omega) only [u2_o, u2_n, u2_s, Nat.add_zero]; exact r6 k hk
    · obtain ⟨⟨a1, a2, a3, a4⟩, b1', b2, b3, b4⟩ := r7 p hp
      have := h4 (by omega) (by omega)
      by_cases e : p = j
      · subst e; simp (disch := omega) only [u2_o, u2_n, u2_s, Nat.add_zero]; exact ⟨⟨a1, a2, a3, trivial⟩, b1', b2, b3, ho⟩
      · simp (disch := omega) only [u2_o, u2_n, u2_s, Nat.add_zero]; exact r7 p hp
  · have hcl : clS M 7 j v = u2 M 40 13 v := rfl
    have hpl : plN 7 j = 60 + j := rfl
    rw [hcl, hpl]
    refine ⟨r1, r2, ?_, ?_, ?_, fun k hk => ?_, fun p hp => ?_⟩
    · simp (disch := omega) only [u2_o, u2_n, u2_s, Nat.add_zero]; exact r3
    · have := h5 (by omega); subst this; simp (disch := omega) only [u2_o, u2_n, u2_s, Nat.add_zero]; exact ⟨trivial, ho⟩
    · simp (disch := omega) only [u2_o, u2_n, u2_s, Nat.add_zero]; exact r5
    · simp (disch := omega) only [u2_o, u2_n, u2_s, Nat.add_zero]; exact r6 k hk
    · simp (disch := omega) only [u2_o, u2_n, u2_s, Nat.add_zero]; exact r7 p hp
  · have hcl : clS M 8 j v = u2 M 40 14 v := rfl
    have hpl : plN 8 j = 61 + j := rfl
    rw [hcl, hpl]
    refine ⟨r1, r2, ?_, ?_, ?_, fun k hk => ?_, fun p hp => ?_⟩
    · simp (disch := omega) only [u2_o, u2_n, u2_s, Nat.add_zero]; exact r3
    · simp (disch := omega) only [u2_o, u2_n, u2_s, Nat.add_zero]; exact r4
    · have := h5 (by omega); subst this; simp (disch := omega) only [u2_o, u2_n, u2_s, Nat.add_zero]; exact ⟨trivial, ho⟩
    · simp (disch := omega) only [u2_o, u2_n, u2_s, Nat.add_zero]; exact r6 k hk
    · simp (disch := omega) only [u2_o, u2_n, u2_s, Nat.add_zero]; exact r7 p hp
