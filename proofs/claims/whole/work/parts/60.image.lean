/-! an image, and laid back -/
section IMAGE
variable (E : Nat × (Nat → Int32)) (d : Nat) (L : Nat → Nat → Int64)
theorem cp5 (M : Nat → Nat → Int32) (a b : Nat) : C E (d + 1) 999 [vR 2 5 a, vI (0 : Int32), vR 2 5 b, vI (0 : Int32), vI (5 : Int32)] (M, L) = some (none, (c2 M a b 0 0 5, L)) := e999 E d M L (sp := 0) (dp := 0) (n := 5) (by omega) (by omega) (by omega) (by omega)
theorem e39l (M : Nat → Nat → Int32) : C E (d + 1) 39 [vR 1 4 280, vI (0 : Int32)] (M, L) = some (some (vI (M 281 0)), (M, L)) := by
  rw [x39, if_neg (by decide), if_neg (by decide), if_pos (by decide), ix_l0]
/-- one row after another -/
def lp (f : Nat → Int32) (g : Nat → Int32) (a n : Nat) : Nat → Int32 := fun i => if a ≤ i ∧ i < a + n then f i else g i
theorem op_image : Opk E d 131 227 [] := by
  intro M L h
  have hR := h
  obtain ⟨n, g, kf, hc, ⟨hl, hrl⟩, ht, hch, hld, hi, ha, hs⟩ := h
  obtain ⟨hn, hn', hg, hg'⟩ := hc.2.2.1
  have hn8 := hc.1
  have hg9 := hc.2.1
  obtain ⟨M0, e0, f0, k0⟩ := e25 E (d + 96) L M 290 40 (by omega)
  have k0 := k0 _ _ (hc.ch kf) hn8 hg9
  have G1 : C E (d + 100) 131 [vR 1 11 10] (M, L) = some (some (vI (M 281 0)), (u2 (c2 M0 281 282 0 0 5) 280 3 1, L)) := by
    rw [x131, x41, e0, bV_s, cp5, bV_s, bV_s, e39l, bI_s]
    simp only
    rw [u2_o (by omega), c2_o (by omega), f0 281 (by omega)]
  generalize hM1 : u2 (c2 M0 281 282 0 0 5) 280 3 1 = M1 at G1
  have F1 : ∀ c, ¬ ((290 ≤ c ∧ c ≤ 301) ∨ c = 280 ∨ c = 282) → M1 c = M c := fun c q => by
    rw [← hM1, u2_o (by omega), c2_o (by omega), f0 c (by omega)]
  have e400 := F1 400 (by omega)
  have l1 : ∀ r k (M4 : Nat → Nat → Int32), k + r = 62 → (∀ c, c ≠ 439 → c ≠ 400 → M4 c = M1 c) → (∀ j, j ≠ 35 → j ≠ 36 → j ≠ 37 → M4 400 j = M1 400 j) → M4 400 35 = 1 → M4 400 36 = nI n → M4 400 37 = nI g → (∀ i, i < k → M4 439 i = M 401 i) → ∃ M5, X E (d + 99) me227 23 [some (vR 1 12 400), some (vI (nI k))] [] (M4, L) = X E (d + 99) me227 49 [some (vR 1 12 400), some (vI (nI 0))] [] (M5, L) ∧ (∀ c, c ≠ 439 → c ≠ 400 → M5 c = M1 c) ∧ (∀ j, j ≠ 35 → j ≠ 36 → j ≠ 37 → M5 400 j = M1 400 j) ∧ M5 400 35 = 1 ∧ M5 400 36 = nI n ∧ M5 400 37 = nI g ∧ ∀ i, i < 62 → M5 439 i = M 401 i := by
    intro r
    induction r with
    | zero =>
      intro k M4 hk q1 q2 q3 q4 q5 q6
      have e : k = 62 := by omega
      refine ⟨M4, ?_, q1, q2, q3, q4, q5, by rw [← e]; exact q6⟩
      rw [x227_23, e, if_pos (show (61 : Int32) < nI 62 by decide)]
      rfl
    | succ r ih =>
      intro k M4 hk q1 q2 q3 q4 q5 q6
      have hib : ib (nI k) 62 := by rw [ib_nI (by omega)]; omega
      rw [x227_23, if_neg (show ¬ (61 : Int32) < nI k from nI_nlt (a := 61) (by omega) (by omega)), if_pos hib, if_pos hib, ix_nI (by omega), nI_1]
      refine ih (k + 1) _ (by omega) (fun c z1 z2 => by rw [u2_o z1]; exact q1 c z1 z2) (fun j z1 z2 z3 => by rw [u2_o (by omega)]; exact q2 j z1 z2 z3) (by rw [u2_o (by omega)]; exact q3) (by rw [u2_o (by omega)]; exact q4) (by rw [u2_o (by omega)]; exact q5) (fun i hi => ?_)
      by_cases e : i = k
      · rw [e, u2_s, q1 401 (by omega) (by omega), F1 401 (by omega)]
      · rw [u2_n e]; exact q6 i (by omega)
  obtain ⟨M5, e5, a1, a2, a3, a4, a5, a6⟩ := l1 62 0 (u2 (u2 (u2 M1 400 35 1) 400 36 (nI n)) 400 37 (nI g)) (by omega) (fun c z1 z2 => by simp (disch := omega) only [u2_o]) (fun j z1 z2 z3 => by simp (disch := omega) only [u2_n]) (by simp (disch := omega) only [u2_n, u2_s]) (by simp (disch := omega) only [u2_n, u2_s]) (by simp (disch := omega) only [u2_n, u2_s]) (fun i hi => absurd hi (by omega))
  have l2 : ∀ r k (M6 : Nat → Nat → Int32), k + r = 5 → (∀ c, c ≠ 440 → M6 c = M5 c) → (∀ i, i < k → M6 440 i = M 435 i) → ∃ M7, X E (d + 99) me227 49 [some (vR 1 12 400), some (vI (nI k))] [] (M6, L) = some (some (vI (M 435 0)), (M7, L)) ∧ (∀ c, c ≠ 440 → M7 c = M5 c) ∧ ∀ i, i < 5 → M7 440 i = M 435 i := by
    intro r
    induction r with
    | zero =>
      intro k M6 hk q1 q2
      have e : k = 5 := by omega
      refine ⟨M6, ?_, q1, by rw [← e]; exact q2⟩
      rw [x227_49, e, if_pos (show (5 : Int32) ≤ nI 5 by decide), if_pos (show ib (0 : Int32) 5 by decide), ix_l0, q1 435 (by omega), a1 435 (by omega) (by omega), F1 435 (by omega)]
    | succ r ih =>
      intro k M6 hk q1 q2
      have hib : ib (nI k) 5 := by rw [ib_nI (by omega)]; omega
      rw [x227_49, if_neg (show ¬ (5 : Int32) ≤ nI k from nI_ge (b := 5) (by omega) (by omega)), if_pos hib, if_pos hib, ix_nI (by omega), nI_1]
      refine ih (k + 1) _ (by omega) (fun c z => by rw [u2_o z]; exact q1 c z) (fun i hi => ?_)
      by_cases e : i = k
      · rw [e, u2_s, q1 435 (by omega), a1 435 (by omega) (by omega), F1 435 (by omega)]
      · rw [u2_n e]; exact q2 i (by omega)
  obtain ⟨M2, e6, b1', b2'⟩ := l2 5 0 M5 (by omega) (fun _ _ => rfl) (fun i hi => absurd hi (by omega))
  have G2 : C E (d + 100) 227 [vR 1 12 400] (M1, L) = some (some (vI (M 281 0)), (M2, L)) := by
    rw [x227]
    simp (disch := omega) only [u2_n, u2_s, e400, hn', hg']
    rw [show (0 : Int32) = nI 0 from rfl]
    rw [e5, e6, hld 0 (by omega)]
  have F : ∀ c, ¬ ((290 ≤ c ∧ c ≤ 301) ∨ c = 280 ∨ c = 282 ∨ c = 439 ∨ c = 440 ∨ c = 400) → M2 c = M c := fun c q => by
    rw [b1' c (by omega), a1 c (by omega) (by omega), F1 c (by omega)]
  have G : ∀ j : Nat, j ≠ 35 → j ≠ 36 → j ≠ 37 → M2 400 j = M 400 j := fun j z1 z2 z3 => by
    rw [b1' 400 (by omega), a2 j z1 z2 z3, e400]
  have D : ∀ c, 290 ≤ c → c ≤ 299 → M2 c = M0 c := fun c z1 z2 => by
    rw [b1' c (by omega), a1 c (by omega) (by omega), ← hM1, u2_o (by omega), c2_o (by omega)]
  obtain ⟨j1, j2, j3, j4, j5, j6⟩ := k0
  obtain ⟨r1, r2, r3, r4, r5, r6, r7⟩ := id hc
  refine ⟨_, _, _, _, _, G1, G2, n, g, kf, hc.kp (fun c q1 q2 => F c (by omega)) (fun c q => F c (by omega)) (fun j q => G j (by omega) (by omega) (by omega)), ⟨(hl.keep4 (by rw [F 90 (by omega)]) (F 91 (by omega)) (F 92 (by omega))), hrl.keep (G 24 (by omega) (by omega) (by omega)) (F 422 (by omega)) (F 423 (by omega)) (F 424 (by omega))⟩, ht.kp (by rw [F 70 (by omega)]) (G 11 (by omega) (by omega) (by omega)) (F 411 (by omega)) (F 71 (by omega)), hch.kp (fun c q1 q2 => F c (by omega)) (fun c q1 q2 => F c (by omega)) (fun c q => G c (by omega) (by omega) (by omega)), (hld.kp (F 435 (by omega)) (F 281 (by omega))), ?_, ha.kp (fun c q1 q2 => F c (by omega)) (F 442 (by omega)) (F 443 (by omega)) (fun c q => G c (by omega) (by omega) (by omega)), (hs.kp (F 331 (by omega)) (F 332 (by omega)) (F 447 (by omega)) (F 448 (by omega)) (by rw [F 320 (by omega)]))⟩
  right
  have e282 : ∀ i, i < 5 → M2 282 i = M 281 i := fun i hi => by
    rw [b1' 282 (by omega), a1 282 (by omega) (by omega), ← hM1, u2_o (by omega), c2_i hi, f0 281 (by omega)]
  refine ⟨?_, ?_, fun i hi => ?_, n, g, Nat.le_refl _, Nat.le_refl _, ?_, ?_, ?_, ?_, ⟨?_, ?_⟩, fun k hk => ?_, fun p hp => ?_⟩
  · rw [b1' 280 (by omega), a1 280 (by omega) (by omega), ← hM1, u2_s]
  · rw [b1' 400 (by omega), a3]
  · rw [b2' i hi, e282 i hi, hld i hi]
  · rw [D 290 (by omega) (by omega)]; exact j1
  · rw [b1' 400 (by omega), a4]
  · rw [D 290 (by omega) (by omega)]; exact j2
  · rw [b1' 400 (by omega), a5]
  · rw [b1' 439 (by omega), a6 61 (by omega), D 290 (by omega) (by omega), j4]; exact r5.1
  · rw [D 290 (by omega) (by omega), j4]; exact r5.2
  · rw [b1' 439 (by omega), a6 (8 + k) (by omega), D 294 (by omega) (by omega)]
    have := (j5 k hk).2.1
    have := (r6 k hk)
    rw [show (294 : Nat) = 290 + 4 from rfl, (j5 k hk).2.1]
    exact ⟨this.1.2.1, this.2.2.1⟩
  · have := (r7 p hp)
    rw [b1' 439 (by omega), a6 (24 + p) (by omega), a6 (51 + p) (by omega), D 296 (by omega) (by omega), D 299 (by omega) (by omega), show (296 : Nat) = 290 + 6 from rfl, show (299 : Nat) = 290 + 9 from rfl, (j6 p hp).1, (j6 p hp).2.2.2]
    exact ⟨⟨this.1.1, this.2.1⟩, this.1.2.2.2, this.2.2.2.2⟩
theorem op_back : Opk E d 132 228 [] := by
  intro M L h
  have hR := h
  obtain ⟨n, g, kf, hc, ⟨hl, hrl⟩, ht, hch, hld, hi, ha, hs⟩ := h
  obtain ⟨hn, hn', hg, hg'⟩ := hc.2.2.1
  have hn8 := hc.1
  have hg9 := hc.2.1
  rcases id hi with ⟨z1, z2⟩ | ⟨z1, z2, z3, n', g', z4, z5, z6, z7, z8, z9, z10, z11, z12⟩
  · refine opq E d hR (r := -5) (M1 := M) (M2 := M) ?_ (Kp.re M) ?_ (Kp.re M)
    · rw [x132, if_pos z1]
    · rw [x228, if_pos z2]
  · -- the class
    have cl1 : ∀ r k (M4 : Nat → Nat → Int32), k + r = n' → (∀ c, c ≠ 44 → M4 c = M c) → (∀ i, M4 44 i = if i < k then M 294 i else M 44 i) → ∃ M5, X E (d + 98) me42 2 [some (vR 1 4 280), some (vR 1 2 40), some (vI (nI k))] [] (M4, L) = X E (d + 98) me42 36 [some (vR 1 4 280), some (vR 1 2 40), some (vI (nI 0))] [] (M5, L) ∧ (∀ c, c ≠ 44 → M5 c = M c) ∧ (∀ i, M5 44 i = if i < n' then M 294 i else M 44 i) := by
      intro r
      induction r with
      | zero =>
        intro k M4 hk hf hv
        have e : k = n' := by omega
        refine ⟨M4, ?_, hf, by rw [← e]; exact hv⟩
        rw [x42_2, hf 290 (by omega), z6, e, if_pos (nI_le (Nat.le_refl _) (by omega))]
        rfl
      | succ r ih =>
        intro k M4 hk hf hv
        rw [x42_2, hf 290 (by omega), z6, if_neg (nI_ge (by omega) (by omega)), e22_1 E _ M4 L 290 (by omega), bI_s, e23_1 E _ M4 L 40 _ (by omega), bV_s, nI_1, hf (290 + 4) (by omega)]
        refine ih (k + 1) _ (by omega) (fun c q => by rw [u2_o (a := 40 + 4) (by omega)]; exact hf c q) (fun i => ?_)
        rw [u2_ap, if_pos rfl]
        by_cases e : i = k
        · rw [if_pos e, if_pos (by omega), e]
        · rw [if_neg e, hv i]
          by_cases e2 : i < k
          · rw [if_pos e2, if_pos (by omega)]
          · rw [if_neg e2, if_neg (by omega)]
    obtain ⟨M5, e5, f5, v5⟩ := cl1 n' 0 M (by omega) (fun _ _ => rfl) (fun i => by rw [if_neg (by omega)])
    have cl2 : ∀ r k (M6 : Nat → Nat → Int32), k + r = g' → (∀ c, c ≠ 46 → c ≠ 49 → M6 c = M5 c) → (∀ i, M6 46 i = if i < k then M 296 i else M 46 i) → (∀ i, M6 49 i = if i < k then M 299 i else M 49 i) → ∃ M7, X E (d + 98) me42 36 [some (vR 1 4 280), some (vR 1 2 40), some (vI (nI k))] [] (M6, L) = some (none, (c2 (u2 M7 40 14 (M 290 14)) 282 281 0 0 5, L)) ∧ (∀ c, c ≠ 46 → c ≠ 49 → M7 c = M5 c) ∧ (∀ i, M7 46 i = if i < g' then M 296 i else M 46 i) ∧ (∀ i, M7 49 i = if i < g' then M 299 i else M 49 i) := by
      intro r
      induction r with
      | zero =>
        intro k M6 hk hf hv hw
        have e : k = g' := by omega
        refine ⟨M6, ?_, hf, by rw [← e]; exact hv, by rw [← e]; exact hw⟩
        rw [x42_36, hf 290 (by omega) (by omega), f5 290 (by omega), z8, e, if_pos (nI_le (Nat.le_refl _) (by omega)), e22_8 E _ M6 L 290, bI_s, e23_8 E _ M6 L 40, bV_s, cp5, bV_s, hf 290 (by omega) (by omega), f5 290 (by omega)]
      | succ r ih =>
        intro k M6 hk hf hv hw
        rw [x42_36, hf 290 (by omega) (by omega), f5 290 (by omega), z8, if_neg (nI_ge (by omega) (by omega)), e22_3 E _ M6 L 290 (by omega), bI_s, e23_3 E _ M6 L 40 _ (by omega), bV_s, e22_6 E _ _ L 290 (by omega), bI_s, e23_6 E _ _ L 40 _ (by omega), bV_s, nI_1, u2_o (c := 290 + 9) (by omega), hf (290 + 6) (by omega) (by omega), hf (290 + 9) (by omega) (by omega), f5 (290 + 6) (by omega), f5 (290 + 9) (by omega)]
        refine ih (k + 1) _ (by omega) (fun c q1 q2 => by rw [u2_o (a := 40 + 9) (by omega), u2_o (a := 40 + 6) (by omega)]; exact hf c q1 q2) (fun i => ?_) (fun i => ?_)
        · rw [u2_o (a := 40 + 9) (by omega), u2_ap, if_pos rfl]
          by_cases e : i = k
          · rw [if_pos e, if_pos (by omega), e]
          · rw [if_neg e, hv i]
            by_cases e2 : i < k
            · rw [if_pos e2, if_pos (by omega)]
            · rw [if_neg e2, if_neg (by omega)]
        · rw [u2_ap, if_pos rfl]
          by_cases e : i = k
          · rw [if_pos e, if_pos (by omega), e]
          · rw [if_neg e, u2_o (by omega), hw i]
            by_cases e2 : i < k
            · rw [if_pos e2, if_pos (by omega)]
            · rw [if_neg e2, if_neg (by omega)]
    obtain ⟨M7, e7, f7, v7, w7⟩ := cl2 g' 0 M5 (by omega) (fun _ _ _ => rfl) (fun i => by rw [if_neg (by omega), f5 46 (by omega)]) (fun i => by rw [if_neg (by omega), f5 49 (by omega)])
    have G1 : C E (d + 100) 132 [vR 1 11 10] (M, L) = some (some (vI (M 282 0)), (c2 (u2 M7 40 14 (M 290 14)) 282 281 0 0 5, L)) := by
      rw [x132, if_neg (by rw [z1]; decide), x42, show (0 : Int32) = nI 0 from rfl, e5, e7, bV_s, ← n_0, e39l, bI_s, c2_i (by omega), u2_o (by omega), f7 282 (by omega) (by omega), f5 282 (by omega)]
    generalize hM1 : c2 (u2 M7 40 14 (M 290 14)) 282 281 0 0 5 = M1 at G1
    have F1 : ∀ c, ¬ (c = 40 ∨ c = 44 ∨ c = 46 ∨ c = 49 ∨ c = 281) → M1 c = M c := fun c q => by
      rw [← hM1, c2_o (by omega), u2_o (by omega), f7 c (by omega) (by omega), f5 c (by omega)]
    have e400 := F1 400 (by omega)
    -- the reference
    have rl1 : ∀ r k (M8 : Nat → Nat → Int32), k + r = n' → (∀ c, c ≠ 401 → M8 c = M1 c) → (∀ i, M8 401 i = if 8 ≤ i ∧ i < 8 + k then M 439 i else M 401 i) → ∃ M9, X E (d + 99) me228 12 [some (vR 1 12 400), some (vI (nI k))] [] (M8, L) = X E (d + 99) me228 46 [some (vR 1 12 400), some (vI (nI 0))] [] (M9, L) ∧ (∀ c, c ≠ 401 → M9 c = M1 c) ∧ (∀ i, M9 401 i = if 8 ≤ i ∧ i < 8 + n' then M 439 i else M 401 i) := by
      intro r
      induction r with
      | zero =>
        intro k M8 hk hf hv
        have e : k = n' := by omega
        refine ⟨M8, ?_, hf, by rw [← e]; exact hv⟩
        rw [x228_12, hf 400 (by omega), e400, z7, e, if_pos (nI_le (Nat.le_refl _) (by omega))]
        rfl
      | succ r ih =>
        intro k M8 hk hf hv
        have hib : ib (nI (8 + k)) 62 := by rw [ib_nI (by omega)]; omega
        rw [x228_12, hf 400 (by omega), e400, z7, if_neg (nI_ge (by omega) (by omega)), show (8 : Int32) + nI k = nI (8 + k) from nI_add 8 k, if_pos hib, if_pos hib, ix_nI (by omega), nI_1, hf 439 (by omega), F1 439 (by omega)]
        refine ih (k + 1) _ (by omega) (fun c q => by rw [u2_o q]; exact hf c q) (fun i => ?_)
        rw [u2_ap, if_pos rfl]
        by_cases e : i = 8 + k
        · rw [if_pos e, if_pos (by omega), e]
        · rw [if_neg e, hv i]
          by_cases e2 : 8 ≤ i ∧ i < 8 + k
          · rw [if_pos e2, if_pos (by omega)]
          · rw [if_neg e2, if_neg (by omega)]
    obtain ⟨M9, e9, f9, v9⟩ := rl1 n' 0 M1 (by omega) (fun _ _ => rfl) (fun i => by rw [if_neg (by omega), F1 401 (by omega)])
    have rl2 : ∀ r k (M8 : Nat → Nat → Int32), k + r = g' → (∀ c, c ≠ 401 → M8 c = M1 c) → (∀ i, M8 401 i = if (24 ≤ i ∧ i < 24 + k) ∨ (51 ≤ i ∧ i < 51 + k) then M 439 i else M9 401 i) → ∃ M10, X E (d + 99) me228 46 [some (vR 1 12 400), some (vI (nI k))] [] (M8, L) = X E (d + 99) me228 112 [some (vR 1 12 400), some (vI (nI 0))] [] (u2 M10 401 61 (M 439 61), L) ∧ (∀ c, c ≠ 401 → M10 c = M1 c) ∧ (∀ i, M10 401 i = if (24 ≤ i ∧ i < 24 + g') ∨ (51 ≤ i ∧ i < 51 + g') then M 439 i else M9 401 i) := by
      intro r
      induction r with
      | zero =>
        intro k M8 hk hf hv
        have e : k = g' := by omega
        refine ⟨M8, ?_, hf, by rw [← e]; exact hv⟩
        rw [x228_46, hf 400 (by omega), e400, z9, e, if_pos (nI_le (Nat.le_refl _) (by omega)), if_pos (show ib (61 : Int32) 62 by decide), if_pos (show ib (61 : Int32) 62 by decide), show ix (61 : Int32) = 61 from by decide, hf 439 (by omega), F1 439 (by omega)]
        rfl
      | succ r ih =>
        intro k M8 hk hf hv
        have hib : ib (nI (24 + k)) 62 := by rw [ib_nI (by omega)]; omega
        have hib2 : ib (nI (51 + k)) 62 := by rw [ib_nI (by omega)]; omega
        rw [x228_46, hf 400 (by omega), e400, z9, if_neg (nI_ge (by omega) (by omega)), show (24 : Int32) + nI k = nI (24 + k) from nI_add 24 k, show (51 : Int32) + nI k = nI (51 + k) from nI_add 51 k, if_pos hib, if_pos hib, if_pos hib2, if_pos hib2, ix_nI (by omega), ix_nI (by omega), nI_1, u2_o (c := 439) (by omega), hf 439 (by omega), F1 439 (by omega)]
        refine ih (k + 1) _ (by omega) (fun c q => by rw [u2_o q, u2_o q]; exact hf c q) (fun i => ?_)
        have e1 : u2 (u2 M8 401 (24 + k) (M 439 (24 + k))) 401 (51 + k) (M 439 (51 + k)) 401 i = if i = 51 + k then M 439 i else if i = 24 + k then M 439 i else M8 401 i := by
          rw [u2_ap, if_pos rfl]
          by_cases q : i = 51 + k
          · rw [if_pos q, if_pos q, q]
          · rw [if_neg q, if_neg q, u2_ap, if_pos rfl]
            by_cases q2 : i = 24 + k
            · rw [if_pos q2, if_pos q2, q2]
            · rw [if_neg q2, if_neg q2]
        rw [e1]
        by_cases q : i = 51 + k
        · rw [if_pos q, if_pos (by omega)]
        · rw [if_neg q]
          by_cases q2 : i = 24 + k
          · rw [if_pos q2, if_pos (by omega)]
          · rw [if_neg q2, hv i]
            by_cases e2 : (24 ≤ i ∧ i < 24 + k) ∨ (51 ≤ i ∧ i < 51 + k)
            · rw [if_pos e2, if_pos (by omega)]
            · rw [if_neg e2, if_neg (by omega)]
    obtain ⟨M10, e10, f10, v10⟩ := rl2 g' 0 M9 (by omega) f9 (fun i => by rw [if_neg (by omega)])
    have rl3 : ∀ r k (M8 : Nat → Nat → Int32), k + r = 5 → (∀ c, c ≠ 435 → M8 c = u2 M10 401 61 (M 439 61) c) → (∀ i, i < k → M8 435 i = M 440 i) → ∃ M11, X E (d + 99) me228 112 [some (vR 1 12 400), some (vI (nI k))] [] (M8, L) = some (some (vI (M 440 0)), (M11, L)) ∧ (∀ c, c ≠ 435 → M11 c = u2 M10 401 61 (M 439 61) c) ∧ ∀ i, i < 5 → M11 435 i = M 440 i := by
      intro r
      induction r with
      | zero =>
        intro k M8 hk hf hv
        have e : k = 5 := by omega
        subst e
        refine ⟨M8, ?_, hf, hv⟩
        rw [x228_112, if_pos (show (5 : Int32) ≤ nI 5 by decide), if_pos (show ib (0 : Int32) 5 by decide), ix_l0, hv 0 (by omega)]
      | succ r ih =>
        intro k M8 hk hf hv
        have hib : ib (nI k) 5 := by rw [ib_nI (by omega)]; omega
        rw [x228_112, if_neg (show ¬ (5 : Int32) ≤ nI k from nI_ge (b := 5) (by omega) (by omega)), if_pos hib, if_pos hib, ix_nI (by omega), nI_1, hf 440 (by omega), u2_o (c := 440) (by omega), f10 440 (by omega), F1 440 (by omega)]
        refine ih (k + 1) _ (by omega) (fun c q => by rw [u2_o q]; exact hf c q) (fun i hi => ?_)
        by_cases e : i = k
        · rw [e, u2_s]
        · rw [u2_n e]; exact hv i (by omega)
    obtain ⟨M2, e11, f11, v11⟩ := rl3 5 0 (u2 M10 401 61 (M 439 61)) (by omega) (fun _ _ => rfl) (fun i hi => absurd hi (by omega))
    have G2 : C E (d + 100) 228 [vR 1 12 400] (M1, L) = some (some (vI (M 282 0)), (M2, L)) := by
      rw [x228, e400, if_neg (by rw [z2]; decide), show (0 : Int32) = nI 0 from rfl, e9, e10, e11, z3 0 (by omega)]
    have F : ∀ c, ¬ (c = 40 ∨ c = 44 ∨ c = 46 ∨ c = 49 ∨ c = 281 ∨ c = 401 ∨ c = 435) → M2 c = M c := fun c q => by
      rw [f11 c (by omega), u2_o (by omega), f10 c (by omega), F1 c (by omega)]
    have G : ∀ j : Nat, j < 1000 → M2 400 j = M 400 j := fun j _ => by rw [F 400 (by omega)]
    have D : ∀ c, c = 40 ∨ c = 44 ∨ c = 46 ∨ c = 49 ∨ c = 281 → M2 c = M1 c := fun c q => by
      rw [f11 c (by omega), u2_o (by omega), f10 c (by omega)]
    have V401 : ∀ i, M2 401 i = if i = 61 then M 439 61 else if (24 ≤ i ∧ i < 24 + g') ∨ (51 ≤ i ∧ i < 51 + g') ∨ (8 ≤ i ∧ i < 8 + n') then M 439 i else M 401 i := fun i => by
      rw [f11 401 (by omega), u2_ap, if_pos rfl, v10 i, v9 i]
      by_cases a : i = 61
      · rw [if_pos a, if_pos a]
      · rw [if_neg a, if_neg a]
        by_cases b : (24 ≤ i ∧ i < 24 + g') ∨ (51 ≤ i ∧ i < 51 + g')
        · rw [if_pos b, if_pos (by omega)]
        · rw [if_neg b]
          by_cases c : 8 ≤ i ∧ i < 8 + n'
          · rw [if_pos c, if_pos (by omega)]
          · rw [if_neg c, if_neg (by omega)]
    have V40 : ∀ j, M2 40 j = if j = 14 then M 290 14 else M 40 j := fun j => by
      rw [D 40 (by omega), ← hM1, c2_o (by omega), u2_ap, if_pos rfl, f7 40 (by omega) (by omega), f5 40 (by omega)]
    have V44 : ∀ i, M2 44 i = if i < n' then M 294 i else M 44 i := fun i => by
      rw [D 44 (by omega), ← hM1, c2_o (by omega), u2_o (by omega), f7 44 (by omega) (by omega), v5 i]
    have V46 : ∀ i, M2 46 i = if i < g' then M 296 i else M 46 i := fun i => by
      rw [D 46 (by omega), ← hM1, c2_o (by omega), u2_o (by omega), v7 i]
    have V49 : ∀ i, M2 49 i = if i < g' then M 299 i else M 49 i := fun i => by
      rw [D 49 (by omega), ← hM1, c2_o (by omega), u2_o (by omega), w7 i]
    obtain ⟨r1, r2, r3, r4, r5, r6, r7⟩ := hc
    refine ⟨_, _, _, _, _, G1, G2, n, g, kf, ⟨r1, r2, ⟨?_, ?_, ?_, ?_⟩, ⟨?_, ?_⟩, ⟨?_, ?_⟩, fun k hk => ?_, fun p hp => ?_⟩, ⟨(hl.keep4 (by rw [F 90 (by omega)]) (F 91 (by omega)) (F 92 (by omega))), (hrl.keep (G 24 (by omega)) (F 422 (by omega)) (F 423 (by omega)) (F 424 (by omega)))⟩, (ht.kp (by rw [F 70 (by omega)]) (G 11 (by omega)) (F 411 (by omega)) (F 71 (by omega))), (hch.kp (fun c q1 q2 => F c (by omega)) (fun c q1 q2 => F c (by omega)) (fun c q => G c (by omega))), fun i hi5 => ?_, (hi.kp (F 280 (by omega)) (F 282 (by omega)) (fun c q1 q2 => F c (by omega)) (F 439 (by omega)) (F 440 (by omega)) (fun c q => G c (by omega))), (ha.kp (fun c q1 q2 => F c (by omega)) (F 442 (by omega)) (F 443 (by omega)) (fun c q => G c (by omega))), (hs.kp (F 331 (by omega)) (F 332 (by omega)) (F 447 (by omega)) (F 448 (by omega)) (by rw [F 320 (by omega)]))⟩
    · rw [V40, if_neg (by omega)]; exact r3.1
    · rw [G 6 (by omega)]; exact r3.2.1
    · rw [V40, if_neg (by omega)]; exact r3.2.2.1
    · rw [G 7 (by omega)]; exact r3.2.2.2
    · rw [V401, if_neg (by omega), if_neg (by omega), V40, if_neg (by omega)]; exact r4.1
    · rw [V40, if_neg (by omega)]; exact r4.2
    · rw [V401, if_pos rfl, V40, if_pos rfl]; exact z10.1
    · rw [V40, if_pos rfl]; exact z10.2
    · obtain ⟨⟨a1, a2, a3, a4, a5⟩, b1', b2', b3'⟩ := r6 k hk
      unfold Rbr
      have t1 : M2 401 k = M 401 k := by rw [V401, if_neg (by omega), if_neg (by omega)]
      have t2 : M2 401 (16 + k) = M 401 (16 + k) := by rw [V401, if_neg (by omega), if_neg (by omega)]
      have t3 : M2 401 (8 + k) = if k < n' then M 439 (8 + k) else M 401 (8 + k) := by
        rw [V401, if_neg (by omega)]
        by_cases e : k < n'
        · rw [if_pos e, if_pos (by omega)]
        · rw [if_neg e, if_neg (by omega)]
      rw [t1, t2, t3, F 409 (by omega), F 410 (by omega), F 43 (by omega), F 41 (by omega), F 42 (by omega), F 45 (by omega), V44]
      by_cases e : k < n'
      · simp only [if_pos e]
        exact ⟨⟨a1, (z11 k e).1, a3, a4, a5⟩, b1', (z11 k e).2, b3'⟩
      · simp only [if_neg e]
        exact ⟨⟨a1, a2, a3, a4, a5⟩, b1', b2', b3'⟩
    · obtain ⟨⟨a1, a2, a3, a4⟩, b1', b2', b3', b4'⟩ := r7 p hp
      unfold Rbg
      have t1 : M2 401 (33 + p) = M 401 (33 + p) := by rw [V401, if_neg (by omega), if_neg (by omega)]
      have t2 : M2 401 (42 + p) = M 401 (42 + p) := by rw [V401, if_neg (by omega), if_neg (by omega)]
      have t3 : M2 401 (24 + p) = if p < g' then M 439 (24 + p) else M 401 (24 + p) := by
        rw [V401, if_neg (by omega)]
        by_cases e : p < g'
        · rw [if_pos e, if_pos (by omega)]
        · rw [if_neg e, if_neg (by omega)]
      have t4 : M2 401 (51 + p) = if p < g' then M 439 (51 + p) else M 401 (51 + p) := by
        rw [V401, if_neg (by omega)]
        by_cases e : p < g'
        · rw [if_pos e, if_pos (by omega)]
        · rw [if_neg e, if_neg (by omega)]
      rw [t1, t2, t3, t4, F 47 (by omega), F 48 (by omega), V46, V49]
      by_cases e : p < g'
      · simp only [if_pos e]
        obtain ⟨y1, y2, y3⟩ := z12 p e
        exact ⟨⟨y1.1, a2, a3, y2⟩, y1.2, b2', b3', y3⟩
      · simp only [if_neg e]
        exact ⟨⟨a1, a2, a3, a4⟩, b1', b2', b3', b4'⟩
    · rw [v11 i hi5, D 281 (by omega), ← hM1, c2_i hi5, u2_o (by omega), f7 282 (by omega) (by omega), f5 282 (by omega)]
      exact z3 i hi5
end IMAGE
