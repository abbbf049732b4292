/-! taken back, done again; bits -/
def popN (m : Nat) : Nat := m % 2 + m / 2 % 2 + m / 4 % 2 + m / 8 % 2 + m / 16 % 2 + m / 32 % 2 + m / 64 % 2 + m / 128 % 2 + m / 256 % 2
section BITS
variable (E : Nat × (Nat → Int32)) (d : Nat) (M : Nat → Nat → Int32) (L : Nat → Nat → Int64)
set_option maxRecDepth 100000 in
theorem e250 {m : Nat} (hm : m < 512) : C E (d + 1) 250 [vI (nI m)] (M, L) = some (some (vI (nI (popN m))), (M, L)) := by
  rw [x250]
  refine congrArg (fun z => some (some (vI z), (M, L))) ?_
  revert m
  decide +kernel
set_option maxRecDepth 100000 in
theorem e150 {m : Nat} (hm : m < 512) : C E (d + 1) 150 [vI (nI m)] (M, L) = some (some (vI (nI (popN m))), (M, L)) := by
  rw [x150, x150_4, if_neg (by decide), x150_4, if_neg (by decide), x150_4, if_neg (by decide), x150_4, if_neg (by decide), x150_4, if_neg (by decide), x150_4, if_neg (by decide), x150_4, if_neg (by decide), x150_4, if_neg (by decide), x150_4, if_neg (by decide), x150_4, if_pos (by decide)]
  refine congrArg (fun z => some (some (vI z), (M, L))) ?_
  revert m
  decide +kernel
end BITS
theorem nI_bv (m : Nat) : (nI m).toBitVec = BitVec.ofNat 32 m := rfl
theorem or_bit : ∀ k, k < 9 → ∀ m, m < 256 → nI m ||| bitI k = nI (m ||| 2 ^ k) := by decide +kernel
theorem sd_small (S : Nat → Int32) : ∀ n, n ≤ 8 → ∃ m, m < 2 ^ n ∧ sdB S n = nI m
  | 0, _ => ⟨0, by omega, rfl⟩
  | n + 1, h => by
    obtain ⟨m, hm, e⟩ := sd_small S n (by omega)
    have h2 : 2 ^ n ≤ 2 ^ 7 := Nat.pow_le_pow_right (by omega) (by omega)
    have h3 : 2 ^ (n + 1) = 2 ^ n * 2 := Nat.pow_succ _ _
    unfold sdB
    split
    · refine ⟨m ||| 2 ^ n, Nat.or_lt_two_pow (by omega) (by omega), ?_⟩
      rw [e, or_bit n (by omega) m (by omega)]
    · exact ⟨m, by omega, e⟩
theorem sd_256 (S : Nat → Int32) {n : Nat} (hn : n ≤ 8) : ∃ m, m < 256 ∧ sdB S n = nI m := by
  obtain ⟨m, hm, e⟩ := sd_small S n hn
  have h2 : 2 ^ n ≤ 2 ^ 8 := Nat.pow_le_pow_right (by omega) hn
  exact ⟨m, by omega, e⟩
theorem and_small {m : Nat} (hm : m < 512) (y : Int32) : ∃ m', m' ≤ m ∧ nI m &&& y = nI m' := by
  refine ⟨m &&& y.toBitVec.toNat, Nat.and_le_left, ?_⟩
  have h1 : m &&& y.toBitVec.toNat ≤ m := Nat.and_le_left
  apply Int32.toBitVec.inj
  apply BitVec.eq_of_toNat_eq
  show ((nI m).toBitVec &&& y.toBitVec).toNat = (nI (m &&& y.toBitVec.toNat)).toBitVec.toNat
  rw [BitVec.toNat_and, nI_bv, nI_bv, BitVec.toNat_ofNat, BitVec.toNat_ofNat, Nat.mod_eq_of_lt (by omega), Nat.mod_eq_of_lt (by omega)]
section UNDO
variable (E : Nat × (Nat → Int32)) (d : Nat) (L : Nat → Nat → Int64)
theorem op_undo : Opk E d 133 154 [] := by
  intro M L h
  have hR := h
  obtain ⟨n, g, kf, hc, ⟨hl, hrl⟩, ht, hch, hld, hi, ha, hs⟩ := h
  obtain ⟨hn, hn', hg, hg'⟩ := hc.2.2.1
  have hn8 := hc.1
  have hg9 := hc.2.1
  obtain ⟨c, a, q1, q2, q3, q4, q5, q6, q7⟩ := hch
  by_cases hc0 : 0 < c
  · obtain ⟨s, j, hv, y2, y3, y4, y5, y6, y7, y8⟩ := q7 (c - 1) (by omega)
    have hs8 := hv.1
    have hpl := plN_lt hn8 hg9 hv
    have hib : ib (nI (c - 1)) 40 := by rw [ib_nI (by omega)]; omega
    have k1 : nI c - 1 = nI (c - 1) := by
      have := nI_pred (c - 1)
      rw [show c - 1 + 1 = c by omega] at this
      exact this
    have g1 : C E (d + 100) 133 [vR 1 11 10] (M, L) = some (some (vI (nI (c - 1))), (clS (u2 M 260 4 (nI (c - 1))) s j (M 263 (c - 1)), L)) := by
      rw [x133, x13, q3, if_neg (show ¬ nI c ≤ 0 from nI_nle (by omega) (by omega)), if_pos (show nI c ≤ (40 : Int32) from nI_le (b := 40) (by omega) (by omega))]
      simp (disch := omega) only [k1, u2_o, u2_s, if_pos hib, ix_nI, y2, y3]
      rw [e23s E _ L _ hn8 hg9 hv, bV_s, bI_s]
      simp only [clS_o hs8 (show ¬ (40 ≤ 260 ∧ 260 ≤ 49) by omega), u2_s]
    have F1 : ∀ x, x ≠ 260 → ¬ (40 ≤ x ∧ x ≤ 49) → clS (u2 M 260 4 (nI (c - 1))) s j (M 263 (c - 1)) x = M x := fun x z1 z2 => by rw [clS_o hs8 z2, u2_o z1]
    generalize hM1 : clS (u2 M 260 4 (nI (c - 1))) s j (M 263 (c - 1)) = M1 at g1 F1
    have e400 := F1 400 (by omega) (by omega)
    have g2 : C E (d + 100) 154 [vR 1 12 400] (M1, L) = some (some (vI (nI (c - 1))), (u2 (u2 M1 400 5 (nI (c - 1))) 401 (plN s j) (M 403 (c - 1)), L)) := by
      rw [x154]
      simp (disch := omega) only [e400, q4, k1, u2_o, u2_s, if_pos hib, ix_nI, F1 402 (by omega) (by omega), F1 403 (by omega) (by omega), y4, if_pos (show ib (nI (plN s j)) 62 by rw [ib_nI (by omega)]; exact hpl)]
      rw [if_neg (show ¬ nI c = 0 from nI_ne0 hc0 (by omega))]
    generalize hM2 : u2 (u2 M1 400 5 (nI (c - 1))) 401 (plN s j) (M 403 (c - 1)) = M2 at g2
    have F : ∀ x, ¬ ((40 ≤ x ∧ x ≤ 49) ∨ x = 260 ∨ x = 400 ∨ x = 401) → M2 x = M x := fun x z => by
      rw [← hM2, u2_o (by omega), u2_o (by omega), F1 x (by omega) (by omega)]
    have G : ∀ i : Nat, i ≠ 5 → M2 400 i = M 400 i := fun i z => by
      rw [← hM2, u2_o (by omega), u2_n z, e400]
    have A260 : ∀ i, M2 260 i = if i = 4 then nI (c - 1) else M 260 i := fun i => by
      rw [← hM2, u2_o (by omega), u2_o (by omega), ← hM1, clS_o hs8 (by omega), u2_ap, if_pos rfl]
    refine ⟨_, _, _, _, _, g1, g2, n, g, kf, ?_, ⟨(hl.keep4 (by rw [F 90 (by omega)]) (F 91 (by omega)) (F 92 (by omega))), (hrl.keep (G 24 (by omega)) (F 422 (by omega)) (F 423 (by omega)) (F 424 (by omega)))⟩, (ht.kp (by rw [F 70 (by omega)]) (G 11 (by omega)) (F 411 (by omega)) (F 71 (by omega))), ⟨c - 1, a, by omega, q2, ?_, ?_, ?_, ?_, fun i hi => ?_⟩, (hld.kp (F 435 (by omega)) (F 281 (by omega))), (hi.kp (F 280 (by omega)) (F 282 (by omega)) (fun c q1 q2 => F c (by omega)) (F 439 (by omega)) (F 440 (by omega)) (fun c q => G c (by omega))), (ha.kp (fun c q1 q2 => F c (by omega)) (F 442 (by omega)) (F 443 (by omega)) (fun c q => G c (by omega))), (hs.kp (F 331 (by omega)) (F 332 (by omega)) (F 447 (by omega)) (F 448 (by omega)) (by rw [F 320 (by omega)]))⟩
    · refine hc.set hv y7 (fun x hx => ?_) ?_ (fun x hx => F x (by omega)) (fun i hi => G i (by omega))
      · rw [← hM2, u2_o (by omega), u2_o (by omega), ← hM1, clS_u (by omega) hx]
      · rw [← hM2, y5]
        exact u2_cc (by rw [u2_o (by omega), F1 401 (by omega) (by omega)])
    · rw [A260, if_pos rfl]
    · rw [← hM2, u2_o (by omega), u2_s]
    · rw [A260, if_neg (by omega)]; exact q5
    · rw [G 4 (by omega)]; exact q6
    · have := q7 i hi
      unfold Rc1 at *
      rw [F 261 (by omega), F 262 (by omega), F 263 (by omega), F 264 (by omega), F 402 (by omega), F 403 (by omega), F 404 (by omega)]
      exact this
  · have e0 : c = 0 := by omega
    subst e0
    refine opq E d hR (r := -5) (M1 := M) (M2 := M) ?_ (Kp.re M) ?_ (Kp.re M)
    · rw [x133, x13, q3, if_pos (show nI 0 ≤ 0 by decide), bI_s]
    · rw [x154, q4, if_pos (show nI 0 = 0 from rfl)]
theorem op_redo : Opk E d 134 155 [] := by
  intro M L h
  have hR := h
  obtain ⟨n, g, kf, hc, ⟨hl, hrl⟩, ht, hch, hld, hi, ha, hs⟩ := h
  obtain ⟨hn, hn', hg, hg'⟩ := hc.2.2.1
  have hn8 := hc.1
  have hg9 := hc.2.1
  obtain ⟨c, a, q1, q2, q3, q4, q5, q6, q7⟩ := hch
  by_cases hca : c < a
  · obtain ⟨s, j, hv, y2, y3, y4, y5, y6, y7, y8⟩ := q7 c hca
    have hs8 := hv.1
    have hpl := plN_lt hn8 hg9 hv
    have hib : ib (nI c) 40 := by rw [ib_nI (by omega)]; omega
    have g1 : C E (d + 100) 134 [vR 1 11 10] (M, L) = some (some (vI (nI a - nI (c + 1))), (u2 (clS M s j (M 264 c)) 260 4 (nI (c + 1)), L)) := by
      rw [x134, x14, q3, q5, if_neg (nI_ge hca (by omega)), if_neg (nI_pos (by omega)), if_pos (show nI c < (40 : Int32) from nI_lt (b := 40) (by omega) (by omega)), if_pos hib, if_pos hib, if_pos hib, ix_nI (by omega), y2, y3, e23s E _ L _ hn8 hg9 hv, bV_s, bI_s]
      simp (disch := omega) only [clS_o hs8 (show ¬ (40 ≤ 260 ∧ 260 ≤ 49) by omega), u2_s, u2_n, q3, q5, nI_1]
    have F1 : ∀ x, x ≠ 260 → ¬ (40 ≤ x ∧ x ≤ 49) → u2 (clS M s j (M 264 c)) 260 4 (nI (c + 1)) x = M x := fun x z1 z2 => by rw [u2_o z1, clS_o hs8 z2]
    generalize hM1 : u2 (clS M s j (M 264 c)) 260 4 (nI (c + 1)) = M1 at g1 F1
    have e400 := F1 400 (by omega) (by omega)
    have g2 : C E (d + 100) 155 [vR 1 12 400] (M1, L) = some (some (vI (nI a - nI (c + 1))), (u2 (u2 M1 401 (plN s j) (M 404 c)) 400 5 (nI (c + 1)), L)) := by
      rw [x155]
      simp (disch := omega) only [e400, q4, q6, u2_o, u2_s, u2_n, if_pos hib, ix_nI, F1 402 (by omega) (by omega), F1 404 (by omega) (by omega), y4, if_pos (show ib (nI (plN s j)) 62 by rw [ib_nI (by omega)]; exact hpl), nI_1]
      rw [if_neg (show ¬ nI c = nI a from fun q => by have := nI_inj (by omega) (by omega) q; omega)]
    generalize hM2 : u2 (u2 M1 401 (plN s j) (M 404 c)) 400 5 (nI (c + 1)) = M2 at g2
    have F : ∀ x, ¬ ((40 ≤ x ∧ x ≤ 49) ∨ x = 260 ∨ x = 400 ∨ x = 401) → M2 x = M x := fun x z => by
      rw [← hM2, u2_o (by omega), u2_o (by omega), F1 x (by omega) (by omega)]
    have G : ∀ i : Nat, i ≠ 5 → M2 400 i = M 400 i := fun i z => by
      rw [← hM2, u2_n z, u2_o (by omega), e400]
    have A260 : ∀ i, M2 260 i = if i = 4 then nI (c + 1) else M 260 i := fun i => by
      rw [← hM2, u2_o (by omega), u2_o (by omega), ← hM1, u2_ap, if_pos rfl, clS_o hs8 (by omega)]
    refine ⟨_, _, _, _, _, g1, g2, n, g, kf, ?_, ⟨(hl.keep4 (by rw [F 90 (by omega)]) (F 91 (by omega)) (F 92 (by omega))), (hrl.keep (G 24 (by omega)) (F 422 (by omega)) (F 423 (by omega)) (F 424 (by omega)))⟩, (ht.kp (by rw [F 70 (by omega)]) (G 11 (by omega)) (F 411 (by omega)) (F 71 (by omega))), ⟨c + 1, a, by omega, q2, ?_, ?_, ?_, ?_, fun i hi => ?_⟩, (hld.kp (F 435 (by omega)) (F 281 (by omega))), (hi.kp (F 280 (by omega)) (F 282 (by omega)) (fun c q1 q2 => F c (by omega)) (F 439 (by omega)) (F 440 (by omega)) (fun c q => G c (by omega))), (ha.kp (fun c q1 q2 => F c (by omega)) (F 442 (by omega)) (F 443 (by omega)) (fun c q => G c (by omega))), (hs.kp (F 331 (by omega)) (F 332 (by omega)) (F 447 (by omega)) (F 448 (by omega)) (by rw [F 320 (by omega)]))⟩
    · refine hc.set hv y8 (fun x hx => ?_) ?_ (fun x hx => F x (by omega)) (fun i hi => G i (by omega))
      · rw [← hM2, u2_o (by omega), u2_o (by omega), ← hM1, u2_o (by omega)]
      · rw [← hM2, u2_o (by omega), y6]
        exact u2_cc (F1 401 (by omega) (by omega))
    · rw [A260, if_pos rfl]
    · rw [← hM2, u2_s]
    · rw [A260, if_neg (by omega)]; exact q5
    · rw [G 4 (by omega)]; exact q6
    · have := q7 i hi
      unfold Rc1 at *
      rw [F 261 (by omega), F 262 (by omega), F 263 (by omega), F 264 (by omega), F 402 (by omega), F 403 (by omega), F 404 (by omega)]
      exact this
  · have e0 : c = a := by omega
    subst e0
    refine opq E d hR (r := -5) (M1 := M) (M2 := M) ?_ (Kp.re M) ?_ (Kp.re M)
    · rw [x134, x14, q3, q5, if_pos (nI_le (Nat.le_refl _) (by omega)), bI_s]
    · rw [x155, q4, q6, if_pos rfl]
theorem op_body (p0 : Int32) : Opk E d 135 231 [vI p0] := by
  intro M L h
  have hR := h
  obtain ⟨n, g, kf, hc, ⟨hl, hrl⟩, ht, hch, hld, hi, ha, hs⟩ := h
  obtain ⟨hn, hn', hg, hg'⟩ := hc.2.2.1
  have hn8 := hc.1
  have hg9 := hc.2.1
  obtain ⟨b, r, b50, r1000, a1, a2, a3, a4, a5, a6⟩ := ha
  by_cases h0 : 0 ≤ p0.toInt ∧ p0.toInt ≤ 7
  · obtain ⟨k, hk, ek⟩ := nI_ex (n := 8) h0.1 (by omega)
    by_cases hb : b < 50
    · have hib : ib (nI b) 50 := by rw [ib_nI (by omega)]; exact hb
      have g1 : C E (d + 100) 135 [vR 1 11 10, vI p0] (M, L) = some (some (vI (nI b)), (u2 (u2 M 321 b p0) 320 2 (nI (b + 1)), L)) := by
        rw [x135, e145, bI_s, if_neg (b1_ne (by rw [t_0, t_7]; exact h0)), x1, a1, if_pos (show nI b < (50 : Int32) from nI_lt (b := 50) hb (by omega)), if_pos hib, bI_s]
        simp (disch := omega) only [u2_o, a1, ix_nI, nI_1]
      generalize hM1 : u2 (u2 M 321 b p0) 320 2 (nI (b + 1)) = M1 at g1
      have f1 : ∀ c, c ≠ 320 → c ≠ 321 → M1 c = M c := fun c z1 z2 => by rw [← hM1, u2_o z1, u2_o z2]
      have e400 := f1 400 (by omega) (by omega)
      have g2 : C E (d + 100) 231 [vR 1 12 400, vI p0] (M1, L) = some (some (vI (nI b)), (u2 (u2 M1 442 b p0) 400 40 (nI (b + 1)), L)) := by
        rw [x231, e148, bI_s, if_neg (b1_ne (by rw [tl_i, l_0, l_7]; exact h0))]
        simp (disch := omega) only [u2_o, u2_s, e400, a2, ix_nI, if_pos hib, nI_1]
        rw [if_neg (show ¬ nI b = (50 : Int32) from fun q => by have := nI_inj (b := 50) (by omega) (by omega) q; omega), nI_pred]
      generalize hM2 : u2 (u2 M1 442 b p0) 400 40 (nI (b + 1)) = M2 at g2
      have F : ∀ c, ¬ (c = 320 ∨ c = 321 ∨ c = 442 ∨ c = 400) → M2 c = M c := fun c q => by
        rw [← hM2, u2_o (by omega), u2_o (by omega), f1 c (by omega) (by omega)]
      have G : ∀ j : Nat, j ≠ 40 → M2 400 j = M 400 j := fun j hj => by rw [← hM2, u2_n hj, u2_o (by omega), e400]
      have A : ∀ j, M2 320 j = if j = 2 then nI (b + 1) else M 320 j := fun j => by
        rw [← hM2, u2_o (by omega), u2_o (by omega), ← hM1, u2_ap, if_pos rfl, u2_o (by omega)]
      refine ⟨_, _, _, _, _, g1, g2, n, g, kf, (hc.kp (fun c q1 q2 => F c (by omega)) (fun c q => F c (by omega)) (fun j q => G j (by omega))), ⟨(hl.keep4 (by rw [F 90 (by omega)]) (F 91 (by omega)) (F 92 (by omega))), (hrl.keep (G 24 (by omega)) (F 422 (by omega)) (F 423 (by omega)) (F 424 (by omega)))⟩, (ht.kp (by rw [F 70 (by omega)]) (G 11 (by omega)) (F 411 (by omega)) (F 71 (by omega))), (hch.kp (fun c q1 q2 => F c (by omega)) (fun c q1 q2 => F c (by omega)) (fun c q => G c (by omega))), (hld.kp (F 435 (by omega)) (F 281 (by omega))), (hi.kp (F 280 (by omega)) (F 282 (by omega)) (fun c q1 q2 => F c (by omega)) (F 439 (by omega)) (F 440 (by omega)) (fun c q => G c (by omega))), ⟨b + 1, r, by omega, r1000, ?_, ?_, ?_, ?_, fun i hi => ?_, ?_⟩, ?_⟩
      · rw [A, if_pos rfl]
      · rw [← hM2, u2_s]
      · rw [A, if_neg (by omega)]; exact a3
      · rw [G 43 (by omega)]; exact a4
      · rw [← hM2, u2_o (c := 442) (by omega), u2_o (c := 321) (by omega), u2_o (c := 321) (by omega), ← hM1, u2_o (c := 321) (by omega)]
        by_cases e : i = b
        · subst e
          rw [u2_s, u2_s]
          exact ⟨rfl, k, hk, ek⟩
        · rw [u2_n e, u2_n e, u2_o (by omega), u2_o (by omega)]
          exact a5 i (by omega)
      · rw [F 443 (by omega), F 322 (by omega)]; exact a6
      · intro s hs6
        rcases hs s hs6 with z | ⟨z1, j, z2, z3, z4, z5⟩ | ⟨k', m, z⟩
        · refine Or.inl ?_
          rw [F 331 (by omega), F 447 (by omega)]; exact z
        · refine Or.inr (Or.inl ⟨?_, j, ?_, ?_, ?_, z5⟩)
          · rw [F 331 (by omega)]; exact z1
          · rw [F 332 (by omega)]; exact z2
          · rw [F 447 (by omega)]; exact z3
          · rw [A, if_pos rfl, t_nI (by omega)]
            rw [a1, t_nI (by omega)] at z4
            omega
        · refine Or.inr (Or.inr ⟨k', m, ?_⟩)
          rw [F 331 (by omega), F 332 (by omega), F 447 (by omega), F 448 (by omega)]
          exact z
    · have eb : b = 50 := by omega
      refine opq E d hR (r := -3) (M1 := M) (M2 := M) ?_ (Kp.re M) ?_ (Kp.re M)
      · rw [x135, e145, bI_s, if_neg (b1_ne (by rw [t_0, t_7]; exact h0)), x1, a1, eb, if_neg (show ¬ nI 50 < (50 : Int32) by decide), bI_s]
      · rw [x231, e148, bI_s, if_neg (b1_ne (by rw [tl_i, l_0, l_7]; exact h0))]
        simp only [a2, eb]
        rw [if_pos (show nI 50 = (50 : Int32) from rfl)]
  · refine opq E d hR (r := -1) (M1 := M) (M2 := M) ?_ (Kp.re M) ?_ (Kp.re M)
    · rw [x135, e145, bI_s, if_pos (b1_e (by rw [t_0, t_7]; exact h0))]
    · rw [x231, e148, bI_s, if_pos (b1_e (by rw [tl_i, l_0, l_7]; exact h0))]
end UNDO
