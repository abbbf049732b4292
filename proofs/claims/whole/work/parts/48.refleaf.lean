/-! the reference's small questions -/
theorem tl_i (x : Int32) : (Int32.toInt64 x).toInt = x.toInt := Int32.toInt_toInt64 x
section REFLEAF
variable (E : Nat × (Nat → Int32)) (d : Nat) (L : Nat → Nat → Int64)
theorem l_m1 : (-1 : Int64).toInt = -1 := by decide
theorem l_0 : (0 : Int64).toInt = 0 := by decide
theorem l_1 : (1 : Int64).toInt = 1 := by decide
theorem l_2 : (2 : Int64).toInt = 2 := by decide
theorem l_3 : (3 : Int64).toInt = 3 := by decide
theorem l_4 : (4 : Int64).toInt = 4 := by decide
theorem l_5 : (5 : Int64).toInt = 5 := by decide
theorem l_6 : (6 : Int64).toInt = 6 := by decide
theorem l_7 : (7 : Int64).toInt = 7 := by decide
theorem l_8 : (8 : Int64).toInt = 8 := by decide
theorem l_9 : (9 : Int64).toInt = 9 := by decide
theorem l_20 : (20 : Int64).toInt = 20 := by decide
theorem l_30 : (30 : Int64).toInt = 30 := by decide
theorem l_12 : (12 : Int64).toInt = 12 := by decide
theorem l_60 : (60 : Int64).toInt = 60 := by decide
theorem l_99 : (99 : Int64).toInt = 99 := by decide
theorem l_255 : (255 : Int64).toInt = 255 := by decide
theorem l_9999 : (9999 : Int64).toInt = 9999 := by decide
theorem t_pred {n : Nat} (hn : n < 1000) : (nI n - 1).toInt = (n : Int) - 1 := by
  rw [t_sub (by rw [t_nI (by omega), t_1]; omega) (by rw [t_nI (by omega), t_1]; omega), t_nI (by omega), t_1]
theorem bz {c : Prop} [Decidable c] {α : Type} {x y : α} : (if b1 c = 0 ∨ b1 c = 1 then x else y) = x := if_pos (by rw [b1_zo]; trivial)
theorem e156 (M : Nat → Nat → Int32) (p : Int64) {n : Nat} (hn : M 400 6 = nI n) (hn8 : n ≤ 8) : C E (d + 2) 156 [vR 1 12 400, vL p] (M, L) = some (some (vI (b1 (0 ≤ p.toInt ∧ p.toInt < (n : Int)))), (M, L)) := by
  rw [x156, e148, bI_s, bz, hn, tl_i, t_pred (by omega), l_0]
  rw [b1_congr (e := 0 ≤ p.toInt ∧ p.toInt < (n : Int)) (by omega)]
theorem e157 (M : Nat → Nat → Int32) (p : Int64) {n : Nat} (hn : M 400 7 = nI n) (hn8 : n ≤ 9) : C E (d + 2) 157 [vR 1 12 400, vL p] (M, L) = some (some (vI (b1 (0 ≤ p.toInt ∧ p.toInt < (n : Int)))), (M, L)) := by
  rw [x157, e148, bI_s, bz, hn, tl_i, t_pred (by omega), l_0]
  rw [b1_congr (e := 0 ≤ p.toInt ∧ p.toInt < (n : Int)) (by omega)]
theorem e158 (M : Nat → Nat → Int32) (p : Int64) : C E (d + 2) 158 [vL p] (M, L) = some (some (vI (b1 (0 ≤ p.toInt ∧ p.toInt ≤ 7))), (M, L)) := by
  rw [x158, e148, bI_s, bz, l_0, l_7]
theorem e160 (M : Nat → Nat → Int32) (p : Int64) {n : Nat} (hn : M 400 6 = nI n) (hn8 : n ≤ 8) : C E (d + 3) 160 [vR 1 12 400, vL p] (M, L) = some (some (vI (b1 (-1 ≤ p.toInt ∧ p.toInt ≤ (n : Int) - 1))), (M, L)) := by
  rw [x160, e156 E d L M p hn hn8, bI_s]
  simp only [cmp_eq, l_m1]
  by_cases h : p.toInt = -1
  · rw [if_pos h, b1_t (by omega)]
  · rw [if_neg h]
    by_cases h2 : 0 ≤ p.toInt ∧ p.toInt < (n : Int)
    · rw [if_neg (b1_ne h2), b1_t (by omega)]
    · rw [if_pos (b1_e h2), b1_f (by omega)]
theorem e240 (M : Nat → Nat → Int32) (p : Int32) : C E (d + 2) 240 [vI p] (M, L) = some (some (vI (b1 (0 ≤ p.toInt ∧ p.toInt < 6))), (M, L)) := by
  rw [x240, e148, bI_s, bz, l_0, l_5, tl_i]
  rw [b1_congr (e := 0 ≤ p.toInt ∧ p.toInt < 6) (by omega)]
theorem e229 (M : Nat → Nat → Int32) (p : Int32) {b : Nat} (hb : M 400 40 = nI b) (hb50 : b ≤ 50) : C E (d + 2) 229 [vR 1 12 400, vI p] (M, L) = some (some (vI (b1 (0 ≤ p.toInt ∧ p.toInt < (b : Int)))), (M, L)) := by
  rw [x229, e148, bI_s, bz, hb, tl_i, tl_i, t_pred (by omega), l_0]
  rw [b1_congr (e := 0 ≤ p.toInt ∧ p.toInt < (b : Int)) (by omega)]
theorem e198 (M : Nat → Nat → Int32) (p : Int32) : C E (d + 2) 198 [vI p] (M, L) = some (some (vI (b1 (0 ≤ p.toInt ∧ p.toInt ≤ 60))), (M, L)) := by
  rw [x198, e148, bI_s, bz, l_0, l_60, tl_i]
abbrev okft (p : Int32) : Prop := 0 ≤ p.toInt ∧ p.toInt / 10 < 8 ∧ p.toInt % 10 < 8 ∧ p.toInt / 10 ≠ p.toInt % 10
theorem t_div {a b : Int32} (ha : 0 ≤ a.toInt) (hb : 0 < b.toInt) : (a / b).toInt = a.toInt / b.toInt := by
  rw [Int32.toInt_div_of_ne_right a b (fun q => by rw [q, t_m1] at hb; omega), Int.tdiv_eq_ediv_of_nonneg ha]
theorem t_rem {a b : Int32} (ha : 0 ≤ a.toInt) (hb : 0 < b.toInt) : (rm32 a b).toInt = a.toInt % b.toInt := by
  have h1 := t_hi a
  have h2 : a.toInt / b.toInt * b.toInt = a.toInt - a.toInt % b.toInt := by
    have := Int.mul_ediv_add_emod a.toInt b.toInt
    rw [Int.mul_comm] at this
    omega
  have h3 := Int.emod_nonneg a.toInt (show b.toInt ≠ 0 by omega)
  have h4 : a.toInt % b.toInt ≤ a.toInt := by
    have := Int.mul_nonneg (Int.ediv_nonneg ha (show 0 ≤ b.toInt by omega)) (show 0 ≤ b.toInt by omega)
    omega
  unfold rm32
  have h5 : (a / b * b).toInt = a.toInt - a.toInt % b.toInt := by
    rw [t_mul (by rw [t_div ha hb, h2]; omega) (by rw [t_div ha hb, h2]; omega), t_div ha hb, h2]
  rw [t_sub (by rw [h5]; omega) (by rw [h5]; omega), h5]
  omega
theorem e146 (M : Nat → Nat → Int32) (p : Int32) : C E (d + 1) 146 [vI p] (M, L) = some (some (vI (b1 (okft p))), (M, L)) := by
  rw [x146]
  by_cases h0 : 0 ≤ p.toInt
  · have h1 := t_div (b := 10) h0 (by decide)
    have h2 := t_rem (b := 10) h0 (by decide)
    rw [t_10] at h1 h2
    simp only [t_lt, t_le, t_eq, h1, h2, t_0, t_8]
    unfold b1 okft
    (repeat' split) <;> first | rfl | (exfalso; omega)
  · rw [if_pos (by rw [t_lt, t_0]; omega)]
    rw [b1_f (fun q => h0 q.1)]
theorem e159 (M : Nat → Nat → Int32) (p : Int32) : C E (d + 3) 159 [vI p] (M, L) = some (some (vI (b1 (okft p))), (M, L)) := by
  rw [x159]
  by_cases h0 : 0 ≤ p.toInt
  · have h1 := t_div (b := 10) h0 (by decide)
    have h2 := t_rem (b := 10) h0 (by decide)
    rw [t_10] at h1 h2
    have h3 : (p / 10 = rm32 p 10) = (p.toInt / 10 = p.toInt % 10) := by rw [t_eq, h1, h2]
    rw [if_neg (by rw [t_lt, t_0]; omega), e158, bI_s, tl_i, h1]
    by_cases c1 : p.toInt / 10 < 8
    · rw [if_neg (b1_ne (by omega)), e158, bI_s, tl_i, h2]
      by_cases c2 : p.toInt % 10 < 8
      · rw [if_neg (b1_ne (by omega))]
        by_cases c3 : p.toInt / 10 = p.toInt % 10
        · rw [if_pos (by rw [h3]; exact c3), b1_f (fun q => q.2.2.2 c3)]
        · rw [if_neg (by rw [h3]; exact c3), b1_t ⟨h0, c1, c2, c3⟩]
      · rw [if_pos (b1_e (by omega)), b1_f (fun q => c2 q.2.2.1)]
    · rw [if_pos (b1_e (by omega)), b1_f (fun q => c1 q.2.1)]
  · rw [if_pos (by rw [t_lt, t_0]; omega)]
    rw [b1_f (fun q => h0 q.1)]
end REFLEAF
