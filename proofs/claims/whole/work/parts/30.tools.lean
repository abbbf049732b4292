/-! tools for what the methods do -/
def b1 (c : Prop) [Decidable c] : Int32 := if c then 1 else 0
theorem b1_t {c : Prop} [Decidable c] (h : c) : b1 c = 1 := if_pos h
theorem b1_f {c : Prop} [Decidable c] (h : ¬ c) : b1 c = 0 := if_neg h
theorem b1_z {c : Prop} [Decidable c] : (b1 c = 0) = ¬ c := by
  by_cases h : c
  · rw [b1_t h]; simp [h]
  · rw [b1_f h]; simp [h]
theorem b1_o {c : Prop} [Decidable c] : (b1 c = 1) = c := by
  by_cases h : c
  · rw [b1_t h]; simp [h]
  · rw [b1_f h]; simp [h]
theorem b1_zo {c : Prop} [Decidable c] : (b1 c = 0 ∨ b1 c = 1) = True := by
  by_cases h : c
  · rw [b1_t h]; simp
  · rw [b1_f h]; simp
theorem b1_congr {c e : Prop} [Decidable c] [Decidable e] (h : c ↔ e) : b1 c = b1 e := by
  by_cases hc : c
  · rw [b1_t hc, b1_t (h.mp hc)]
  · rw [b1_f hc, b1_f (fun q => hc (h.mpr q))]
theorem bI_s {x : Int32} {s : PS} {f : Int32 → PS → PR} : bI (some (some (vI x), s)) f = f x s := rfl
theorem bL_s {x : Int64} {s : PS} {f : Int64 → PS → PR} : bL (some (some (vL x), s)) f = f x s := rfl
theorem bV_s {s : PS} {f : PS → PR} : bV (some (none, s)) f = f s := rfl
theorem bR_s {k n a : Nat} {s : PS} {f : Nat → Nat → Nat → PS → PR} : bR (some (some (vR k n a), s)) f = f k n a s := rfl
theorem i_not {c : Prop} [Decidable c] {α : Type} {x y : α} : (if ¬ c then x else y) = if c then y else x := by
  by_cases h : c
  · rw [if_pos h, if_neg (fun q => q h)]
  · rw [if_neg h, if_pos h]
theorem t_bm {x : Int} (h1 : -2147483648 ≤ x) (h2 : x < 2147483648) : x.bmod (2 ^ 32) = x := Int.bmod_eq_of_le_mul_two (by omega) (by omega)
theorem t_add {a b : Int32} (h1 : -2147483648 ≤ a.toInt + b.toInt) (h2 : a.toInt + b.toInt < 2147483648) : (a + b).toInt = a.toInt + b.toInt := by rw [Int32.toInt_add, t_bm h1 h2]
theorem t_sub {a b : Int32} (h1 : -2147483648 ≤ a.toInt - b.toInt) (h2 : a.toInt - b.toInt < 2147483648) : (a - b).toInt = a.toInt - b.toInt := by rw [Int32.toInt_sub, t_bm h1 h2]
theorem t_mul {a b : Int32} (h1 : -2147483648 ≤ a.toInt * b.toInt) (h2 : a.toInt * b.toInt < 2147483648) : (a * b).toInt = a.toInt * b.toInt := by rw [Int32.toInt_mul, t_bm h1 h2]
theorem t_neg {a : Int32} (h2 : -2147483648 < a.toInt) : (-a).toInt = -a.toInt := by
  have := a.toInt_lt
  rw [Int32.toInt_neg, t_bm (by omega) (by omega)]
theorem t_lo (a : Int32) : -2147483648 ≤ a.toInt := a.le_toInt
theorem t_hi (a : Int32) : a.toInt < 2147483648 := a.toInt_lt
theorem t_lt {a b : Int32} : (a < b) = (a.toInt < b.toInt) := propext Int32.lt_iff_toInt_lt
theorem t_le {a b : Int32} : (a ≤ b) = (a.toInt ≤ b.toInt) := propext Int32.le_iff_toInt_le
theorem t_eq {a b : Int32} : (a = b) = (a.toInt = b.toInt) := propext Int32.toInt_inj.symm
theorem t_nI {n : Nat} (h : n < 2147483648) : (nI n).toInt = (n : Int) := nI_toInt h
theorem nI_ex {x : Int32} {n : Nat} (h0 : 0 ≤ x.toInt) (h1 : x.toInt < n) : ∃ j, j < n ∧ x = nI j := by
  have h2 := t_hi x
  refine ⟨x.toInt.toNat, by omega, ?_⟩
  apply Int32.toInt_inj.mp
  rw [t_nI (by omega)]
  omega
theorem nI_inj {a b : Nat} (ha : a < 2147483648) (hb : b < 2147483648) (h : nI a = nI b) : a = b := (nI_eq ha hb).mp h
theorem ix_nI {n : Nat} (h : n < 2147483648) : ix (nI n) = n := nI_clamp h
theorem ix_t {x : Int32} (h : 0 ≤ x.toInt) : (ix x : Int) = x.toInt := by
  obtain ⟨j, hj, e⟩ := nI_ex (n := 2147483648) h (t_hi x)
  rw [e, ix_nI hj, t_nI hj]
theorem ib_nI {k N : Nat} (h : k < 2147483648) : ib (nI k) N = (k < N) := by
  unfold ib
  rw [t_nI h]
  exact propext ⟨fun q => by omega, fun q => by omega⟩
theorem nI_leB {a b : Nat} (ha : a < 2147483648) (hb : b < 2147483648) : (nI a ≤ nI b) = (a ≤ b) := propext (nI_leI ha hb)
theorem nI_ltB {a b : Nat} (ha : a < 2147483648) (hb : b < 2147483648) : (nI a < nI b) = (a < b) := propext (nI_ltI ha hb)
theorem nI_eqB {a b : Nat} (ha : a < 2147483648) (hb : b < 2147483648) : (nI a = nI b) = (a = b) := propext (nI_eq ha hb)
theorem nI_of' {n : Nat} : Int32.ofNat n = nI n := rfl
theorem u2_ap {M : Nat → Nat → Int32} {a j c i : Nat} {x : Int32} : u2 M a j x c i = if c = a then (if i = j then x else M c i) else M c i := by
  unfold u2 upd
  by_cases h : c = a
  · rw [if_pos h, if_pos h]
  · rw [if_neg h, if_neg h]
theorem u2_o {M : Nat → Nat → Int32} {a j c : Nat} {x : Int32} (h : ¬ c = a) : u2 M a j x c = M c := if_neg h
theorem u2_s {M : Nat → Nat → Int32} {a j : Nat} {x : Int32} : u2 M a j x a j = x := by rw [u2_ap, if_pos rfl, if_pos rfl]
theorem u2L_ap {M : Nat → Nat → Int64} {a j c i : Nat} {x : Int64} : u2L M a j x c i = if c = a then (if i = j then x else M c i) else M c i := by
  unfold u2L vp_updL
  by_cases h : c = a
  · rw [if_pos h, if_pos h]
  · rw [if_neg h, if_neg h]
theorem u2L_o {M : Nat → Nat → Int64} {a j c : Nat} {x : Int64} (h : ¬ c = a) : u2L M a j x c = M c := if_neg h
theorem c2_ap {M : Nat → Nat → Int32} {a b sp dp n c i : Nat} : c2 M a b sp dp n c i = if c = b then (if dp ≤ i ∧ i < dp + n then M a (sp + (i - dp)) else M c i) else M c i := by
  unfold c2 va_cpy
  by_cases h : c = b
  · rw [if_pos h, if_pos h]
  · rw [if_neg h, if_neg h]
theorem c2_o {M : Nat → Nat → Int32} {a b sp dp n c : Nat} (h : ¬ c = b) : c2 M a b sp dp n c = M c := if_neg h
theorem c2L_ap {M : Nat → Nat → Int64} {a b sp dp n c i : Nat} : c2L M a b sp dp n c i = if c = b then (if dp ≤ i ∧ i < dp + n then M a (sp + (i - dp)) else M c i) else M c i := by
  unfold c2L va_cpy
  by_cases h : c = b
  · rw [if_pos h, if_pos h]
  · rw [if_neg h, if_neg h]
theorem c2L_o {M : Nat → Nat → Int64} {a b sp dp n c : Nat} (h : ¬ c = b) : c2L M a b sp dp n c = M c := if_neg h
theorem t_0 : (0 : Int32).toInt = 0 := by decide
theorem n_0 : (0 : Int32) = nI 0 := rfl
theorem t_1 : (1 : Int32).toInt = 1 := by decide
theorem n_1 : (1 : Int32) = nI 1 := rfl
theorem t_2 : (2 : Int32).toInt = 2 := by decide
theorem n_2 : (2 : Int32) = nI 2 := rfl
theorem t_3 : (3 : Int32).toInt = 3 := by decide
theorem n_3 : (3 : Int32) = nI 3 := rfl
theorem t_4 : (4 : Int32).toInt = 4 := by decide
theorem n_4 : (4 : Int32) = nI 4 := rfl
theorem t_5 : (5 : Int32).toInt = 5 := by decide
theorem n_5 : (5 : Int32) = nI 5 := rfl
theorem t_6 : (6 : Int32).toInt = 6 := by decide
theorem n_6 : (6 : Int32) = nI 6 := rfl
theorem t_7 : (7 : Int32).toInt = 7 := by decide
theorem n_7 : (7 : Int32) = nI 7 := rfl
theorem t_8 : (8 : Int32).toInt = 8 := by decide
theorem n_8 : (8 : Int32) = nI 8 := rfl
theorem t_9 : (9 : Int32).toInt = 9 := by decide
theorem n_9 : (9 : Int32) = nI 9 := rfl
theorem t_10 : (10 : Int32).toInt = 10 := by decide
theorem n_10 : (10 : Int32) = nI 10 := rfl
theorem t_11 : (11 : Int32).toInt = 11 := by decide
theorem n_11 : (11 : Int32) = nI 11 := rfl
theorem t_12 : (12 : Int32).toInt = 12 := by decide
theorem n_12 : (12 : Int32) = nI 12 := rfl
theorem t_15 : (15 : Int32).toInt = 15 := by decide
theorem n_15 : (15 : Int32) = nI 15 := rfl
theorem t_16 : (16 : Int32).toInt = 16 := by decide
theorem n_16 : (16 : Int32) = nI 16 := rfl
theorem t_20 : (20 : Int32).toInt = 20 := by decide
theorem n_20 : (20 : Int32) = nI 20 := rfl
theorem t_24 : (24 : Int32).toInt = 24 := by decide
theorem n_24 : (24 : Int32) = nI 24 := rfl
theorem t_30 : (30 : Int32).toInt = 30 := by decide
theorem n_30 : (30 : Int32) = nI 30 := rfl
theorem t_31 : (31 : Int32).toInt = 31 := by decide
theorem n_31 : (31 : Int32) = nI 31 := rfl
theorem t_32 : (32 : Int32).toInt = 32 := by decide
theorem n_32 : (32 : Int32) = nI 32 := rfl
theorem t_33 : (33 : Int32).toInt = 33 := by decide
theorem n_33 : (33 : Int32) = nI 33 := rfl
theorem t_40 : (40 : Int32).toInt = 40 := by decide
theorem n_40 : (40 : Int32) = nI 40 := rfl
theorem t_42 : (42 : Int32).toInt = 42 := by decide
theorem n_42 : (42 : Int32) = nI 42 := rfl
theorem t_43 : (43 : Int32).toInt = 43 := by decide
theorem n_43 : (43 : Int32) = nI 43 := rfl
theorem t_45 : (45 : Int32).toInt = 45 := by decide
theorem n_45 : (45 : Int32) = nI 45 := rfl
theorem t_47 : (47 : Int32).toInt = 47 := by decide
theorem n_47 : (47 : Int32) = nI 47 := rfl
theorem t_48 : (48 : Int32).toInt = 48 := by decide
theorem n_48 : (48 : Int32) = nI 48 := rfl
theorem t_49 : (49 : Int32).toInt = 49 := by decide
theorem n_49 : (49 : Int32) = nI 49 := rfl
theorem t_50 : (50 : Int32).toInt = 50 := by decide
theorem n_50 : (50 : Int32) = nI 50 := rfl
theorem t_51 : (51 : Int32).toInt = 51 := by decide
theorem n_51 : (51 : Int32) = nI 51 := rfl
theorem t_57 : (57 : Int32).toInt = 57 := by decide
theorem n_57 : (57 : Int32) = nI 57 := rfl
theorem t_58 : (58 : Int32).toInt = 58 := by decide
theorem n_58 : (58 : Int32) = nI 58 := rfl
theorem t_59 : (59 : Int32).toInt = 59 := by decide
theorem n_59 : (59 : Int32) = nI 59 := rfl
theorem t_60 : (60 : Int32).toInt = 60 := by decide
theorem n_60 : (60 : Int32) = nI 60 := rfl
theorem t_61 : (61 : Int32).toInt = 61 := by decide
theorem n_61 : (61 : Int32) = nI 61 := rfl
theorem t_62 : (62 : Int32).toInt = 62 := by decide
theorem n_62 : (62 : Int32) = nI 62 := rfl
theorem t_63 : (63 : Int32).toInt = 63 := by decide
theorem n_63 : (63 : Int32) = nI 63 := rfl
theorem t_97 : (97 : Int32).toInt = 97 := by decide
theorem n_97 : (97 : Int32) = nI 97 := rfl
theorem t_99 : (99 : Int32).toInt = 99 := by decide
theorem n_99 : (99 : Int32) = nI 99 := rfl
theorem t_100 : (100 : Int32).toInt = 100 := by decide
theorem n_100 : (100 : Int32) = nI 100 := rfl
theorem t_101 : (101 : Int32).toInt = 101 := by decide
theorem n_101 : (101 : Int32) = nI 101 := rfl
theorem t_104 : (104 : Int32).toInt = 104 := by decide
theorem n_104 : (104 : Int32) = nI 104 := rfl
theorem t_110 : (110 : Int32).toInt = 110 := by decide
theorem n_110 : (110 : Int32) = nI 110 := rfl
theorem t_114 : (114 : Int32).toInt = 114 := by decide
theorem n_114 : (114 : Int32) = nI 114 := rfl
theorem t_115 : (115 : Int32).toInt = 115 := by decide
theorem n_115 : (115 : Int32) = nI 115 := rfl
theorem t_120 : (120 : Int32).toInt = 120 := by decide
theorem n_120 : (120 : Int32) = nI 120 := rfl
theorem t_121 : (121 : Int32).toInt = 121 := by decide
theorem n_121 : (121 : Int32) = nI 121 := rfl
theorem t_124 : (124 : Int32).toInt = 124 := by decide
theorem n_124 : (124 : Int32) = nI 124 := rfl
theorem t_128 : (128 : Int32).toInt = 128 := by decide
theorem n_128 : (128 : Int32) = nI 128 := rfl
theorem t_255 : (255 : Int32).toInt = 255 := by decide
theorem n_255 : (255 : Int32) = nI 255 := rfl
theorem t_256 : (256 : Int32).toInt = 256 := by decide
theorem n_256 : (256 : Int32) = nI 256 := rfl
theorem t_360 : (360 : Int32).toInt = 360 := by decide
theorem n_360 : (360 : Int32) = nI 360 := rfl
theorem t_900 : (900 : Int32).toInt = 900 := by decide
theorem n_900 : (900 : Int32) = nI 900 := rfl
theorem t_901 : (901 : Int32).toInt = 901 := by decide
theorem n_901 : (901 : Int32) = nI 901 := rfl
theorem t_1000 : (1000 : Int32).toInt = 1000 := by decide
theorem n_1000 : (1000 : Int32) = nI 1000 := rfl
theorem t_9999 : (9999 : Int32).toInt = 9999 := by decide
theorem n_9999 : (9999 : Int32) = nI 9999 := rfl
theorem t_10000 : (10000 : Int32).toInt = 10000 := by decide
theorem n_10000 : (10000 : Int32) = nI 10000 := rfl
theorem t_1000000 : (1000000 : Int32).toInt = 1000000 := by decide
theorem n_1000000 : (1000000 : Int32) = nI 1000000 := rfl
theorem t_m1 : (-1 : Int32).toInt = -1 := by decide
theorem t_m2 : (-2 : Int32).toInt = -2 := by decide
theorem t_m3 : (-3 : Int32).toInt = -3 := by decide
theorem t_m5 : (-5 : Int32).toInt = -5 := by decide
theorem t_m11 : (-11 : Int32).toInt = -11 := by decide
theorem t_m12 : (-12 : Int32).toInt = -12 := by decide
theorem t_m13 : (-13 : Int32).toInt = -13 := by decide
theorem t_m14 : (-14 : Int32).toInt = -14 := by decide
theorem t_m100 : (-100 : Int32).toInt = -100 := by decide
section LEAF
variable (E : Nat × (Nat → Int32)) (d : Nat) (M : Nat → Nat → Int32) (L : Nat → Nat → Int64)
theorem e145 (p q r : Int32) : C E (d + 1) 145 [vI p, vI q, vI r] (M, L) = some (some (vI (b1 (q.toInt ≤ p.toInt ∧ p.toInt ≤ r.toInt))), (M, L)) := by
  rw [x145]
  simp only [t_lt, t_le, t_0, t_1, t_2, t_3, t_4, t_5, t_6, t_7, t_8, t_9, t_10, t_20, t_24, t_30, t_40, t_48, t_50, t_57, t_60, t_99, t_100, t_900, t_1000, t_9999, t_m1]
  unfold b1
  (repeat' split) <;> first | rfl | (exfalso; omega)
theorem e15 (o : Nat) (p : Int32) : C E (d + 1) 15 [vR 1 2 o, vI p] (M, L) = some (some (vI (b1 (0 ≤ p.toInt ∧ p.toInt < (M o 11).toInt ∧ p.toInt < 8))), (M, L)) := by
  rw [x15]
  simp only [t_lt, t_le, t_0, t_1, t_2, t_3, t_4, t_5, t_6, t_7, t_8, t_9, t_10, t_20, t_24, t_30, t_40, t_48, t_50, t_57, t_60, t_99, t_100, t_900, t_1000, t_9999, t_m1]
  unfold b1
  (repeat' split) <;> first | rfl | (exfalso; omega)
theorem e16 (o : Nat) (p : Int32) : C E (d + 1) 16 [vR 1 2 o, vI p] (M, L) = some (some (vI (b1 (0 ≤ p.toInt ∧ p.toInt < (M o 12).toInt ∧ p.toInt < 9))), (M, L)) := by
  rw [x16]
  simp only [t_lt, t_le, t_0, t_1, t_2, t_3, t_4, t_5, t_6, t_7, t_8, t_9, t_10, t_20, t_24, t_30, t_40, t_48, t_50, t_57, t_60, t_99, t_100, t_900, t_1000, t_9999, t_m1]
  unfold b1
  (repeat' split) <;> first | rfl | (exfalso; omega)
theorem e0 (p : Int32) : C E (d + 1) 0 [vR 1 0 320, vI p] (M, L) = some (some (vI (b1 (0 ≤ p.toInt ∧ p.toInt < (M 320 2).toInt ∧ p.toInt < 50))), (M, L)) := by
  rw [x0]
  simp only [t_lt, t_le, t_0, t_1, t_2, t_3, t_4, t_5, t_6, t_7, t_8, t_9, t_10, t_20, t_24, t_30, t_40, t_48, t_50, t_57, t_60, t_99, t_100, t_900, t_1000, t_9999, t_m1]
  unfold b1
  (repeat' split) <;> first | rfl | (exfalso; omega)
theorem e48 (p : Int32) : C E (d + 1) 48 [vR 1 6 330, vI p] (M, L) = some (some (vI (b1 (0 ≤ p.toInt ∧ p.toInt < 6))), (M, L)) := by
  rw [x48]
  simp only [t_lt, t_le, t_0, t_1, t_2, t_3, t_4, t_5, t_6, t_7, t_8, t_9, t_10, t_20, t_24, t_30, t_40, t_48, t_50, t_57, t_60, t_99, t_100, t_900, t_1000, t_9999, t_m1]
  unfold b1
  (repeat' split) <;> first | rfl | (exfalso; omega)
theorem e75 (p : Int32) : C E (d + 1) 75 [vI p] (M, L) = some (some (vI (b1 (48 ≤ p.toInt ∧ p.toInt ≤ 57))), (M, L)) := by
  rw [x75]
  simp only [t_lt, t_le, t_0, t_1, t_2, t_3, t_4, t_5, t_6, t_7, t_8, t_9, t_10, t_20, t_24, t_30, t_40, t_48, t_50, t_57, t_60, t_99, t_100, t_900, t_1000, t_9999, t_m1]
  unfold b1
  (repeat' split) <;> first | rfl | (exfalso; omega)
def mn (a b : Int32) : Int32 := if b < a then b else a
def mx (a b : Int32) : Int32 := if a < b then b else a
def hel (v m : Int32) : Int32 := mx 0 (mn m v)
theorem t_mn (a b : Int32) : (mn a b).toInt = if b.toInt < a.toInt then b.toInt else a.toInt := by
  unfold mn
  simp only [t_lt]
  split <;> rfl
theorem t_mx (a b : Int32) : (mx a b).toInt = if a.toInt < b.toInt then b.toInt else a.toInt := by
  unfold mx
  simp only [t_lt]
  split <;> rfl
theorem t_hel (v m : Int32) (h : 0 ≤ m.toInt) : (hel v m).toInt = if v.toInt < 0 then 0 else if m.toInt < v.toInt then m.toInt else v.toInt := by
  unfold hel
  rw [t_mx, t_mn, t_0]
  (repeat' split) <;> omega
theorem mn_comm (a b : Int32) : mn a b = mn b a := by
  apply Int32.toInt_inj.mp
  rw [t_mn, t_mn]
  (repeat' split) <;> omega
theorem e998 (p q : Int32) : C E (d + 1) 998 [vI p, vI q] (M, L) = some (some (vI (mx p q)), (M, L)) := C_max E d p q (M, L)
theorem e997 (p q : Int32) : C E (d + 1) 997 [vI p, vI q] (M, L) = some (some (vI (mn p q)), (M, L)) := C_min E d p q (M, L)
theorem e147 (p q : Int32) : C E (d + 2) 147 [vI p, vI q] (M, L) = some (some (vI (hel p q)), (M, L)) := by
  rw [x147, e997, bI_s, e998, bI_s]
  rfl
theorem e151 (p q : Int32) : C E (d + 1) 151 [vI p, vI q] (M, L) = some (some (vI (mn q p)), (M, L)) := by
  rw [x151]
  unfold mn
  simp only [t_lt, t_le]
  (repeat' split) <;> first | rfl | (exfalso; omega)
theorem e152 (p : Int32) : C E (d + 1) 152 [vI p] (M, L) = some (some (vI (hel p 99)), (M, L)) := by
  have h : C E (d + 1) 152 [vI p] (M, L) = some (some (vI (if p.toInt < 0 then 0 else if 99 < p.toInt then 99 else p)), (M, L)) := by
    rw [x152]
    simp only [t_lt, t_le, t_0, t_99]
    (repeat' split) <;> first | rfl | (exfalso; omega)
  rw [h]
  have : (if p.toInt < 0 then 0 else if 99 < p.toInt then 99 else p) = hel p 99 := by
    apply Int32.toInt_inj.mp
    rw [t_hel _ _ (by rw [t_99]; omega), t_99]
    (repeat' split) <;> first | rfl | (exfalso; omega)
  rw [this]
theorem cmp_lt (a b : Int64) : (lg_cmp a b < 0) = (a.toInt < b.toInt) := by
  unfold lg_cmp
  by_cases h1 : a > b
  · rw [if_pos h1]
    have := Int64.lt_iff_toInt_lt.mp h1
    simp only [t_lt, t_0, t_1]
    exact propext ⟨fun q => by omega, fun q => by omega⟩
  · rw [if_neg h1]
    have h2 : ¬ b.toInt < a.toInt := fun q => h1 (Int64.lt_iff_toInt_lt.mpr q)
    by_cases h3 : a = b
    · rw [if_pos h3, h3]
      simp only [t_lt, t_0]
      exact propext ⟨fun q => by omega, fun q => by omega⟩
    · rw [if_neg h3]
      have h4 : ¬ a.toInt = b.toInt := fun q => h3 (Int64.toInt_inj.mp q)
      simp only [t_lt, t_0, t_m1]
      exact propext ⟨fun q => by omega, fun q => by omega⟩
theorem cmp_gt (a b : Int64) : (0 < lg_cmp a b) = (b.toInt < a.toInt) := by
  unfold lg_cmp
  by_cases h1 : a > b
  · rw [if_pos h1]
    have := Int64.lt_iff_toInt_lt.mp h1
    simp only [t_lt, t_0, t_1]
    exact propext ⟨fun q => by omega, fun q => by omega⟩
  · rw [if_neg h1]
    have h2 : ¬ b.toInt < a.toInt := fun q => h1 (Int64.lt_iff_toInt_lt.mpr q)
    by_cases h3 : a = b
    · rw [if_pos h3, h3]
      simp only [t_lt, t_0]
      exact propext ⟨fun q => by omega, fun q => by omega⟩
    · rw [if_neg h3]
      simp only [t_lt, t_0, t_m1]
      exact propext ⟨fun q => by omega, fun q => by omega⟩
theorem cmp_eq (a b : Int64) : (lg_cmp a b = 0) = (a.toInt = b.toInt) := by
  unfold lg_cmp
  by_cases h1 : a > b
  · rw [if_pos h1]
    have := Int64.lt_iff_toInt_lt.mp h1
    simp only [t_eq, t_0, t_1]
    exact propext ⟨fun q => by omega, fun q => by omega⟩
  · rw [if_neg h1]
    by_cases h3 : a = b
    · rw [if_pos h3, h3]
      exact propext ⟨fun _ => rfl, fun _ => rfl⟩
    · rw [if_neg h3]
      have h4 : ¬ a.toInt = b.toInt := fun q => h3 (Int64.toInt_inj.mp q)
      simp only [t_eq, t_0, t_m1]
      exact propext ⟨fun q => by omega, fun q => by omega⟩
theorem e148 (p q r : Int64) : C E (d + 1) 148 [vL p, vL q, vL r] (M, L) = some (some (vI (b1 (q.toInt ≤ p.toInt ∧ p.toInt ≤ r.toInt))), (M, L)) := by
  rw [x148]
  simp only [cmp_lt, cmp_gt]
  unfold b1
  (repeat' split) <;> first | rfl | (exfalso; omega)
theorem e149 (p q : Int32) : C E (d + 1) 149 [vI p, vI q] (M, L) = some (some (vI (b1 (((p >>> (q &&& 31)) &&& (1 : Int32)) = (1 : Int32)))), (M, L)) := by
  rw [x149]
  unfold b1
  split <;> rfl
def fi (M : Nat → Nat → Int32) (a n : Nat) (v : Int32) : Nat → Nat → Int32 := fun c i => if c = a then (if i < n then v else M c i) else M c i
theorem fi_o {a n c : Nat} {v : Int32} (h : ¬ c = a) : fi M a n v c = M c := by
  funext i
  exact if_neg h
theorem fi_i {a n i : Nat} {v : Int32} (h : i < n) : fi M a n v a i = v := by
  unfold fi
  rw [if_pos rfl, if_pos h]
theorem fi_step {a k : Nat} {v : Int32} : u2 (fi M a k v) a k v = fi M a (k + 1) v := by
  funext c i
  rw [u2_ap]
  unfold fi
  (repeat' split) <;> first | rfl | (exfalso; omega)
theorem fill_loop (a n : Nat) (v : Int32) (hn : n < 2147483648) : ∀ m k : Nat, k + m = n → X E d me252 5 [some (vR 2 n a), some (vI v), some (vI (nI k)), some (vI (nI n))] [] (fi M a k v, L) = some (none, (fi M a n v, L)) := by
  intro m
  induction m with
  | zero =>
    intro k hk
    have e : k = n := by omega
    subst e
    rw [x252_5, if_pos (nI_le (Nat.le_refl _) (by omega))]
  | succ m ih =>
    intro k hk
    rw [x252_5, if_neg (nI_ge (by omega) (by omega)), if_pos (by rw [ib_nI (by omega)]; omega), ix_nI (by omega), fi_step, nI_1]
    exact ih (k + 1) (by omega)
theorem e252 (a n : Nat) (v : Int32) (hn : n < 2147483648) : C E (d + 1) 252 [vR 2 n a, vI v] (M, L) = some (none, (fi M a n v, L)) := by
  rw [x252]
  have h : M = fi M a 0 v := by
    funext c i
    unfold fi
    (repeat' split) <;> first | rfl | (exfalso; omega)
  have := fill_loop E d M L a n v hn n 0 (by omega)
  rw [← h] at this
  exact this
def fiL (L : Nat → Nat → Int64) (a n : Nat) (v : Int64) : Nat → Nat → Int64 := fun c i => if c = a then (if i < n then v else L c i) else L c i
theorem fiL_step {a k : Nat} {v : Int64} : u2L (fiL L a k v) a k v = fiL L a (k + 1) v := by
  funext c i
  rw [u2L_ap]
  unfold fiL
  (repeat' split) <;> first | rfl | (exfalso; omega)
theorem fillL_loop (a n : Nat) (v : Int64) (hn : n < 2147483648) : ∀ m k : Nat, k + m = n → X E d me251 6 [some (vR 3 n a), some (vL v), none, some (vI (nI k)), some (vI (nI n))] [] (M, fiL L a k v) = some (none, (M, fiL L a n v)) := by
  intro m
  induction m with
  | zero =>
    intro k hk
    have e : k = n := by omega
    subst e
    rw [x251_6, if_pos (nI_le (Nat.le_refl _) (by omega))]
  | succ m ih =>
    intro k hk
    rw [x251_6, if_neg (nI_ge (by omega) (by omega)), if_pos (by rw [ib_nI (by omega)]; omega), ix_nI (by omega), fiL_step, nI_1]
    exact ih (k + 1) (by omega)
theorem e251 (a n : Nat) (v : Int64) (hn : n < 2147483648) : C E (d + 1) 251 [vR 3 n a, vL v] (M, L) = some (none, (M, fiL L a n v)) := by
  rw [x251]
  have h : L = fiL L a 0 v := by
    funext c i
    unfold fiL
    (repeat' split) <;> first | rfl | (exfalso; omega)
  have := fillL_loop E d M L a n v hn n 0 (by omega)
  rw [← h] at this
  exact this
theorem e999 {a b n0 n1 sp dp n : Nat} (h1 : sp + n ≤ n0) (h2 : dp + n ≤ n1) (h3 : n0 < 2147483648) (h4 : n1 < 2147483648) : C E (d + 1) 999 [vR 2 n0 a, vI (nI sp), vR 2 n1 b, vI (nI dp), vI (nI n)] (M, L) = some (none, (c2 M a b sp dp n, L)) := by
  rw [C_copy]
  have h : ∀ k : Nat, k < 2147483648 → ¬ nI k < (0 : Int32) := fun k hk => by rw [n_0, nI_ltB hk (by omega)]; omega
  show (if ¬ nI sp < 0 ∧ ¬ nI dp < 0 ∧ ¬ nI n < 0 ∧ ix (nI sp) + ix (nI n) ≤ n0 ∧ ix (nI dp) + ix (nI n) ≤ n1 then some (none, (c2 M a b (ix (nI sp)) (ix (nI dp)) (ix (nI n)), L)) else none) = _
  rw [ix_nI (by omega), ix_nI (by omega), ix_nI (by omega), if_pos ⟨h _ (by omega), h _ (by omega), h _ (by omega), h1, h2⟩]
theorem e999L {a b n0 n1 sp dp n : Nat} (h1 : sp + n ≤ n0) (h2 : dp + n ≤ n1) (h3 : n0 < 2147483648) (h4 : n1 < 2147483648) : C E (d + 1) 999 [vR 3 n0 a, vI (nI sp), vR 3 n1 b, vI (nI dp), vI (nI n)] (M, L) = some (none, (M, c2L L a b sp dp n)) := by
  rw [C_copy]
  have h : ∀ k : Nat, k < 2147483648 → ¬ nI k < (0 : Int32) := fun k hk => by rw [n_0, nI_ltB hk (by omega)]; omega
  show (if ¬ nI sp < 0 ∧ ¬ nI dp < 0 ∧ ¬ nI n < 0 ∧ ix (nI sp) + ix (nI n) ≤ n0 ∧ ix (nI dp) + ix (nI n) ≤ n1 then some (none, (M, c2L L a b (ix (nI sp)) (ix (nI dp)) (ix (nI n)))) else none) = _
  rw [ix_nI (by omega), ix_nI (by omega), ix_nI (by omega), if_pos ⟨h _ (by omega), h _ (by omega), h _ (by omega), h1, h2⟩]
end LEAF
