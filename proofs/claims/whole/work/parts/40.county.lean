/-! the county: reading, writing, and how it cracks -/
theorem u2_n {M : Nat → Nat → Int32} {a j i : Nat} {x : Int32} (h : ¬ i = j) : u2 M a j x a i = M a i := by rw [u2_ap, if_pos rfl, if_neg h]
theorem b1_ne {c : Prop} [Decidable c] (h : c) : ¬ b1 c = 0 := by rw [b1_z]; exact fun q => q h
theorem b1_e {c : Prop} [Decidable c] (h : ¬ c) : b1 c = 0 := b1_f h
theorem ix_l0 : ix (0 : Int32) = 0 := by decide
theorem ix_l1 : ix (1 : Int32) = 1 := by decide
theorem ix_l2 : ix (2 : Int32) = 2 := by decide
theorem ix_l3 : ix (3 : Int32) = 3 := by decide
theorem ix_l4 : ix (4 : Int32) = 4 := by decide
theorem ix_l5 : ix (5 : Int32) = 5 := by decide
theorem ix_l6 : ix (6 : Int32) = 6 := by decide
theorem ix_l7 : ix (7 : Int32) = 7 := by decide
theorem ix_l8 : ix (8 : Int32) = 8 := by decide
theorem ix_l9 : ix (9 : Int32) = 9 := by decide
theorem ix_l10 : ix (10 : Int32) = 10 := by decide
theorem ix_l11 : ix (11 : Int32) = 11 := by decide
theorem ix_l12 : ix (12 : Int32) = 12 := by decide
abbrev TP : Type := Nat × Nat × (Nat → Int32) × (Nat → Int32) × (Nat → Int32) × (Nat → Int32) × Int32 × ((Nat → Int32) → Int32)
abbrev pN (P : TP) : Nat := P.1
abbrev pG (P : TP) : Nat := P.2.1
abbrev pSp (P : TP) : Nat → Int32 := P.2.2.1
abbrev pAl (P : TP) : Nat → Int32 := P.2.2.2.1
abbrev pAs (P : TP) : Nat → Int32 := P.2.2.2.2.1
abbrev pSd (P : TP) : Nat → Int32 := P.2.2.2.2.2.1
abbrev pPr (P : TP) : Int32 := P.2.2.2.2.2.2.1
abbrev pK (P : TP) : (Nat → Int32) → Int32 := P.2.2.2.2.2.2.2
abbrev TS : Type := (Nat → Int32) × (Nat → Int32) × (Nat → Int32) × Int32
abbrev tS (T : TS) : Nat → Int32 := T.1
abbrev tM (T : TS) : Nat → Int32 := T.2.1
abbrev tE (T : TS) : Nat → Int32 := T.2.2.1
abbrev tD (T : TS) : Int32 := T.2.2.2
def nmF (s h r a d x : Int32) : Nat → Int32 := fun i => match i with
  | 0 => s
  | 1 => h
  | 2 => r
  | 3 => a
  | 4 => d
  | _ => x
/-- who has nothing, who has more, on a bridge -/
def hN (P : TP) (T : TS) (k : Nat) : Nat := cnt (pG P) (fun p => decide (tE T p = nI k ∧ (tM T p).toInt ≤ (pPr P).toInt))
def rN (P : TP) (T : TS) (k : Nat) : Nat := cnt (pG P) (fun p => decide (tE T p = nI k ∧ ¬ (tM T p).toInt ≤ (pPr P).toInt))
def crk (P : TP) (T : TS) (k : Nat) : Int32 := hel (pK P (nmF (pSp P k) (nI (hN P T k)) (nI (rN P T k)) (pAl P k) (tD T) (tS T k))) 20
def gts (P : TP) (T : TS) (p : Nat) : Int32 := if 0 ≤ (tE T p).toInt ∧ (tE T p).toInt < (pN P : Int) ∧ 0 < (tS T (ix (tE T p))).toInt then mn (pAl P (ix (tE T p))) (pAs P p) else 0
def dayS (P : TP) (T : TS) (k : Nat) : Int32 := if 0 < (tS T k).toInt then mx 0 (tS T k - crk P T k) else tS T k
def dayM (P : TP) (T : TS) (p : Nat) : Int32 := hel (tM T p + gts P T p - pSd P p) 99
def dayD (D : Int32) : Int32 := if D.toInt < 6 then D + 1 else 0
/-- a day for the seats lo .. hi - 1 -/
def pdT (P : TP) (lo hi : Int) (T : TS) : TS := (fun k => if lo ≤ (k : Int) ∧ (k : Int) < hi then dayS P T k else tS T k, fun p => if lo ≤ (tE T p).toInt ∧ (tE T p).toInt < hi then dayM P T p else tM T p, tE T, dayD (tD T))
/-- what the county at o holds -/
def CH (M : Nat → Nat → Int32) (o : Nat) (P : TP) (T : TS) : Prop := M o 11 = nI (pN P) ∧ M o 12 = nI (pG P) ∧ M o 13 = pPr P ∧ M o 14 = tD T ∧ (∀ k, k < pN P → M (o + 3) k = pSp P k ∧ M (o + 4) k = tS T k ∧ M (o + 5) k = pAl P k) ∧ ∀ p, p < pG P → M (o + 6) p = tM T p ∧ M (o + 7) p = pAs P p ∧ M (o + 8) p = pSd P p ∧ M (o + 9) p = tE T p
theorem CH.keep {M M' : Nat → Nat → Int32} {o : Nat} {P : TP} {T : TS} (h : CH M o P T) (hk : ∀ c, o ≤ c → c ≤ o + 11 → M' c = M c) : CH M' o P T := by
  obtain ⟨h1, h2, h3, h4, h5, h6⟩ := h
  have e0 := hk o (by omega) (by omega)
  refine ⟨by rw [e0]; exact h1, by rw [e0]; exact h2, by rw [e0]; exact h3, by rw [e0]; exact h4, fun k hk' => ?_, fun p hp => ?_⟩
  · rw [hk (o + 3) (by omega) (by omega), hk (o + 4) (by omega) (by omega), hk (o + 5) (by omega) (by omega)]
    exact h5 k hk'
  · rw [hk (o + 6) (by omega) (by omega), hk (o + 7) (by omega) (by omega), hk (o + 8) (by omega) (by omega), hk (o + 9) (by omega) (by omega)]
    exact h6 p hp
/-- what the law gives, by the six names -/
def LW (E : Nat × (Nat → Int32)) (kf : (Nat → Int32) → Int32) (M : Nat → Nat → Int32) : Prop := (∀ f g : Nat → Int32, (∀ i, i < 6 → f i = g i) → kf f = kf g) ∧ ((M 90 4 = 0 ∧ ∀ f, kf f = f 0 / 2 + 2 * f 2 - 4 * f 1) ∨ (M 90 4 ≠ 0 ∧ ∀ (M1 : Nat → Nat → Int32) (L1 : Nat → Nat → Int64) (d : Nat), M1 90 4 = M 90 4 → M1 91 = M 91 → M1 92 = M 92 → ∃ M2, C E (d + 2) 37 [vR 1 3 90] (M1, L1) = some (some (vI (kf (M1 94))), (M2, L1)) ∧ ∀ c, c ≠ 93 → M2 c = M1 c))
theorem LW.keep {E : Nat × (Nat → Int32)} {kf : (Nat → Int32) → Int32} {M M' : Nat → Nat → Int32} (h : LW E kf M) (h0 : M' 90 = M 90) (h1 : M' 91 = M 91) (h2 : M' 92 = M 92) : LW E kf M' := by
  refine ⟨h.1, ?_⟩
  rcases h.2 with ⟨a, b⟩ | ⟨a, b⟩
  · exact Or.inl ⟨by rw [h0]; exact a, b⟩
  · refine Or.inr ⟨by rw [h0]; exact a, fun M1 L1 d e0 e1 e2 => b M1 L1 d (by rw [e0, h0]) (by rw [e1, h1]) (by rw [e2, h2])⟩
section COUNTY
variable (E : Nat × (Nat → Int32)) (d : Nat) (M : Nat → Nat → Int32) (L : Nat → Nat → Int64)
theorem e21_0 (o : Nat) : C E (d + 1) 21 [vR 1 2 o, vI (0 : Int32)] (M, L) = some (some (vR 2 8 (o + 3)), (M, L)) := by
  rw [x21, if_pos rfl]
theorem e22_0 (o : Nat) {k : Nat} (hk : k < 8) : C E (d + 2) 22 [vR 1 2 o, vI (nI k), vI (0 : Int32)] (M, L) = some (some (vI (M (o + 3) k)), (M, L)) := by
  rw [x22, if_neg (by decide), if_neg (by decide), e21_0, bR_s, x22_27a, if_neg (nI_pos (by omega)), if_pos (show nI k < Int32.ofNat 8 from nI_lt hk (by omega)), if_pos (by rw [ib_nI (by omega)]; exact hk), ix_nI (by omega)]
theorem e23_0 (o : Nat) {k : Nat} (v : Int32) (hk : k < 8) : C E (d + 2) 23 [vR 1 2 o, vI (nI k), vI (0 : Int32), vI v] (M, L) = some (none, (u2 M (o + 3) k v, L)) := by
  rw [x23, if_neg (by decide), if_neg (by decide), e21_0, bR_s, x23_33a, if_neg (nI_pos (by omega)), if_neg (show ¬ Int32.ofNat 8 ≤ nI k from nI_ge hk (by omega)), if_pos (by rw [ib_nI (by omega)]; exact hk), ix_nI (by omega)]
theorem e21_1 (o : Nat) : C E (d + 1) 21 [vR 1 2 o, vI (1 : Int32)] (M, L) = some (some (vR 2 8 (o + 4)), (M, L)) := by
  rw [x21, if_neg (by decide), if_pos rfl]
theorem e22_1 (o : Nat) {k : Nat} (hk : k < 8) : C E (d + 2) 22 [vR 1 2 o, vI (nI k), vI (1 : Int32)] (M, L) = some (some (vI (M (o + 4) k)), (M, L)) := by
  rw [x22, if_neg (by decide), if_neg (by decide), e21_1, bR_s, x22_27a, if_neg (nI_pos (by omega)), if_pos (show nI k < Int32.ofNat 8 from nI_lt hk (by omega)), if_pos (by rw [ib_nI (by omega)]; exact hk), ix_nI (by omega)]
theorem e23_1 (o : Nat) {k : Nat} (v : Int32) (hk : k < 8) : C E (d + 2) 23 [vR 1 2 o, vI (nI k), vI (1 : Int32), vI v] (M, L) = some (none, (u2 M (o + 4) k v, L)) := by
  rw [x23, if_neg (by decide), if_neg (by decide), e21_1, bR_s, x23_33a, if_neg (nI_pos (by omega)), if_neg (show ¬ Int32.ofNat 8 ≤ nI k from nI_ge hk (by omega)), if_pos (by rw [ib_nI (by omega)]; exact hk), ix_nI (by omega)]
theorem e21_2 (o : Nat) : C E (d + 1) 21 [vR 1 2 o, vI (2 : Int32)] (M, L) = some (some (vR 2 8 (o + 5)), (M, L)) := by
  rw [x21, if_neg (by decide), if_neg (by decide), if_pos rfl]
theorem e22_2 (o : Nat) {k : Nat} (hk : k < 8) : C E (d + 2) 22 [vR 1 2 o, vI (nI k), vI (2 : Int32)] (M, L) = some (some (vI (M (o + 5) k)), (M, L)) := by
  rw [x22, if_neg (by decide), if_neg (by decide), e21_2, bR_s, x22_27a, if_neg (nI_pos (by omega)), if_pos (show nI k < Int32.ofNat 8 from nI_lt hk (by omega)), if_pos (by rw [ib_nI (by omega)]; exact hk), ix_nI (by omega)]
theorem e23_2 (o : Nat) {k : Nat} (v : Int32) (hk : k < 8) : C E (d + 2) 23 [vR 1 2 o, vI (nI k), vI (2 : Int32), vI v] (M, L) = some (none, (u2 M (o + 5) k v, L)) := by
  rw [x23, if_neg (by decide), if_neg (by decide), e21_2, bR_s, x23_33a, if_neg (nI_pos (by omega)), if_neg (show ¬ Int32.ofNat 8 ≤ nI k from nI_ge hk (by omega)), if_pos (by rw [ib_nI (by omega)]; exact hk), ix_nI (by omega)]
theorem e21_3 (o : Nat) : C E (d + 1) 21 [vR 1 2 o, vI (3 : Int32)] (M, L) = some (some (vR 2 9 (o + 6)), (M, L)) := by
  rw [x21, if_neg (by decide), if_neg (by decide), if_neg (by decide), if_pos rfl]
theorem e22_3 (o : Nat) {k : Nat} (hk : k < 9) : C E (d + 2) 22 [vR 1 2 o, vI (nI k), vI (3 : Int32)] (M, L) = some (some (vI (M (o + 6) k)), (M, L)) := by
  rw [x22, if_neg (by decide), if_neg (by decide), e21_3, bR_s, x22_27a, if_neg (nI_pos (by omega)), if_pos (show nI k < Int32.ofNat 9 from nI_lt hk (by omega)), if_pos (by rw [ib_nI (by omega)]; exact hk), ix_nI (by omega)]
theorem e23_3 (o : Nat) {k : Nat} (v : Int32) (hk : k < 9) : C E (d + 2) 23 [vR 1 2 o, vI (nI k), vI (3 : Int32), vI v] (M, L) = some (none, (u2 M (o + 6) k v, L)) := by
  rw [x23, if_neg (by decide), if_neg (by decide), e21_3, bR_s, x23_33a, if_neg (nI_pos (by omega)), if_neg (show ¬ Int32.ofNat 9 ≤ nI k from nI_ge hk (by omega)), if_pos (by rw [ib_nI (by omega)]; exact hk), ix_nI (by omega)]
theorem e21_4 (o : Nat) : C E (d + 1) 21 [vR 1 2 o, vI (4 : Int32)] (M, L) = some (some (vR 2 9 (o + 7)), (M, L)) := by
  rw [x21, if_neg (by decide), if_neg (by decide), if_neg (by decide), if_neg (by decide), if_pos rfl]
theorem e22_4 (o : Nat) {k : Nat} (hk : k < 9) : C E (d + 2) 22 [vR 1 2 o, vI (nI k), vI (4 : Int32)] (M, L) = some (some (vI (M (o + 7) k)), (M, L)) := by
  rw [x22, if_neg (by decide), if_neg (by decide), e21_4, bR_s, x22_27a, if_neg (nI_pos (by omega)), if_pos (show nI k < Int32.ofNat 9 from nI_lt hk (by omega)), if_pos (by rw [ib_nI (by omega)]; exact hk), ix_nI (by omega)]
theorem e23_4 (o : Nat) {k : Nat} (v : Int32) (hk : k < 9) : C E (d + 2) 23 [vR 1 2 o, vI (nI k), vI (4 : Int32), vI v] (M, L) = some (none, (u2 M (o + 7) k v, L)) := by
  rw [x23, if_neg (by decide), if_neg (by decide), e21_4, bR_s, x23_33a, if_neg (nI_pos (by omega)), if_neg (show ¬ Int32.ofNat 9 ≤ nI k from nI_ge hk (by omega)), if_pos (by rw [ib_nI (by omega)]; exact hk), ix_nI (by omega)]
theorem e21_5 (o : Nat) : C E (d + 1) 21 [vR 1 2 o, vI (5 : Int32)] (M, L) = some (some (vR 2 9 (o + 8)), (M, L)) := by
  rw [x21, if_neg (by decide), if_neg (by decide), if_neg (by decide), if_neg (by decide), if_neg (by decide), if_pos rfl]
theorem e22_5 (o : Nat) {k : Nat} (hk : k < 9) : C E (d + 2) 22 [vR 1 2 o, vI (nI k), vI (5 : Int32)] (M, L) = some (some (vI (M (o + 8) k)), (M, L)) := by
  rw [x22, if_neg (by decide), if_neg (by decide), e21_5, bR_s, x22_27a, if_neg (nI_pos (by omega)), if_pos (show nI k < Int32.ofNat 9 from nI_lt hk (by omega)), if_pos (by rw [ib_nI (by omega)]; exact hk), ix_nI (by omega)]
theorem e23_5 (o : Nat) {k : Nat} (v : Int32) (hk : k < 9) : C E (d + 2) 23 [vR 1 2 o, vI (nI k), vI (5 : Int32), vI v] (M, L) = some (none, (u2 M (o + 8) k v, L)) := by
  rw [x23, if_neg (by decide), if_neg (by decide), e21_5, bR_s, x23_33a, if_neg (nI_pos (by omega)), if_neg (show ¬ Int32.ofNat 9 ≤ nI k from nI_ge hk (by omega)), if_pos (by rw [ib_nI (by omega)]; exact hk), ix_nI (by omega)]
theorem e21_6 (o : Nat) : C E (d + 1) 21 [vR 1 2 o, vI (6 : Int32)] (M, L) = some (some (vR 2 9 (o + 9)), (M, L)) := by
  rw [x21, if_neg (by decide), if_neg (by decide), if_neg (by decide), if_neg (by decide), if_neg (by decide), if_neg (by decide), if_pos rfl]
theorem e22_6 (o : Nat) {k : Nat} (hk : k < 9) : C E (d + 2) 22 [vR 1 2 o, vI (nI k), vI (6 : Int32)] (M, L) = some (some (vI (M (o + 9) k)), (M, L)) := by
  rw [x22, if_neg (by decide), if_neg (by decide), e21_6, bR_s, x22_27a, if_neg (nI_pos (by omega)), if_pos (show nI k < Int32.ofNat 9 from nI_lt hk (by omega)), if_pos (by rw [ib_nI (by omega)]; exact hk), ix_nI (by omega)]
theorem e23_6 (o : Nat) {k : Nat} (v : Int32) (hk : k < 9) : C E (d + 2) 23 [vR 1 2 o, vI (nI k), vI (6 : Int32), vI v] (M, L) = some (none, (u2 M (o + 9) k v, L)) := by
  rw [x23, if_neg (by decide), if_neg (by decide), e21_6, bR_s, x23_33a, if_neg (nI_pos (by omega)), if_neg (show ¬ Int32.ofNat 9 ≤ nI k from nI_ge hk (by omega)), if_pos (by rw [ib_nI (by omega)]; exact hk), ix_nI (by omega)]
theorem e21_9 (o : Nat) : C E (d + 1) 21 [vR 1 2 o, vI (9 : Int32)] (M, L) = some (some (vR 2 8 (o + 1)), (M, L)) := by
  rw [x21, if_neg (by decide), if_neg (by decide), if_neg (by decide), if_neg (by decide), if_neg (by decide), if_neg (by decide), if_neg (by decide), if_neg (by decide), if_neg (by decide), if_pos rfl]
theorem e22_9 (o : Nat) {k : Nat} (hk : k < 8) : C E (d + 2) 22 [vR 1 2 o, vI (nI k), vI (9 : Int32)] (M, L) = some (some (vI (M (o + 1) k)), (M, L)) := by
  rw [x22, if_neg (by decide), if_neg (by decide), e21_9, bR_s, x22_27a, if_neg (nI_pos (by omega)), if_pos (show nI k < Int32.ofNat 8 from nI_lt hk (by omega)), if_pos (by rw [ib_nI (by omega)]; exact hk), ix_nI (by omega)]
theorem e21_10 (o : Nat) : C E (d + 1) 21 [vR 1 2 o, vI (10 : Int32)] (M, L) = some (some (vR 2 8 (o + 2)), (M, L)) := by
  rw [x21, if_neg (by decide), if_neg (by decide), if_neg (by decide), if_neg (by decide), if_neg (by decide), if_neg (by decide), if_neg (by decide), if_neg (by decide), if_neg (by decide), if_neg (by decide), if_pos rfl]
theorem e22_10 (o : Nat) {k : Nat} (hk : k < 8) : C E (d + 2) 22 [vR 1 2 o, vI (nI k), vI (10 : Int32)] (M, L) = some (some (vI (M (o + 2) k)), (M, L)) := by
  rw [x22, if_neg (by decide), if_neg (by decide), e21_10, bR_s, x22_27a, if_neg (nI_pos (by omega)), if_pos (show nI k < Int32.ofNat 8 from nI_lt hk (by omega)), if_pos (by rw [ib_nI (by omega)]; exact hk), ix_nI (by omega)]
theorem e22_7 (o : Nat) (k : Int32) : C E (d + 1) 22 [vR 1 2 o, vI k, vI (7 : Int32)] (M, L) = some (some (vI (M o 13)), (M, L)) := by
  rw [x22, if_pos rfl]
theorem e23_7 (o : Nat) (k v : Int32) : C E (d + 1) 23 [vR 1 2 o, vI k, vI (7 : Int32), vI v] (M, L) = some (none, (u2 M o 13 v, L)) := by
  rw [x23, if_pos rfl]
theorem e22_8 (o : Nat) (k : Int32) : C E (d + 1) 22 [vR 1 2 o, vI k, vI (8 : Int32)] (M, L) = some (some (vI (M o 14)), (M, L)) := by
  rw [x22, if_neg (by decide), if_pos rfl]
theorem e23_8 (o : Nat) (k v : Int32) : C E (d + 1) 23 [vR 1 2 o, vI k, vI (8 : Int32), vI v] (M, L) = some (none, (u2 M o 14 v, L)) := by
  rw [x23, if_neg (by decide), if_pos rfl]
theorem e24_1 (o : Nat) {k : Nat} (v : Int32) (hk : k < 8) : C E (d + 3) 24 [vR 1 2 o, vI (nI k), vI (1 : Int32), vI v] (M, L) = some (some (vI (hel (M (o + 4) k + v) 99)), (u2 M (o + 4) k (hel (M (o + 4) k + v) 99), L)) := by
  rw [x24, e22_1 E d M L o hk, bI_s, e147, bI_s, e23_1 E d M L o _ hk, bV_s, e22_1 E d _ L o hk, bI_s, u2_s]
theorem e24_3 (o : Nat) {k : Nat} (v : Int32) (hk : k < 9) : C E (d + 3) 24 [vR 1 2 o, vI (nI k), vI (3 : Int32), vI v] (M, L) = some (some (vI (hel (M (o + 6) k + v) 99)), (u2 M (o + 6) k (hel (M (o + 6) k + v) 99), L)) := by
  rw [x24, e22_3 E d M L o hk, bI_s, e147, bI_s, e23_3 E d M L o _ hk, bV_s, e22_3 E d _ L o hk, bI_s, u2_s]
theorem e81 (o : Nat) {k : Nat} (hk : k < 8) : C E (d + 3) 81 [vR 1 2 o, vI (nI k)] (M, L) = some (some (vI (b1 (0 < (M (o + 4) k).toInt))), (M, L)) := by
  rw [x81, e22_1 E d M L o hk, bI_s]
  simp only [t_le, t_0]
  unfold b1
  (repeat' split) <;> first | rfl | (exfalso; omega)
theorem e33 (o : Nat) {k : Nat} (hk : k < 9) {g : Nat} (hg : M o 12 = nI g) (hg9 : g ≤ 9) (hkg : k < g) : C E (d + 2) 33 [vR 1 2 o, vI (nI k)] (M, L) = some (some (vI (mx 0 (M (o + 6) k - M o 13))), (M, L)) := by
  rw [x33, e16, bI_s, if_neg (b1_ne ⟨by rw [t_nI (by omega)]; omega, by rw [t_nI (by omega), hg, t_nI (by omega)]; omega, by rw [t_nI (by omega)]; omega⟩), if_pos (by rw [ib_nI (by omega)]; exact hk), e998, bI_s, ix_nI (by omega)]
set_option maxHeartbeats 2000000 in
theorem e36 (o : Nat) (ho : o + 11 < 90 ∨ 94 < o) {kf : (Nat → Int32) → Int32} (hl : LW E kf M) {k n : Nat} (hn : M o 11 = nI n) (hn8 : n ≤ 8) (hk : k < n) : ∃ M', C E (d + 3) 36 [vR 1 3 90, vR 1 2 o, vI (nI k)] (M, L) = some (some (vI (hel (kf (nmF (M (o + 3) k) (M (o + 10) k) (M (o + 11) k) (M (o + 5) k) (M o 14) (M (o + 4) k))) 20)), (M', L)) ∧ ∀ c, c ≠ 93 → c ≠ 94 → M' c = M c := by
  have hib : ib (nI k) 8 := by rw [ib_nI (by omega)]; omega
  have h6 : ∀ j, j < 6 → ib (nI j) 6 := fun j hj => by rw [ib_nI (by omega)]; exact hj
  have hx := ix_nI (n := k) (by omega)
  have h15 : C E (d + 2) 15 [vR 1 2 o, vI (nI k)] (M, L) = some (some (vI (1 : Int32)), (M, L)) := by
    rw [e15, b1_t ⟨by rw [t_nI (by omega)]; omega, by rw [t_nI (by omega), hn, t_nI (by omega)]; omega, by rw [t_nI (by omega)]; omega⟩]
  rw [x36, h15, bI_s, if_neg (by decide)]
  rcases hl.2 with ⟨h0, hk0⟩ | ⟨h0, hk1⟩
  · refine ⟨M, ?_, fun _ _ _ => rfl⟩
    rw [if_pos h0, if_pos hib, if_pos hib, if_pos hib, e147, bI_s, hk0, hx]
    rfl
  · rw [if_neg h0]
    simp only [if_pos hib, if_pos (show ib (0 : Int32) 6 from h6 0 (by omega)), if_pos (show ib (1 : Int32) 6 from h6 1 (by omega)), if_pos (show ib (2 : Int32) 6 from h6 2 (by omega)), if_pos (show ib (3 : Int32) 6 from h6 3 (by omega)), if_pos (show ib (4 : Int32) 6 from h6 4 (by omega)), if_pos (show ib (5 : Int32) 6 from h6 5 (by omega)), ix_l0, ix_l1, ix_l2, ix_l3, ix_l4, ix_l5, hx]
    simp (disch := omega) only [u2_o]
    generalize hM1 : u2 (u2 (u2 (u2 (u2 (u2 M 94 0 (M (o + 3) k)) 94 1 (M (o + 10) k)) 94 2 (M (o + 11) k)) 94 3 (M (o + 5) k)) 94 4 (M o 14)) 94 5 (M (o + 4) k) = M1
    have hf : ∀ c, c ≠ 94 → M1 c = M c := by
      intro c hc
      rw [← hM1]
      simp (disch := omega) only [u2_o]
    obtain ⟨M2, e2, f2⟩ := hk1 M1 L d (by rw [hf 90 (by omega)]) (hf 91 (by omega)) (hf 92 (by omega))
    refine ⟨M2, ?_, fun c h1 h2 => (f2 c h1).trans (hf c h2)⟩
    rw [e2, bI_s, e147, bI_s]
    have : kf (M1 94) = kf (nmF (M (o + 3) k) (M (o + 10) k) (M (o + 11) k) (M (o + 5) k) (M o 14) (M (o + 4) k)) := by
      apply hl.1
      intro i hi
      rw [← hM1]
      match i, hi with
      | 0, _ => simp (disch := omega) only [u2_n, u2_s]; rfl
      | 1, _ => simp (disch := omega) only [u2_n, u2_s]; rfl
      | 2, _ => simp (disch := omega) only [u2_n, u2_s]; rfl
      | 3, _ => simp (disch := omega) only [u2_n, u2_s]; rfl
      | 4, _ => simp (disch := omega) only [u2_n, u2_s]; rfl
      | 5, _ => simp (disch := omega) only [u2_n, u2_s]; rfl
    rw [this]
end COUNTY
