/-! beggars off a shelf -/
theorem l_bm {x : Int} (h1 : -9223372036854775808 ≤ x) (h2 : x < 9223372036854775808) : x.bmod (2 ^ 64) = x := Int.bmod_eq_of_le_mul_two (by omega) (by omega)
theorem l_ad {a b : Int64} (h1 : -9223372036854775808 ≤ a.toInt + b.toInt) (h2 : a.toInt + b.toInt < 9223372036854775808) : (a + b).toInt = a.toInt + b.toInt := by rw [Int64.toInt_add, l_bm h1 h2]
theorem li_t {x : Int64} (h1 : -2147483648 ≤ x.toInt) (h2 : x.toInt < 2147483648) : (Int64.toInt32 x).toInt = x.toInt := by
  rw [Int64.toInt_toInt32, t_bm h1 h2]
theorem u2_cg {A B : Nat → Nat → Int32} {a j c : Nat} {x : Int32} (h : A c = B c) : u2 A a j x c = u2 B a j x c := by
  funext i
  rw [u2_ap, u2_ap, h]
theorem addC_o {M : Nat → Nat → Int32} {g : Nat} {a b c e : Int32} {x : Nat} (h : ¬ (40 ≤ x ∧ x ≤ 49)) : addC M g a b c e x = M x := by
  unfold addC
  simp (disch := omega) only [u2_o]
theorem addR_o {M : Nat → Nat → Int32} {g : Nat} {a b c e : Int32} {x : Nat} (h : ¬ (x = 400 ∨ x = 401)) : addR M g a b c e x = M x := by
  unfold addR
  simp (disch := omega) only [u2_o]
theorem addC_cg {A B : Nat → Nat → Int32} {g : Nat} {a b c e : Int32} {x : Nat} (h : A x = B x) : addC A g a b c e x = addC B g a b c e x := u2_cg (u2_cg (u2_cg (u2_cg (u2_cg h))))
theorem addR_cg {A B : Nat → Nat → Int32} {g : Nat} {a b c e : Int32} {x : Nat} (h : A x = B x) : addR A g a b c e x = addR B g a b c e x := u2_cg (u2_cg (u2_cg (u2_cg (u2_cg h))))
/-- four numbers of a beggar -/
abbrev I4 := Int32 × Int32 × Int32 × Int32
def addCn (M : Nat → Nat → Int32) (g : Nat) (V : Nat → I4) : Nat → Nat → Nat → Int32
  | 0 => M
  | k + 1 => addC (addCn M g V k) (g + k) (V k).1 (V k).2.1 (V k).2.2.1 (V k).2.2.2
def addRn (M : Nat → Nat → Int32) (g : Nat) (V : Nat → I4) : Nat → Nat → Nat → Int32
  | 0 => M
  | k + 1 => addR (addRn M g V k) (g + k) (V k).1 (V k).2.1 (V k).2.2.1 (V k).2.2.2
theorem addCn_o {M : Nat → Nat → Int32} {g : Nat} {V : Nat → I4} {x : Nat} (h : ¬ (40 ≤ x ∧ x ≤ 49)) : ∀ k, addCn M g V k x = M x
  | 0 => rfl
  | k + 1 => (addC_o h).trans (addCn_o h k)
theorem addRn_o {M : Nat → Nat → Int32} {g : Nat} {V : Nat → I4} {x : Nat} (h : ¬ (x = 400 ∨ x = 401)) : ∀ k, addRn M g V k x = M x
  | 0 => rfl
  | k + 1 => (addR_o h).trans (addRn_o h k)
theorem addRn_cg {A B : Nat → Nat → Int32} {g : Nat} {V : Nat → I4} {x : Nat} (h : A x = B x) : ∀ k, addRn A g V k x = addRn B g V k x
  | 0 => h
  | k + 1 => addR_cg (addRn_cg h k)
theorem addCn_11 {M : Nat → Nat → Int32} {g : Nat} {V : Nat → I4} : ∀ k, addCn M g V k 40 11 = M 40 11
  | 0 => rfl
  | k + 1 => by
    rw [← addCn_11 (M := M) (g := g) (V := V) k]
    show addC _ _ _ _ _ _ 40 11 = _
    unfold addC
    simp (disch := omega) only [u2_o, u2_n]
theorem addCn_12 {M : Nat → Nat → Int32} {g : Nat} {V : Nat → I4} (hg : M 40 12 = nI g) : ∀ k, addCn M g V k 40 12 = nI (g + k)
  | 0 => hg
  | k + 1 => by
    show addC _ _ _ _ _ _ 40 12 = _
    unfold addC
    simp (disch := omega) only [u2_o, u2_s]
    rfl
theorem addRn_6 {M : Nat → Nat → Int32} {g : Nat} {V : Nat → I4} : ∀ k, addRn M g V k 400 6 = M 400 6
  | 0 => rfl
  | k + 1 => by
    rw [← addRn_6 (M := M) (g := g) (V := V) k]
    show addR _ _ _ _ _ _ 400 6 = _
    unfold addR
    simp (disch := omega) only [u2_o, u2_n]
theorem addRn_7 {M : Nat → Nat → Int32} {g : Nat} {V : Nat → I4} (hg : M 400 7 = nI g) : ∀ k, addRn M g V k 400 7 = nI (g + k)
  | 0 => hg
  | k + 1 => by
    show addR _ _ _ _ _ _ 400 7 = _
    unfold addR
    simp (disch := omega) only [u2_o, u2_s]
    rfl
abbrev fit4 (n : Nat) (v : I4) : Prop := okN n 3 v.1 ∧ okN n 4 v.2.1 ∧ okN n 5 v.2.2.1 ∧ okN n 6 v.2.2.2
/-- the four bytes from place i on -/
def byt (W : Nat → Int64) (i : Nat) : I4 := (Int64.toInt32 (W i), Int64.toInt32 (W (i + 1)), Int64.toInt32 (W (i + 2)), Int64.toInt32 (W (i + 3)))
/-- up to which the beggars are good -/
theorem stopEx (good : Nat → Prop) (b : Nat) (h : ¬ good b) : ∃ K, K ≤ b ∧ (∀ k, k < K → good k) ∧ ¬ good K := by
  have : ∀ m k, k + m = b → (∀ j, j < k → good j) → ∃ K, K ≤ b ∧ (∀ k, k < K → good k) ∧ ¬ good K := by
    intro m
    induction m with
    | zero => intro k hk hj; exact ⟨k, by omega, hj, by rw [show k = b by omega]; exact h⟩
    | succ m ih =>
      intro k hk hj
      by_cases e : good k
      · exact ih (k + 1) (by omega) (fun j q => by
          by_cases q2 : j = k
          · rw [q2]; exact e
          · exact hj j (by omega))
      · exact ⟨k, by omega, hj, e⟩
  exact this b 0 (by omega) (fun j q => absurd q (by omega))
section BEGGARS
variable (E : Nat × (Nat → Int32)) (d : Nat) (L : Nat → Nat → Int64)
theorem e105 (M : Nat → Nat → Int32) {s m i n g : Nat} (hs : s < 6) (hr : 0 ≤ (M 331 s).toInt ∧ (M 331 s).toInt ≤ 4) (hm : M 332 s = nI m) (hm60 : m ≤ 60) (hi : i + 4 ≤ m) (hn : M 40 11 = nI n) (hn8 : n ≤ 8) (hg : M 40 12 = nI g) (hg9 : g ≤ 9) {v : I4} (hv : v = byt (L (334 + s)) i) :
    C E (d + 5) 105 [vR 1 11 10, vI (nI s), vI (nI i)] (M, L) = some (some (vI (b1 (fit4 n v ∧ g < 9))), (if fit4 n v ∧ g < 9 then addC M g v.1 v.2.1 v.2.2.1 v.2.2.2 else M, L)) := by
  subst hv
  unfold byt fit4
  rw [x105, e61 E d L M hs hr hm hm60 (by omega), bL_s, nI_1, e61 E d L M hs hr hm hm60 (by omega), bL_s, show nI i + (2 : Int32) = nI (i + 2) from nI_add i 2, e61 E d L M hs hr hm hm60 (by omega), bL_s, show nI i + (3 : Int32) = nI (i + 3) from nI_add i 3, e61 E d L M hs hr hm hm60 (by omega), bL_s, e20l E _ L M 3 hn hn8 (by omega) 3 rfl, bI_s]
  generalize Int64.toInt32 (L (334 + s) i) = a
  generalize Int64.toInt32 (L (334 + s) (i + 1)) = b
  generalize Int64.toInt32 (L (334 + s) (i + 2)) = c
  generalize Int64.toInt32 (L (334 + s) (i + 3)) = e
  show _ = some (some (vI (b1 ((okN n 3 a ∧ okN n 4 b ∧ okN n 5 c ∧ okN n 6 e) ∧ g < 9))), (if (okN n 3 a ∧ okN n 4 b ∧ okN n 5 c ∧ okN n 6 e) ∧ g < 9 then addC M g a b c e else M, L))
  by_cases h1 : okN n 3 a
  · rw [if_neg (b1_ne h1), e20l E _ L M 4 hn hn8 (by omega) 4 rfl, bI_s]
    by_cases h2 : okN n 4 b
    · rw [if_neg (b1_ne h2), e20l E _ L M 5 hn hn8 (by omega) 5 rfl, bI_s]
      by_cases h3 : okN n 5 c
      · rw [if_neg (b1_ne h3), e20l E _ L M 6 hn hn8 (by omega) 6 rfl, bI_s]
        by_cases h4 : okN n 6 e
        · rw [if_neg (b1_ne h4)]
          by_cases h5 : g < 9
          · rw [e18 E _ L M 40 hg h5, bI_s, if_neg (nI_pos (by omega)), b1_t ⟨⟨h1, h2, h3, h4⟩, h5⟩, if_pos ⟨⟨h1, h2, h3, h4⟩, h5⟩]
            rfl
          · have eg : g = 9 := by omega
            rw [x18, hg, eg, if_neg (show ¬ nI 9 < (9 : Int32) by decide), bI_s, if_pos (by decide), b1_f (fun q => absurd q.2 (by omega)), if_neg (fun q => absurd q.2 (by omega))]
        · rw [if_pos (b1_e h4), b1_f (fun q => h4 q.1.2.2.2), if_neg (fun q => h4 q.1.2.2.2)]
      · rw [if_pos (b1_e h3), b1_f (fun q => h3 q.1.2.2.1), if_neg (fun q => h3 q.1.2.2.1)]
    · rw [if_pos (b1_e h2), b1_f (fun q => h2 q.1.2.1), if_neg (fun q => h2 q.1.2.1)]
  · rw [if_pos (b1_e h1), b1_f (fun q => h1 q.1.1), if_neg (fun q => h1 q.1.1)]
/-- the class's walk over the bytes -/
theorem l104 (M : Nat → Nat → Int32) {s m f n g K cnt : Nat} {x4 : Int32} (hs : s < 6) (hr : 0 ≤ (M 331 s).toInt ∧ (M 331 s).toInt ≤ 4) (hm : M 332 s = nI m) (hm60 : m ≤ 60) (hf : f < 2147483648) (hn : M 40 11 = nI n) (hn8 : n ≤ 8) (hg : M 40 12 = nI g) (hc9 : cnt ≤ 9) {V : Nat → I4} (hV : ∀ k, V k = byt (L (334 + s)) (f + 4 * k))
    (hg9 : g ≤ 9) (hK9 : K ≤ 9) (h1 : ∀ k, k < K → k < cnt ∧ f + 4 * k + 4 ≤ m ∧ fit4 n (V k) ∧ g + k < 9) (h2 : ¬ (K < cnt ∧ f + 4 * K + 4 ≤ m ∧ fit4 n (V K) ∧ g + K < 9)) :
    ∀ r k (x6 : Int64), k + r = K → x6.toInt = (f : Int) + 4 * k → X E (d + 6) me104 59 [some (vR 1 11 10), some (vI (nI s)), some (vI (nI f)), some (vI (nI cnt)), some (vI x4), some (vI (nI k)), some (vL x6), none] [] (addCn M g V k, L) = some (some (vI (nI K)), (addCn M g V K, L)) := by
  have o1 : ∀ k, addCn M g V k 331 = M 331 := fun k => addCn_o (by omega) k
  have o2 : ∀ k, addCn M g V k 332 = M 332 := fun k => addCn_o (by omega) k
  have gk : ∀ k, k ≤ K → g + k ≤ 9 := fun k hk => by
    by_cases e : k = 0
    · omega
    · have := (h1 (k - 1) (by omega)).2.2.2; omega
  intro r
  induction r with
  | zero =>
    intro k x6 hk hx
    have e : k = K := by omega
    subst e
    rw [x104_59]
    by_cases q1 : cnt ≤ k
    · rw [if_pos (nI_le q1 (by omega))]
    · rw [if_neg (nI_ge (by omega) (by omega)), if_neg (show ¬ lg_cmp x6 0 < 0 by rw [cmp_lt, hx, l_0]; omega), e51 E _ L _ hs, bI_s, o1, o2, if_pos hr, hm]
      by_cases q2 : f + 4 * k + 4 ≤ m
      · have ei : Int64.toInt32 x6 = nI (f + 4 * k) := by rw [t_eq, li_t (by omega) (by omega), hx, t_nI (by omega)]; omega
        have nb : ¬ (fit4 n (V k) ∧ g + k < 9) := fun q => h2 ⟨by omega, q2, q.1, q.2⟩
        rw [if_neg (show ¬ 0 < lg_cmp (x6 + 4) (Int32.toInt64 (nI m)) by rw [cmp_gt, l_ad (by rw [l_4]; omega) (by rw [l_4]; omega), l_4, tl_i, t_nI (by omega)]; omega), ei, e105 E (d + 1) L (addCn M g V k) hs (by rw [o1]; exact hr) (by rw [o2]; exact hm) hm60 q2 (by rw [addCn_11]; exact hn) hn8 (addCn_12 hg k) (gk k (Nat.le_refl _)) (hV k), bI_s, if_pos (b1_e nb), if_neg nb]
      · rw [if_pos (show 0 < lg_cmp (x6 + 4) (Int32.toInt64 (nI m)) by rw [cmp_gt, l_ad (by rw [l_4]; omega) (by rw [l_4]; omega), l_4, tl_i, t_nI (by omega)]; omega)]
  | succ r ih =>
    intro k x6 hk hx
    obtain ⟨q1, q2, q3, q4⟩ := h1 k (by omega)
    have ei : Int64.toInt32 x6 = nI (f + 4 * k) := by rw [t_eq, li_t (by omega) (by omega), hx, t_nI (by omega)]; omega
    rw [x104_59, if_neg (nI_ge (by omega) (by omega)), if_neg (show ¬ lg_cmp x6 0 < 0 by rw [cmp_lt, hx, l_0]; omega), e51 E _ L _ hs, bI_s, o1, o2, if_pos hr, hm, if_neg (show ¬ 0 < lg_cmp (x6 + 4) (Int32.toInt64 (nI m)) by rw [cmp_gt, l_ad (by rw [l_4]; omega) (by rw [l_4]; omega), l_4, tl_i, t_nI (by omega)]; omega), ei, e105 E (d + 1) L (addCn M g V k) hs (by rw [o1]; exact hr) (by rw [o2]; exact hm) hm60 q2 (by rw [addCn_11]; exact hn) hn8 (addCn_12 hg k) (gk k (by omega)) (hV k), bI_s, if_neg (b1_ne ⟨q3, q4⟩), if_pos ⟨q3, q4⟩, nI_1]
    exact ih (k + 1) (x6 + 4) (by omega) (by rw [l_ad (by rw [l_4]; omega) (by rw [l_4]; omega), l_4, hx]; omega)
theorem fit_l {n : Nat} {W : Nat → Int64} {i : Nat} (hb : ∀ j, j < 4 → -128 ≤ (W (i + j)).toInt ∧ (W (i + j)).toInt ≤ 127) : fit4 n (byt W i) ↔ ((0 ≤ (W i).toInt ∧ (W i).toInt ≤ 99) ∧ (0 ≤ (W (i + 1)).toInt ∧ (W (i + 1)).toInt ≤ 9) ∧ (0 ≤ (W (i + 2)).toInt ∧ (W (i + 2)).toInt ≤ 9) ∧ -1 ≤ (W (i + 3)).toInt ∧ (W (i + 3)).toInt ≤ (n : Int) - 1) := by
  have b0 := hb 0 (by omega)
  have b1' := hb 1 (by omega)
  have b2' := hb 2 (by omega)
  have b3' := hb 3 (by omega)
  have w0 := li_t (x := W i) (by have := b0; simp only [Nat.add_zero] at this; omega) (by have := b0; simp only [Nat.add_zero] at this; omega)
  have w1 := li_t (x := W (i + 1)) (by omega) (by omega)
  have w2 := li_t (x := W (i + 2)) (by omega) (by omega)
  have w3 := li_t (x := W (i + 3)) (by omega) (by omega)
  unfold fit4 byt
  show ((0 ≤ (Int64.toInt32 (W i)).toInt ∧ (Int64.toInt32 (W i)).toInt ≤ 99) ∧ (0 ≤ (Int64.toInt32 (W (i + 1))).toInt ∧ (Int64.toInt32 (W (i + 1))).toInt ≤ 9) ∧ (0 ≤ (Int64.toInt32 (W (i + 2))).toInt ∧ (Int64.toInt32 (W (i + 2))).toInt ≤ 9) ∧ (-1 ≤ (Int64.toInt32 (W (i + 3))).toInt ∧ (Int64.toInt32 (W (i + 3))).toInt ≤ (n : Int) - 1)) ↔ _
  rw [w0, w1, w2, w3]
/-- the reference's walk -/
theorem l165 (M : Nat → Nat → Int32) {s m f n g K cnt : Nat} (hs : s < 6) (hm : M 448 s = nI m) (hm60 : m ≤ 60) (hf : f < 2147483648) (hn : M 400 6 = nI n) (hn8 : n ≤ 8) (hg : M 400 7 = nI g) (hc9 : cnt ≤ 9) {V : Nat → I4} {W : Nat → Int64} (hV : ∀ k, V k = byt W (f + 4 * k)) (hW : ∀ i, i < m → L 449 (60 * s + i) = W i) (hb : ∀ i, i < m → -128 ≤ (W i).toInt ∧ (W i).toInt ≤ 127)
    (hg9 : g ≤ 9) (hK9 : K ≤ 9) (h1 : ∀ k, k < K → k < cnt ∧ f + 4 * k + 4 ≤ m ∧ fit4 n (V k) ∧ g + k < 9) (h2 : ¬ (K < cnt ∧ f + 4 * K + 4 ≤ m ∧ fit4 n (V K) ∧ g + K < 9)) :
    ∀ r k w6, k + r = K → X E (d + 5) me165 69 [some (vR 1 12 400), some (vI (nI s)), some (vI (nI f)), some (vI (nI cnt)), some (vI (nI k)), some (vI (1 : Int32)), w6] [] (addRn M g V k, L) = some (some (vI (nI K)), (addRn M g V K, L)) := by
  have o1 : ∀ k, addRn M g V k 448 = M 448 := fun k => addRn_o (by omega) k
  have gk : ∀ k, k ≤ K → g + k ≤ 9 := fun k hk => by
    by_cases e : k = 0
    · omega
    · have := (h1 (k - 1) (by omega)).2.2.2; omega
  have cm : ∀ k, k ≤ 9 → ((nI m - 4 - 4 * nI k) < nI f ↔ ¬ f + 4 * k + 4 ≤ m) := fun k hk => by
    have e1 : ((4 : Int32) * nI k).toInt = 4 * k := by rw [t_mul (by rw [t_4, t_nI (by omega)]; omega) (by rw [t_4, t_nI (by omega)]; omega), t_4, t_nI (by omega)]
    have e2 : (nI m - 4).toInt = (m : Int) - 4 := by rw [t_sub (by rw [t_4, t_nI (by omega)]; omega) (by rw [t_4, t_nI (by omega)]; omega), t_4, t_nI (by omega)]
    rw [t_lt, t_sub (by rw [e1, e2]; omega) (by rw [e1, e2]; omega), e1, e2, t_nI (by omega)]
    omega
  have ex : ∀ k, ((60 : Int32) * nI s + nI f + 4 * nI k) = nI (60 * s + (f + 4 * k)) := fun k => by
    rw [idx s f, show (4 : Int32) * nI k = nI (4 * k) from by rw [show (4 : Int32) = nI 4 from rfl]; unfold nI; rw [← Int32.ofNat_mul], nI_add, show 60 * s + f + 4 * k = 60 * s + (f + 4 * k) by omega]
  have eW : ∀ k, f + 4 * k + 4 ≤ m → ∀ j, j < 4 → L 449 (60 * s + (f + 4 * k) + j) = W (f + 4 * k + j) := fun k hk j hj => by
    rw [show 60 * s + (f + 4 * k) + j = 60 * s + (f + 4 * k + j) by omega]; exact hW _ (by omega)
  have done : ∀ k w6 (M8 : Nat → Nat → Int32), X E (d + 5) me165 69 [some (vR 1 12 400), some (vI (nI s)), some (vI (nI f)), some (vI (nI cnt)), some (vI (nI k)), some (vI (0 : Int32)), w6] [] (M8, L) = some (some (vI (nI k)), (M8, L)) := fun k w6 M8 => by
    rw [x165_69, if_pos rfl]
  have ib6 : ib (nI s) 6 := by rw [ib_nI (by omega)]; exact hs
  have ibj : ∀ k j, f + 4 * k + 4 ≤ m → j < 4 → ib (nI (60 * s + (f + 4 * k) + j)) 360 := fun k j h hj => by rw [ib_nI (by omega)]; omega
  intro r
  induction r with
  | zero =>
    intro k w6 hk
    have e : k = K := by omega
    subst e
    rw [x165_69, if_neg (by decide)]
    by_cases q1 : cnt ≤ k
    · rw [if_pos (nI_le q1 (by omega))]
    · rw [if_neg (nI_ge (by omega) (by omega)), if_pos ib6, ix_nI (by omega), o1, hm]
      by_cases q2 : f + 4 * k + 4 ≤ m
      · rw [if_neg (by rw [cm k hK9]; exact fun q => q q2), addRn_7 hg]
        by_cases q3 : g + k < 9
        · have q4 : ¬ fit4 n (V k) := fun q => h2 ⟨by omega, q2, q, q3⟩
          have i0 := ibj k 0 q2 (by omega)
          have i1 := ibj k 1 q2 (by omega)
          have i2 := ibj k 2 q2 (by omega)
          have i3 := ibj k 3 q2 (by omega)
          rw [Nat.add_zero] at i0
          rw [hV k, fit_l (fun j hj => hb _ (by omega))] at q4
          rw [if_neg (show ¬ (9 : Int32) ≤ nI (g + k) from nI_ge (b := 9) q3 (by omega)), ex k, show nI (60 * s + (f + 4 * k)) + (2 : Int32) = nI (60 * s + (f + 4 * k) + 2) from nI_add _ 2, show nI (60 * s + (f + 4 * k)) + (3 : Int32) = nI (60 * s + (f + 4 * k) + 3) from nI_add _ 3, nI_1, if_pos i0, if_pos i1, if_pos i2, if_pos i3, ix_nI (by omega), ix_nI (by omega), ix_nI (by omega), ix_nI (by omega), eW k q2 1 (by omega), eW k q2 2 (by omega), eW k q2 3 (by omega), (show L 449 (60 * s + (f + 4 * k)) = W (f + 4 * k) from eW k q2 0 (by omega)), e162 E _ L _ _ _ _ _ (by rw [addRn_6]; exact hn) hn8, bI_s, if_pos (b1_e q4), done]
        · rw [if_pos (show (9 : Int32) ≤ nI (g + k) from nI_le (a := 9) (by omega) (by have := gk k (Nat.le_refl _); omega)), done]
      · rw [if_pos ((cm k hK9).2 q2), done]
  | succ r ih =>
    intro k w6 hk
    obtain ⟨q1, q2, q3, q4⟩ := h1 k (by omega)
    have i0 := ibj k 0 q2 (by omega)
    have i1 := ibj k 1 q2 (by omega)
    have i2 := ibj k 2 q2 (by omega)
    have i3 := ibj k 3 q2 (by omega)
    rw [Nat.add_zero] at i0
    have hVk := hV k
    rw [hVk, fit_l (fun j hj => hb _ (by omega))] at q3
    rw [x165_69, if_neg (by decide), if_neg (nI_ge (by omega) (by omega)), if_pos ib6, ix_nI (by omega), o1, hm, if_neg (by rw [cm k (by omega)]; exact fun q => q q2), addRn_7 hg, if_neg (show ¬ (9 : Int32) ≤ nI (g + k) from nI_ge (b := 9) q4 (by omega)), ex k, show nI (60 * s + (f + 4 * k)) + (2 : Int32) = nI (60 * s + (f + 4 * k) + 2) from nI_add _ 2, show nI (60 * s + (f + 4 * k)) + (3 : Int32) = nI (60 * s + (f + 4 * k) + 3) from nI_add _ 3, nI_1, if_pos i0, if_pos i1, if_pos i2, if_pos i3, ix_nI (by omega), ix_nI (by omega), ix_nI (by omega), ix_nI (by omega), eW k q2 1 (by omega), eW k q2 2 (by omega), eW k q2 3 (by omega), (show L 449 (60 * s + (f + 4 * k)) = W (f + 4 * k) from eW k q2 0 (by omega)), e162 E _ L _ _ _ _ _ (by rw [addRn_6]; exact hn) hn8, bI_s, if_neg (b1_ne q3), if_pos i0, if_pos i1, if_pos i2, if_pos i3]
    show bV (C E (d + 5) 163 [vR 1 12 400, vI (Int64.toInt32 (L 449 (60 * s + (f + 4 * k)))), vI (Int64.toInt32 (L 449 (60 * s + (f + 4 * k) + 1))), vI (Int64.toInt32 (L 449 (60 * s + (f + 4 * k) + 2))), vI (Int64.toInt32 (L 449 (60 * s + (f + 4 * k) + 3)))] (addRn M g V k, L)) _ = _
    rw [eW k q2 1 (by omega), eW k q2 2 (by omega), eW k q2 3 (by omega), (show L 449 (60 * s + (f + 4 * k)) = W (f + 4 * k) from eW k q2 0 (by omega)), e163 E _ L _ (addRn_7 hg k) q4, bV_s, nI_1]
    have := ih (k + 1) (some (vI (nI (60 * s + (f + 4 * k))))) (by omega)
    rw [show addRn M g V (k + 1) = addR (addRn M g V k) (g + k) (V k).1 (V k).2.1 (V k).2.2.1 (V k).2.2.2 from rfl, hVk] at this
    exact this
end BEGGARS
