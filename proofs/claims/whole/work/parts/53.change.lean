/-! numbers told, taken back, done again -/
section CHANGE
variable (E : Nat × (Nat → Int32)) (d : Nat) (L : Nat → Nat → Int64)
theorem plN_lt {n g s j : Nat} (hn : n ≤ 8) (hg : g ≤ 9) (h : valS n g s j) : plN s j < 62 := by
  obtain ⟨h1, h2, h3, h4, h5⟩ := cnt9 hn hg h
  have hs := h.1
  unfold plN
  (repeat' split) <;> omega
/-- a sort of 0 .. 10, or none -/
theorem sortN (w : Int32) : (∃ s, s ≤ 10 ∧ w = nI s) ∨ (w.toInt < 0 ∨ 10 < w.toInt) := by
  by_cases h : 0 ≤ w.toInt ∧ w.toInt ≤ 10
  · obtain ⟨s, hs, e⟩ := nI_ex (n := 11) h.1 (by omega)
    exact Or.inl ⟨s, by omega, e⟩
  · exact Or.inr (by omega)
theorem e19x (M : Nat → Nat → Int32) (p w : Int32) (hw : w.toInt < 0 ∨ 10 < w.toInt) : C E (d + 2) 19 [vR 1 2 40, vI p, vI w] (M, L) = some (some (vI (0 : Int32)), (M, L)) := by
  have h7 : ¬ w = 7 := fun q => by rw [q, t_7] at hw; omega
  have h8 : ¬ w = 8 := fun q => by rw [q, t_8] at hw; omega
  rw [x19, if_neg h7, if_neg h8]
  simp only [t_lt, t_3, t_6, t_0, t_10]
  rcases hw with hw | hw
  · rw [if_pos (by omega), if_pos hw]
  · rw [if_neg (by omega), if_pos (by omega), if_neg (by omega), if_pos hw]
theorem e166x (M : Nat → Nat → Int32) (p w : Int32) (hw : w.toInt < 0 ∨ 8 < w.toInt) : C E (d + 2) 166 [vR 1 12 400, vI p, vI w] (M, L) = some (some (vI (-1 : Int32)), (M, L)) := by
  rw [x166, e148, bI_s, tl_i, l_0, l_2, if_pos (b1_e (by omega)), e148, bI_s, tl_i, l_3, l_6, if_pos (b1_e (by omega))]
  by_cases h : p = 0
  · rw [if_pos h, e148, bI_s, tl_i, l_7, l_8, if_pos (b1_e (by omega))]
  · rw [if_neg h]
theorem op_of (p0 p1 : Int32) : Opk E d 107 169 [vI p0, vI p1] := by
  intro M L h
  have hR := h
  obtain ⟨n, g, kf, hc, ⟨hl, hrl⟩, ht, hch, hld, hi, ha, hs⟩ := h
  obtain ⟨hn, hn', hg, hg'⟩ := hc.2.2.1
  have hn8 := hc.1
  have hg9 := hc.2.1
  rcases sortN p1 with ⟨s, hs10, es⟩ | hw
  · by_cases hs8 : s ≤ 8
    · rcases e166 E (d + 96) L M hn' hg' hn8 hg9 hs8 p0 with ⟨j, e0, hv, ep⟩ | ⟨hnv, ep⟩
      · obtain ⟨r1, r2⟩ := hc.rd hv
        have hpl := plN_lt hn8 hg9 hv
        have hj := cnt9 hn8 hg9 hv
        refine opq E d hR (r := rdS M s j) (M1 := M) (M2 := M) ?_ (Kp.re M) ?_ (Kp.re M)
        · rw [x107, es, e19 E _ L M hn hg hn8 hg9 hs10, bI_s, if_neg (b1_ne (by rw [e0, t_nI (by omega)]; have := hv.2; omega)), e0, e22s E _ L M hn8 hg9 hv, bI_s]
        · rw [x169, es, ep, bI_s, if_neg (nI_pos (by omega)), if_pos (by rw [ib_nI (by omega)]; exact hpl), ix_nI (by omega)]
          show some (some (vI (M 401 (plN s j))), (M, L)) = _
          rw [r1]
      · refine opq E d hR (r := -2000000000) (M1 := M) (M2 := M) ?_ (Kp.re M) ?_ (Kp.re M)
        · rw [x107, es, e19 E _ L M hn hg hn8 hg9 hs10, bI_s, if_pos (b1_e hnv)]
        · have h9 : ¬ nI s = (9 : Int32) := fun q => by have := nI_inj (b := 9) (by omega) (by omega) q; omega
          have h10 : ¬ nI s = (10 : Int32) := fun q => by have := nI_inj (b := 10) (by omega) (by omega) q; omega
          rw [x169, es, ep, bI_s, if_pos (by decide), e156 E _ L M _ hn' hn8, bI_s]
          by_cases hb : 0 ≤ (Int32.toInt64 p0).toInt ∧ (Int32.toInt64 p0).toInt < (n : Int)
          · rw [if_neg (b1_ne hb), if_neg h9, if_neg h10]
          · rw [if_pos (b1_e hb)]
    · have ep := e166x E (d + 97) L M p0 p1 (by rw [es, t_nI (by omega)]; omega)
      have hcs : cntS n g s = n := by unfold cntS; rw [if_neg (by omega), if_neg (by omega), if_neg hs8]
      by_cases hb : 0 ≤ p0.toInt ∧ p0.toInt < (n : Int)
      · obtain ⟨j, hj, e0⟩ := nI_ex hb.1 hb.2
        have hrb := (hc.2.2.2.2.2.1 j hj).1
        have hib : ib (nI j) 8 := by rw [ib_nI (by omega)]; omega
        by_cases h9 : s = 9
        · subst h9
          refine opq E d hR (r := M 41 j) (M1 := M) (M2 := M) ?_ (Kp.re M) ?_ (Kp.re M)
          · rw [x107, es, e19 E _ L M hn hg hn8 hg9 hs10, bI_s, if_neg (b1_ne (by rw [hcs]; exact hb)), e0, ← n_9, e22_9 E _ M L 40 (by omega), bI_s]
          · rw [x169, ep, bI_s, if_pos (by decide), e156 E _ L M _ hn' hn8, bI_s, if_neg (b1_ne (by rw [tl_i]; exact hb)), if_pos (show p1 = 9 from es), e0, if_pos hib, ix_nI (by omega)]
            show some (some (vI (M 409 j)), (M, L)) = _
            rw [hrb.2.2.2.1]
        · have h10 : s = 10 := by omega
          subst h10
          refine opq E d hR (r := M 42 j) (M1 := M) (M2 := M) ?_ (Kp.re M) ?_ (Kp.re M)
          · rw [x107, es, e19 E _ L M hn hg hn8 hg9 hs10, bI_s, if_neg (b1_ne (by rw [hcs]; exact hb)), e0, ← n_10, e22_10 E _ M L 40 (by omega), bI_s]
          · rw [x169, ep, bI_s, if_pos (by decide), e156 E _ L M _ hn' hn8, bI_s, if_neg (b1_ne (by rw [tl_i]; exact hb)), if_neg (show ¬ p1 = 9 by rw [es]; decide), if_pos (show p1 = 10 from es), e0, if_pos hib, ix_nI (by omega)]
            show some (some (vI (M 410 j)), (M, L)) = _
            rw [hrb.2.2.2.2]
      · refine opq E d hR (r := -2000000000) (M1 := M) (M2 := M) ?_ (Kp.re M) ?_ (Kp.re M)
        · rw [x107, es, e19 E _ L M hn hg hn8 hg9 hs10, bI_s, if_pos (b1_e (by rw [hcs]; exact hb))]
        · rw [x169, ep, bI_s, if_pos (by decide), e156 E _ L M _ hn' hn8, bI_s, if_pos (b1_e (by rw [tl_i]; exact hb))]
  · have ep := e166x E (d + 97) L M p0 p1 (by omega)
    have h9 : ¬ p1 = 9 := fun q => by rw [q, t_9] at hw; omega
    have h10 : ¬ p1 = 10 := fun q => by rw [q, t_10] at hw; omega
    refine opq E d hR (r := -2000000000) (M1 := M) (M2 := M) ?_ (Kp.re M) ?_ (Kp.re M)
    · rw [x107, e19x E _ L M _ _ hw, bI_s, if_pos rfl]
    · rw [x169, ep, bI_s, if_pos (by decide), e156 E _ L M _ hn' hn8, bI_s]
      by_cases hb : 0 ≤ (Int32.toInt64 p0).toInt ∧ (Int32.toInt64 p0).toInt < (n : Int)
      · rw [if_neg (b1_ne hb), if_neg h9, if_neg h10]
      · rw [if_pos (b1_e hb)]
/-- one change is written down: behind it c1 + 1 are done; those ahead move by sh -/
def addCh (M M' : Nat → Nat → Int32) (a b c e : Nat) (c1 sh : Nat) (va vb vc ve : Int32) : Prop := (∀ i, i < c1 → M' a i = M a (i + sh) ∧ M' b i = M b (i + sh) ∧ M' c i = M c (i + sh) ∧ M' e i = M e (i + sh)) ∧ M' a c1 = va ∧ M' b c1 = vb ∧ M' c c1 = vc ∧ M' e c1 = ve
theorem cpd (M : Nat → Nat → Int32) (a : Nat) : C E (d + 1) 999 [vR 2 40 a, vI (1 : Int32), vR 2 40 a, vI (0 : Int32), vI (39 : Int32)] (M, L) = some (none, (c2 M a a 1 0 39, L)) := e999 E d M L (sp := 1) (dp := 0) (n := 39) (by omega) (by omega) (by omega) (by omega)
theorem c2_d {M : Nat → Nat → Int32} {a i : Nat} (h : i < 39) : c2 M a a 1 0 39 a i = M a (i + 1) := by
  rw [c2_ap, if_pos rfl, if_pos (by omega), show 1 + (i - 0) = i + 1 by omega]
theorem e11 (M : Nat → Nat → Int32) {c : Nat} (hc : M 260 4 = nI c) (hc40 : c ≤ 40) (v1 v2 v3 v4 : Int32) : ∃ M', C E (d + 3) 11 [vR 1 1 260, vI v1, vI v2, vI v3, vI v4] (M, L) = some (none, (M', L)) ∧ (∀ x, ¬ (260 ≤ x ∧ x ≤ 264) → M' x = M x) ∧ M' 260 4 = nI ((if c = 40 then 39 else c) + 1) ∧ M' 260 5 = nI ((if c = 40 then 39 else c) + 1) ∧ addCh M M' 261 262 263 264 (if c = 40 then 39 else c) (if c = 40 then 1 else 0) v1 v2 v3 v4 := by
  by_cases h : c = 40
  · rw [x11, hc, h, if_neg (show ¬ nI 40 < (40 : Int32) by decide), x12, cpd, bV_s, cpd, bV_s, cpd, bV_s, cpd, bV_s, bV_s]
    simp (disch := omega) only [u2_o, u2_s, u2_n, if_pos (show ib (39 : Int32) 40 by decide), show ix (39 : Int32) = 39 from by decide]
    refine ⟨_, rfl, fun x hx => ?_, ?_, ?_, fun i hi => ?_, ?_, ?_, ?_, ?_⟩
    · simp (disch := omega) only [u2_o, c2_o]
    · simp (disch := omega) only [u2_o, u2_s, u2_n]; rfl
    · simp (disch := omega) only [u2_o, u2_s, u2_n]; rfl
    · simp only [if_true] at hi
      simp (disch := omega) only [u2_o, u2_s, u2_n, c2_o, c2_d, if_true, and_self]
    · simp (disch := omega) only [u2_o, u2_s, u2_n, if_true]
    · simp (disch := omega) only [u2_o, u2_s, u2_n, if_true]
    · simp (disch := omega) only [u2_o, u2_s, u2_n, if_true]
    · simp (disch := omega) only [u2_o, u2_s, u2_n, if_true]
  · rw [x11, hc, if_pos (show nI c < (40 : Int32) from nI_lt (b := 40) (by omega) (by omega))]
    simp (disch := omega) only [u2_o, u2_s, u2_n, hc, if_pos (show ib (nI c) 40 by rw [ib_nI (by omega)]; omega), ix_nI, nI_1]
    rw [if_neg h, if_neg h]
    refine ⟨_, rfl, fun x hx => ?_, ?_, ?_, fun i hi => ?_, ?_, ?_, ?_, ?_⟩
    · simp (disch := omega) only [u2_o]
    · simp (disch := omega) only [u2_o, u2_s, u2_n]
    · simp (disch := omega) only [u2_o, u2_s, u2_n]
    · simp (disch := omega) only [u2_o, u2_s, u2_n, Nat.add_zero, and_self]
    · simp (disch := omega) only [u2_o, u2_s, u2_n]
    · simp (disch := omega) only [u2_o, u2_s, u2_n]
    · simp (disch := omega) only [u2_o, u2_s, u2_n]
    · simp (disch := omega) only [u2_o, u2_s, u2_n]
/-- the reference's way to write a change down, with the number itself -/
theorem e153 (M : Nat → Nat → Int32) {c pl : Nat} (hc : M 400 5 = nI c) (hc40 : c ≤ 40) (hpl : pl < 62) (v : Int32) (hne : ¬ M 401 pl = v) : ∃ M', C E (d + 1) 153 [vR 1 12 400, vI (nI pl), vI v] (M, L) = some (some (vI (M 401 pl)), (M', L)) ∧ (∀ x, ¬ (400 ≤ x ∧ x ≤ 404) → M' x = M x) ∧ (∀ j, j ≠ 4 → j ≠ 5 → M' 400 j = M 400 j) ∧ M' 401 = u2 M 401 pl v 401 ∧ M' 400 5 = nI ((if c = 40 then 39 else c) + 1) ∧ M' 400 4 = nI ((if c = 40 then 39 else c) + 1) ∧ (∀ i, i < (if c = 40 then 39 else c) → M' 402 i = M 402 (i + (if c = 40 then 1 else 0)) ∧ M' 403 i = M 403 (i + (if c = 40 then 1 else 0)) ∧ M' 404 i = M 404 (i + (if c = 40 then 1 else 0))) ∧ M' 402 (if c = 40 then 39 else c) = nI pl ∧ M' 403 (if c = 40 then 39 else c) = M 401 pl ∧ M' 404 (if c = 40 then 39 else c) = v := by
  have hib : ib (nI pl) 62 := by rw [ib_nI (by omega)]; exact hpl
  have hx := ix_nI (n := pl) (by omega)
  rw [x153, if_pos hib, hx, if_neg hne, hc]
  by_cases h : c = 40
  · have sh : ∀ m k (M1 : Nat → Nat → Int32), k + m = 40 → 1 ≤ k → (∀ x, ¬ (402 ≤ x ∧ x ≤ 404) → M1 x = M x) → (∀ x, 402 ≤ x → x ≤ 404 → ∀ i, (i + 1 < k → M1 x i = M x (i + 1)) ∧ (k ≤ i + 1 → M1 x i = M x i)) → ∃ M2, X E d me153 26 [some (vR 1 12 400), some (vI (nI pl)), some (vI v), some (vI (M 401 pl)), some (vI (nI k))] [] (M1, L) = X E d me153 26 [some (vR 1 12 400), some (vI (nI pl)), some (vI v), some (vI (M 401 pl)), some (vI (nI 40))] [] (M2, L) ∧ (∀ x, ¬ (402 ≤ x ∧ x ≤ 404) → M2 x = M x) ∧ (∀ x, 402 ≤ x → x ≤ 404 → ∀ i, i < 39 → M2 x i = M x (i + 1)) := by
      intro m
      induction m with
      | zero =>
        intro k M1 hk h1 hf hs
        have e : k = 40 := by omega
        subst e
        exact ⟨M1, rfl, hf, fun x q1 q2 i hi => (hs x q1 q2 i).1 (by omega)⟩
      | succ m ih =>
        intro k M1 hk h1 hf hs
        have k1 : nI k - 1 = nI (k - 1) := by
          have := nI_pred (k - 1)
          rw [show k - 1 + 1 = k by omega] at this
          exact this
        rw [x153_26, if_neg (show ¬ (40 : Int32) ≤ nI k from nI_ge (b := 40) (by omega) (by omega))]
        simp (disch := omega) only [k1, if_pos (show ib (nI k) 40 by rw [ib_nI (by omega)]; omega), if_pos (show ib (nI (k - 1)) 40 by rw [ib_nI (by omega)]; omega), ix_nI, nI_1, u2_o]
        refine ih (k + 1) _ (by omega) (by omega) (fun x hx => ?_) (fun x q1 q2 i => ?_)
        · simp (disch := omega) only [u2_o]
          exact hf x hx
        · have gen : ∀ (y : Nat), 402 ≤ y → y ≤ 404 → (u2 (u2 (u2 M1 402 (k - 1) (M1 402 k)) 403 (k - 1) (M1 403 k)) 404 (k - 1) (M1 404 k)) y i = if i = k - 1 then M1 y k else M1 y i := by
            intro y y1 y2
            rcases (show y = 402 ∨ y = 403 ∨ y = 404 by omega) with rfl | rfl | rfl
            · simp (disch := omega) only [u2_o]; rw [u2_ap, if_pos rfl]
            · simp (disch := omega) only [u2_o]; rw [u2_ap, if_pos rfl, u2_o (by omega)]
            · rw [u2_ap, if_pos rfl]; simp (disch := omega) only [u2_o]
          rw [gen x q1 q2]
          obtain ⟨a1, a2⟩ := hs x q1 q2 i
          obtain ⟨b1', b2'⟩ := hs x q1 q2 k
          by_cases e : i = k - 1
          · rw [if_pos e]
            refine ⟨fun _ => ?_, fun q => absurd q (by omega)⟩
            rw [b2' (by omega), e, show k - 1 + 1 = k by omega]
          · rw [if_neg e]
            exact ⟨fun q => a1 (by omega), fun q => a2 (by omega)⟩
    obtain ⟨M2, e2, f2, s2⟩ := sh 39 1 M (by omega) (by omega) (fun _ _ => rfl) (fun x _ _ i => ⟨fun q => absurd q (by omega), fun _ => rfl⟩)
    rw [h, if_pos (show nI 40 = (40 : Int32) from rfl), show (1 : Int32) = nI 1 from rfl, e2, x153_26, if_pos (show (40 : Int32) ≤ nI 40 by decide)]
    have e400 := f2 400 (by omega)
    have e401 := f2 401 (by omega)
    simp (disch := omega) only [u2_o, u2_s, u2_n, e400, hc, h, show nI 40 - (1 : Int32) = nI 39 from nI_pred 39, if_pos (show ib (nI 39) 40 by decide), ix_nI, if_pos hib, nI_1]
    refine ⟨_, rfl, fun x hx => ?_, fun j j1 j2 => ?_, ?_, ?_, ?_, fun i hi => ?_, ?_, ?_, ?_⟩
    · simp (disch := omega) only [u2_o]
      exact f2 x (by omega)
    · simp (disch := omega) only [u2_o, u2_n]
      rw [e400]
    · refine u2_cc ?_
      simp (disch := omega) only [u2_o]
      exact e401
    · simp (disch := omega) only [u2_o, u2_n, u2_s]; rfl
    · simp (disch := omega) only [u2_o, u2_n, u2_s]; rfl
    · simp only [if_true] at hi
      simp (disch := omega) only [u2_o, u2_n, u2_s, if_true]
      exact ⟨s2 402 (by omega) (by omega) i hi, s2 403 (by omega) (by omega) i hi, s2 404 (by omega) (by omega) i hi⟩
    · simp (disch := omega) only [u2_o, u2_n, u2_s, if_true]
    · simp (disch := omega) only [u2_o, u2_n, u2_s, if_true]
    · simp (disch := omega) only [u2_o, u2_n, u2_s, if_true]
  · have hne40 : ¬ nI c = (40 : Int32) := fun q => by have := nI_inj (b := 40) (by omega) (by omega) q; omega
    rw [if_neg hne40]
    simp (disch := omega) only [u2_o, u2_s, u2_n, hc, if_pos (show ib (nI c) 40 by rw [ib_nI (by omega)]; omega), ix_nI, nI_1, if_pos hib, hx]
    rw [if_neg h, if_neg h]
    refine ⟨_, rfl, fun x hx => ?_, fun j j1 j2 => ?_, ?_, ?_, ?_, fun i hi => ?_, ?_, ?_, ?_⟩
    · simp (disch := omega) only [u2_o]
    · simp (disch := omega) only [u2_o, u2_n]
    · refine u2_cc ?_
      simp (disch := omega) only [u2_o]
    · simp (disch := omega) only [u2_o, u2_n, u2_s]
    · simp (disch := omega) only [u2_o, u2_n, u2_s]
    · simp (disch := omega) only [u2_o, u2_n, u2_s, Nat.add_zero, and_self]
    · simp (disch := omega) only [u2_o, u2_n, u2_s]
    · simp (disch := omega) only [u2_o, u2_n, u2_s]
    · simp (disch := omega) only [u2_o, u2_n, u2_s]
theorem op_mend (p0 p1 p2 : Int32) : Opk E d 106 168 [vI p0, vI p1, vI p2] := by
  intro M L h
  have hR := h
  obtain ⟨n, g, kf, hc, ⟨hl, hrl⟩, ht, hch, hld, hi, ha, hs⟩ := h
  obtain ⟨hn, hn', hg, hg'⟩ := hc.2.2.1
  have hn8 := hc.1
  have hg9 := hc.2.1
  by_cases hw : 0 ≤ p1.toInt ∧ p1.toInt ≤ 8
  · obtain ⟨s, hs9, es⟩ := nI_ex (n := 9) hw.1 (by omega)
    have hs8 : s ≤ 8 := by omega
    have c145 : C E (d + 99) 145 [vI (nI s), vI (0 : Int32), vI (8 : Int32)] (M, L) = some (some (vI (1 : Int32)), (M, L)) := by
      rw [e145, b1_t (by rw [t_nI (by omega), t_0, t_8]; omega)]
    rcases e166 E (d + 96) L M hn' hg' hn8 hg9 hs8 p0 with ⟨j, e0, hv, ep⟩ | ⟨hnv, ep⟩
    · obtain ⟨r1, r2⟩ := hc.rd hv
      have hpl := plN_lt hn8 hg9 hv
      have hj := cnt9 hn8 hg9 hv
      have c19 : C E (d + 99) 19 [vR 1 2 40, vI (nI j), vI (nI s)] (M, L) = some (some (vI (1 : Int32)), (M, L)) := by
        rw [e19 E _ L M hn hg hn8 hg9 (by omega), b1_t (by rw [t_nI (by omega)]; have := hv.2; omega)]
      by_cases ho : okN n s p2
      · by_cases hsame : rdS M s j = p2
        · refine opq E d hR (r := rdS M s j) (M1 := M) (M2 := M) ?_ (Kp.re M) ?_ (Kp.re M)
          · rw [x106, es, c145, bI_s, if_neg (by decide), e0, c19, bI_s, if_neg (by decide), e20 E _ L M hn hn8 hs8, bI_s, if_neg (b1_ne ho), e22s E _ L M hn8 hg9 hv, bI_s, if_pos hsame]
          · rw [x168, es, ep, bI_s, if_neg (nI_pos (by omega)), e167 E _ L M hn' hn8 hs8, bI_s, if_neg (b1_ne ho), x153, if_pos (by rw [ib_nI (by omega)]; exact hpl), ix_nI (by omega), r1, if_pos hsame, bI_s]
        · obtain ⟨c, a, q1, q2, q3, q4, q5, q6, q7⟩ := hch
          have hc40 : c ≤ 40 := by omega
          obtain ⟨M1, e1, f1, z1, z2, z3⟩ := e11 E (d + 96) L M q3 hc40 (nI j) (nI s) (rdS M s j) p2
          have g1 : C E (d + 100) 106 [vR 1 11 10, vI p0, vI p1, vI p2] (M, L) = some (some (vI (rdS M s j)), (clS M1 s j p2, L)) := by
            rw [x106, es, c145, bI_s, if_neg (by decide), e0, c19, bI_s, if_neg (by decide), e20 E _ L M hn hn8 hs8, bI_s, if_neg (b1_ne ho), e22s E _ L M hn8 hg9 hv, bI_s, if_neg hsame, e1, bV_s, e23s E _ L M1 hn8 hg9 hv, bV_s]
          have F1 : ∀ x, ¬ (260 ≤ x ∧ x ≤ 264) → ¬ (40 ≤ x ∧ x ≤ 49) → clS M1 s j p2 x = M x := fun x y1 y2 => by rw [clS_o hs8 y2, f1 x y1]
          obtain ⟨M2, e2, f2, f2a, f2b, w1, w2, w3, w4, w5, w6⟩ := e153 E (d + 98) L (clS M1 s j p2) (c := c) (pl := plN s j) (by rw [F1 400 (by omega) (by omega)]; exact q4) hc40 hpl p2 (by rw [F1 401 (by omega) (by omega), r1]; exact hsame)
          have g2 : C E (d + 100) 168 [vR 1 12 400, vI p0, vI p1, vI p2] (clS M1 s j p2, L) = some (some (vI (rdS M s j)), (M2, L)) := by
            have ep' : C E (d + 99) 166 [vR 1 12 400, vI p0, vI (nI s)] (clS M1 s j p2, L) = some (some (vI (nI (plN s j))), (clS M1 s j p2, L)) := by
              rcases e166 E (d + 96) L (clS M1 s j p2) (n := n) (g := g) (by rw [F1 400 (by omega) (by omega)]; exact hn') (by rw [F1 400 (by omega) (by omega)]; exact hg') hn8 hg9 hs8 p0 with ⟨j', e0', hv', ep'⟩ | ⟨hnv, -⟩
              · have hj' := cnt9 hn8 hg9 hv'
                have : j' = j := nI_inj (by omega) (by omega) (by rw [← e0', e0])
                rw [this] at ep'
                exact ep'
              · exact absurd (by rw [e0, t_nI (by omega)]; have := hv.2; omega) hnv
            rw [x168, es, ep', bI_s, if_neg (nI_pos (by omega)), e167 E _ L (clS M1 s j p2) (by rw [F1 400 (by omega) (by omega)]; exact hn') hn8 hs8, bI_s, if_neg (b1_ne ho), e2, bI_s, F1 401 (by omega) (by omega), r1]
          have F : ∀ x, ¬ ((40 ≤ x ∧ x ≤ 49) ∨ (260 ≤ x ∧ x ≤ 264) ∨ (400 ≤ x ∧ x ≤ 404)) → M2 x = M x := fun x y => by rw [f2 x (by omega), F1 x (by omega) (by omega)]
          have G : ∀ i : Nat, i ≠ 4 → i ≠ 5 → M2 400 i = M 400 i := fun i i1 i2 => by rw [f2a i i1 i2, F1 400 (by omega) (by omega)]
          have A : ∀ x, 260 ≤ x → x ≤ 264 → M2 x = M1 x := fun x y1 y2 => by rw [f2 x (by omega), clS_o hs8 (by omega)]
          have B : ∀ x, 402 ≤ x → x ≤ 404 → clS M1 s j p2 x = M x := fun x y1 y2 => F1 x (by omega) (by omega)
          refine ⟨_, _, _, _, _, g1, g2, n, g, kf, ?_, ⟨(hl.keep4 (by rw [F 90 (by omega)]) (F 91 (by omega)) (F 92 (by omega))), hrl.keep (G 24 (by omega) (by omega)) (F 422 (by omega)) (F 423 (by omega)) (F 424 (by omega))⟩, ht.kp (by rw [F 70 (by omega)]) (G 11 (by omega) (by omega)) (F 411 (by omega)) (F 71 (by omega)), ?_, (hld.kp (F 435 (by omega)) (F 281 (by omega))), hi.kp (F 280 (by omega)) (F 282 (by omega)) (fun c q1 q2 => F c (by omega)) (F 439 (by omega)) (F 440 (by omega)) (fun c q => G c (by omega) (by omega)), ha.kp (fun c q1 q2 => F c (by omega)) (F 442 (by omega)) (F 443 (by omega)) (fun c q => G c (by omega) (by omega)), (hs.kp (F 331 (by omega)) (F 332 (by omega)) (F 447 (by omega)) (F 448 (by omega)) (by rw [F 320 (by omega)]))⟩
          · refine hc.set hv ho (fun x hx => ?_) ?_ (fun x hx => F x (by omega)) (fun i hi => G i (by omega) (by omega))
            · rw [f2 x (by omega)]
              by_cases es6 : s ≤ 6
              · unfold clS
                rw [if_pos es6, if_pos es6]
                by_cases e : x = 43 + s
                · subst e
                  exact u2_cc (f1 _ (by omega))
                · rw [u2_o e, u2_o e, f1 x (by omega)]
              · unfold clS
                rw [if_neg es6, if_neg es6]
                by_cases e : x = 40
                · subst e
                  exact u2_cc (f1 _ (by omega))
                · rw [u2_o e, u2_o e, f1 x (by omega)]
            · rw [f2b]
              exact u2_cc (F1 401 (by omega) (by omega))
          · generalize hc1 : (if c = 40 then 39 else c) = c1 at z1 z2 z3 w1 w2 w3 w4 w5 w6
            generalize hsh : (if c = 40 then 1 else 0) = sh at z3 w3
            have hc1' : c1 < 40 ∧ c1 + sh ≤ c := by
              rw [← hc1, ← hsh]
              by_cases e : c = 40 <;> simp [e] <;> omega
            obtain ⟨z3, z4, z5, z6, z7⟩ := z3
            refine ⟨c1 + 1, c1 + 1, Nat.le_refl _, by omega, by rw [A 260 (by omega) (by omega)]; exact z1, w1, by rw [A 260 (by omega) (by omega)]; exact z2, w2, fun i hi => ?_⟩
            by_cases e : i = c1
            · subst e
              refine ⟨s, j, hv, ?_, ?_, w4, ?_, ?_, ?_, ?_⟩
              · rw [A 261 (by omega) (by omega)]; exact z4
              · rw [A 262 (by omega) (by omega)]; exact z5
              · rw [A 263 (by omega) (by omega), w5, z6, F1 401 (by omega) (by omega), r1]
              · rw [A 264 (by omega) (by omega), w6, z7]
              · rw [A 263 (by omega) (by omega), z6]; exact r2
              · rw [A 264 (by omega) (by omega), z7]; exact ho
            · obtain ⟨a1, a2, a3, a4⟩ := z3 i (by omega)
              obtain ⟨b1', b2', b3'⟩ := w3 i (by omega)
              obtain ⟨s', j', y1, y2, y3, y4, y5, y6, y7, y8⟩ := q7 (i + sh) (by omega)
              refine ⟨s', j', y1, ?_, ?_, ?_, ?_, ?_, ?_, ?_⟩
              · rw [A 261 (by omega) (by omega), a1]; exact y2
              · rw [A 262 (by omega) (by omega), a2]; exact y3
              · rw [b1', B 402 (by omega) (by omega)]; exact y4
              · rw [b2', A 263 (by omega) (by omega), a3, B 403 (by omega) (by omega)]; exact y5
              · rw [b3', A 264 (by omega) (by omega), a4, B 404 (by omega) (by omega)]; exact y6
              · rw [A 263 (by omega) (by omega), a3]; exact y7
              · rw [A 264 (by omega) (by omega), a4]; exact y8
      · refine opq E d hR (r := -2000000000) (M1 := M) (M2 := M) ?_ (Kp.re M) ?_ (Kp.re M)
        · rw [x106, es, c145, bI_s, if_neg (by decide), e0, c19, bI_s, if_neg (by decide), e20 E _ L M hn hn8 hs8, bI_s, if_pos (b1_e ho)]
        · rw [x168, es, ep, bI_s, if_neg (nI_pos (by omega)), e167 E _ L M hn' hn8 hs8, bI_s, if_pos (b1_e ho)]
    · refine opq E d hR (r := -2000000000) (M1 := M) (M2 := M) ?_ (Kp.re M) ?_ (Kp.re M)
      · rw [x106, es, c145, bI_s, if_neg (by decide), e19 E _ L M hn hg hn8 hg9 (by omega), bI_s, if_pos (b1_e hnv)]
      · rw [x168, es, ep, bI_s, if_pos (by decide)]
  · refine opq E d hR (r := -2000000000) (M1 := M) (M2 := M) ?_ (Kp.re M) ?_ (Kp.re M)
    · rw [x106, e145, bI_s, if_pos (b1_e (by rw [t_0, t_8]; exact hw))]
    · rw [x168, e166x E (d + 97) L M p0 p1 (by omega), bI_s, if_pos (by decide)]
end CHANGE
