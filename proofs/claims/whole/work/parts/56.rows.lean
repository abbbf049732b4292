/-! rows: put, element, shift; what is taken -/
def ctL (k : Nat) (v : Int64) : Int64 := if k = 0 then Int32.toInt64 (Int8.toInt32 (Int32.toInt8 (Int64.toInt32 v))) else if k = 1 then Int32.toInt64 (Int16.toInt32 (Int32.toInt16 (Int64.toInt32 v))) else if k = 2 then Int32.toInt64 (Int64.toInt32 v) else if k = 3 then v else if lg_cmp v 0 = 0 then 0 else 1
theorem ctL_byte (v : Int64) : -128 ≤ (ctL 0 v).toInt ∧ (ctL 0 v).toInt ≤ 127 := by
  unfold ctL
  rw [if_pos rfl, Int32.toInt_toInt64, Int8.toInt_toInt32]
  have h1 := Int8.le_toInt (Int32.toInt8 (Int64.toInt32 v))
  have h2 := Int8.toInt_lt (Int32.toInt8 (Int64.toInt32 v))
  omega
section ROWS
variable (E : Nat × (Nat → Int32)) (d : Nat) (L : Nat → Nat → Int64)
theorem e63 (M : Nat → Nat → Int32) {k : Nat} (hk : k ≤ 4) (v : Int64) : C E (d + 1) 63 [vI (nI k), vL v] (M, L) = some (some (vL (ctL k v)), (M, L)) := by
  rcases (show k = 0 ∨ k = 1 ∨ k = 2 ∨ k = 3 ∨ k = 4 by omega) with rfl | rfl | rfl | rfl | rfl
  · rw [← n_0, x63, if_pos rfl]; rfl
  · rw [← n_1, x63, if_neg (by decide), if_pos rfl]; rfl
  · rw [← n_2, x63, if_neg (by decide), if_neg (by decide), if_pos rfl]; rfl
  · rw [← n_3, x63, if_neg (by decide), if_neg (by decide), if_neg (by decide), if_pos rfl]; rfl
  · rw [← n_4, x63, if_neg (by decide), if_neg (by decide), if_neg (by decide), if_neg (by decide), if_pos rfl]
    have e : ctL 4 v = if lg_cmp v 0 = 0 then 0 else 1 := rfl
    rw [e]
    by_cases h : lg_cmp v 0 = 0
    · rw [if_pos h, if_pos h]
    · rw [if_neg h, if_neg h]
theorem e244 (M : Nat → Nat → Int32) {k : Nat} (hk : k ≤ 4) (v : Int64) : C E (d + 1) 244 [vI (nI k), vL v] (M, L) = some (some (vL (ctL k v)), (M, L)) := by
  rcases (show k = 0 ∨ k = 1 ∨ k = 2 ∨ k = 3 ∨ k = 4 by omega) with rfl | rfl | rfl | rfl | rfl
  · rw [← n_0, x244, if_pos rfl]; rfl
  · rw [← n_1, x244, if_neg (by decide), if_pos rfl]; rfl
  · rw [← n_2, x244, if_neg (by decide), if_neg (by decide), if_pos rfl]; rfl
  · rw [← n_3, x244, if_neg (by decide), if_neg (by decide), if_neg (by decide), if_neg (by decide)]; rfl
  · rw [← n_4, x244, if_neg (by decide), if_neg (by decide), if_neg (by decide), if_pos rfl]
    have e : ctL 4 v = if lg_cmp v 0 = 0 then 0 else 1 := rfl
    rw [e]
    by_cases h : lg_cmp v 0 = 0
    · rw [if_pos h, if_pos h]
    · rw [if_neg h, if_neg h]
theorem e58 (M : Nat → Nat → Int32) {s : Nat} (hs : s < 6) (p : Int32) : C E (d + 4) 58 [vR 1 6 330, vI (nI s), vI p] (M, L) = some (some (vI (if M 331 s = -1 then -11 else if 0 ≤ (M 331 s).toInt ∧ (M 331 s).toInt ≤ 4 then (if 0 ≤ p.toInt ∧ p.toInt < (M 332 s).toInt then 0 else -13) else -12)), (M, L)) := by
  rw [x58, e56 E _ L M hs, bI_s]
  by_cases h : M 331 s = -1
  · rw [if_pos h, if_pos h, if_neg (by decide)]
  · rw [if_neg h, if_neg h]
    by_cases h2 : 0 ≤ (M 331 s).toInt ∧ (M 331 s).toInt ≤ 4
    · rw [if_pos h2, if_pos h2, if_pos rfl, e51 E _ L M hs, bI_s, if_pos h2]
      simp only [t_lt, t_0]
      by_cases a : p.toInt < 0
      · rw [if_pos a, if_neg (by omega)]
      · rw [if_neg a]
        by_cases b : p.toInt < (M 332 s).toInt
        · rw [if_pos b, if_pos (by omega)]
        · rw [if_neg b, if_neg (by omega)]
    · rw [if_neg h2, if_neg h2, if_neg (by decide)]
/-- a place of a row, or a refusal, alike on both sides -/
theorem refP {M : Nat → Nat → Int32} {s : Nat} (hr : Rs1 M L s) (hs : s < 6) (p : Int32) : (∃ k m i, k ≤ 4 ∧ m ≤ 60 ∧ i < m ∧ p = nI i ∧ M 331 s = nI k ∧ M 332 s = nI m ∧ M 447 s = nI (50 + k) ∧ M 448 s = nI m ∧ (∀ i, i < m → L 449 (60 * s + i) = L (334 + s) i) ∧ (k = 0 → ∀ i, i < m → -128 ≤ (L (334 + s) i).toInt ∧ (L (334 + s) i).toInt ≤ 127) ∧ C E (d + 4) 58 [vR 1 6 330, vI (nI s), vI p] (M, L) = some (some (vI (0 : Int32)), (M, L)) ∧ ∀ L', C E (d + 4) 243 [vR 1 12 400, vI (nI s), vI p] (M, L') = some (some (vI (0 : Int32)), (M, L'))) ∨ ∃ r : Int32, ¬ r = 0 ∧ C E (d + 4) 58 [vR 1 6 330, vI (nI s), vI p] (M, L) = some (some (vI r), (M, L)) ∧ ∀ L', C E (d + 4) 243 [vR 1 12 400, vI (nI s), vI p] (M, L') = some (some (vI r), (M, L')) := by
  have hib : ib (nI s) 6 := by rw [ib_nI (by omega)]; exact hs
  have hx := ix_nI (n := s) (by omega)
  rcases hr with ⟨z1, z2⟩ | ⟨z1, j, z2, z3, z4, z5⟩ | ⟨k, m, z1, z2, z3, z4, z5, z6, z7, z8⟩
  · right
    refine ⟨-11, by decide, ?_, fun L' => ?_⟩
    · rw [e58 E _ L M hs, if_pos z1]
    · rw [x243, e240n E _ _ _ hs, bI_s, if_neg (by decide), if_pos hib]
      simp only [hx, z2]
      rw [if_neg (by decide)]
  · right
    refine ⟨-12, by decide, ?_, fun L' => ?_⟩
    · rw [e58 E _ L M hs, z1, if_neg (by decide), if_neg (by decide)]
    · rw [x243, e240n E _ _ _ hs, bI_s, if_neg (by decide), if_pos hib]
      simp only [hx, z3, if_pos hib]
      rw [if_pos (show 0 ≤ nI j from by rw [t_le, t_0, t_nI (by omega)]; omega), if_neg (show ¬ (50 : Int32) ≤ nI j from nI_ge (b := 50) z5 (by omega))]
  · have hk1 : ¬ nI k = -1 := fun q => by
      have := congrArg Int32.toInt q
      rw [t_nI (by omega), t_m1] at this
      omega
    have hk2 : 0 ≤ (nI k).toInt ∧ (nI k).toInt ≤ 4 := by rw [t_nI (by omega)]; omega
    have r243 : ∀ L', C E (d + 4) 243 [vR 1 12 400, vI (nI s), vI p] (M, L') = (if p < 0 then some (some (vI (-13 : Int32)), (M, L')) else (if nI m ≤ p then some (some (vI (-13 : Int32)), (M, L')) else some (some (vI (0 : Int32)), (M, L')))) := by
      intro L'
      rw [x243, e240n E _ _ _ hs, bI_s, if_neg (by decide), if_pos hib]
      simp only [hx, z5, z6, if_pos hib]
      rw [if_pos (show 0 ≤ nI (50 + k) from by rw [t_le, t_0, t_nI (by omega)]; omega), if_pos (show (50 : Int32) ≤ nI (50 + k) from nI_le (a := 50) (by omega) (by omega))]
    by_cases hp : 0 ≤ p.toInt ∧ p.toInt < (m : Int)
    · left
      obtain ⟨i, hi, e⟩ := nI_ex hp.1 hp.2
      refine ⟨k, m, i, z1, z2, hi, e, z3, z4, z5, z6, z7, z8, ?_, fun L' => ?_⟩
      · rw [e58 E _ L M hs, z3, z4, if_neg hk1, if_pos hk2, if_pos (by rw [t_nI (show m < 2147483648 by omega)]; exact hp)]
      · rw [r243, if_neg (by rw [t_lt, t_0]; omega), if_neg (by rw [t_le, t_nI (by omega)]; omega)]
    · right
      refine ⟨-13, by decide, ?_, fun L' => ?_⟩
      · rw [e58 E _ L M hs, z3, z4, if_neg hk1, if_pos hk2, if_neg (by rw [t_nI (show m < 2147483648 by omega)]; exact hp)]
      · rw [r243]
        by_cases a : p < 0
        · rw [if_pos a]
        · rw [if_neg a, if_pos (by rw [t_lt, t_0] at a; rw [t_le, t_nI (by omega)]; omega)]
theorem idx (s i : Nat) : (60 : Int32) * nI s + nI i = nI (60 * s + i) := by
  rw [show (60 : Int32) = nI 60 from rfl]
  unfold nI
  rw [← Int32.ofNat_mul, ← Int32.ofNat_add]
theorem op_put (p0 p1 : Int32) (p2 : Int64) : Opk E d 140 245 [vI p0, vI p1, vL p2] := by
  intro M L h
  have hR := h
  obtain ⟨n, g, kf, hc, ⟨hl, hrl⟩, ht, hch, hld, hi, ha, hs⟩ := h
  obtain ⟨hn, hn', hg, hg'⟩ := hc.2.2.1
  have hn8 := hc.1
  have hg9 := hc.2.1
  rcases shN E (d + 98) L M p0 with ⟨s, hs6, es, e48', -⟩ | ⟨hns, e48'⟩
  · have hib : ib (nI s) 6 := by rw [ib_nI (by omega)]; exact hs6
    have hx := ix_nI (n := s) (by omega)
    rcases refP E (d + 95) L (hs s hs6) hs6 p1 with ⟨k, m, i, z1, z2, z3, z4, z5, z6, z7, z8, z9, z10, z11, z12⟩ | ⟨r, hr0, z11, z12⟩
    · have hk2 : 0 ≤ (nI k).toInt ∧ (nI k).toInt ≤ 4 := by rw [t_nI (by omega)]; omega
      have g1 : C E (d + 100) 140 [vR 1 11 10, vI p0, vI p1, vL p2] (M, L) = some (some (vI (1 : Int32)), (M, u2L L (334 + s) i (ctL k p2))) := by
        rw [x140, es, z11, bI_s, if_pos rfl, x62, z4, if_neg (nI_pos (by omega)), e51 E _ L M hs6, bI_s, z5, z6, if_pos hk2, if_neg (nI_ge z3 (by omega)), if_neg (show ¬ (60 : Int32) ≤ nI i from nI_ge (b := 60) (by omega) (by omega)), if_pos hib, if_pos hib, hx]
        simp only [z5]
        rw [e63 E _ L M z1, bL_s, if_pos (by rw [ib_nI (by omega)]; omega), bV_s, ix_nI (by omega)]
      have g2 : C E (d + 100) 245 [vR 1 12 400, vI p0, vI p1, vL p2] (M, u2L L (334 + s) i (ctL k p2)) = some (some (vI (1 : Int32)), (M, u2L (u2L L (334 + s) i (ctL k p2)) 449 (60 * s + i) (ctL k p2))) := by
        rw [x245, es, z12, bI_s, if_pos rfl, if_pos hib, hx]
        simp only [z7]
        have e50 : nI (50 + k) - (50 : Int32) = nI k := by
          apply Int32.toInt_inj.mp
          rw [t_sub (by rw [t_nI (by omega), t_50]; omega) (by rw [t_nI (by omega), t_50]; omega), t_nI (by omega), t_50, t_nI (by omega)]
          omega
        rw [e50, e244 E _ _ M z1, bL_s, z4, idx, if_pos (by rw [ib_nI (by omega)]; omega), if_pos trivial, ix_nI (by omega)]
      refine ⟨_, _, _, _, _, g1, g2, n, g, kf, hc, ⟨hl, hrl⟩, ht, hch, hld, hi, ha, ?_⟩
      refine hs.set1 (s := s) (Or.inr (Or.inr ⟨k, m, z1, z2, z5, z6, z7, z8, fun x hx => ?_, fun hk x hx => ?_⟩)) (fun _ _ _ _ => rfl) rfl (fun x y hy hx6 hxs => ?_)
      · rw [u2L_ap, if_pos rfl, u2L_o (c := 334 + s) (by omega), u2L_o (c := 449) (by omega), u2L_ap, if_pos rfl]
        by_cases e : x = i
        · rw [if_pos (by omega), if_pos e]
        · rw [if_neg (by omega), if_neg e]
          exact z9 x hx
      · rw [u2L_o (by omega), u2L_ap, if_pos rfl]
        by_cases e : x = i
        · rw [if_pos e, hk]; exact ctL_byte p2
        · rw [if_neg e]; exact z10 hk x hx
      · rw [u2L_o (c := 334 + x) (by omega), u2L_o (c := 334 + x) (by omega), u2L_ap, if_pos rfl, if_neg (by omega), u2L_o (by omega)]
        exact ⟨rfl, rfl⟩
    · refine opq E d hR (r := r) (M1 := M) (M2 := M) ?_ (Kp.re M) ?_ (Kp.re M)
      · rw [x140, es, z11, bI_s, if_neg hr0]
      · rw [x245, es, z12, bI_s, if_neg hr0, if_neg hr0]
  · refine opq E d hR (r := -1) (M1 := M) (M2 := M) ?_ (Kp.re M) ?_ (Kp.re M)
    · rw [x140, x58, x56, e48, b1_f hns, bI_s, if_pos rfl, bI_s, if_neg (by decide), bI_s, if_neg (by decide)]
    · rw [x245, x243, e240x E _ L _ hns, bI_s, if_pos rfl, bI_s, if_neg (by decide), if_neg (by decide)]
/-- one call on both that gives a long -/
def OpL (y1 y2 : Nat) (args : List PV) : Prop := ∀ (M : Nat → Nat → Int32) (L : Nat → Nat → Int64), RR E M L → ∃ (r : Int64), C E (d + 100) y1 (vR 1 11 10 :: args) (M, L) = some (some (vL r), (M, L)) ∧ C E (d + 100) y2 (vR 1 12 400 :: args) (M, L) = some (some (vL r), (M, L))
theorem op_element (p0 p1 : Int32) : OpL E d 141 246 [vI p0, vI p1] := by
  intro M L h
  have hR := h
  obtain ⟨n, g, kf, hc, ⟨hl, hrl⟩, ht, hch, hld, hi, ha, hs⟩ := h
  obtain ⟨hn, hn', hg, hg'⟩ := hc.2.2.1
  have hn8 := hc.1
  have hg9 := hc.2.1
  rcases shN E (d + 98) L M p0 with ⟨s, hs6, es, e48', -⟩ | ⟨hns, e48'⟩
  · have hib : ib (nI s) 6 := by rw [ib_nI (by omega)]; exact hs6
    have hx := ix_nI (n := s) (by omega)
    rcases refP E (d + 95) L (hs s hs6) hs6 p1 with ⟨k, m, i, z1, z2, z3, z4, z5, z6, z7, z8, z9, z10, z11, z12⟩ | ⟨r, hr0, z11, z12⟩
    · have hk2 : 0 ≤ (nI k).toInt ∧ (nI k).toInt ≤ 4 := by rw [t_nI (by omega)]; omega
      refine ⟨L (334 + s) i, ?_, ?_⟩
      · rw [x141, es, z11, bI_s, if_pos rfl, z4, e61 E _ L M hs6 (by rw [z5]; exact hk2) z6 z2 z3, bL_s]
      · rw [x246, es, z12, bI_s, if_pos rfl, z4, idx, if_pos (by rw [ib_nI (by omega)]; omega), ix_nI (by omega)]
        show some (some (vL (L 449 (60 * s + i))), (M, L)) = _
        rw [z9 i z3]
    · refine ⟨-9223372036854775808, ?_, ?_⟩
      · rw [x141, es, z11, bI_s, if_neg hr0]
      · rw [x246, es, z12, bI_s, if_neg hr0]
  · refine ⟨-9223372036854775808, ?_, ?_⟩
    · rw [x141, x58, x56, e48, b1_f hns, bI_s, if_pos rfl, bI_s, if_neg (by decide), bI_s, if_neg (by decide)]
    · rw [x246, x243, e240x E _ L _ hns, bI_s, if_pos rfl, bI_s, if_neg (by decide)]
/-- whether a run lies in a row of m -/
theorem e60 (M : Nat → Nat → Int32) {s m : Nat} (hs : s < 6) (hk : 0 ≤ (M 331 s).toInt ∧ (M 331 s).toInt ≤ 4) (hm : M 332 s = nI m) (hm60 : m ≤ 60) (i n : Int32) : C E (d + 4) 60 [vR 1 6 330, vI (nI s), vI i, vI n] (M, L) = some (some (vI (b1 (0 ≤ i.toInt ∧ 0 ≤ n.toInt ∧ i.toInt + n.toInt ≤ (m : Int)))), (M, L)) := by
  have l1 := t_hi i
  have l2 := t_hi n
  rw [x60, e50 E _ L M hs, bI_s, if_neg (b1_ne hk)]
  by_cases a : i.toInt < 0
  · rw [if_pos (by rw [t_lt, t_0]; exact a), b1_f (by omega)]
  · rw [if_neg (by rw [t_lt, t_0]; exact a)]
    by_cases b : n.toInt < 0
    · rw [if_pos (by rw [t_lt, t_0]; exact b), b1_f (by omega)]
    · rw [if_neg (by rw [t_lt, t_0]; exact b), e51 E _ L M hs, bI_s, if_pos hk, hm]
      by_cases c : (m : Int) < i.toInt
      · rw [if_pos (by rw [t_lt, t_nI (by omega)]; exact c), b1_f (by omega)]
      · rw [if_neg (by rw [t_lt, t_nI (by omega)]; exact c), e51 E _ L M hs, bI_s, if_pos hk, hm]
        have hsub : (nI m - i).toInt = (m : Int) - i.toInt := by rw [t_sub (by rw [t_nI (by omega)]; omega) (by rw [t_nI (by omega)]; omega), t_nI (by omega)]
        by_cases e : (m : Int) - i.toInt < n.toInt
        · rw [if_pos (by rw [t_lt, hsub]; exact e), b1_f (by omega)]
        · rw [if_neg (by rw [t_lt, hsub]; exact e), b1_t (by omega)]
theorem op_shift (p0 p1 p2 p3 p4 : Int32) : Opk E d 142 247 [vI p0, vI p1, vI p2, vI p3, vI p4] := by
  intro M L h
  have hR := h
  obtain ⟨n, g, kf, hc, ⟨hl, hrl⟩, ht, hch, hld, hi, ha, hs⟩ := h
  obtain ⟨hn, hn', hg, hg'⟩ := hc.2.2.1
  have hn8 := hc.1
  have hg9 := hc.2.1
  have bad : ∀ r : Int32, ¬ r = 0 → C E (d + 99) 59 [vR 1 6 330, vI p0, vI p2] (M, L) = some (some (vI r), (M, L)) → C E (d + 100) 247 [vR 1 12 400, vI p0, vI p1, vI p2, vI p3, vI p4] (M, L) = some (some (vI r), (M, L)) → _ := fun r hr0 e1 e2 => opq E d hR (r := r) (M1 := M) (M2 := M) (y1 := 142) (y2 := 247) (args := [vI p0, vI p1, vI p2, vI p3, vI p4]) (by rw [x142, e1, bI_s, if_neg hr0]) (Kp.re M) e2 (Kp.re M)
  rcases shN E (d + 97) L M p0 with ⟨s, hs6, es, e48', -⟩ | ⟨hns, e48'⟩
  · have hib : ib (nI s) 6 := by rw [ib_nI (by omega)]; exact hs6
    have hx := ix_nI (n := s) (by omega)
    rcases shN E (d + 97) L M p2 with ⟨t, ht6, et, e48t, -⟩ | ⟨hnt, e48t⟩
    · have hibt : ib (nI t) 6 := by rw [ib_nI (by omega)]; exact ht6
      have hxt := ix_nI (n := t) (by omega)
      have c59 : C E (d + 99) 59 [vR 1 6 330, vI p0, vI p2] (M, L) = some (some (vI (if M 331 s = -1 then -11 else if M 331 t = -1 then -11 else if 0 ≤ (M 331 s).toInt ∧ (M 331 s).toInt ≤ 4 then (if M 331 s = M 331 t then 0 else -12) else -12)), (M, L)) := by
        rw [x59, e48', bI_s, if_neg (by decide), e48t, bI_s, if_neg (by decide), es, e49 E _ L M hs6, bI_s]
        by_cases a : M 331 s = -1
        · rw [if_neg (b1_ne a), if_pos a]
        · rw [if_pos (b1_e a), if_neg a, et, e49 E _ L M ht6, bI_s]
          by_cases b : M 331 t = -1
          · rw [if_neg (b1_ne b), if_pos b]
          · rw [if_pos (b1_e b), if_neg b, e50 E _ L M hs6, bI_s]
            by_cases c : 0 ≤ (M 331 s).toInt ∧ (M 331 s).toInt ≤ 4
            · rw [if_neg (b1_ne c), if_pos c, if_pos hib, if_pos hibt, hx, hxt]
              by_cases e : M 331 s = M 331 t
              · rw [if_pos e, if_pos e]
              · rw [if_neg e, if_neg e]
            · rw [if_pos (b1_e c), if_neg c]
      have c247 : ∀ L', C E (d + 100) 247 [vR 1 12 400, vI p0, vI p1, vI p2, vI p3, vI p4] (M, L') = (if M 447 s < 0 then some (some (vI (-11 : Int32)), (M, L')) else if 0 ≤ M 447 t then (if M 447 s < (50 : Int32) then some (some (vI (-12 : Int32)), (M, L')) else if M 447 s = M 447 t then (if p4 < 0 then some (some (vI (-13 : Int32)), (M, L')) else if p1 < 0 then some (some (vI (-13 : Int32)), (M, L')) else if p3 < 0 then some (some (vI (-13 : Int32)), (M, L')) else if (M 448 s - p4) < p1 then some (some (vI (-13 : Int32)), (M, L')) else if p3 ≤ (M 448 t - p4) then X E (d + 99) me247 113 [some (vR 1 12 400), some (vI p0), some (vI p1), some (vI p2), some (vI p3), some (vI p4), some (vI (0 : Int32))] [] (M, L') else some (some (vI (-13 : Int32)), (M, L'))) else some (some (vI (-12 : Int32)), (M, L'))) else some (some (vI (-11 : Int32)), (M, L'))) := by
        intro L'
        rw [x247, es, et, e240n E _ _ _ hs6, bI_s, if_neg (by decide), e240n E _ _ _ ht6, bI_s, if_neg (by decide)]
        simp only [if_pos hib, if_pos hibt, hx, hxt]
      have nonneg : ∀ k, k < 1000 → ¬ nI k < 0 ∧ 0 ≤ nI k := fun k hk => ⟨nI_pos (by omega), by rw [t_le, t_0, t_nI (by omega)]; omega⟩
      rcases hs s hs6 with ⟨z1, z2⟩ | ⟨z1, j, z2, z3, z4, z5⟩ | ⟨k, m, z1, z2, z3, z4, z5, z6, z7, z8⟩
      · exact bad (-11) (by decide) (by rw [c59, if_pos z1]) (by rw [c247, z2, if_pos (by decide)])
      · rcases hs t ht6 with ⟨y1, y2⟩ | ⟨y1, j', y2, y3, y4, y5⟩ | ⟨k', m', y1, y2, y3, y4, y5, y6, y7, y8⟩
        · exact bad (-11) (by decide) (by rw [c59, z1, if_neg (by decide), if_pos y1]) (by rw [c247, z3, y2, if_neg (nonneg j (by omega)).1, if_neg (by decide)])
        · exact bad (-12) (by decide) (by rw [c59, z1, y1, if_neg (by decide), if_neg (by decide), if_neg (by decide)]) (by rw [c247, z3, y3, if_neg (nonneg j (by omega)).1, if_pos (nonneg j' (by omega)).2, if_pos (show nI j < (50 : Int32) from nI_lt (b := 50) z5 (by omega))])
        · have hk1 : ¬ nI k' = -1 := fun q => by
            have := congrArg Int32.toInt q
            rw [t_nI (by omega), t_m1] at this
            omega
          exact bad (-12) (by decide) (by rw [c59, z1, y3, if_neg (by decide), if_neg hk1, if_neg (by decide)]) (by rw [c247, z3, y5, if_neg (nonneg j (by omega)).1, if_pos (nonneg (50 + k') (by omega)).2, if_pos (show nI j < (50 : Int32) from nI_lt (b := 50) z5 (by omega))])
      · have hk1 : ¬ nI k = -1 := fun q => by
          have := congrArg Int32.toInt q
          rw [t_nI (by omega), t_m1] at this
          omega
        have hk2 : 0 ≤ (nI k).toInt ∧ (nI k).toInt ≤ 4 := by rw [t_nI (by omega)]; omega
        have n50 : ¬ nI (50 + k) < (50 : Int32) := nI_nlt (b := 50) (by omega) (by omega)
        rcases hs t ht6 with ⟨y1, y2⟩ | ⟨y1, j', y2, y3, y4, y5⟩ | ⟨k', m', y1, y2, y3, y4, y5, y6, y7, y8⟩
        · exact bad (-11) (by decide) (by rw [c59, z3, if_neg hk1, if_pos y1]) (by rw [c247, z5, y2, if_neg (nonneg (50 + k) (by omega)).1, if_neg (by decide)])
        · have hne : ¬ nI k = (5 : Int32) := fun q => by have := nI_inj (b := 5) (by omega) (by omega) q; omega
          have hne2 : ¬ nI (50 + k) = nI j' := fun q => by have := nI_inj (by omega) (by omega) q; omega
          exact bad (-12) (by decide) (by rw [c59, z3, y1, if_neg hk1, if_neg (by decide), if_pos hk2, if_neg hne]) (by rw [c247, z5, y3, if_neg (nonneg (50 + k) (by omega)).1, if_pos (nonneg j' (by omega)).2, if_neg n50, if_neg hne2])
        · have hk1' : ¬ nI k' = -1 := fun q => by
            have := congrArg Int32.toInt q
            rw [t_nI (by omega), t_m1] at this
            omega
          have hk2' : 0 ≤ (nI k').toInt ∧ (nI k').toInt ≤ 4 := by rw [t_nI (by omega)]; omega
          by_cases hkk : k = k'
          · subst hkk
            have c60s : C E (d + 99) 60 [vR 1 6 330, vI p0, vI p1, vI p4] (M, L) = some (some (vI (b1 (0 ≤ p1.toInt ∧ 0 ≤ p4.toInt ∧ p1.toInt + p4.toInt ≤ (m : Int)))), (M, L)) := by
              rw [es]; exact e60 E (d + 95) L M hs6 (by rw [z3]; exact hk2) z4 z2 p1 p4
            have c60t : C E (d + 99) 60 [vR 1 6 330, vI p2, vI p3, vI p4] (M, L) = some (some (vI (b1 (0 ≤ p3.toInt ∧ 0 ≤ p4.toInt ∧ p3.toInt + p4.toInt ≤ (m' : Int)))), (M, L)) := by
              rw [et]; exact e60 E (d + 95) L M ht6 (by rw [y3]; exact hk2) y4 y2 p3 p4
            have c59' : C E (d + 99) 59 [vR 1 6 330, vI p0, vI p2] (M, L) = some (some (vI (0 : Int32)), (M, L)) := by
              rw [c59, z3, y3, if_neg hk1, if_neg hk1, if_pos hk2, if_pos rfl]
            have c247' : ∀ L', C E (d + 100) 247 [vR 1 12 400, vI p0, vI p1, vI p2, vI p3, vI p4] (M, L') = (if p4 < 0 then some (some (vI (-13 : Int32)), (M, L')) else if p1 < 0 then some (some (vI (-13 : Int32)), (M, L')) else if p3 < 0 then some (some (vI (-13 : Int32)), (M, L')) else if (nI m - p4) < p1 then some (some (vI (-13 : Int32)), (M, L')) else if p3 ≤ (nI m' - p4) then X E (d + 99) me247 113 [some (vR 1 12 400), some (vI p0), some (vI p1), some (vI p2), some (vI p3), some (vI p4), some (vI (0 : Int32))] [] (M, L') else some (some (vI (-13 : Int32)), (M, L'))) := by
              intro L'
              rw [c247, z5, y5, z6, y6, if_neg (nonneg (50 + k) (by omega)).1, if_pos (nonneg (50 + k) (by omega)).2, if_neg n50, if_pos rfl]
            have sb : 0 ≤ p4.toInt → ∀ x, x ≤ 60 → (nI x - p4).toInt = (x : Int) - p4.toInt := fun q x hx => by
              have := t_hi p4
              rw [t_sub (by rw [t_nI (by omega)]; omega) (by rw [t_nI (by omega)]; omega), t_nI (by omega)]
            by_cases hh : (0 ≤ p1.toInt ∧ 0 ≤ p4.toInt ∧ p1.toInt + p4.toInt ≤ (m : Int)) ∧ (0 ≤ p3.toInt ∧ 0 ≤ p4.toInt ∧ p3.toInt + p4.toInt ≤ (m' : Int))
            · obtain ⟨⟨w1, w2, w3⟩, w4, -, w6⟩ := hh
              obtain ⟨i, hi61, ei⟩ := nI_ex (n := 61) w1 (by omega)
              obtain ⟨j, hj61, ej⟩ := nI_ex (n := 61) w4 (by omega)
              obtain ⟨q, hq61, eq⟩ := nI_ex (n := 61) w2 (by omega)
              rw [ei, eq, t_nI (by omega), t_nI (by omega)] at w3
              rw [ej, eq, t_nI (by omega), t_nI (by omega)] at w6
              have g1 : C E (d + 100) 142 [vR 1 11 10, vI p0, vI p1, vI p2, vI p3, vI p4] (M, L) = some (some (vI p4), (M, c2L L (334 + s) (334 + t) i j q)) := by
                have d60s := e60 E (d + 94) L M hs6 (by rw [z3]; exact hk2) z4 z2 p1 p4
                have d60t := e60 E (d + 94) L M ht6 (by rw [y3]; exact hk2) y4 y2 p3 p4
                rw [x142, c59', bI_s, if_pos rfl, c60s, bI_s, if_neg (b1_ne (by rw [ei, eq, t_nI (by omega), t_nI (by omega)]; omega)), c60t, bI_s, if_neg (b1_ne (by rw [ej, eq, t_nI (by omega), t_nI (by omega)]; omega)), x64, es, d60s, bI_s, if_neg (b1_ne (by rw [ei, eq, t_nI (by omega), t_nI (by omega)]; omega)), et, d60t, bI_s, if_neg (b1_ne (by rw [ej, eq, t_nI (by omega), t_nI (by omega)]; omega)), if_pos hib, if_pos hibt, hx, hxt, ei, ej, eq, e999L E _ M L (by omega) (by omega) (by omega) (by omega), bV_s, bV_s]
              generalize hL1 : c2L L (334 + s) (334 + t) i j q = L1 at g1
              have f449 : ∀ x, L1 449 x = L 449 x := fun x => by rw [← hL1, c2L_o (by omega)]
              -- the first loop carries
              have lp1 : ∀ r x (L2 : Nat → Nat → Int64), x + r = q → (∀ c, c ≠ 450 → L2 c = L1 c) → (∀ y, y < x → L2 450 y = L1 449 (60 * s + i + y)) → ∃ L3, X E (d + 99) me247 113 [some (vR 1 12 400), some (vI p0), some (vI p1), some (vI p2), some (vI p3), some (vI p4), some (vI (nI x))] [] (M, L2) = X E (d + 99) me247 150 [some (vR 1 12 400), some (vI p0), some (vI p1), some (vI p2), some (vI p3), some (vI p4), some (vI (nI 0))] [] (M, L3) ∧ (∀ c, c ≠ 450 → L3 c = L1 c) ∧ (∀ y, y < q → L3 450 y = L1 449 (60 * s + i + y)) := by
                intro r
                induction r with
                | zero =>
                  intro x L2 hx1 hf hy
                  have e : x = q := by omega
                  rw [x247_113, eq, e, if_pos (nI_le (Nat.le_refl _) (by omega))]
                  exact ⟨L2, rfl, hf, by rw [← e]; exact hy⟩
                | succ r ih =>
                  intro x L2 hx1 hf hy
                  have ii : (60 : Int32) * p0 + p1 + nI x = nI (60 * s + i + x) := by rw [es, ei, idx, nI_add]
                  rw [x247_113, ii, eq, if_neg (nI_ge (by omega) (by omega)), if_pos (by rw [ib_nI (by omega)]; omega), if_pos (by rw [ib_nI (by omega)]; omega), ix_nI (by omega), ix_nI (by omega), nI_1, ← eq]
                  refine ih (x + 1) _ (by omega) (fun c hc => by rw [u2L_o hc]; exact hf c hc) (fun y hy' => ?_)
                  rw [u2L_ap, if_pos rfl]
                  by_cases e : y = x
                  · rw [if_pos e, hf 449 (by omega), e]
                  · rw [if_neg e]; exact hy y (by omega)
              obtain ⟨L3, e3, l1, l2⟩ := lp1 q 0 L1 (by omega) (fun _ _ => rfl) (fun y hy => absurd hy (by omega))
              have lp2 : ∀ r x (L4 : Nat → Nat → Int64), x + r = q → (∀ c, c ≠ 449 → L4 c = L3 c) → (∀ y, L4 449 y = if 60 * t + j ≤ y ∧ y < 60 * t + j + x then L3 450 (y - (60 * t + j)) else L3 449 y) → ∃ L5, X E (d + 99) me247 150 [some (vR 1 12 400), some (vI p0), some (vI p1), some (vI p2), some (vI p3), some (vI p4), some (vI (nI x))] [] (M, L4) = some (some (vI p4), (M, L5)) ∧ (∀ c, c ≠ 449 → L5 c = L3 c) ∧ (∀ y, L5 449 y = if 60 * t + j ≤ y ∧ y < 60 * t + j + q then L3 450 (y - (60 * t + j)) else L3 449 y) := by
                intro r
                induction r with
                | zero =>
                  intro x L4 hx1 hf hy
                  have e : x = q := by omega
                  rw [x247_150, eq, e, if_pos (nI_le (Nat.le_refl _) (by omega))]
                  exact ⟨L4, rfl, hf, by rw [← e]; exact hy⟩
                | succ r ih =>
                  intro x L4 hx1 hf hy
                  have ii : (60 : Int32) * p2 + p3 + nI x = nI (60 * t + j + x) := by rw [et, ej, idx, nI_add]
                  rw [x247_150, ii, eq, if_neg (nI_ge (by omega) (by omega)), if_pos (by rw [ib_nI (by omega)]; omega), if_pos (by rw [ib_nI (by omega)]; omega), ix_nI (by omega), ix_nI (by omega), nI_1, ← eq]
                  refine ih (x + 1) _ (by omega) (fun c hc => by rw [u2L_o hc]; exact hf c hc) (fun y => ?_)
                  rw [u2L_ap, if_pos rfl, hf 450 (by omega)]
                  by_cases e : y = 60 * t + j + x
                  · rw [if_pos e, if_pos (by omega), e, show 60 * t + j + x - (60 * t + j) = x by omega]
                  · rw [if_neg e, hy y]
                    by_cases e2 : 60 * t + j ≤ y ∧ y < 60 * t + j + x
                    · rw [if_pos e2, if_pos (by omega)]
                    · rw [if_neg e2, if_neg (by omega)]
              obtain ⟨L5, e5, l3, l4⟩ := lp2 q 0 L3 (by omega) (fun _ _ => rfl) (fun y => by rw [if_neg (by omega)])
              have g2 : C E (d + 100) 247 [vR 1 12 400, vI p0, vI p1, vI p2, vI p3, vI p4] (M, L1) = some (some (vI p4), (M, L5)) := by
                have t1 : p1.toInt = (i : Int) := by rw [ei, t_nI (by omega)]
                have t3 : p3.toInt = (j : Int) := by rw [ej, t_nI (by omega)]
                have t4 : p4.toInt = (q : Int) := by rw [eq, t_nI (by omega)]
                rw [c247', if_neg (by rw [t_lt, t_0, t4]; omega), if_neg (by rw [t_lt, t_0, t1]; omega), if_neg (by rw [t_lt, t_0, t3]; omega), if_neg (by rw [t_lt, sb (by omega) m z2, t4, t1]; omega), if_pos (by rw [t_le, sb (by omega) m' y2, t4, t3]; omega)]
                exact e3.trans e5
              refine ⟨_, _, _, _, _, g1, g2, n, g, kf, hc, ⟨hl, hrl⟩, ht, hch, hld, hi, ha, ?_⟩
              have vt : ∀ x, x < m' → L5 449 (60 * t + x) = L5 (334 + t) x ∧ (k = 0 → -128 ≤ (L5 (334 + t) x).toInt ∧ (L5 (334 + t) x).toInt ≤ 127) := by
                intro x hx'
                have w : L5 (334 + t) x = if j ≤ x ∧ x < j + q then L (334 + s) (i + (x - j)) else L (334 + t) x := by
                  rw [l3 (334 + t) (by omega), l1 (334 + t) (by omega), ← hL1, c2L_ap, if_pos rfl]
                rw [w, l4 (60 * t + x)]
                by_cases e : j ≤ x ∧ x < j + q
                · rw [if_pos (by omega), if_pos e, l2 _ (by omega), f449]
                  have : 60 * s + i + (60 * t + x - (60 * t + j)) = 60 * s + (i + (x - j)) := by omega
                  rw [this]
                  exact ⟨z7 _ (by omega), fun hk0 => z8 hk0 _ (by omega)⟩
                · rw [if_neg (by omega), if_neg e, l1 449 (by omega), f449]
                  exact ⟨y7 x hx', fun hk0 => y8 hk0 x hx'⟩
              refine hs.set1 (s := t) (Or.inr (Or.inr ⟨k, m', y1, y2, y3, y4, y5, y6, fun x hx' => (vt x hx').1, fun hk0 x hx' => (vt x hx').2 hk0⟩)) (fun _ _ _ _ => rfl) rfl (fun x y hy hx6 hxs => ?_)
              rw [l3 (334 + x) (by omega), l1 (334 + x) (by omega), l4 (60 * x + y), if_neg (by omega), l1 449 (by omega), f449, ← hL1, c2L_o (by omega)]
              exact ⟨rfl, rfl⟩
            · refine opq E d hR (r := -13) (M1 := M) (M2 := M) ?_ (Kp.re M) ?_ (Kp.re M)
              · rw [x142, c59', bI_s, if_pos rfl, c60s, bI_s]
                by_cases a : 0 ≤ p1.toInt ∧ 0 ≤ p4.toInt ∧ p1.toInt + p4.toInt ≤ (m : Int)
                · rw [if_neg (b1_ne a), c60t, bI_s, if_pos (b1_e (fun q => hh ⟨a, q⟩))]
                · rw [if_pos (b1_e a)]
              · rw [c247']
                simp only [t_lt, t_le, t_0]
                by_cases a4 : p4.toInt < 0
                · rw [if_pos a4]
                · rw [if_neg a4, sb (by omega) m z2, sb (by omega) m' y2]
                  by_cases a1 : p1.toInt < 0
                  · rw [if_pos a1]
                  · rw [if_neg a1]
                    by_cases a3 : p3.toInt < 0
                    · rw [if_pos a3]
                    · rw [if_neg a3]
                      by_cases a5 : (m : Int) - p4.toInt < p1.toInt
                      · rw [if_pos a5]
                      · rw [if_neg a5, if_neg (fun q => hh ⟨by omega, by omega⟩)]
          · have hne : ¬ nI k = nI k' := fun q => hkk (nI_inj (by omega) (by omega) q)
            have hne2 : ¬ nI (50 + k) = nI (50 + k') := fun q => by have := nI_inj (by omega) (by omega) q; omega
            exact bad (-12) (by decide) (by rw [c59, z3, y3, if_neg hk1, if_neg hk1', if_pos hk2, if_neg hne]) (by rw [c247, z5, y5, if_neg (nonneg (50 + k) (by omega)).1, if_pos (nonneg (50 + k') (by omega)).2, if_neg n50, if_neg hne2])
    · exact bad (-1) (by decide) (by rw [x59, e48', bI_s, if_neg (by decide), e48t, bI_s, if_pos rfl]) (by rw [x247, es, e240n E _ L _ hs6, bI_s, if_neg (by decide), e240x E _ L _ hnt, bI_s, if_pos rfl])
  · exact bad (-1) (by decide) (by rw [x59, e48', bI_s, if_pos rfl]) (by rw [x247, e240x E _ L _ hns, bI_s, if_pos rfl])
end ROWS
