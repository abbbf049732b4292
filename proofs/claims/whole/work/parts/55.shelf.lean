/-! shelves on both sides -/
section SHELF
variable (E : Nat × (Nat → Int32)) (d : Nat) (L : Nat → Nat → Int64)
theorem shN (M : Nat → Nat → Int32) (p : Int32) : (∃ s, s < 6 ∧ p = nI s ∧ C E (d + 1) 48 [vR 1 6 330, vI p] (M, L) = some (some (vI (1 : Int32)), (M, L)) ∧ ∀ M1 L1, C E (d + 1) 240 [vI p] (M1, L1) = C E (d + 1) 240 [vI (nI s)] (M1, L1)) ∨ (¬ (0 ≤ p.toInt ∧ p.toInt < 6) ∧ C E (d + 1) 48 [vR 1 6 330, vI p] (M, L) = some (some (vI (0 : Int32)), (M, L))) := by
  by_cases h : 0 ≤ p.toInt ∧ p.toInt < 6
  · obtain ⟨s, hs, e⟩ := nI_ex (n := 6) h.1 h.2
    exact Or.inl ⟨s, hs, e, by rw [e48, b1_t h], fun _ _ => by rw [e]⟩
  · exact Or.inr ⟨h, by rw [e48, b1_f h]⟩
theorem e240n (M : Nat → Nat → Int32) {s : Nat} (hs : s < 6) : C E (d + 2) 240 [vI (nI s)] (M, L) = some (some (vI (1 : Int32)), (M, L)) := by
  rw [e240, b1_t (by rw [t_nI (by omega)]; omega)]
theorem e240x (M : Nat → Nat → Int32) {p : Int32} (h : ¬ (0 ≤ p.toInt ∧ p.toInt < 6)) : C E (d + 2) 240 [vI p] (M, L) = some (some (vI (0 : Int32)), (M, L)) := by
  rw [e240, b1_f h]
theorem op_count (p0 : Int32) : Opk E d 144 249 [vI p0] := by
  intro M L h
  have hR := h
  obtain ⟨n, g, kf, hc, ⟨hl, hrl⟩, ht, hch, hld, hi, ha, hs⟩ := h
  obtain ⟨hn, hn', hg, hg'⟩ := hc.2.2.1
  have hn8 := hc.1
  have hg9 := hc.2.1
  obtain ⟨t, ht1, ht2, ht3, ht4⟩ := ht
  obtain ⟨c, a, q1, q2, q3, q4, q5, q6, q7⟩ := hch
  obtain ⟨b, r, b50, r1000, a1, a2, a3, a4, a5, a6⟩ := ha
  have h2 : C E (d + 100) 249 [vR 1 12 400, vI p0] (M, L) = C E (d + 100) 144 [vR 1 11 10, vI p0] (M, L) := by
    rw [x144, x249, hn, hn', hg, hg', ht2, ht3, q3, q4, a1, a2, a3, a4]
  have : ∃ r, C E (d + 100) 144 [vR 1 11 10, vI p0] (M, L) = some (some (vI r), (M, L)) := by
    rw [x144]
    (repeat' split) <;> exact ⟨_, rfl⟩
  obtain ⟨r, e⟩ := this
  exact opq E d hR e (Kp.re M) (h2.trans e) (Kp.re M)
theorem op_trace (p0 : Int32) : Opk E d 137 239 [vI p0] := by
  intro M L h
  have hR := h
  obtain ⟨n, g, kf, hc, ⟨hl, hrl⟩, ht, hch, hld, hi, ha, hs⟩ := h
  obtain ⟨hn, hn', hg, hg'⟩ := hc.2.2.1
  have hn8 := hc.1
  have hg9 := hc.2.1
  obtain ⟨b, r, b50, r1000, a1, a2, a3, a4, a5, a6⟩ := ha
  by_cases h0 : 0 ≤ p0.toInt ∧ p0.toInt < (r : Int) ∧ p0.toInt < 24
  · obtain ⟨i, hi, e⟩ := nI_ex (n := 24) h0.1 h0.2.2
    have hir : i < r := by have := h0.2.1; rw [e, t_nI (by omega)] at this; omega
    have hib : ib (nI i) 24 := by rw [ib_nI (by omega)]; exact hi
    refine opq E d hR (r := M 322 i) (M1 := M) (M2 := M) ?_ (Kp.re M) ?_ (Kp.re M)
    · rw [x137, x6, e, a3, if_neg (nI_pos (by omega)), if_neg (nI_ge hir (by omega)), if_neg (show ¬ (24 : Int32) ≤ nI i from nI_ge (b := 24) hi (by omega)), if_pos hib, bI_s, ix_nI (by omega)]
    · rw [x239, e, a4, if_neg (nI_pos (by omega)), if_neg (nI_ge hir (by omega)), if_neg (show ¬ (24 : Int32) ≤ nI i from nI_ge (b := 24) hi (by omega)), if_pos hib, ix_nI (by omega), a6 i hir hi]
  · refine opq E d hR (r := -1) (M1 := M) (M2 := M) ?_ (Kp.re M) ?_ (Kp.re M)
    · rw [x137, x6, a3]
      simp only [t_lt, t_le, t_0, t_24, t_nI (show r < 2147483648 by omega)]
      by_cases z1 : p0.toInt < 0
      · rw [if_pos z1, bI_s]
      · rw [if_neg z1]
        by_cases z2 : (r : Int) ≤ p0.toInt
        · rw [if_pos z2, bI_s]
        · rw [if_neg z2, if_pos (by omega), bI_s]
    · rw [x239, a4]
      simp only [t_lt, t_le, t_0, t_24, t_nI (show r < 2147483648 by omega)]
      by_cases z1 : p0.toInt < 0
      · rw [if_pos z1]
      · rw [if_neg z1]
        by_cases z2 : (r : Int) ≤ p0.toInt
        · rw [if_pos z2]
        · rw [if_neg z2, if_pos (by omega)]
/-- one shelf changes -/
theorem Rsh.set1 {M M2 : Nat → Nat → Int32} {L L2 : Nat → Nat → Int64} (h : Rsh M L) {s : Nat} (hs : Rs1 M2 L2 s) (q1 : ∀ x, x = 331 ∨ x = 332 ∨ x = 447 ∨ x = 448 → ∀ i, i ≠ s → M2 x i = M x i) (q2 : M2 320 2 = M 320 2) (q3 : ∀ x i, i < 60 → x < 6 → x ≠ s → L2 (334 + x) i = L (334 + x) i ∧ L2 449 (60 * x + i) = L 449 (60 * x + i)) : Rsh M2 L2 := by
  intro x hx
  by_cases e : x = s
  · rw [e]; exact hs
  · rcases h x hx with z | ⟨z1, j, z2, z3, z4, z5⟩ | ⟨k, m, z1, z2, z3, z4, z5, z6, z7, z8⟩
    · refine Or.inl ?_
      rw [q1 331 (by omega) x e, q1 447 (by omega) x e]; exact z
    · refine Or.inr (Or.inl ⟨?_, j, ?_, ?_, ?_, z5⟩)
      · rw [q1 331 (by omega) x e]; exact z1
      · rw [q1 332 (by omega) x e]; exact z2
      · rw [q1 447 (by omega) x e]; exact z3
      · rw [q2]; exact z4
    · refine Or.inr (Or.inr ⟨k, m, z1, z2, ?_, ?_, ?_, ?_, fun i hi => ?_, fun hk i hi => ?_⟩)
      · rw [q1 331 (by omega) x e]; exact z3
      · rw [q1 332 (by omega) x e]; exact z4
      · rw [q1 447 (by omega) x e]; exact z5
      · rw [q1 448 (by omega) x e]; exact z6
      · obtain ⟨w1, w2⟩ := q3 x i (by omega) hx e
        rw [w1, w2]; exact z7 i hi
      · rw [(q3 x i (by omega) hx e).1]; exact z8 hk i hi
theorem op_keep (p0 p1 : Int32) : Opk E d 138 241 [vI p0, vI p1] := by
  intro M L h
  have hR := h
  obtain ⟨n, g, kf, hc, ⟨hl, hrl⟩, ht, hch, hld, hi, ha, hs⟩ := h
  obtain ⟨hn, hn', hg, hg'⟩ := hc.2.2.1
  have hn8 := hc.1
  have hg9 := hc.2.1
  obtain ⟨b, r, b50, r1000, a1, a2, a3, a4, a5, a6⟩ := id ha
  rcases shN E (d + 98) L M p0 with ⟨s, hs6, es, e48', -⟩ | ⟨hns, e48'⟩
  · have hib : ib (nI s) 6 := by rw [ib_nI (by omega)]; exact hs6
    have hx := ix_nI (n := s) (by omega)
    by_cases hm : p1 = -1
    · have g1 : C E (d + 100) 138 [vR 1 11 10, vI p0, vI p1] (M, L) = some (some (vI (1 : Int32)), (u2 M 331 s (-1), L)) := by
        rw [x138, e48', bI_s, if_neg (by decide), if_pos hm, if_pos hm, es, x53, e48n E _ L M hs6, bI_s, if_neg (by decide), if_pos hib, bV_s, hx]
      have g2 : C E (d + 100) 241 [vR 1 12 400, vI p0, vI p1] (u2 M 331 s (-1), L) = some (some (vI (1 : Int32)), (u2 (u2 (u2 M 331 s (-1)) 447 s (-1)) 448 s 0, L)) := by
        rw [x241, es, e240n E _ L _ hs6, bI_s, if_neg (by decide), if_pos hm, if_pos hib, if_pos hib, hx, hm]
      generalize hM2 : u2 (u2 (u2 M 331 s (-1)) 447 s (-1)) 448 s 0 = M2 at g2
      have F : ∀ c, ¬ (c = 331 ∨ c = 447 ∨ c = 448) → M2 c = M c := fun c q => by
        rw [← hM2, u2_o (by omega), u2_o (by omega), u2_o (by omega)]
      have G : ∀ j : Nat, j < 1000 → M2 400 j = M 400 j := fun j _ => by rw [F 400 (by omega)]
      refine ⟨_, _, _, _, _, g1, g2, n, g, kf, (hc.kp (fun c q1 q2 => F c (by omega)) (fun c q => F c (by omega)) (fun j q => G j (by omega))), ⟨(hl.keep4 (by rw [F 90 (by omega)]) (F 91 (by omega)) (F 92 (by omega))), (hrl.keep (G 24 (by omega)) (F 422 (by omega)) (F 423 (by omega)) (F 424 (by omega)))⟩, (ht.kp (by rw [F 70 (by omega)]) (G 11 (by omega)) (F 411 (by omega)) (F 71 (by omega))), (hch.kp (fun c q1 q2 => F c (by omega)) (fun c q1 q2 => F c (by omega)) (fun c q => G c (by omega))), (hld.kp (F 435 (by omega)) (F 281 (by omega))), (hi.kp (F 280 (by omega)) (F 282 (by omega)) (fun c q1 q2 => F c (by omega)) (F 439 (by omega)) (F 440 (by omega)) (fun c q => G c (by omega))), (ha.kp (fun c q1 q2 => F c (by omega)) (F 442 (by omega)) (F 443 (by omega)) (fun c q => G c (by omega))), ?_⟩
      refine hs.set1 (s := s) (Or.inl ?_) (fun x hx i hi => ?_) (by rw [F 320 (by omega)]) (fun _ _ _ _ _ => ⟨rfl, rfl⟩)
      · rw [← hM2, u2_o (by omega), u2_o (by omega), u2_s, u2_o (by omega), u2_s]; exact ⟨rfl, rfl⟩
      · rw [← hM2]
        rcases hx with rfl | rfl | rfl | rfl
        · simp (disch := omega) only [u2_o, u2_n]
        · simp (disch := omega) only [u2_o, u2_n]
        · simp (disch := omega) only [u2_o, u2_n]
        · simp (disch := omega) only [u2_o, u2_n]
    · by_cases h1 : 0 ≤ p1.toInt ∧ p1.toInt < (b : Int)
      · obtain ⟨j, hj, ej⟩ := nI_ex h1.1 h1.2
        have g1 : C E (d + 100) 138 [vR 1 11 10, vI p0, vI p1] (M, L) = some (some (vI (1 : Int32)), (u2 (u2 M 331 s 5) 332 s p1, L)) := by
          rw [x138, e48', bI_s, if_neg (by decide), if_neg hm, e0, bI_s, if_neg (b1_ne ⟨h1.1, by rw [a1, t_nI (by omega)]; exact h1.2, by omega⟩), if_neg hm, es, x54, e48n E _ L M hs6, bI_s, if_neg (by decide), if_pos hib, if_pos hib, bV_s, hx]
        have g2 : C E (d + 100) 241 [vR 1 12 400, vI p0, vI p1] (u2 (u2 M 331 s 5) 332 s p1, L) = some (some (vI (1 : Int32)), (u2 (u2 (u2 (u2 M 331 s 5) 332 s p1) 447 s p1) 448 s 0, L)) := by
          rw [x241, es, e240n E _ L _ hs6, bI_s, if_neg (by decide), if_neg hm, e229 E _ L _ p1 (b := b) (by rw [u2_o (by omega), u2_o (by omega)]; exact a2) b50, bI_s, if_neg (b1_ne h1), if_pos hib, if_pos hib, hx]
        generalize hM2 : u2 (u2 (u2 (u2 M 331 s 5) 332 s p1) 447 s p1) 448 s 0 = M2 at g2
        have F : ∀ c, ¬ (c = 331 ∨ c = 332 ∨ c = 447 ∨ c = 448) → M2 c = M c := fun c q => by
          rw [← hM2, u2_o (by omega), u2_o (by omega), u2_o (by omega), u2_o (by omega)]
        have G : ∀ j : Nat, j < 1000 → M2 400 j = M 400 j := fun j _ => by rw [F 400 (by omega)]
        refine ⟨_, _, _, _, _, g1, g2, n, g, kf, (hc.kp (fun c q1 q2 => F c (by omega)) (fun c q => F c (by omega)) (fun j q => G j (by omega))), ⟨(hl.keep4 (by rw [F 90 (by omega)]) (F 91 (by omega)) (F 92 (by omega))), (hrl.keep (G 24 (by omega)) (F 422 (by omega)) (F 423 (by omega)) (F 424 (by omega)))⟩, (ht.kp (by rw [F 70 (by omega)]) (G 11 (by omega)) (F 411 (by omega)) (F 71 (by omega))), (hch.kp (fun c q1 q2 => F c (by omega)) (fun c q1 q2 => F c (by omega)) (fun c q => G c (by omega))), (hld.kp (F 435 (by omega)) (F 281 (by omega))), (hi.kp (F 280 (by omega)) (F 282 (by omega)) (fun c q1 q2 => F c (by omega)) (F 439 (by omega)) (F 440 (by omega)) (fun c q => G c (by omega))), (ha.kp (fun c q1 q2 => F c (by omega)) (F 442 (by omega)) (F 443 (by omega)) (fun c q => G c (by omega))), ?_⟩
        refine hs.set1 (s := s) (Or.inr (Or.inl ⟨?_, j, ?_, ?_, ?_, by omega⟩)) (fun x hx i hi => ?_) (by rw [F 320 (by omega)]) (fun _ _ _ _ _ => ⟨rfl, rfl⟩)
        · rw [← hM2]; simp (disch := omega) only [u2_o, u2_s]
        · rw [← hM2, ← ej]; simp (disch := omega) only [u2_o, u2_s]
        · rw [← hM2, ← ej]; simp (disch := omega) only [u2_o, u2_s]
        · rw [F 320 (by omega), a1, t_nI (by omega)]; omega
        · rw [← hM2]
          rcases hx with rfl | rfl | rfl | rfl
          · simp (disch := omega) only [u2_o, u2_n]
          · simp (disch := omega) only [u2_o, u2_n]
          · simp (disch := omega) only [u2_o, u2_n]
          · simp (disch := omega) only [u2_o, u2_n]
      · refine opq E d hR (r := -1) (M1 := M) (M2 := M) ?_ (Kp.re M) ?_ (Kp.re M)
        · rw [x138, e48', bI_s, if_neg (by decide), if_neg hm, e0, bI_s, if_pos (b1_e (fun q => h1 ⟨q.1, by have := q.2.1; rw [a1, t_nI (by omega)] at this; exact this⟩))]
        · rw [x241, es, e240n E _ L _ hs6, bI_s, if_neg (by decide), if_neg hm, e229 E _ L _ p1 a2 b50, bI_s, if_pos (b1_e h1)]
  · refine opq E d hR (r := -1) (M1 := M) (M2 := M) ?_ (Kp.re M) ?_ (Kp.re M)
    · rw [x138, e48', bI_s, if_pos rfl]
    · rw [x241, e240x E _ L _ hns, bI_s, if_pos rfl]
theorem op_row (p0 p1 p2 : Int32) : Opk E d 139 242 [vI p0, vI p1, vI p2] := by
  intro M L h
  have hR := h
  obtain ⟨n, g, kf, hc, ⟨hl, hrl⟩, ht, hch, hld, hi, ha, hs⟩ := h
  obtain ⟨hn, hn', hg, hg'⟩ := hc.2.2.1
  have hn8 := hc.1
  have hg9 := hc.2.1
  rcases shN E (d + 98) L M p0 with ⟨s, hs6, es, e48', -⟩ | ⟨hns, e48'⟩
  · have hib : ib (nI s) 6 := by rw [ib_nI (by omega)]; exact hs6
    have hx := ix_nI (n := s) (by omega)
    by_cases h1 : 0 ≤ p1.toInt ∧ p1.toInt ≤ 4
    · obtain ⟨k, hk, ek⟩ := nI_ex (n := 5) h1.1 (by omega)
      by_cases h2 : p2.toInt ≤ 60
      · by_cases h3 : 0 ≤ p2.toInt
        · obtain ⟨m, hm, em⟩ := nI_ex (n := 61) h3 (by omega)
          have g1 : C E (d + 100) 139 [vR 1 11 10, vI p0, vI p1, vI p2] (M, L) = some (some (vI (1 : Int32)), (u2 (u2 M 331 s p1) 332 s p2, fiL L (334 + s) 60 0)) := by
            rw [x139, e48', bI_s, if_neg (by decide), e145, bI_s, if_neg (b1_ne (by rw [t_0, t_4]; exact h1)), if_pos (show p2 ≤ 60 by rw [t_le, t_60]; exact h2), if_pos (show 0 ≤ p2 by rw [t_le, t_0]; exact h3), es, x55, e48n E _ L M hs6, bI_s, if_neg (by decide), if_neg (show ¬ p2 < 0 by rw [t_lt, t_0]; omega), if_neg (show ¬ (60 : Int32) < p2 by rw [t_lt, t_60]; omega), if_pos hib, if_pos hib, if_pos hib, hx, e251 E _ _ L (334 + s) 60 0 (by omega), bV_s, bV_s]
          generalize hM1 : u2 (u2 M 331 s p1) 332 s p2 = M1 at g1
          have f1 : ∀ c, c ≠ 331 → c ≠ 332 → M1 c = M c := fun c z1 z2 => by rw [← hM1, u2_o z2, u2_o z1]
          generalize hL1 : fiL L (334 + s) 60 0 = L1 at g1
          have zl : ∀ r x (L2 : Nat → Nat → Int64), x + r = 60 * s + 60 → 60 * s ≤ x → (∀ c i, ¬ (c = 449 ∧ 60 * s ≤ i ∧ i < 60 * s + 60) → L2 c i = L1 c i) → (∀ i, 60 * s ≤ i → i < x → L2 449 i = 0) → ∀ M3, ∃ L3, X E (d + 99) me242 57 [some (vR 1 12 400), some (vI (nI s)), some (vI p1), some (vI p2), some (vI (nI x))] [] (M3, L2) = some (some (vI (1 : Int32)), (M3, L3)) ∧ (∀ c i, ¬ (c = 449 ∧ 60 * s ≤ i ∧ i < 60 * s + 60) → L3 c i = L1 c i) ∧ (∀ i, 60 * s ≤ i → i < 60 * s + 60 → L3 449 i = 0) := by
            intro r
            induction r with
            | zero =>
              intro x L2 hx1 hx2 hf hz M3
              have e : x = 60 * s + 60 := by omega
              refine ⟨L2, ?_, hf, fun i i1 i2 => hz i i1 (by omega)⟩
              rw [x242_57, show (60 : Int32) * nI s + 60 = nI (60 * s + 60) from by rw [show (60 : Int32) = nI 60 from rfl]; unfold nI; rw [← Int32.ofNat_mul, ← Int32.ofNat_add], e, if_pos (nI_le (Nat.le_refl _) (by omega))]
            | succ r ih =>
              intro x L2 hx1 hx2 hf hz M3
              rw [x242_57, show (60 : Int32) * nI s + 60 = nI (60 * s + 60) from by rw [show (60 : Int32) = nI 60 from rfl]; unfold nI; rw [← Int32.ofNat_mul, ← Int32.ofNat_add], if_neg (nI_ge (by omega) (by omega)), if_pos (by rw [ib_nI (by omega)]; omega), ix_nI (by omega), nI_1]
              refine ih (x + 1) _ (by omega) (by omega) (fun c i hci => ?_) (fun i i1 i2 => ?_) M3
              · rw [u2L_ap]
                by_cases e1 : c = 449
                · rw [if_pos e1]
                  by_cases e2 : i = x
                  · exact absurd ⟨e1, by omega, by omega⟩ hci
                  · rw [if_neg e2]; exact hf c i hci
                · rw [if_neg e1]; exact hf c i hci
              · rw [u2L_ap, if_pos rfl]
                by_cases e2 : i = x
                · rw [if_pos e2]
                · rw [if_neg e2]; exact hz i i1 (by omega)
          obtain ⟨L3, e3, l1, l2⟩ := zl 60 (60 * s) L1 (by omega) (by omega) (fun _ _ _ => rfl) (fun i i1 i2 => absurd i2 (by omega)) (u2 (u2 M1 447 s (50 + p1)) 448 s p2)
          have g2 : C E (d + 100) 242 [vR 1 12 400, vI p0, vI p1, vI p2] (M1, L1) = some (some (vI (1 : Int32)), (u2 (u2 M1 447 s (50 + p1)) 448 s p2, L3)) := by
            rw [x242, es, e240n E _ _ _ hs6, bI_s, if_neg (by decide), e148, bI_s, if_neg (b1_ne (by rw [tl_i, l_0, l_4]; exact h1)), if_pos (show p2 ≤ 60 by rw [t_le, t_60]; exact h2), if_pos (show 0 ≤ p2 by rw [t_le, t_0]; exact h3), if_pos hib, if_pos hib, hx, show (60 : Int32) * nI s = nI (60 * s) from by rw [show (60 : Int32) = nI 60 from rfl]; unfold nI; rw [← Int32.ofNat_mul]]
            exact e3
          generalize hM2 : u2 (u2 M1 447 s (50 + p1)) 448 s p2 = M2 at g2
          have F : ∀ c, ¬ (c = 331 ∨ c = 332 ∨ c = 447 ∨ c = 448) → M2 c = M c := fun c q => by
            rw [← hM2, u2_o (by omega), u2_o (by omega), f1 c (by omega) (by omega)]
          have G : ∀ j : Nat, j < 1000 → M2 400 j = M 400 j := fun j _ => by rw [F 400 (by omega)]
          have LL : ∀ x i, x < 6 → i < 60 → x ≠ s → L3 (334 + x) i = L (334 + x) i ∧ L3 449 (60 * x + i) = L 449 (60 * x + i) := by
            intro x i hx6 hi hxs
            rw [l1 (334 + x) i (by omega), l1 449 (60 * x + i) (by omega), ← hL1]
            unfold fiL
            rw [if_neg (by omega), if_neg (by omega)]
            exact ⟨rfl, rfl⟩
          refine ⟨_, _, _, _, _, g1, g2, n, g, kf, (hc.kp (fun c q1 q2 => F c (by omega)) (fun c q => F c (by omega)) (fun j q => G j (by omega))), ⟨(hl.keep4 (by rw [F 90 (by omega)]) (F 91 (by omega)) (F 92 (by omega))), (hrl.keep (G 24 (by omega)) (F 422 (by omega)) (F 423 (by omega)) (F 424 (by omega)))⟩, (ht.kp (by rw [F 70 (by omega)]) (G 11 (by omega)) (F 411 (by omega)) (F 71 (by omega))), (hch.kp (fun c q1 q2 => F c (by omega)) (fun c q1 q2 => F c (by omega)) (fun c q => G c (by omega))), (hld.kp (F 435 (by omega)) (F 281 (by omega))), (hi.kp (F 280 (by omega)) (F 282 (by omega)) (fun c q1 q2 => F c (by omega)) (F 439 (by omega)) (F 440 (by omega)) (fun c q => G c (by omega))), (ha.kp (fun c q1 q2 => F c (by omega)) (F 442 (by omega)) (F 443 (by omega)) (fun c q => G c (by omega))), ?_⟩
          have z0 : ∀ i, i < 60 → L3 (334 + s) i = 0 := by
            intro i hi
            rw [l1 (334 + s) i (by omega), ← hL1]
            unfold fiL
            rw [if_pos rfl, if_pos hi]
          refine hs.set1 (s := s) (Or.inr (Or.inr ⟨k, m, by omega, by omega, ?_, ?_, ?_, ?_, fun i hi => ?_, fun _ i hi => ?_⟩)) (fun x hx i hi => ?_) (by rw [F 320 (by omega)]) (fun x i hi hx6 hxs => LL x i hx6 hi hxs)
          · rw [← hM2, ← ek, ← hM1]; simp (disch := omega) only [u2_o, u2_s]
          · rw [← hM2, ← em, ← hM1]; simp (disch := omega) only [u2_o, u2_s]
          · rw [← hM2, ek]; simp (disch := omega) only [u2_o, u2_s]; exact nI_add 50 k
          · rw [← hM2, ← em]; simp (disch := omega) only [u2_o, u2_s]
          · rw [z0 i (by omega), l2 (60 * s + i) (by omega) (by omega)]
          · rw [z0 i (by omega), l_0]; omega
          · rw [← hM2]
            rcases hx with rfl | rfl | rfl | rfl
            · simp (disch := omega) only [u2_o]; rw [← hM1]; simp (disch := omega) only [u2_o, u2_n]
            · simp (disch := omega) only [u2_o]; rw [← hM1]; simp (disch := omega) only [u2_o, u2_n]
            · simp (disch := omega) only [u2_o, u2_n]; rw [f1 447 (by omega) (by omega)]
            · simp (disch := omega) only [u2_o, u2_n]; rw [f1 448 (by omega) (by omega)]
        · refine opq E d hR (r := -14) (M1 := M) (M2 := M) ?_ (Kp.re M) ?_ (Kp.re M)
          · rw [x139, e48', bI_s, if_neg (by decide), e145, bI_s, if_neg (b1_ne (by rw [t_0, t_4]; exact h1)), if_pos (show p2 ≤ 60 by rw [t_le, t_60]; exact h2), if_neg (show ¬ 0 ≤ p2 by rw [t_le, t_0]; exact h3)]
          · rw [x242, es, e240n E _ _ _ hs6, bI_s, if_neg (by decide), e148, bI_s, if_neg (b1_ne (by rw [tl_i, l_0, l_4]; exact h1)), if_pos (show p2 ≤ 60 by rw [t_le, t_60]; exact h2), if_neg (show ¬ 0 ≤ p2 by rw [t_le, t_0]; exact h3)]
      · refine opq E d hR (r := -1) (M1 := M) (M2 := M) ?_ (Kp.re M) ?_ (Kp.re M)
        · rw [x139, e48', bI_s, if_neg (by decide), e145, bI_s, if_neg (b1_ne (by rw [t_0, t_4]; exact h1)), if_neg (show ¬ p2 ≤ 60 by rw [t_le, t_60]; exact h2)]
        · rw [x242, es, e240n E _ _ _ hs6, bI_s, if_neg (by decide), e148, bI_s, if_neg (b1_ne (by rw [tl_i, l_0, l_4]; exact h1)), if_neg (show ¬ p2 ≤ 60 by rw [t_le, t_60]; exact h2)]
    · refine opq E d hR (r := -1) (M1 := M) (M2 := M) ?_ (Kp.re M) ?_ (Kp.re M)
      · rw [x139, e48', bI_s, if_neg (by decide), e145, bI_s, if_pos (b1_e (by rw [t_0, t_4]; exact h1))]
      · rw [x242, es, e240n E _ _ _ hs6, bI_s, if_neg (by decide), e148, bI_s, if_pos (b1_e (by rw [tl_i, l_0, l_4]; exact h1))]
  · refine opq E d hR (r := -1) (M1 := M) (M2 := M) ?_ (Kp.re M) ?_ (Kp.re M)
    · rw [x139, e48', bI_s, if_pos rfl]
    · rw [x242, e240x E _ L _ hns, bI_s, if_pos rfl]
end SHELF
