/-! acts: the call -/
section ACTS4
variable (E : Nat × (Nat → Int32)) (d : Nat) (L : Nat → Nat → Int64)
theorem RR_act {M M1 M2 : Nat → Nat → Int32} {r' : Nat} (h : RR E M L) (hr' : r' ≤ 900) (f1 : ∀ c, c ≠ 320 → c ≠ 322 → M1 c = M c) (j1 : M1 320 2 = M 320 2) (k1 : M1 320 3 = nI r') (f2 : ∀ c, c ≠ 400 → c ≠ 443 → M2 c = M1 c) (g2 : ∀ j, j ≠ 43 → j ≠ 44 → j ≠ 45 → M2 400 j = M 400 j) (k2 : M2 400 43 = nI r') (e : ∀ i, i < r' → i < 24 → M2 443 i = M1 322 i) : RR E M2 L := by
  have hR := h
  obtain ⟨n, g, kf, hc, ⟨hl, hrl⟩, ht, hch, hld, hi, ha, hs⟩ := h
  obtain ⟨hn, hn', hg, hg'⟩ := hc.2.2.1
  have hn8 := hc.1
  have hg9 := hc.2.1
  have F : ∀ c, ¬ (c = 320 ∨ c = 322 ∨ c = 443 ∨ c = 400) → M2 c = M c := fun c q => by
    rw [f2 c (by omega) (by omega), f1 c (by omega) (by omega)]
  have G : ∀ j : Nat, j ≠ 43 ∧ j ≠ 44 ∧ j ≠ 45 → M2 400 j = M 400 j := fun j q => g2 j q.1 q.2.1 q.2.2
  obtain ⟨b, r, b50, r1000, a1, a2, a3, a4, a5, a6⟩ := ha
  have h2 : M2 320 2 = M 320 2 := by rw [f2 320 (by omega) (by omega)]; exact j1
  refine ⟨n, g, kf, (hc.kp (fun c q1 q2 => F c (by omega)) (fun c q => F c (by omega)) (fun j q => G j (by omega))), ⟨(hl.keep4 (by rw [F 90 (by omega)]) (F 91 (by omega)) (F 92 (by omega))), (hrl.keep (G 24 (by omega)) (F 422 (by omega)) (F 423 (by omega)) (F 424 (by omega)))⟩, (ht.kp (by rw [F 70 (by omega)]) (G 11 (by omega)) (F 411 (by omega)) (F 71 (by omega))), (hch.kp (fun c q1 q2 => F c (by omega)) (fun c q1 q2 => F c (by omega)) (fun c q => G c (by omega))), (hld.kp (F 435 (by omega)) (F 281 (by omega))), (hi.kp (F 280 (by omega)) (F 282 (by omega)) (fun c q1 q2 => F c (by omega)) (F 439 (by omega)) (F 440 (by omega)) (fun c q => G c (by omega))), ⟨b, r', b50, by omega, by rw [h2]; exact a1, by rw [G 40 (by omega)]; exact a2, by rw [f2 320 (by omega) (by omega)]; exact k1, k2, ?_, fun i hi hi2 => ?_⟩, (hs.kp (F 331 (by omega)) (F 332 (by omega)) (F 447 (by omega)) (F 448 (by omega)) h2)⟩
  · rw [F 442 (by omega), F 321 (by omega)]; exact a5
  · rw [f2 322 (by omega) (by omega)]; exact e i hi hi2
theorem op_act (p0 p1 p2 : Int32) : Opk E d 136 238 [vI p0, vI p1, vI p2] := by
  intro M L h
  have hR := h
  obtain ⟨n, g, kf, hc, ⟨hl, hrl⟩, ht, hch, hld, hi, ha, hs⟩ := h
  obtain ⟨hn, hn', hg, hg'⟩ := hc.2.2.1
  have hn8 := hc.1
  have hg9 := hc.2.1
  obtain ⟨b, r, b50, r1000, a1, a2, a3, a4, a5, a6⟩ := id ha
  have j0 : u2 M 320 3 0 320 2 = M 320 2 := u2_n (by omega)
  by_cases h0 : 0 ≤ p0.toInt ∧ p0.toInt < (b : Int)
  · obtain ⟨j, hj, ej⟩ := nI_ex h0.1 h0.2
    subst ej
    obtain ⟨q1, k, hk, q2⟩ := a5 j hj
    have hib : ib (nI j) 50 := by rw [ib_nI (by omega)]; omega
    have hx := ix_nI (n := j) (by omega)
    have oA : okA (u2 M 320 3 0) j k := ⟨b, hj, b50, by rw [j0]; exact a1, by rw [u2_o (by omega)]; exact q2⟩
    by_cases h1 : 0 ≤ p1.toInt ∧ p1.toInt ≤ 3
    · obtain ⟨a, ha4, ea⟩ := nI_ex (n := 4) h1.1 (by omega)
      subst ea
      have key : ∀ (f : Int32 → Int32) (cs : List Int32) (M3 : Nat → Nat → Int32), cs.length ≤ 20 → CE E L j k a k 3 6 f cs → RE E L j k (234 + a) k 6 f cs → (M3 = u2 (u2 (u2 (psC (u2 M 320 3 0) cs) 400 43 0) 400 44 (nI k)) 400 45 (nI j)) → C E (d + 100) 238 [vR 1 12 400, vI (nI j), vI (nI a), vI p2] (psC (u2 M 320 3 0) cs, L) = bI (C E (d + 99) (234 + a) [vR 1 12 400, vI (nI k), vI p2] (M3, L)) (fun r s => some (some (vI r), s)) → ∃ r M1 L1 M2 L2, C E (d + 100) 136 [vR 1 11 10, vI (nI j), vI (nI a), vI p2] (M, L) = some (some (vI r), (M1, L1)) ∧ C E (d + 100) 238 [vR 1 12 400, vI (nI j), vI (nI a), vI p2] (M1, L1) = some (some (vI r), (M2, L2)) ∧ RR E M2 L2 := by
        intro f cs M3 hcs HC HR hM3 hrow
        have g1 : C E (d + 100) 136 [vR 1 11 10, vI (nI j), vI (nI a), vI p2] (M, L) = some (some (vI (f p2)), (psC (u2 M 320 3 0) cs, L)) := by
          rw [x136, x7, e0, b1_t (by rw [t_nI (by omega), j0, a1, t_nI (by omega)]; omega), bI_s, if_neg (by decide), if_neg (nI_pos (by omega)), if_neg (show ¬ (3 : Int32) < nI a from nI_nlt (a := 3) (by omega) (by omega))]
          have := HC.o (d + 79) (u2 M 320 3 0) 0 p2 0 u2_s (by omega) oA (by omega)
          rw [show d + 79 + 2 * 6 + 7 = d + 98 by omega] at this
          have this : C E (d + 98) 9 [vR 1 0 320, vI (nI j), vI (nI a), vI p2, vI (0 : Int32)] (u2 M 320 3 0, L) = some (some (vI (f p2)), (psC (u2 M 320 3 0) cs, L)) := this
          rw [this, bI_s, bI_s]
        have z43 : M3 400 43 = nI 0 := by rw [hM3]; simp (disch := omega) only [u2_n, u2_s]; rfl
        have g2 := HR (d + 82) M3 0 p2 z43 (by omega) (by rw [hM3]; simp (disch := omega) only [u2_n, u2_s]) (by rw [hM3, u2_s])
        rw [show d + 82 + 2 * 6 + 5 = d + 99 by omega] at g2
        rw [g2, bI_s] at hrow
        refine ⟨_, _, _, _, _, g1, hrow, ?_⟩
        have z3 : psC (u2 M 320 3 0) cs 320 3 = nI (0 + cs.length) := psC_k cs _ 0 u2_s
        refine RR_act E L hR (r' := 0 + cs.length) (M1 := psC (u2 M 320 3 0) cs) (by omega) (fun c w1 w2 => by rw [psC_o ⟨w1, w2⟩, u2_o w1]) (by rw [psC_j (by omega)]; exact j0) z3 (fun c w1 w2 => by rw [psR_o ⟨w1, w2⟩, hM3, u2_o w1, u2_o w1, u2_o w1]) (fun i w1 w2 w3 => ?_) (psR_k cs M3 0 z43) (fun i w1 w2 => ps_eq cs (u2 M 320 3 0) M3 0 u2_s z43 (by omega) (fun i hi => absurd hi (by omega)) i w1 w2)
        rw [psR_j w1, hM3, u2_n w3, u2_n w2, u2_n w1, psC_o (by omega), u2_o (by omega)]
      have row : ∀ cs, cs = cs → ∀ M1, M1 = psC (u2 M 320 3 0) cs → C E (d + 99) 229 [vR 1 12 400, vI (nI j)] (u2 M1 400 43 0, L) = some (some (vI (1 : Int32)), (u2 M1 400 43 0, L)) ∧ M1 442 j = nI k := by
        intro cs _ M1 hM1
        have hq : M1 400 40 = nI b := by rw [hM1, psC_o (by omega), u2_o (by omega)]; exact a2
        refine ⟨?_, ?_⟩
        · rw [e229 E _ L _ (nI j) (b := b) (by rw [u2_n (by omega)]; exact hq) b50, b1_t h0]
        · rw [hM1, psC_o (by omega), u2_o (by omega), q1, q2]
      have e44 : ∀ M1 : Nat → Nat → Int32, M1 442 j = nI k → u2 M1 400 43 0 442 j = nI k := fun M1 w => by rw [u2_o (by omega)]; exact w
      rcases (show a = 0 ∨ a = 1 ∨ a = 2 ∨ a = 3 by omega) with rfl | rfl | rfl | rfl
      · refine key (stF j k) (stL k) _ (by rcases q8 hk with rfl | rfl | rfl | rfl | rfl | rfl | rfl | rfl <;> decide) ((ceS j k hk).w (Nat.le_refl _) (by omega)) ((reS j hk hk).w (by omega)) rfl ?_
        obtain ⟨w1, w2⟩ := row (stL k) rfl _ rfl
        rw [x238, w1, bI_s, if_neg (by decide), if_pos hib, if_pos (by decide)]
        simp only [hx, e44 _ w2]
        rw [u2_n (by omega), u2_s]
      · refine key (akF j k k) (akL k k) _ (by rcases q8 hk with rfl | rfl | rfl | rfl | rfl | rfl | rfl | rfl <;> decide) ((ceA j hk hk).w (Nat.le_refl _) (by omega)) ((reA j hk hk).w (by omega)) rfl ?_
        obtain ⟨w1, w2⟩ := row (akL k k) rfl _ rfl
        rw [x238, w1, bI_s, if_neg (by decide), if_pos hib, if_neg (by decide), if_pos (by decide)]
        simp only [hx, e44 _ w2]
        rw [u2_n (by omega), u2_s]
      · refine key (ckF j k k) (ckL k k) _ (by rcases q8 hk with rfl | rfl | rfl | rfl | rfl | rfl | rfl | rfl <;> decide) ((ceK j hk hk).w (Nat.le_refl _) (by omega)) ((reK j hk hk).w (by omega)) rfl ?_
        obtain ⟨w1, w2⟩ := row (ckL k k) rfl _ rfl
        rw [x238, w1, bI_s, if_neg (by decide), if_pos hib, if_neg (by decide), if_neg (by decide), if_pos (by decide)]
        simp only [hx, e44 _ w2]
        rw [u2_n (by omega), u2_s]
      · refine key (teF j k k) (teL k k) _ (by rcases q8 hk with rfl | rfl | rfl | rfl | rfl | rfl | rfl | rfl <;> decide) ((ceT j hk hk).w (Nat.le_refl _) (by omega)) ((reT j hk hk).w (by omega)) rfl ?_
        obtain ⟨w1, w2⟩ := row (teL k k) rfl _ rfl
        rw [x238, w1, bI_s, if_neg (by decide), if_pos hib, if_neg (by decide), if_neg (by decide), if_neg (by decide), if_pos (by decide)]
        simp only [hx, e44 _ w2]
        rw [u2_n (by omega), u2_s]
    · have hn1 : p1 < 0 ∨ (3 : Int32) < p1 := by rw [t_lt, t_lt, t_0, t_3]; omega
      have g1 : C E (d + 100) 136 [vR 1 11 10, vI (nI j), vI p1, vI p2] (M, L) = some (some (vI (0 : Int32)), (u2 M 320 3 0, L)) := by
        rw [x136, x7, e0, b1_t (by rw [t_nI (by omega), j0, a1, t_nI (by omega)]; omega), bI_s, if_neg (by decide)]
        by_cases w : p1 < 0
        · rw [if_pos w, bI_s]
        · rw [if_neg w, if_pos (hn1.resolve_left w), bI_s]
      have n_ : ∀ i : Int32, 0 ≤ i.toInt → i.toInt ≤ 3 → ¬ p1 = i := fun i w1 w2 w => h1 (by rw [w]; exact ⟨w1, w2⟩)
      have g2 : C E (d + 100) 238 [vR 1 12 400, vI (nI j), vI p1, vI p2] (u2 M 320 3 0, L) = some (some (vI (0 : Int32)), (u2 (u2 (u2 (u2 M 320 3 0) 400 43 0) 400 44 (u2 (u2 M 320 3 0) 400 43 0 442 j)) 400 45 (nI j), L)) := by
        rw [x238, e229 E _ L _ (nI j) (b := b) (by rw [u2_n (by omega), u2_o (by omega)]; exact a2) b50, b1_t h0, bI_s, if_neg (by decide), if_pos hib, if_neg (n_ 0 (by decide) (by decide)), if_neg (n_ 1 (by decide) (by decide)), if_neg (n_ 2 (by decide) (by decide)), if_neg (n_ 3 (by decide) (by decide)), hx]
      refine ⟨_, _, _, _, _, g1, g2, RR_act E L hR (r' := 0) (M1 := u2 M 320 3 0) (by omega) (fun c w1 w2 => u2_o w1) j0 u2_s (fun c w1 w2 => by rw [u2_o w1, u2_o w1, u2_o w1]) (fun i w1 w2 w3 => by rw [u2_n w3, u2_n w2, u2_n w1, u2_o (by omega)]) (by rw [u2_n (by omega), u2_n (by omega), u2_s]; rfl) (fun i hi => absurd hi (by omega))⟩
  · have g1 : C E (d + 100) 136 [vR 1 11 10, vI p0, vI p1, vI p2] (M, L) = some (some (vI (0 : Int32)), (u2 M 320 3 0, L)) := by
      rw [x136, x7, e0, b1_f (by rw [j0, a1, t_nI (by omega)]; omega), bI_s, if_pos rfl, bI_s]
    have g2 : C E (d + 100) 238 [vR 1 12 400, vI p0, vI p1, vI p2] (u2 M 320 3 0, L) = some (some (vI (0 : Int32)), (u2 (u2 M 320 3 0) 400 43 0, L)) := by
      rw [x238, e229 E _ L _ p0 (b := b) (by rw [u2_n (by omega), u2_o (by omega)]; exact a2) b50, b1_f h0, bI_s, if_pos rfl]
    exact ⟨_, _, _, _, _, g1, g2, RR_act E L hR (r' := 0) (M1 := u2 M 320 3 0) (by omega) (fun c w1 w2 => u2_o w1) j0 u2_s (fun c w1 w2 => by rw [u2_o w1]) (fun i w1 w2 w3 => by rw [u2_n w1, u2_o (by omega)]) (by rw [u2_s]; rfl) (fun i hi => absurd hi (by omega))⟩
end ACTS4
