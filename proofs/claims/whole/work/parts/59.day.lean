/-! a day in deed; an image and back -/
section DEED
variable (E : Nat × (Nat → Int32)) (d : Nat) (L : Nat → Nat → Int64)
theorem op_day : Opk E d 126 222 [] := by
  intro M L h
  have hR := h
  obtain ⟨n, g, kf, hc, ⟨hl, hrl⟩, ht, hch, hld, hi, ha, hs⟩ := h
  have hn8 := hc.1
  have hg9 := hc.2.1
  have c1 := hc.ch kf
  have c2 := hc.rq kf
  have c3 := hc.rb kf
  have hse := hc.se kf
  have hrg := hc.rg kf
  obtain ⟨m0, hm0, ev0⟩ := sd_256 (M 44) (n := n) hn8
  obtain ⟨M1, g1, f1, f1a, k1⟩ := e28f E (d + 94) L M 40 (by omega) c1 hn8 hg9 hl
  have k1 := k1.eqT (pd_all hse)
  generalize hP : Pm M n g kf = P at c1 c2 c3 hse hrg k1
  have hPn : pN P = n := by rw [← hP]; rfl
  have hPg : pG P = g := by rw [← hP]; rfl
  have hPp : pPr P = M 40 13 := by rw [← hP]; rfl
  generalize hT : Tm M = T at c1 c3 hse hrg k1
  obtain ⟨m1, hm1, ev1⟩ := sd_256 (M1 44) (n := n) hn8
  obtain ⟨mx', hmx, evx⟩ := and_small (m := m0) (by omega) (nI m1 ^^^ (-1 : Int32))
  have hn1 : M1 40 11 = nI n := by rw [← hPn]; exact k1.1
  have G1 : C E (d + 100) 126 [vR 1 11 10] (M, L) = some (some (vI (nI (popN m1))), (u2 (u2 M1 281 0 (M1 281 0 + 1)) 281 4 (M1 281 4 + nI (popN mx')), L)) := by
    rw [x126, e30 E _ L M 40 (n := n) (by rw [← hPn]; exact c1.1) hn8, bI_s]
    simp only [show (40 : Nat) + 4 = 44 from rfl]
    rw [ev0, g1, bV_s, e30 E _ L M1 40 hn1 hn8, bI_s]
    simp only [show (40 : Nat) + 4 = 44 from rfl]
    rw [ev1, e40l E _ L M1 0 (by omega) 0 rfl, bV_s, evx, e250 E _ _ L (by omega), bI_s, e40l E _ L _ 4 (by omega) 4 rfl, bV_s, e250 E _ _ L (by omega), bI_s, u2_n (by omega)]
  generalize hM1' : u2 (u2 M1 281 0 (M1 281 0 + 1)) 281 4 (M1 281 4 + nI (popN mx')) = M1' at G1
  have F1 : ∀ c, ¬ (c = 40 ∨ c = 44 ∨ c = 46 ∨ c = 50 ∨ c = 51 ∨ c = 93 ∨ c = 94 ∨ c = 281) → M1' c = M c := fun c q => by
    rw [← hM1', u2_o (by omega), u2_o (by omega), f1 c (by omega) (by omega) (by omega) (by omega) (by omega) (by omega) (by omega)]
  have e400 := F1 400 (by omega)
  have e401 := F1 401 (by omega)
  have rq1 : RQ M1' P := c2.keep e401 (fun j _ => by rw [e400])
  have rb1 : RB M1' P T := by unfold RB; rw [e401]; exact c3
  have hrl1 : RL E (pK P) M1' := by rw [← hP]; exact hrl.keep (by rw [e400]) (F1 422 (by omega)) (F1 423 (by omega)) (F1 424 (by omega))
  obtain ⟨M2, g2, f2, t2⟩ := e188 E (d + 98) L M1' rq1 rb1 (by omega) (by omega)
  obtain ⟨M3, g3, f3, t3⟩ := e192 E (d + 94) L M2 (rq1.frR f2) t2 (by omega) (by omega) (hrl1.frR f2) hse hrg
  have F3 := f2.tr f3
  have rq3 := (rq1.frR f2).frR f3
  have s2 : sdB (M2 427) n = nI m0 := by
    rw [← ev0]
    refine sdB_congr (fun k hk => ?_)
    have := t2.1 k (by omega)
    rw [this, ← hT]
    rfl
  have s3 : sdB (M3 427) n = nI m1 := by
    rw [← ev1]
    refine sdB_congr (fun k hk => ?_)
    rw [t3.1 k (by omega)]
    exact ((k1.2.2.2.2.1 k (by omega)).2.1).symm
  -- the copies
  have cp1 : ∀ r k (M4 : Nat → Nat → Int32), k + r = n → (∀ c, c ≠ 401 → M4 c = M3 c) → (∀ i, M4 401 i = if 8 ≤ i ∧ i < 8 + k then M3 427 (i - 8) else M3 401 i) → ∃ M5, X E (d + 99) me222 15 [some (vR 1 12 400), some (vI (nI m0)), some (vI (nI k))] [] (M4, L) = X E (d + 99) me222 46 [some (vR 1 12 400), some (vI (nI m0)), some (vI (nI 0))] [] (M5, L) ∧ (∀ c, c ≠ 401 → M5 c = M3 c) ∧ (∀ i, M5 401 i = if 8 ≤ i ∧ i < 8 + n then M3 427 (i - 8) else M3 401 i) := by
    intro r
    induction r with
    | zero =>
      intro k M4 hk hf hv
      have e : k = n := by omega
      refine ⟨M4, ?_, hf, by rw [← e]; exact hv⟩
      rw [x222_15, hf 400 (by omega), rq3.1, hPn, e, if_pos (nI_le (Nat.le_refl _) (by omega))]
      rfl
    | succ r ih =>
      intro k M4 hk hf hv
      rw [x222_15, hf 400 (by omega), rq3.1, hPn, if_neg (nI_ge (by omega) (by omega)), if_pos (by rw [ib_nI (by omega)]; omega), show (8 : Int32) + nI k = nI (8 + k) from nI_add 8 k, if_pos (by rw [ib_nI (by omega)]; omega), ix_nI (by omega), ix_nI (by omega), nI_1]
      refine ih (k + 1) _ (by omega) (fun c q => by rw [u2_o q]; exact hf c q) (fun i => ?_)
      rw [u2_ap, if_pos rfl, hf 427 (by omega)]
      by_cases e : i = 8 + k
      · rw [if_pos e, if_pos (by omega), e, show 8 + k - 8 = k by omega]
      · rw [if_neg e, hv i]
        by_cases e2 : 8 ≤ i ∧ i < 8 + k
        · rw [if_pos e2, if_pos (by omega)]
        · rw [if_neg e2, if_neg (by omega)]
  obtain ⟨M5, e5, f5, v5⟩ := cp1 n 0 M3 (by omega) (fun _ _ => rfl) (fun i => by rw [if_neg (by omega)])
  have cp2 : ∀ r k (M6 : Nat → Nat → Int32), k + r = g → (∀ c, c ≠ 401 → M6 c = M3 c) → (∀ i, M6 401 i = if 24 ≤ i ∧ i < 24 + k then M3 428 (i - 24) else M5 401 i) → ∃ M7, X E (d + 99) me222 46 [some (vR 1 12 400), some (vI (nI m0)), some (vI (nI k))] [] (M6, L) = some (some (vI (nI (popN m1))), (u2 (u2 (u2 M7 401 61 (M3 400 29)) 435 0 (M3 435 0 + 1)) 435 4 (M3 435 4 + nI (popN mx')), L)) ∧ (∀ c, c ≠ 401 → M7 c = M3 c) ∧ (∀ i, M7 401 i = if 24 ≤ i ∧ i < 24 + g then M3 428 (i - 24) else M5 401 i) := by
    intro r
    induction r with
    | zero =>
      intro k M6 hk hf hv
      have e : k = g := by omega
      refine ⟨M6, ?_, hf, by rw [← e]; exact hv⟩
      rw [x222_46, hf 400 (by omega), rq3.2.1, hPg, e, if_pos (nI_le (Nat.le_refl _) (by omega)), if_pos (show ib (61 : Int32) 62 by decide), if_pos (show ib (0 : Int32) 5 by decide), if_pos (show ib (0 : Int32) 5 by decide), if_pos (show ib (4 : Int32) 5 by decide), show ix (61 : Int32) = 61 from by decide, ix_l0, ix_l4]
      rw [e194 E _ L _ (n := n) (by simp (disch := omega) only [u2_o]; rw [hf 400 (by omega), rq3.1, hPn]) hn8, bI_s]
      simp (disch := omega) only [u2_o]
      rw [hf 427 (by omega), s3, evx, e150 E _ _ L (by omega), bI_s, if_pos (show ib (4 : Int32) 5 by decide)]
      rw [e194 E _ L _ (n := n) (by simp (disch := omega) only [u2_o]; rw [hf 400 (by omega), rq3.1, hPn]) hn8, bI_s]
      simp (disch := omega) only [u2_o, u2_n]
      rw [hf 427 (by omega), s3, e150 E _ _ L (by omega), bI_s, hf 435 (by omega)]
    | succ r ih =>
      intro k M6 hk hf hv
      rw [x222_46, hf 400 (by omega), rq3.2.1, hPg, if_neg (nI_ge (by omega) (by omega)), if_pos (by rw [ib_nI (by omega)]; omega), show (24 : Int32) + nI k = nI (24 + k) from nI_add 24 k, if_pos (by rw [ib_nI (by omega)]; omega), ix_nI (by omega), ix_nI (by omega), nI_1]
      refine ih (k + 1) _ (by omega) (fun c q => by rw [u2_o q]; exact hf c q) (fun i => ?_)
      rw [u2_ap, if_pos rfl, hf 428 (by omega)]
      by_cases e : i = 24 + k
      · rw [if_pos e, if_pos (by omega), e, show 24 + k - 24 = k by omega]
      · rw [if_neg e, hv i]
        by_cases e2 : 24 ≤ i ∧ i < 24 + k
        · rw [if_pos e2, if_pos (by omega)]
        · rw [if_neg e2, if_neg (by omega)]
  obtain ⟨M7, e7, f7, v7⟩ := cp2 g 0 M5 (by omega) f5 (fun i => by rw [if_neg (by omega)])
  have G2 : C E (d + 100) 222 [vR 1 12 400] (M1', L) = some (some (vI (nI (popN m1))), (u2 (u2 (u2 M7 401 61 (M3 400 29)) 435 0 (M3 435 0 + 1)) 435 4 (M3 435 4 + nI (popN mx')), L)) := by
    rw [x222, g2, bV_s, e194 E _ L M2 (n := n) (by rw [← hPn]; exact (rq1.frR f2).1) hn8, bI_s, s2, g3, bV_s]
    exact e5.trans e7
  generalize hM8 : u2 (u2 (u2 M7 401 61 (M3 400 29)) 435 0 (M3 435 0 + 1)) 435 4 (M3 435 4 + nI (popN mx')) = M2' at G2
  have F : ∀ c, ¬ (c = 40 ∨ c = 44 ∨ c = 46 ∨ c = 50 ∨ c = 51 ∨ c = 93 ∨ c = 94 ∨ c = 281 ∨ c = 400 ∨ c = 401 ∨ c = 435 ∨ c = 416 ∨ c = 426 ∨ c = 427 ∨ c = 428 ∨ c = 429 ∨ c = 431) → M2' c = M c := fun c q => by
    rw [← hM8, u2_o (by omega), u2_o (by omega), u2_o (by omega), f7 c (by omega), F3.1 c (by omega) (by omega) (by omega) (by omega) (by omega) (by omega) (by omega), F1 c (by omega)]
  have G : ∀ j : Nat, j ≠ 29 → M2' 400 j = M 400 j := fun j hj => by
    rw [← hM8, u2_o (by omega), u2_o (by omega), u2_o (by omega), f7 400 (by omega), F3.2 j hj, e400]
  have D : ∀ c, c = 40 ∨ c = 44 ∨ c = 46 → M2' c = M1 c := fun c q => by
    rw [← hM8, u2_o (by omega), u2_o (by omega), u2_o (by omega), f7 c (by omega), F3.1 c (by omega) (by omega) (by omega) (by omega) (by omega) (by omega) (by omega), ← hM1', u2_o (by omega), u2_o (by omega)]
  have V401 : ∀ i, M2' 401 i = if i = 61 then dayD (M 40 14) else if 24 ≤ i ∧ i < 24 + g then M3 428 (i - 24) else if 8 ≤ i ∧ i < 8 + n then M3 427 (i - 8) else M 401 i := fun i => by
    rw [← hM8, u2_o (by omega), u2_o (by omega), u2_ap, if_pos rfl, v7 i, v5 i, F3.1 401 (by omega) (by omega) (by omega) (by omega) (by omega) (by omega) (by omega), e401]
    have : M3 400 29 = dayD (M 40 14) := by rw [t3.2.2, ← hT]; rfl
    rw [this]
  have hrd := rngT_day hrg
  obtain ⟨r1, r2, r3, r4, r5, r6, r7⟩ := hc
  refine ⟨_, _, _, _, _, G1, G2, n, g, kf, ⟨r1, r2, ⟨?_, ?_, ?_, ?_⟩, ⟨?_, ?_⟩, ⟨?_, ?_⟩, fun k hk => ?_, fun p hp => ?_⟩, ⟨(hl.keep4 (by rw [F 90 (by omega)]) (F 91 (by omega)) (F 92 (by omega))), (hrl.keep (G 24 (by omega)) (F 422 (by omega)) (F 423 (by omega)) (F 424 (by omega)))⟩, (ht.kp (by rw [F 70 (by omega)]) (G 11 (by omega)) (F 411 (by omega)) (F 71 (by omega))), (hch.kp (fun c q1 q2 => F c (by omega)) (fun c q1 q2 => F c (by omega)) (fun c q => G c (by omega))), ?_, (hi.kp (F 280 (by omega)) (F 282 (by omega)) (fun c q1 q2 => F c (by omega)) (F 439 (by omega)) (F 440 (by omega)) (fun c q => G c (by omega))), (ha.kp (fun c q1 q2 => F c (by omega)) (F 442 (by omega)) (F 443 (by omega)) (fun c q => G c (by omega))), (hs.kp (F 331 (by omega)) (F 332 (by omega)) (F 447 (by omega)) (F 448 (by omega)) (by rw [F 320 (by omega)]))⟩
  · rw [D 40 (by omega)]; exact hn1
  · rw [G 6 (by omega)]; exact r3.2.1
  · rw [D 40 (by omega), f1a 12 (by omega)]; exact r3.2.2.1
  · rw [G 7 (by omega)]; exact r3.2.2.2
  · rw [V401, if_neg (by omega), if_neg (by omega), if_neg (by omega), D 40 (by omega), f1a 13 (by omega)]; exact r4.1
  · rw [D 40 (by omega), f1a 13 (by omega)]; exact r4.2
  · rw [V401, if_pos rfl, D 40 (by omega), k1.2.2.2.1, ← hT]; rfl
  · rw [D 40 (by omega), k1.2.2.2.1]; exact hrd.2.2
  · obtain ⟨⟨a1, a2, a3, a4, a5⟩, b1', b2', b3'⟩ := r6 k hk
    have e44 : M1 44 k = dayS P T k := (k1.2.2.2.2.1 k (by omega)).2.1
    unfold Rbr
    rw [V401 k, V401 (8 + k), V401 (16 + k), if_neg (by omega), if_neg (by omega), if_neg (by omega), if_neg (by omega), if_neg (by omega), if_pos (by omega), if_neg (by omega), if_neg (by omega), if_neg (by omega), F 409 (by omega), F 410 (by omega), F 43 (by omega), F 41 (by omega), F 42 (by omega), F 45 (by omega), D 44 (by omega), e44, show 8 + k - 8 = k by omega, t3.1 k (by omega)]
    exact ⟨⟨a1, rfl, a3, a4, a5⟩, b1', hrd.1 k (by omega), b3'⟩
  · obtain ⟨⟨a1, a2, a3, a4⟩, b1', b2', b3', b4'⟩ := r7 p hp
    have e46 : M1 46 p = dayM P T p := (k1.2.2.2.2.2 p (by omega)).1
    unfold Rbg
    rw [V401 (24 + p), V401 (33 + p), V401 (42 + p), V401 (51 + p), if_neg (by omega), if_pos (by omega), if_neg (by omega), if_neg (by omega), if_neg (by omega), if_neg (by omega), if_neg (by omega), if_neg (by omega), if_neg (by omega), if_neg (by omega), if_neg (by omega), D 46 (by omega), F 47 (by omega), F 48 (by omega), F 49 (by omega), e46, show 24 + p - 24 = p by omega, (t3.2.1 p (by omega)).1]
    exact ⟨⟨rfl, a2, a3, a4⟩, hrd.2.1 p (by omega), b2', b3', b4'⟩
  · have w1 : ∀ i, M1 281 i = M 281 i := fun i => by rw [f1 281 (by omega) (by omega) (by omega) (by omega) (by omega) (by omega) (by omega)]
    have w2 : ∀ i, M3 435 i = M 435 i := fun i => by rw [F3.1 435 (by omega) (by omega) (by omega) (by omega) (by omega) (by omega) (by omega), F1 435 (by omega)]
    intro i hi5
    have A : M2' 281 i = if i = 4 then M 281 4 + nI (popN mx') else if i = 0 then M 281 0 + 1 else M 281 i := by
      rw [← hM8, u2_o (by omega), u2_o (by omega), u2_o (by omega), f7 281 (by omega), F3.1 281 (by omega) (by omega) (by omega) (by omega) (by omega) (by omega) (by omega), ← hM1', u2_ap, if_pos rfl, u2_ap, if_pos rfl, w1, w1, w1]
    have B : M2' 435 i = if i = 4 then M 435 4 + nI (popN mx') else if i = 0 then M 435 0 + 1 else M 435 i := by
      rw [← hM8, u2_ap, if_pos rfl, u2_ap, if_pos rfl, u2_o (by omega), f7 435 (by omega), w2, w2, w2]
    rw [A, B, hld 4 (by omega), hld 0 (by omega), hld i hi5]
end DEED
