/-! the law: call by call, both answer alike -/
section LAWLOOP
variable (E : Nat × (Nat → Int32))
theorem lw_216 {j : Nat} (hj : j + 5 < E.1) (hL : E.1 ≤ 3072) (M : Nat → Nat → Int32) (L : Nat → Nat → Int64) (h : RR E M L) : ∃ M' L', X E 100 me253 216 [some (vR 4 E.1 0), some (vR 1 11 10), some (vR 1 12 400), some (vI (nI j))] [] (M, L) = X E 100 me253 1513 [some (vR 4 E.1 0), some (vR 1 11 10), some (vR 1 12 400), some (vI (nI j))] [] (M', L') ∧ RR E M' L' := by
  have b1 : ib (nI j + (1 : Int32)) E.1 := by rw [show nI j + (1 : Int32) = nI (j + 1) from nI_add j 1, ib_nI (by omega)]; omega
  have b2 : ib (nI j + (2 : Int32)) E.1 := by rw [show nI j + (2 : Int32) = nI (j + 2) from nI_add j 2, ib_nI (by omega)]; omega
  obtain ⟨r, M1, L1, M2, L2, e1, e2, h2⟩ := op_bridge E 0 (roV E 0 (ix ((nI j) + (1 : Int32)))) (roV E 0 (ix ((nI j) + (2 : Int32)))) M L h
  refine ⟨M2, L2, ?_, h2⟩
  have e1 : C E 100 _ _ _ = _ := e1
  have e2 : C E 100 _ _ _ = _ := e2
  rw [x253_216, if_pos b1, if_pos b2, e1, bI_s, if_pos b1, if_pos b2, e2, bI_s, if_pos rfl]
theorem lw_249 {j : Nat} (hj : j + 5 < E.1) (hL : E.1 ≤ 3072) (M : Nat → Nat → Int32) (L : Nat → Nat → Int64) (h : RR E M L) : ∃ M' L', X E 100 me253 249 [some (vR 4 E.1 0), some (vR 1 11 10), some (vR 1 12 400), some (vI (nI j))] [] (M, L) = X E 100 me253 1513 [some (vR 4 E.1 0), some (vR 1 11 10), some (vR 1 12 400), some (vI (nI j))] [] (M', L') ∧ RR E M' L' := by
  have b1 : ib (nI j + (1 : Int32)) E.1 := by rw [show nI j + (1 : Int32) = nI (j + 1) from nI_add j 1, ib_nI (by omega)]; omega
  have b2 : ib (nI j + (2 : Int32)) E.1 := by rw [show nI j + (2 : Int32) = nI (j + 2) from nI_add j 2, ib_nI (by omega)]; omega
  obtain ⟨r, M1, L1, M2, L2, e1, e2, h2⟩ := op_beggar E 0 (roV E 0 (ix ((nI j) + (1 : Int32)))) (roV E 0 (ix ((nI j) + (2 : Int32)))) M L h
  refine ⟨M2, L2, ?_, h2⟩
  have e1 : C E 100 _ _ _ = _ := e1
  have e2 : C E 100 _ _ _ = _ := e2
  rw [x253_249, if_pos b1, if_pos b2, e1, bI_s, if_pos b1, if_pos b2, e2, bI_s, if_pos rfl]
theorem lw_282 {j : Nat} (hj : j + 5 < E.1) (hL : E.1 ≤ 3072) (M : Nat → Nat → Int32) (L : Nat → Nat → Int64) (h : RR E M L) : ∃ M' L', X E 100 me253 282 [some (vR 4 E.1 0), some (vR 1 11 10), some (vR 1 12 400), some (vI (nI j))] [] (M, L) = X E 100 me253 1513 [some (vR 4 E.1 0), some (vR 1 11 10), some (vR 1 12 400), some (vI (nI j))] [] (M', L') ∧ RR E M' L' := by
  have b1 : ib (nI j + (1 : Int32)) E.1 := by rw [show nI j + (1 : Int32) = nI (j + 1) from nI_add j 1, ib_nI (by omega)]; omega
  have b2 : ib (nI j + (2 : Int32)) E.1 := by rw [show nI j + (2 : Int32) = nI (j + 2) from nI_add j 2, ib_nI (by omega)]; omega
  have b3 : ib (nI j + (3 : Int32)) E.1 := by rw [show nI j + (3 : Int32) = nI (j + 3) from nI_add j 3, ib_nI (by omega)]; omega
  obtain ⟨r, M1, L1, M2, L2, e1, e2, h2⟩ := op_beggars E 0 (roV E 0 (ix ((nI j) + (1 : Int32)))) (roV E 0 (ix ((nI j) + (2 : Int32)))) (roV E 0 (ix ((nI j) + (3 : Int32)))) M L h
  refine ⟨M2, L2, ?_, h2⟩
  have e1 : C E 100 _ _ _ = _ := e1
  have e2 : C E 100 _ _ _ = _ := e2
  rw [x253_282, if_pos b1, if_pos b2, if_pos b3, e1, bI_s, if_pos b1, if_pos b2, if_pos b3, e2, bI_s, if_pos rfl]
theorem lw_325 {j : Nat} (hj : j + 5 < E.1) (hL : E.1 ≤ 3072) (M : Nat → Nat → Int32) (L : Nat → Nat → Int64) (h : RR E M L) : ∃ M' L', X E 100 me253 325 [some (vR 4 E.1 0), some (vR 1 11 10), some (vR 1 12 400), some (vI (nI j))] [] (M, L) = X E 100 me253 1513 [some (vR 4 E.1 0), some (vR 1 11 10), some (vR 1 12 400), some (vI (nI j))] [] (M', L') ∧ RR E M' L' := by
  have b1 : ib (nI j + (1 : Int32)) E.1 := by rw [show nI j + (1 : Int32) = nI (j + 1) from nI_add j 1, ib_nI (by omega)]; omega
  have b2 : ib (nI j + (2 : Int32)) E.1 := by rw [show nI j + (2 : Int32) = nI (j + 2) from nI_add j 2, ib_nI (by omega)]; omega
  have b3 : ib (nI j + (3 : Int32)) E.1 := by rw [show nI j + (3 : Int32) = nI (j + 3) from nI_add j 3, ib_nI (by omega)]; omega
  obtain ⟨r, M1, L1, M2, L2, e1, e2, h2⟩ := op_mend E 0 (roV E 0 (ix ((nI j) + (1 : Int32)))) (roV E 0 (ix ((nI j) + (2 : Int32)))) (roV E 0 (ix ((nI j) + (3 : Int32)))) M L h
  refine ⟨M2, L2, ?_, h2⟩
  have e1 : C E 100 _ _ _ = _ := e1
  have e2 : C E 100 _ _ _ = _ := e2
  rw [x253_325, if_pos b1, if_pos b2, if_pos b3, e1, bI_s, if_pos b1, if_pos b2, if_pos b3, e2, bI_s, if_pos rfl]
theorem lw_368 {j : Nat} (hj : j + 5 < E.1) (hL : E.1 ≤ 3072) (M : Nat → Nat → Int32) (L : Nat → Nat → Int64) (h : RR E M L) : ∃ M' L', X E 100 me253 368 [some (vR 4 E.1 0), some (vR 1 11 10), some (vR 1 12 400), some (vI (nI j))] [] (M, L) = X E 100 me253 1513 [some (vR 4 E.1 0), some (vR 1 11 10), some (vR 1 12 400), some (vI (nI j))] [] (M', L') ∧ RR E M' L' := by
  have b1 : ib (nI j + (1 : Int32)) E.1 := by rw [show nI j + (1 : Int32) = nI (j + 1) from nI_add j 1, ib_nI (by omega)]; omega
  have b2 : ib (nI j + (2 : Int32)) E.1 := by rw [show nI j + (2 : Int32) = nI (j + 2) from nI_add j 2, ib_nI (by omega)]; omega
  obtain ⟨r, M1, L1, M2, L2, e1, e2, h2⟩ := op_of E 0 (roV E 0 (ix ((nI j) + (1 : Int32)))) (roV E 0 (ix ((nI j) + (2 : Int32)))) M L h
  refine ⟨M2, L2, ?_, h2⟩
  have e1 : C E 100 _ _ _ = _ := e1
  have e2 : C E 100 _ _ _ = _ := e2
  rw [x253_368, if_pos b1, if_pos b2, e1, bI_s, if_pos b1, if_pos b2, e2, bI_s, if_pos rfl]
theorem lw_401 {j : Nat} (hj : j + 5 < E.1) (hL : E.1 ≤ 3072) (M : Nat → Nat → Int32) (L : Nat → Nat → Int64) (h : RR E M L) : ∃ M' L', X E 100 me253 401 [some (vR 4 E.1 0), some (vR 1 11 10), some (vR 1 12 400), some (vI (nI j))] [] (M, L) = X E 100 me253 1513 [some (vR 4 E.1 0), some (vR 1 11 10), some (vR 1 12 400), some (vI (nI j))] [] (M', L') ∧ RR E M' L' := by
  have b1 : ib (nI j + (1 : Int32)) E.1 := by rw [show nI j + (1 : Int32) = nI (j + 1) from nI_add j 1, ib_nI (by omega)]; omega
  obtain ⟨r, M1, L1, M2, L2, e1, e2, h2⟩ := op_feed E 0 (roV E 0 (ix ((nI j) + (1 : Int32)))) M L h
  refine ⟨M2, L2, ?_, h2⟩
  have e1 : C E 100 _ _ _ = _ := e1
  have e2 : C E 100 _ _ _ = _ := e2
  rw [x253_401, if_pos b1, e1, bI_s, if_pos b1, e2, bI_s, if_pos rfl]
theorem lw_424 {j : Nat} (hj : j + 5 < E.1) (hL : E.1 ≤ 3072) (M : Nat → Nat → Int32) (L : Nat → Nat → Int64) (h : RR E M L) : ∃ M' L', X E 100 me253 424 [some (vR 4 E.1 0), some (vR 1 11 10), some (vR 1 12 400), some (vI (nI j))] [] (M, L) = X E 100 me253 1513 [some (vR 4 E.1 0), some (vR 1 11 10), some (vR 1 12 400), some (vI (nI j))] [] (M', L') ∧ RR E M' L' := by
  obtain ⟨r, M1, L1, M2, L2, e1, e2, h2⟩ := op_law E 0  M L h
  refine ⟨M2, L2, ?_, h2⟩
  have e1 : C E 100 _ _ _ = _ := e1
  have e2 : C E 100 _ _ _ = _ := e2
  rw [x253_424, e1, bI_s, e2, bI_s, if_pos rfl]
theorem lw_437 {j : Nat} (hj : j + 5 < E.1) (hL : E.1 ≤ 3072) (M : Nat → Nat → Int32) (L : Nat → Nat → Int64) (h : RR E M L) : ∃ M' L', X E 100 me253 437 [some (vR 4 E.1 0), some (vR 1 11 10), some (vR 1 12 400), some (vI (nI j))] [] (M, L) = X E 100 me253 1513 [some (vR 4 E.1 0), some (vR 1 11 10), some (vR 1 12 400), some (vI (nI j))] [] (M', L') ∧ RR E M' L' := by
  have b1 : ib (nI j + (1 : Int32)) E.1 := by rw [show nI j + (1 : Int32) = nI (j + 1) from nI_add j 1, ib_nI (by omega)]; omega
  obtain ⟨r, M1, L1, M2, L2, e1, e2, h2⟩ := op_cracks E 0 (roV E 0 (ix ((nI j) + (1 : Int32)))) M L h
  refine ⟨M2, L2, ?_, h2⟩
  have e1 : C E 100 _ _ _ = _ := e1
  have e2 : C E 100 _ _ _ = _ := e2
  rw [x253_437, if_pos b1, e1, bI_s, if_pos b1, e2, bI_s, if_pos rfl]
theorem lw_460 {j : Nat} (hj : j + 5 < E.1) (hL : E.1 ≤ 3072) (M : Nat → Nat → Int32) (L : Nat → Nat → Int64) (h : RR E M L) : ∃ M' L', X E 100 me253 460 [some (vR 4 E.1 0), some (vR 1 11 10), some (vR 1 12 400), some (vI (nI j))] [] (M, L) = X E 100 me253 1513 [some (vR 4 E.1 0), some (vR 1 11 10), some (vR 1 12 400), some (vI (nI j))] [] (M', L') ∧ RR E M' L' := by
  have b1 : ib (nI j + (1 : Int32)) E.1 := by rw [show nI j + (1 : Int32) = nI (j + 1) from nI_add j 1, ib_nI (by omega)]; omega
  have b2 : ib (nI j + (2 : Int32)) E.1 := by rw [show nI j + (2 : Int32) = nI (j + 2) from nI_add j 2, ib_nI (by omega)]; omega
  have b3 : ib (nI j + (3 : Int32)) E.1 := by rw [show nI j + (3 : Int32) = nI (j + 3) from nI_add j 3, ib_nI (by omega)]; omega
  obtain ⟨r, M1, L1, M2, L2, e1, e2, h2⟩ := op_later E 0 (roV E 0 (ix ((nI j) + (1 : Int32)))) (roV E 0 (ix ((nI j) + (2 : Int32)))) (roV E 0 (ix ((nI j) + (3 : Int32)))) M L h
  refine ⟨M2, L2, ?_, h2⟩
  have e1 : C E 100 _ _ _ = _ := e1
  have e2 : C E 100 _ _ _ = _ := e2
  rw [x253_460, if_pos b1, if_pos b2, if_pos b3, e1, bI_s, if_pos b1, if_pos b2, if_pos b3, e2, bI_s, if_pos rfl]
theorem lw_503 {j : Nat} (hj : j + 5 < E.1) (hL : E.1 ≤ 3072) (M : Nat → Nat → Int32) (L : Nat → Nat → Int64) (h : RR E M L) : ∃ M' L', X E 100 me253 503 [some (vR 4 E.1 0), some (vR 1 11 10), some (vR 1 12 400), some (vI (nI j))] [] (M, L) = X E 100 me253 1513 [some (vR 4 E.1 0), some (vR 1 11 10), some (vR 1 12 400), some (vI (nI j))] [] (M', L') ∧ RR E M' L' := by
  have b1 : ib (nI j + (1 : Int32)) E.1 := by rw [show nI j + (1 : Int32) = nI (j + 1) from nI_add j 1, ib_nI (by omega)]; omega
  have b2 : ib (nI j + (2 : Int32)) E.1 := by rw [show nI j + (2 : Int32) = nI (j + 2) from nI_add j 2, ib_nI (by omega)]; omega
  obtain ⟨r, M1, L1, M2, L2, e1, e2, h2⟩ := op_county E 0 (roV E 0 (ix ((nI j) + (1 : Int32)))) (roV E 0 (ix ((nI j) + (2 : Int32)))) M L h
  refine ⟨M2, L2, ?_, h2⟩
  have e1 : C E 100 _ _ _ = _ := e1
  have e2 : C E 100 _ _ _ = _ := e2
  rw [x253_503, if_pos b1, if_pos b2, e1, bI_s, if_pos b1, if_pos b2, e2, bI_s, if_pos rfl]
theorem lw_536 {j : Nat} (hj : j + 5 < E.1) (hL : E.1 ≤ 3072) (M : Nat → Nat → Int32) (L : Nat → Nat → Int64) (h : RR E M L) : ∃ M' L', X E 100 me253 536 [some (vR 4 E.1 0), some (vR 1 11 10), some (vR 1 12 400), some (vI (nI j))] [] (M, L) = X E 100 me253 1513 [some (vR 4 E.1 0), some (vR 1 11 10), some (vR 1 12 400), some (vI (nI j))] [] (M', L') ∧ RR E M' L' := by
  have b1 : ib (nI j + (1 : Int32)) E.1 := by rw [show nI j + (1 : Int32) = nI (j + 1) from nI_add j 1, ib_nI (by omega)]; omega
  obtain ⟨r, M1, L1, M2, L2, e1, e2, h2⟩ := op_falls E 0 (roV E 0 (ix ((nI j) + (1 : Int32)))) M L h
  refine ⟨M2, L2, ?_, h2⟩
  have e1 : C E 100 _ _ _ = _ := e1
  have e2 : C E 100 _ _ _ = _ := e2
  rw [x253_536, if_pos b1, e1, bI_s, if_pos b1, e2, bI_s, if_pos rfl]
theorem lw_559 {j : Nat} (hj : j + 5 < E.1) (hL : E.1 ≤ 3072) (M : Nat → Nat → Int32) (L : Nat → Nat → Int64) (h : RR E M L) : ∃ M' L', X E 100 me253 559 [some (vR 4 E.1 0), some (vR 1 11 10), some (vR 1 12 400), some (vI (nI j))] [] (M, L) = X E 100 me253 1513 [some (vR 4 E.1 0), some (vR 1 11 10), some (vR 1 12 400), some (vI (nI j))] [] (M', L') ∧ RR E M' L' := by
  have b1 : ib (nI j + (1 : Int32)) E.1 := by rw [show nI j + (1 : Int32) = nI (j + 1) from nI_add j 1, ib_nI (by omega)]; omega
  obtain ⟨r, M1, L1, M2, L2, e1, e2, h2⟩ := op_rich E 0 (roV E 0 (ix ((nI j) + (1 : Int32)))) M L h
  refine ⟨M2, L2, ?_, h2⟩
  have e1 : C E 100 _ _ _ = _ := e1
  have e2 : C E 100 _ _ _ = _ := e2
  rw [x253_559, if_pos b1, e1, bI_s, if_pos b1, e2, bI_s, if_pos rfl]
theorem lw_582 {j : Nat} (hj : j + 5 < E.1) (hL : E.1 ≤ 3072) (M : Nat → Nat → Int32) (L : Nat → Nat → Int64) (h : RR E M L) : ∃ M' L', X E 100 me253 582 [some (vR 4 E.1 0), some (vR 1 11 10), some (vR 1 12 400), some (vI (nI j))] [] (M, L) = X E 100 me253 1513 [some (vR 4 E.1 0), some (vR 1 11 10), some (vR 1 12 400), some (vI (nI j))] [] (M', L') ∧ RR E M' L' := by
  have b1 : ib (nI j + (1 : Int32)) E.1 := by rw [show nI j + (1 : Int32) = nI (j + 1) from nI_add j 1, ib_nI (by omega)]; omega
  obtain ⟨r, M1, L1, M2, L2, e1, e2, h2⟩ := op_without E 0 (roV E 0 (ix ((nI j) + (1 : Int32)))) M L h
  refine ⟨M2, L2, ?_, h2⟩
  have e1 : C E 100 _ _ _ = _ := e1
  have e2 : C E 100 _ _ _ = _ := e2
  rw [x253_582, if_pos b1, e1, bI_s, if_pos b1, e2, bI_s, if_pos rfl]
theorem lw_605 {j : Nat} (hj : j + 5 < E.1) (hL : E.1 ≤ 3072) (M : Nat → Nat → Int32) (L : Nat → Nat → Int64) (h : RR E M L) : ∃ M' L', X E 100 me253 605 [some (vR 4 E.1 0), some (vR 1 11 10), some (vR 1 12 400), some (vI (nI j))] [] (M, L) = X E 100 me253 1513 [some (vR 4 E.1 0), some (vR 1 11 10), some (vR 1 12 400), some (vI (nI j))] [] (M', L') ∧ RR E M' L' := by
  have b1 : ib (nI j + (1 : Int32)) E.1 := by rw [show nI j + (1 : Int32) = nI (j + 1) from nI_add j 1, ib_nI (by omega)]; omega
  have b2 : ib (nI j + (2 : Int32)) E.1 := by rw [show nI j + (2 : Int32) = nI (j + 2) from nI_add j 2, ib_nI (by omega)]; omega
  obtain ⟨r, M1, L1, M2, L2, e1, e2, h2⟩ := op_moved E 0 (roV E 0 (ix ((nI j) + (1 : Int32)))) (roV E 0 (ix ((nI j) + (2 : Int32)))) M L h
  refine ⟨M2, L2, ?_, h2⟩
  have e1 : C E 100 _ _ _ = _ := e1
  have e2 : C E 100 _ _ _ = _ := e2
  rw [x253_605, if_pos b1, if_pos b2, e1, bI_s, if_pos b1, if_pos b2, e2, bI_s, if_pos rfl]
theorem lw_638 {j : Nat} (hj : j + 5 < E.1) (hL : E.1 ≤ 3072) (M : Nat → Nat → Int32) (L : Nat → Nat → Int64) (h : RR E M L) : ∃ M' L', X E 100 me253 638 [some (vR 4 E.1 0), some (vR 1 11 10), some (vR 1 12 400), some (vI (nI j))] [] (M, L) = X E 100 me253 1513 [some (vR 4 E.1 0), some (vR 1 11 10), some (vR 1 12 400), some (vI (nI j))] [] (M', L') ∧ RR E M' L' := by
  have b1 : ib (nI j + (1 : Int32)) E.1 := by rw [show nI j + (1 : Int32) = nI (j + 1) from nI_add j 1, ib_nI (by omega)]; omega
  obtain ⟨r, M1, L1, M2, L2, e1, e2, h2⟩ := op_lasting E 0 (roV E 0 (ix ((nI j) + (1 : Int32)))) M L h
  refine ⟨M2, L2, ?_, h2⟩
  have e1 : C E 100 _ _ _ = _ := e1
  have e2 : C E 100 _ _ _ = _ := e2
  rw [x253_638, if_pos b1, e1, bI_s, if_pos b1, e2, bI_s, if_pos rfl]
theorem lw_661 {j : Nat} (hj : j + 5 < E.1) (hL : E.1 ≤ 3072) (M : Nat → Nat → Int32) (L : Nat → Nat → Int64) (h : RR E M L) : ∃ M' L', X E 100 me253 661 [some (vR 4 E.1 0), some (vR 1 11 10), some (vR 1 12 400), some (vI (nI j))] [] (M, L) = X E 100 me253 1513 [some (vR 4 E.1 0), some (vR 1 11 10), some (vR 1 12 400), some (vI (nI j))] [] (M', L') ∧ RR E M' L' := by
  have b1 : ib (nI j + (1 : Int32)) E.1 := by rw [show nI j + (1 : Int32) = nI (j + 1) from nI_add j 1, ib_nI (by omega)]; omega
  have b2 : ib (nI j + (2 : Int32)) E.1 := by rw [show nI j + (2 : Int32) = nI (j + 2) from nI_add j 2, ib_nI (by omega)]; omega
  obtain ⟨r, M1, L1, M2, L2, e1, e2, h2⟩ := op_way E 0 (roV E 0 (ix ((nI j) + (1 : Int32)))) (roV E 0 (ix ((nI j) + (2 : Int32)))) M L h
  refine ⟨M2, L2, ?_, h2⟩
  have e1 : C E 100 _ _ _ = _ := e1
  have e2 : C E 100 _ _ _ = _ := e2
  rw [x253_661, if_pos b1, if_pos b2, e1, bI_s, if_pos b1, if_pos b2, e2, bI_s, if_pos rfl]
theorem lw_694 {j : Nat} (hj : j + 5 < E.1) (hL : E.1 ≤ 3072) (M : Nat → Nat → Int32) (L : Nat → Nat → Int64) (h : RR E M L) : ∃ M' L', X E 100 me253 694 [some (vR 4 E.1 0), some (vR 1 11 10), some (vR 1 12 400), some (vI (nI j))] [] (M, L) = X E 100 me253 1513 [some (vR 4 E.1 0), some (vR 1 11 10), some (vR 1 12 400), some (vI (nI j))] [] (M', L') ∧ RR E M' L' := by
  obtain ⟨r, M1, L1, M2, L2, e1, e2, h2⟩ := op_needed E 0  M L h
  refine ⟨M2, L2, ?_, h2⟩
  have e1 : C E 100 _ _ _ = _ := e1
  have e2 : C E 100 _ _ _ = _ := e2
  rw [x253_694, e1, bI_s, e2, bI_s, if_pos rfl]
theorem lw_707 {j : Nat} (hj : j + 5 < E.1) (hL : E.1 ≤ 3072) (M : Nat → Nat → Int32) (L : Nat → Nat → Int64) (h : RR E M L) : ∃ M' L', X E 100 me253 707 [some (vR 4 E.1 0), some (vR 1 11 10), some (vR 1 12 400), some (vI (nI j))] [] (M, L) = X E 100 me253 1513 [some (vR 4 E.1 0), some (vR 1 11 10), some (vR 1 12 400), some (vI (nI j))] [] (M', L') ∧ RR E M' L' := by
  have b1 : ib (nI j + (1 : Int32)) E.1 := by rw [show nI j + (1 : Int32) = nI (j + 1) from nI_add j 1, ib_nI (by omega)]; omega
  have b2 : ib (nI j + (2 : Int32)) E.1 := by rw [show nI j + (2 : Int32) = nI (j + 2) from nI_add j 2, ib_nI (by omega)]; omega
  obtain ⟨r, M1, L1, M2, L2, e1, e2, h2⟩ := op_judge E 0 (roV E 0 (ix ((nI j) + (1 : Int32)))) (roV E 0 (ix ((nI j) + (2 : Int32)))) M L h
  refine ⟨M2, L2, ?_, h2⟩
  have e1 : C E 100 _ _ _ = _ := e1
  have e2 : C E 100 _ _ _ = _ := e2
  rw [x253_707, if_pos b1, if_pos b2, e1, bI_s, if_pos b1, if_pos b2, e2, bI_s, if_pos rfl]
theorem lw_740 {j : Nat} (hj : j + 5 < E.1) (hL : E.1 ≤ 3072) (M : Nat → Nat → Int32) (L : Nat → Nat → Int64) (h : RR E M L) : ∃ M' L', X E 100 me253 740 [some (vR 4 E.1 0), some (vR 1 11 10), some (vR 1 12 400), some (vI (nI j))] [] (M, L) = X E 100 me253 1513 [some (vR 4 E.1 0), some (vR 1 11 10), some (vR 1 12 400), some (vI (nI j))] [] (M', L') ∧ RR E M' L' := by
  have b1 : ib (nI j + (1 : Int32)) E.1 := by rw [show nI j + (1 : Int32) = nI (j + 1) from nI_add j 1, ib_nI (by omega)]; omega
  have b2 : ib (nI j + (2 : Int32)) E.1 := by rw [show nI j + (2 : Int32) = nI (j + 2) from nI_add j 2, ib_nI (by omega)]; omega
  have b3 : ib (nI j + (3 : Int32)) E.1 := by rw [show nI j + (3 : Int32) = nI (j + 3) from nI_add j 3, ib_nI (by omega)]; omega
  have b4 : ib (nI j + (4 : Int32)) E.1 := by rw [show nI j + (4 : Int32) = nI (j + 4) from nI_add j 4, ib_nI (by omega)]; omega
  obtain ⟨r, M1, L1, M2, L2, e1, e2, h2⟩ := op_fits E 0 (roV E 0 (ix ((nI j) + (1 : Int32)))) (roV E 0 (ix ((nI j) + (2 : Int32)))) (roV E 0 (ix ((nI j) + (3 : Int32)))) (roV E 0 (ix ((nI j) + (4 : Int32)))) M L h
  refine ⟨M2, L2, ?_, h2⟩
  have e1 : C E 100 _ _ _ = _ := e1
  have e2 : C E 100 _ _ _ = _ := e2
  rw [x253_740, if_pos b1, if_pos b2, if_pos b3, if_pos b4, e1, bI_s, if_pos b1, if_pos b2, if_pos b3, if_pos b4, e2, bI_s, if_pos rfl]
theorem lw_793 {j : Nat} (hj : j + 5 < E.1) (hL : E.1 ≤ 3072) (M : Nat → Nat → Int32) (L : Nat → Nat → Int64) (h : RR E M L) : ∃ M' L', X E 100 me253 793 [some (vR 4 E.1 0), some (vR 1 11 10), some (vR 1 12 400), some (vI (nI j))] [] (M, L) = X E 100 me253 1513 [some (vR 4 E.1 0), some (vR 1 11 10), some (vR 1 12 400), some (vI (nI j))] [] (M', L') ∧ RR E M' L' := by
  have b1 : ib (nI j + (1 : Int32)) E.1 := by rw [show nI j + (1 : Int32) = nI (j + 1) from nI_add j 1, ib_nI (by omega)]; omega
  have b2 : ib (nI j + (2 : Int32)) E.1 := by rw [show nI j + (2 : Int32) = nI (j + 2) from nI_add j 2, ib_nI (by omega)]; omega
  obtain ⟨r, M1, L1, M2, L2, e1, e2, h2⟩ := op_fined E 0 (roV E 0 (ix ((nI j) + (1 : Int32)))) (roV E 0 (ix ((nI j) + (2 : Int32)))) M L h
  refine ⟨M2, L2, ?_, h2⟩
  have e1 : C E 100 _ _ _ = _ := e1
  have e2 : C E 100 _ _ _ = _ := e2
  rw [x253_793, if_pos b1, if_pos b2, e1, bI_s, if_pos b1, if_pos b2, e2, bI_s, if_pos rfl]
theorem lw_826 {j : Nat} (hj : j + 5 < E.1) (hL : E.1 ≤ 3072) (M : Nat → Nat → Int32) (L : Nat → Nat → Int64) (h : RR E M L) : ∃ M' L', X E 100 me253 826 [some (vR 4 E.1 0), some (vR 1 11 10), some (vR 1 12 400), some (vI (nI j))] [] (M, L) = X E 100 me253 1513 [some (vR 4 E.1 0), some (vR 1 11 10), some (vR 1 12 400), some (vI (nI j))] [] (M', L') ∧ RR E M' L' := by
  have b1 : ib (nI j + (1 : Int32)) E.1 := by rw [show nI j + (1 : Int32) = nI (j + 1) from nI_add j 1, ib_nI (by omega)]; omega
  obtain ⟨r, M1, L1, M2, L2, e1, e2, h2⟩ := op_claim E 0 (roV E 0 (ix ((nI j) + (1 : Int32)))) M L h
  refine ⟨M2, L2, ?_, h2⟩
  have e1 : C E 100 _ _ _ = _ := e1
  have e2 : C E 100 _ _ _ = _ := e2
  rw [x253_826, if_pos b1, e1, bI_s, if_pos b1, e2, bI_s, if_pos rfl]
theorem lw_849 {j : Nat} (hj : j + 5 < E.1) (hL : E.1 ≤ 3072) (M : Nat → Nat → Int32) (L : Nat → Nat → Int64) (h : RR E M L) : ∃ M' L', X E 100 me253 849 [some (vR 4 E.1 0), some (vR 1 11 10), some (vR 1 12 400), some (vI (nI j))] [] (M, L) = X E 100 me253 1513 [some (vR 4 E.1 0), some (vR 1 11 10), some (vR 1 12 400), some (vI (nI j))] [] (M', L') ∧ RR E M' L' := by
  have b1 : ib (nI j + (1 : Int32)) E.1 := by rw [show nI j + (1 : Int32) = nI (j + 1) from nI_add j 1, ib_nI (by omega)]; omega
  have b2 : ib (nI j + (2 : Int32)) E.1 := by rw [show nI j + (2 : Int32) = nI (j + 2) from nI_add j 2, ib_nI (by omega)]; omega
  have b3 : ib (nI j + (3 : Int32)) E.1 := by rw [show nI j + (3 : Int32) = nI (j + 3) from nI_add j 3, ib_nI (by omega)]; omega
  obtain ⟨r, M1, L1, M2, L2, e1, e2, h2⟩ := op_byTurns E 0 (roV E 0 (ix ((nI j) + (1 : Int32)))) (roV E 0 (ix ((nI j) + (2 : Int32)))) (roV E 0 (ix ((nI j) + (3 : Int32)))) M L h
  refine ⟨M2, L2, ?_, h2⟩
  have e1 : C E 100 _ _ _ = _ := e1
  have e2 : C E 100 _ _ _ = _ := e2
  rw [x253_849, if_pos b1, if_pos b2, if_pos b3, e1, bI_s, if_pos b1, if_pos b2, if_pos b3, e2, bI_s, if_pos rfl]
theorem lw_892 {j : Nat} (hj : j + 5 < E.1) (hL : E.1 ≤ 3072) (M : Nat → Nat → Int32) (L : Nat → Nat → Int64) (h : RR E M L) : ∃ M' L', X E 100 me253 892 [some (vR 4 E.1 0), some (vR 1 11 10), some (vR 1 12 400), some (vI (nI j))] [] (M, L) = X E 100 me253 1513 [some (vR 4 E.1 0), some (vR 1 11 10), some (vR 1 12 400), some (vI (nI j))] [] (M', L') ∧ RR E M' L' := by
  have b1 : ib (nI j + (1 : Int32)) E.1 := by rw [show nI j + (1 : Int32) = nI (j + 1) from nI_add j 1, ib_nI (by omega)]; omega
  have b2 : ib (nI j + (2 : Int32)) E.1 := by rw [show nI j + (2 : Int32) = nI (j + 2) from nI_add j 2, ib_nI (by omega)]; omega
  have b3 : ib (nI j + (3 : Int32)) E.1 := by rw [show nI j + (3 : Int32) = nI (j + 3) from nI_add j 3, ib_nI (by omega)]; omega
  obtain ⟨r, M1, L1, M2, L2, e1, e2, h2⟩ := op_drawn E 0 (roV E 0 (ix ((nI j) + (1 : Int32)))) (roV E 0 (ix ((nI j) + (2 : Int32)))) (roV E 0 (ix ((nI j) + (3 : Int32)))) M L h
  refine ⟨M2, L2, ?_, h2⟩
  have e1 : C E 100 _ _ _ = _ := e1
  have e2 : C E 100 _ _ _ = _ := e2
  rw [x253_892, if_pos b1, if_pos b2, if_pos b3, e1, bI_s, if_pos b1, if_pos b2, if_pos b3, e2, bI_s, if_pos rfl]
theorem lw_935 {j : Nat} (hj : j + 5 < E.1) (hL : E.1 ≤ 3072) (M : Nat → Nat → Int32) (L : Nat → Nat → Int64) (h : RR E M L) : ∃ M' L', X E 100 me253 935 [some (vR 4 E.1 0), some (vR 1 11 10), some (vR 1 12 400), some (vI (nI j))] [] (M, L) = X E 100 me253 1513 [some (vR 4 E.1 0), some (vR 1 11 10), some (vR 1 12 400), some (vI (nI j))] [] (M', L') ∧ RR E M' L' := by
  obtain ⟨r, M1, L1, M2, L2, e1, e2, h2⟩ := op_day E 0  M L h
  refine ⟨M2, L2, ?_, h2⟩
  have e1 : C E 100 _ _ _ = _ := e1
  have e2 : C E 100 _ _ _ = _ := e2
  rw [x253_935, e1, bI_s, e2, bI_s, if_pos rfl]
theorem lw_948 {j : Nat} (hj : j + 5 < E.1) (hL : E.1 ≤ 3072) (M : Nat → Nat → Int32) (L : Nat → Nat → Int64) (h : RR E M L) : ∃ M' L', X E 100 me253 948 [some (vR 4 E.1 0), some (vR 1 11 10), some (vR 1 12 400), some (vI (nI j))] [] (M, L) = X E 100 me253 1513 [some (vR 4 E.1 0), some (vR 1 11 10), some (vR 1 12 400), some (vI (nI j))] [] (M', L') ∧ RR E M' L' := by
  have b1 : ib (nI j + (1 : Int32)) E.1 := by rw [show nI j + (1 : Int32) = nI (j + 1) from nI_add j 1, ib_nI (by omega)]; omega
  have b2 : ib (nI j + (2 : Int32)) E.1 := by rw [show nI j + (2 : Int32) = nI (j + 2) from nI_add j 2, ib_nI (by omega)]; omega
  obtain ⟨r, M1, L1, M2, L2, e1, e2, h2⟩ := op_sits E 0 (roV E 0 (ix ((nI j) + (1 : Int32)))) (roV E 0 (ix ((nI j) + (2 : Int32)))) M L h
  refine ⟨M2, L2, ?_, h2⟩
  have e1 : C E 100 _ _ _ = _ := e1
  have e2 : C E 100 _ _ _ = _ := e2
  rw [x253_948, if_pos b1, if_pos b2, e1, bI_s, if_pos b1, if_pos b2, e2, bI_s, if_pos rfl]
theorem lw_981 {j : Nat} (hj : j + 5 < E.1) (hL : E.1 ≤ 3072) (M : Nat → Nat → Int32) (L : Nat → Nat → Int64) (h : RR E M L) : ∃ M' L', X E 100 me253 981 [some (vR 4 E.1 0), some (vR 1 11 10), some (vR 1 12 400), some (vI (nI j))] [] (M, L) = X E 100 me253 1513 [some (vR 4 E.1 0), some (vR 1 11 10), some (vR 1 12 400), some (vI (nI j))] [] (M', L') ∧ RR E M' L' := by
  have b1 : ib (nI j + (1 : Int32)) E.1 := by rw [show nI j + (1 : Int32) = nI (j + 1) from nI_add j 1, ib_nI (by omega)]; omega
  have b2 : ib (nI j + (2 : Int32)) E.1 := by rw [show nI j + (2 : Int32) = nI (j + 2) from nI_add j 2, ib_nI (by omega)]; omega
  obtain ⟨r, M1, L1, M2, L2, e1, e2, h2⟩ := op_given E 0 (roV E 0 (ix ((nI j) + (1 : Int32)))) (roV E 0 (ix ((nI j) + (2 : Int32)))) M L h
  refine ⟨M2, L2, ?_, h2⟩
  have e1 : C E 100 _ _ _ = _ := e1
  have e2 : C E 100 _ _ _ = _ := e2
  rw [x253_981, if_pos b1, if_pos b2, e1, bI_s, if_pos b1, if_pos b2, e2, bI_s, if_pos rfl]
theorem lw_1014 {j : Nat} (hj : j + 5 < E.1) (hL : E.1 ≤ 3072) (M : Nat → Nat → Int32) (L : Nat → Nat → Int64) (h : RR E M L) : ∃ M' L', X E 100 me253 1014 [some (vR 4 E.1 0), some (vR 1 11 10), some (vR 1 12 400), some (vI (nI j))] [] (M, L) = X E 100 me253 1513 [some (vR 4 E.1 0), some (vR 1 11 10), some (vR 1 12 400), some (vI (nI j))] [] (M', L') ∧ RR E M' L' := by
  have b1 : ib (nI j + (1 : Int32)) E.1 := by rw [show nI j + (1 : Int32) = nI (j + 1) from nI_add j 1, ib_nI (by omega)]; omega
  have b2 : ib (nI j + (2 : Int32)) E.1 := by rw [show nI j + (2 : Int32) = nI (j + 2) from nI_add j 2, ib_nI (by omega)]; omega
  obtain ⟨r, M1, L1, M2, L2, e1, e2, h2⟩ := op_repair E 0 (roV E 0 (ix ((nI j) + (1 : Int32)))) (roV E 0 (ix ((nI j) + (2 : Int32)))) M L h
  refine ⟨M2, L2, ?_, h2⟩
  have e1 : C E 100 _ _ _ = _ := e1
  have e2 : C E 100 _ _ _ = _ := e2
  rw [x253_1014, if_pos b1, if_pos b2, e1, bI_s, if_pos b1, if_pos b2, e2, bI_s, if_pos rfl]
theorem lw_1047 {j : Nat} (hj : j + 5 < E.1) (hL : E.1 ≤ 3072) (M : Nat → Nat → Int32) (L : Nat → Nat → Int64) (h : RR E M L) : ∃ M' L', X E 100 me253 1047 [some (vR 4 E.1 0), some (vR 1 11 10), some (vR 1 12 400), some (vI (nI j))] [] (M, L) = X E 100 me253 1513 [some (vR 4 E.1 0), some (vR 1 11 10), some (vR 1 12 400), some (vI (nI j))] [] (M', L') ∧ RR E M' L' := by
  have b1 : ib (nI j + (1 : Int32)) E.1 := by rw [show nI j + (1 : Int32) = nI (j + 1) from nI_add j 1, ib_nI (by omega)]; omega
  obtain ⟨r, M1, L1, M2, L2, e1, e2, h2⟩ := op_led E 0 (roV E 0 (ix ((nI j) + (1 : Int32)))) M L h
  refine ⟨M2, L2, ?_, h2⟩
  have e1 : C E 100 _ _ _ = _ := e1
  have e2 : C E 100 _ _ _ = _ := e2
  rw [x253_1047, if_pos b1, e1, bI_s, if_pos b1, e2, bI_s, if_pos rfl]
theorem lw_1070 {j : Nat} (hj : j + 5 < E.1) (hL : E.1 ≤ 3072) (M : Nat → Nat → Int32) (L : Nat → Nat → Int64) (h : RR E M L) : ∃ M' L', X E 100 me253 1070 [some (vR 4 E.1 0), some (vR 1 11 10), some (vR 1 12 400), some (vI (nI j))] [] (M, L) = X E 100 me253 1513 [some (vR 4 E.1 0), some (vR 1 11 10), some (vR 1 12 400), some (vI (nI j))] [] (M', L') ∧ RR E M' L' := by
  obtain ⟨r, M1, L1, M2, L2, e1, e2, h2⟩ := op_image E 0  M L h
  refine ⟨M2, L2, ?_, h2⟩
  have e1 : C E 100 _ _ _ = _ := e1
  have e2 : C E 100 _ _ _ = _ := e2
  rw [x253_1070, e1, bI_s, e2, bI_s, if_pos rfl]
theorem lw_1083 {j : Nat} (hj : j + 5 < E.1) (hL : E.1 ≤ 3072) (M : Nat → Nat → Int32) (L : Nat → Nat → Int64) (h : RR E M L) : ∃ M' L', X E 100 me253 1083 [some (vR 4 E.1 0), some (vR 1 11 10), some (vR 1 12 400), some (vI (nI j))] [] (M, L) = X E 100 me253 1513 [some (vR 4 E.1 0), some (vR 1 11 10), some (vR 1 12 400), some (vI (nI j))] [] (M', L') ∧ RR E M' L' := by
  obtain ⟨r, M1, L1, M2, L2, e1, e2, h2⟩ := op_back E 0  M L h
  refine ⟨M2, L2, ?_, h2⟩
  have e1 : C E 100 _ _ _ = _ := e1
  have e2 : C E 100 _ _ _ = _ := e2
  rw [x253_1083, e1, bI_s, e2, bI_s, if_pos rfl]
theorem lw_1096 {j : Nat} (hj : j + 5 < E.1) (hL : E.1 ≤ 3072) (M : Nat → Nat → Int32) (L : Nat → Nat → Int64) (h : RR E M L) : ∃ M' L', X E 100 me253 1096 [some (vR 4 E.1 0), some (vR 1 11 10), some (vR 1 12 400), some (vI (nI j))] [] (M, L) = X E 100 me253 1513 [some (vR 4 E.1 0), some (vR 1 11 10), some (vR 1 12 400), some (vI (nI j))] [] (M', L') ∧ RR E M' L' := by
  obtain ⟨r, M1, L1, M2, L2, e1, e2, h2⟩ := op_undo E 0  M L h
  refine ⟨M2, L2, ?_, h2⟩
  have e1 : C E 100 _ _ _ = _ := e1
  have e2 : C E 100 _ _ _ = _ := e2
  rw [x253_1096, e1, bI_s, e2, bI_s, if_pos rfl]
theorem lw_1109 {j : Nat} (hj : j + 5 < E.1) (hL : E.1 ≤ 3072) (M : Nat → Nat → Int32) (L : Nat → Nat → Int64) (h : RR E M L) : ∃ M' L', X E 100 me253 1109 [some (vR 4 E.1 0), some (vR 1 11 10), some (vR 1 12 400), some (vI (nI j))] [] (M, L) = X E 100 me253 1513 [some (vR 4 E.1 0), some (vR 1 11 10), some (vR 1 12 400), some (vI (nI j))] [] (M', L') ∧ RR E M' L' := by
  obtain ⟨r, M1, L1, M2, L2, e1, e2, h2⟩ := op_redo E 0  M L h
  refine ⟨M2, L2, ?_, h2⟩
  have e1 : C E 100 _ _ _ = _ := e1
  have e2 : C E 100 _ _ _ = _ := e2
  rw [x253_1109, e1, bI_s, e2, bI_s, if_pos rfl]
theorem lw_1122 {j : Nat} (hj : j + 5 < E.1) (hL : E.1 ≤ 3072) (M : Nat → Nat → Int32) (L : Nat → Nat → Int64) (h : RR E M L) : ∃ M' L', X E 100 me253 1122 [some (vR 4 E.1 0), some (vR 1 11 10), some (vR 1 12 400), some (vI (nI j))] [] (M, L) = X E 100 me253 1513 [some (vR 4 E.1 0), some (vR 1 11 10), some (vR 1 12 400), some (vI (nI j))] [] (M', L') ∧ RR E M' L' := by
  have b1 : ib (nI j + (1 : Int32)) E.1 := by rw [show nI j + (1 : Int32) = nI (j + 1) from nI_add j 1, ib_nI (by omega)]; omega
  obtain ⟨r, M1, L1, M2, L2, e1, e2, h2⟩ := op_body E 0 (roV E 0 (ix ((nI j) + (1 : Int32)))) M L h
  refine ⟨M2, L2, ?_, h2⟩
  have e1 : C E 100 _ _ _ = _ := e1
  have e2 : C E 100 _ _ _ = _ := e2
  rw [x253_1122, if_pos b1, e1, bI_s, if_pos b1, e2, bI_s, if_pos rfl]
theorem lw_1145 {j : Nat} (hj : j + 5 < E.1) (hL : E.1 ≤ 3072) (M : Nat → Nat → Int32) (L : Nat → Nat → Int64) (h : RR E M L) : ∃ M' L', X E 100 me253 1145 [some (vR 4 E.1 0), some (vR 1 11 10), some (vR 1 12 400), some (vI (nI j))] [] (M, L) = X E 100 me253 1513 [some (vR 4 E.1 0), some (vR 1 11 10), some (vR 1 12 400), some (vI (nI j))] [] (M', L') ∧ RR E M' L' := by
  have b1 : ib (nI j + (1 : Int32)) E.1 := by rw [show nI j + (1 : Int32) = nI (j + 1) from nI_add j 1, ib_nI (by omega)]; omega
  have b2 : ib (nI j + (2 : Int32)) E.1 := by rw [show nI j + (2 : Int32) = nI (j + 2) from nI_add j 2, ib_nI (by omega)]; omega
  have b3 : ib (nI j + (3 : Int32)) E.1 := by rw [show nI j + (3 : Int32) = nI (j + 3) from nI_add j 3, ib_nI (by omega)]; omega
  obtain ⟨r, M1, L1, M2, L2, e1, e2, h2⟩ := op_act E 0 (roV E 0 (ix ((nI j) + (1 : Int32)))) (roV E 0 (ix ((nI j) + (2 : Int32)))) (roV E 0 (ix ((nI j) + (3 : Int32)))) M L h
  refine ⟨M2, L2, ?_, h2⟩
  have e1 : C E 100 _ _ _ = _ := e1
  have e2 : C E 100 _ _ _ = _ := e2
  rw [x253_1145, if_pos b1, if_pos b2, if_pos b3, e1, bI_s, if_pos b1, if_pos b2, if_pos b3, e2, bI_s, if_pos rfl]
theorem lw_1188 {j : Nat} (hj : j + 5 < E.1) (hL : E.1 ≤ 3072) (M : Nat → Nat → Int32) (L : Nat → Nat → Int64) (h : RR E M L) : ∃ M' L', X E 100 me253 1188 [some (vR 4 E.1 0), some (vR 1 11 10), some (vR 1 12 400), some (vI (nI j))] [] (M, L) = X E 100 me253 1513 [some (vR 4 E.1 0), some (vR 1 11 10), some (vR 1 12 400), some (vI (nI j))] [] (M', L') ∧ RR E M' L' := by
  have b1 : ib (nI j + (1 : Int32)) E.1 := by rw [show nI j + (1 : Int32) = nI (j + 1) from nI_add j 1, ib_nI (by omega)]; omega
  obtain ⟨r, M1, L1, M2, L2, e1, e2, h2⟩ := op_trace E 0 (roV E 0 (ix ((nI j) + (1 : Int32)))) M L h
  refine ⟨M2, L2, ?_, h2⟩
  have e1 : C E 100 _ _ _ = _ := e1
  have e2 : C E 100 _ _ _ = _ := e2
  rw [x253_1188, if_pos b1, e1, bI_s, if_pos b1, e2, bI_s, if_pos rfl]
theorem lw_1211 {j : Nat} (hj : j + 5 < E.1) (hL : E.1 ≤ 3072) (M : Nat → Nat → Int32) (L : Nat → Nat → Int64) (h : RR E M L) : ∃ M' L', X E 100 me253 1211 [some (vR 4 E.1 0), some (vR 1 11 10), some (vR 1 12 400), some (vI (nI j))] [] (M, L) = X E 100 me253 1513 [some (vR 4 E.1 0), some (vR 1 11 10), some (vR 1 12 400), some (vI (nI j))] [] (M', L') ∧ RR E M' L' := by
  have b1 : ib (nI j + (1 : Int32)) E.1 := by rw [show nI j + (1 : Int32) = nI (j + 1) from nI_add j 1, ib_nI (by omega)]; omega
  have b2 : ib (nI j + (2 : Int32)) E.1 := by rw [show nI j + (2 : Int32) = nI (j + 2) from nI_add j 2, ib_nI (by omega)]; omega
  obtain ⟨r, M1, L1, M2, L2, e1, e2, h2⟩ := op_keep E 0 (roV E 0 (ix ((nI j) + (1 : Int32)))) (roV E 0 (ix ((nI j) + (2 : Int32)))) M L h
  refine ⟨M2, L2, ?_, h2⟩
  have e1 : C E 100 _ _ _ = _ := e1
  have e2 : C E 100 _ _ _ = _ := e2
  rw [x253_1211, if_pos b1, if_pos b2, e1, bI_s, if_pos b1, if_pos b2, e2, bI_s, if_pos rfl]
theorem lw_1244 {j : Nat} (hj : j + 5 < E.1) (hL : E.1 ≤ 3072) (M : Nat → Nat → Int32) (L : Nat → Nat → Int64) (h : RR E M L) : ∃ M' L', X E 100 me253 1244 [some (vR 4 E.1 0), some (vR 1 11 10), some (vR 1 12 400), some (vI (nI j))] [] (M, L) = X E 100 me253 1513 [some (vR 4 E.1 0), some (vR 1 11 10), some (vR 1 12 400), some (vI (nI j))] [] (M', L') ∧ RR E M' L' := by
  have b1 : ib (nI j + (1 : Int32)) E.1 := by rw [show nI j + (1 : Int32) = nI (j + 1) from nI_add j 1, ib_nI (by omega)]; omega
  have b2 : ib (nI j + (2 : Int32)) E.1 := by rw [show nI j + (2 : Int32) = nI (j + 2) from nI_add j 2, ib_nI (by omega)]; omega
  have b3 : ib (nI j + (3 : Int32)) E.1 := by rw [show nI j + (3 : Int32) = nI (j + 3) from nI_add j 3, ib_nI (by omega)]; omega
  obtain ⟨r, M1, L1, M2, L2, e1, e2, h2⟩ := op_row E 0 (roV E 0 (ix ((nI j) + (1 : Int32)))) (roV E 0 (ix ((nI j) + (2 : Int32)))) (roV E 0 (ix ((nI j) + (3 : Int32)))) M L h
  refine ⟨M2, L2, ?_, h2⟩
  have e1 : C E 100 _ _ _ = _ := e1
  have e2 : C E 100 _ _ _ = _ := e2
  rw [x253_1244, if_pos b1, if_pos b2, if_pos b3, e1, bI_s, if_pos b1, if_pos b2, if_pos b3, e2, bI_s, if_pos rfl]
theorem lw_1287 {j : Nat} (hj : j + 5 < E.1) (hL : E.1 ≤ 3072) (M : Nat → Nat → Int32) (L : Nat → Nat → Int64) (h : RR E M L) : ∃ M' L', X E 100 me253 1287 [some (vR 4 E.1 0), some (vR 1 11 10), some (vR 1 12 400), some (vI (nI j))] [] (M, L) = X E 100 me253 1513 [some (vR 4 E.1 0), some (vR 1 11 10), some (vR 1 12 400), some (vI (nI j))] [] (M', L') ∧ RR E M' L' := by
  have b1 : ib (nI j + (1 : Int32)) E.1 := by rw [show nI j + (1 : Int32) = nI (j + 1) from nI_add j 1, ib_nI (by omega)]; omega
  have b2 : ib (nI j + (2 : Int32)) E.1 := by rw [show nI j + (2 : Int32) = nI (j + 2) from nI_add j 2, ib_nI (by omega)]; omega
  have b3 : ib (nI j + (3 : Int32)) E.1 := by rw [show nI j + (3 : Int32) = nI (j + 3) from nI_add j 3, ib_nI (by omega)]; omega
  have b4 : ib (nI j + (4 : Int32)) E.1 := by rw [show nI j + (4 : Int32) = nI (j + 4) from nI_add j 4, ib_nI (by omega)]; omega
  obtain ⟨r, M1, L1, M2, L2, e1, e2, h2⟩ := op_put E 0 (roV E 0 (ix ((nI j) + (1 : Int32)))) (roV E 0 (ix ((nI j) + (2 : Int32)))) (((Int32.toInt64 (roV E 0 (ix ((nI j) + (3 : Int32))))) <<< (((32 : Int32)).toInt64 &&& 63)) ||| ((Int32.toInt64 (roV E 0 (ix ((nI j) + (4 : Int32))))) &&& (4294967295 : Int64))) M L h
  refine ⟨M2, L2, ?_, h2⟩
  have e1 : C E 100 _ _ _ = _ := e1
  have e2 : C E 100 _ _ _ = _ := e2
  rw [x253_1287, if_pos b1, if_pos b2, if_pos b3, if_pos b4, e1, bI_s, if_pos b1, if_pos b2, if_pos b3, if_pos b4, e2, bI_s, if_pos rfl]
theorem lw_1360 {j : Nat} (hj : j + 5 < E.1) (hL : E.1 ≤ 3072) (M : Nat → Nat → Int32) (L : Nat → Nat → Int64) (h : RR E M L) : ∃ M' L', X E 100 me253 1360 [some (vR 4 E.1 0), some (vR 1 11 10), some (vR 1 12 400), some (vI (nI j))] [] (M, L) = X E 100 me253 1513 [some (vR 4 E.1 0), some (vR 1 11 10), some (vR 1 12 400), some (vI (nI j))] [] (M', L') ∧ RR E M' L' := by
  have b1 : ib (nI j + (1 : Int32)) E.1 := by rw [show nI j + (1 : Int32) = nI (j + 1) from nI_add j 1, ib_nI (by omega)]; omega
  have b2 : ib (nI j + (2 : Int32)) E.1 := by rw [show nI j + (2 : Int32) = nI (j + 2) from nI_add j 2, ib_nI (by omega)]; omega
  obtain ⟨r, e1, e2⟩ := op_element E 0 (roV E 0 (ix ((nI j) + (1 : Int32)))) (roV E 0 (ix ((nI j) + (2 : Int32)))) M L h
  refine ⟨M, L, ?_, h⟩
  have e1 : C E 100 _ _ _ = _ := e1
  have e2 : C E 100 _ _ _ = _ := e2
  rw [x253_1360, if_pos b1, if_pos b2, e1, bL_s, if_pos b1, if_pos b2, e2, bL_s, if_pos (by rw [cmp_eq])]
theorem lw_1394 {j : Nat} (hj : j + 5 < E.1) (hL : E.1 ≤ 3072) (M : Nat → Nat → Int32) (L : Nat → Nat → Int64) (h : RR E M L) : ∃ M' L', X E 100 me253 1394 [some (vR 4 E.1 0), some (vR 1 11 10), some (vR 1 12 400), some (vI (nI j))] [] (M, L) = X E 100 me253 1513 [some (vR 4 E.1 0), some (vR 1 11 10), some (vR 1 12 400), some (vI (nI j))] [] (M', L') ∧ RR E M' L' := by
  have b1 : ib (nI j + (1 : Int32)) E.1 := by rw [show nI j + (1 : Int32) = nI (j + 1) from nI_add j 1, ib_nI (by omega)]; omega
  have b2 : ib (nI j + (2 : Int32)) E.1 := by rw [show nI j + (2 : Int32) = nI (j + 2) from nI_add j 2, ib_nI (by omega)]; omega
  have b3 : ib (nI j + (3 : Int32)) E.1 := by rw [show nI j + (3 : Int32) = nI (j + 3) from nI_add j 3, ib_nI (by omega)]; omega
  have b4 : ib (nI j + (4 : Int32)) E.1 := by rw [show nI j + (4 : Int32) = nI (j + 4) from nI_add j 4, ib_nI (by omega)]; omega
  have b5 : ib (nI j + (5 : Int32)) E.1 := by rw [show nI j + (5 : Int32) = nI (j + 5) from nI_add j 5, ib_nI (by omega)]; omega
  obtain ⟨r, M1, L1, M2, L2, e1, e2, h2⟩ := op_shift E 0 (roV E 0 (ix ((nI j) + (1 : Int32)))) (roV E 0 (ix ((nI j) + (2 : Int32)))) (roV E 0 (ix ((nI j) + (3 : Int32)))) (roV E 0 (ix ((nI j) + (4 : Int32)))) (roV E 0 (ix ((nI j) + (5 : Int32)))) M L h
  refine ⟨M2, L2, ?_, h2⟩
  have e1 : C E 100 _ _ _ = _ := e1
  have e2 : C E 100 _ _ _ = _ := e2
  rw [x253_1394, if_pos b1, if_pos b2, if_pos b3, if_pos b4, if_pos b5, e1, bI_s, if_pos b1, if_pos b2, if_pos b3, if_pos b4, if_pos b5, e2, bI_s, if_pos rfl]
theorem lw_1457 {j : Nat} (hj : j + 5 < E.1) (hL : E.1 ≤ 3072) (M : Nat → Nat → Int32) (L : Nat → Nat → Int64) (h : RR E M L) : ∃ M' L', X E 100 me253 1457 [some (vR 4 E.1 0), some (vR 1 11 10), some (vR 1 12 400), some (vI (nI j))] [] (M, L) = X E 100 me253 1513 [some (vR 4 E.1 0), some (vR 1 11 10), some (vR 1 12 400), some (vI (nI j))] [] (M', L') ∧ RR E M' L' := by
  have b1 : ib (nI j + (1 : Int32)) E.1 := by rw [show nI j + (1 : Int32) = nI (j + 1) from nI_add j 1, ib_nI (by omega)]; omega
  have b2 : ib (nI j + (2 : Int32)) E.1 := by rw [show nI j + (2 : Int32) = nI (j + 2) from nI_add j 2, ib_nI (by omega)]; omega
  obtain ⟨r, M1, L1, M2, L2, e1, e2, h2⟩ := op_taken E 0 (roV E 0 (ix ((nI j) + (1 : Int32)))) (roV E 0 (ix ((nI j) + (2 : Int32)))) M L h
  refine ⟨M2, L2, ?_, h2⟩
  have e1 : C E 100 _ _ _ = _ := e1
  have e2 : C E 100 _ _ _ = _ := e2
  rw [x253_1457, if_pos b1, if_pos b2, e1, bI_s, if_pos b1, if_pos b2, e2, bI_s, if_pos rfl]
theorem lw_1490 {j : Nat} (hj : j + 5 < E.1) (hL : E.1 ≤ 3072) (M : Nat → Nat → Int32) (L : Nat → Nat → Int64) (h : RR E M L) : ∃ M' L', X E 100 me253 1490 [some (vR 4 E.1 0), some (vR 1 11 10), some (vR 1 12 400), some (vI (nI j))] [] (M, L) = X E 100 me253 1513 [some (vR 4 E.1 0), some (vR 1 11 10), some (vR 1 12 400), some (vI (nI j))] [] (M', L') ∧ RR E M' L' := by
  have b1 : ib (nI j + (1 : Int32)) E.1 := by rw [show nI j + (1 : Int32) = nI (j + 1) from nI_add j 1, ib_nI (by omega)]; omega
  obtain ⟨r, M1, L1, M2, L2, e1, e2, h2⟩ := op_count E 0 (roV E 0 (ix ((nI j) + (1 : Int32)))) M L h
  refine ⟨M2, L2, ?_, h2⟩
  have e1 : C E 100 _ _ _ = _ := e1
  have e2 : C E 100 _ _ _ = _ := e2
  rw [x253_1490, if_pos b1, e1, bI_s, if_pos b1, e2, bI_s, if_pos rfl]
theorem lw_33 {j : Nat} (hj : j + 5 < E.1) (hL : E.1 ≤ 3072) (t : Int32) (M : Nat → Nat → Int32) (L : Nat → Nat → Int64) (h : RR E M L) : ∃ M' L', X E 100 me253 33 [some (vR 4 E.1 0), some (vR 1 11 10), some (vR 1 12 400), some (vI (nI j))] [vI t] (M, L) = X E 100 me253 1513 [some (vR 4 E.1 0), some (vR 1 11 10), some (vR 1 12 400), some (vI (nI j))] [] (M', L') ∧ RR E M' L' := by
  rw [x253_33]
  by_cases h0 : t = (0 : Int32)
  · rw [if_pos h0]; exact lw_216 E hj hL M L h
  rw [if_neg h0]
  by_cases h1 : t = (1 : Int32)
  · rw [if_pos h1]; exact lw_249 E hj hL M L h
  rw [if_neg h1]
  by_cases h2 : t = (2 : Int32)
  · rw [if_pos h2]; exact lw_282 E hj hL M L h
  rw [if_neg h2]
  by_cases h3 : t = (3 : Int32)
  · rw [if_pos h3]; exact lw_325 E hj hL M L h
  rw [if_neg h3]
  by_cases h4 : t = (4 : Int32)
  · rw [if_pos h4]; exact lw_368 E hj hL M L h
  rw [if_neg h4]
  by_cases h5 : t = (5 : Int32)
  · rw [if_pos h5]; exact lw_401 E hj hL M L h
  rw [if_neg h5]
  by_cases h6 : t = (6 : Int32)
  · rw [if_pos h6]; exact lw_424 E hj hL M L h
  rw [if_neg h6]
  by_cases h7 : t = (7 : Int32)
  · rw [if_pos h7]; exact lw_437 E hj hL M L h
  rw [if_neg h7]
  by_cases h8 : t = (8 : Int32)
  · rw [if_pos h8]; exact lw_460 E hj hL M L h
  rw [if_neg h8]
  by_cases h9 : t = (9 : Int32)
  · rw [if_pos h9]; exact lw_503 E hj hL M L h
  rw [if_neg h9]
  by_cases h10 : t = (10 : Int32)
  · rw [if_pos h10]; exact lw_536 E hj hL M L h
  rw [if_neg h10]
  by_cases h11 : t = (11 : Int32)
  · rw [if_pos h11]; exact lw_559 E hj hL M L h
  rw [if_neg h11]
  by_cases h12 : t = (12 : Int32)
  · rw [if_pos h12]; exact lw_582 E hj hL M L h
  rw [if_neg h12]
  by_cases h13 : t = (13 : Int32)
  · rw [if_pos h13]; exact lw_605 E hj hL M L h
  rw [if_neg h13]
  by_cases h14 : t = (14 : Int32)
  · rw [if_pos h14]; exact lw_638 E hj hL M L h
  rw [if_neg h14]
  by_cases h15 : t = (15 : Int32)
  · rw [if_pos h15]; exact lw_661 E hj hL M L h
  rw [if_neg h15]
  by_cases h16 : t = (16 : Int32)
  · rw [if_pos h16]; exact lw_694 E hj hL M L h
  rw [if_neg h16]
  by_cases h17 : t = (17 : Int32)
  · rw [if_pos h17]; exact lw_707 E hj hL M L h
  rw [if_neg h17]
  by_cases h18 : t = (18 : Int32)
  · rw [if_pos h18]; exact lw_740 E hj hL M L h
  rw [if_neg h18]
  by_cases h19 : t = (19 : Int32)
  · rw [if_pos h19]; exact lw_793 E hj hL M L h
  rw [if_neg h19]
  by_cases h20 : t = (20 : Int32)
  · rw [if_pos h20]; exact lw_826 E hj hL M L h
  rw [if_neg h20]
  by_cases h21 : t = (21 : Int32)
  · rw [if_pos h21]; exact lw_849 E hj hL M L h
  rw [if_neg h21]
  by_cases h22 : t = (22 : Int32)
  · rw [if_pos h22]; exact lw_892 E hj hL M L h
  rw [if_neg h22]
  by_cases h23 : t = (23 : Int32)
  · rw [if_pos h23]; exact lw_935 E hj hL M L h
  rw [if_neg h23]
  by_cases h24 : t = (24 : Int32)
  · rw [if_pos h24]; exact lw_948 E hj hL M L h
  rw [if_neg h24]
  by_cases h25 : t = (25 : Int32)
  · rw [if_pos h25]; exact lw_981 E hj hL M L h
  rw [if_neg h25]
  by_cases h26 : t = (26 : Int32)
  · rw [if_pos h26]; exact lw_1014 E hj hL M L h
  rw [if_neg h26]
  by_cases h27 : t = (27 : Int32)
  · rw [if_pos h27]; exact lw_1047 E hj hL M L h
  rw [if_neg h27]
  by_cases h28 : t = (28 : Int32)
  · rw [if_pos h28]; exact lw_1070 E hj hL M L h
  rw [if_neg h28]
  by_cases h29 : t = (29 : Int32)
  · rw [if_pos h29]; exact lw_1083 E hj hL M L h
  rw [if_neg h29]
  by_cases h30 : t = (30 : Int32)
  · rw [if_pos h30]; exact lw_1096 E hj hL M L h
  rw [if_neg h30]
  by_cases h31 : t = (31 : Int32)
  · rw [if_pos h31]; exact lw_1109 E hj hL M L h
  rw [if_neg h31]
  by_cases h32 : t = (32 : Int32)
  · rw [if_pos h32]; exact lw_1122 E hj hL M L h
  rw [if_neg h32]
  by_cases h33 : t = (33 : Int32)
  · rw [if_pos h33]; exact lw_1145 E hj hL M L h
  rw [if_neg h33]
  by_cases h34 : t = (34 : Int32)
  · rw [if_pos h34]; exact lw_1188 E hj hL M L h
  rw [if_neg h34]
  by_cases h35 : t = (35 : Int32)
  · rw [if_pos h35]; exact lw_1211 E hj hL M L h
  rw [if_neg h35]
  by_cases h36 : t = (36 : Int32)
  · rw [if_pos h36]; exact lw_1244 E hj hL M L h
  rw [if_neg h36]
  by_cases h37 : t = (37 : Int32)
  · rw [if_pos h37]; exact lw_1287 E hj hL M L h
  rw [if_neg h37]
  by_cases h38 : t = (38 : Int32)
  · rw [if_pos h38]; exact lw_1360 E hj hL M L h
  rw [if_neg h38]
  by_cases h39 : t = (39 : Int32)
  · rw [if_pos h39]; exact lw_1394 E hj hL M L h
  rw [if_neg h39]
  by_cases h40 : t = (40 : Int32)
  · rw [if_pos h40]; exact lw_1457 E hj hL M L h
  rw [if_neg h40]
  by_cases h41 : t = (41 : Int32)
  · rw [if_pos h41]; exact lw_1490 E hj hL M L h
  rw [if_neg h41]
  exact ⟨M, L, rfl, h⟩
theorem law_loop (hL : E.1 ≤ 3072) : ∀ m i (M : Nat → Nat → Int32) (L : Nat → Nat → Int64), E.1 ≤ 6 * i + m → i ≤ 600 → RR E M L → ∃ s', X E 100 me253 18 [some (vR 4 E.1 0), some (vR 1 11 10), some (vR 1 12 400), some (vI (nI (6 * i)))] [] (M, L) = some (some (vI (1 : Int32)), s') := by
  have tE : (Int32.ofNat E.1).toInt = (E.1 : Int) := t_nI (n := E.1) (by omega)
  have t6' : (Int32.ofNat E.1 - (6 : Int32)).toInt = (E.1 : Int) - 6 := by rw [t_sub (by rw [tE, t_6]; omega) (by rw [tE, t_6]; omega), tE, t_6]
  have go : ∀ (i : Nat) (M : Nat → Nat → Int32) (L : Nat → Nat → Int64), (E.1 : Int) - 6 < 6 * i → i ≤ 600 → ∃ s', X E 100 me253 18 [some (vR 4 E.1 0), some (vR 1 11 10), some (vR 1 12 400), some (vI (nI (6 * i)))] [] (M, L) = some (some (vI (1 : Int32)), s') := fun i M L h hi => by
    rw [x253_18, if_pos (by rw [t_lt, t6', t_nI (by omega)]; omega)]
    exact ⟨_, rfl⟩
  intro m
  induction m with
  | zero => intro i M L h1 hi h; exact go i M L (by omega) hi
  | succ m ih =>
    intro i M L h1 hi h
    by_cases q : (E.1 : Int) - 6 < 6 * i
    · exact go i M L q hi
    · have hj : 6 * i + 5 < E.1 := by omega
      rw [x253_18, if_neg (by rw [t_lt, t6', t_nI (by omega)]; omega), if_pos (by rw [ib_nI (by omega)]; omega)]
      obtain ⟨M1, L1, e1, h1'⟩ := lw_33 E hj hL (roV E 0 (ix (nI (6 * i))) &&& (63 : Int32)) M L h
      rw [e1, x253_1513, show nI (6 * i) + (6 : Int32) = nI (6 * i + 6) from nI_add (6 * i) 6, show 6 * i + 6 = 6 * (i + 1) by omega]
      exact ih (i + 1) M1 L1 (by omega) (by omega) h1'
end LAWLOOP
