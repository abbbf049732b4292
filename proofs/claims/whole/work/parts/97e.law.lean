/-! the text of a law: the reference's levels -/
theorem loopP_end {b : Nat → Nat} {sub : Nat → PQ} {lv i : Nat} (h : lvc (b i) ≠ lv) : ∀ k, loopP b sub lv k i = .inr (i, [])
  | 0 => rfl
  | k + 1 => by unfold loopP; rw [if_neg h]
theorem bt_end {t : Nat} {w : Nat → Nat} {i : Nat} (h : t ≤ i) : btA t w i = 256 := by unfold btA; rw [if_neg (by omega)]
theorem clP_s (b : Nat → Nat) (op : Nat → PQ) (r i : Nat) : clP b op (r + 1) i = bnd (clP b op r i) (loopP b (clP b op r) (4 - r) 120) := rfl
theorem loopP_s (b : Nat → Nat) (sub : Nat → PQ) (lv k i : Nat) : loopP b sub lv (k + 1) i = if lvc (b i) = lv then bnd (bnd (sub (i + 1)) (fun q => .inr (q, [b i]))) (fun q => if lv = 2 then .inr (q, []) else loopP b sub lv k q) else .inr (i, []) := rfl
theorem lvc_0 {c : Nat} : lvc c = 0 ↔ c = 124 := by unfold lvc; (repeat' split) <;> omega
theorem lvc_1 {c : Nat} : lvc c = 1 ↔ c = 38 := by unfold lvc; (repeat' split) <;> omega
theorem lvc_2 {c : Nat} : lvc c = 2 ↔ c = 60 ∨ c = 61 ∨ c = 62 := by unfold lvc; (repeat' split) <;> omega
theorem lvc_3 {c : Nat} : lvc c = 3 ↔ c = 43 ∨ c = 45 := by unfold lvc; (repeat' split) <;> omega
theorem lvc_4 {c : Nat} : lvc c = 4 ↔ c = 42 ∨ c = 47 ∨ c = 37 := by unfold lvc; (repeat' split) <;> omega
section RLEV
variable (E : Nat × (Nat → Int32)) (d : Nat) (L : Nat → Nat → Int64) {t : Nat} {w : Nat → Nat}
/-- the loop of a level: what stands is read on as long as a sign of the level comes; Y a state of it, st its start -/
theorem rlp (ht : t ≤ 120) {sub : Nat → PQ} {lv o : Nat} (hlv : lv < 5) (h2 : lv ≠ 2) (Y : (Nat → Nat → Int32) → PR)
    (hend : ∀ (M : Nat → Nat → Int32) i s, rI t w o M i s → lvc (btA t w i) ≠ lv → Y M = some (none, (M, L)))
    (hflt : ∀ (M : Nat → Nat → Int32) p z, M 400 11 = nI t → M 400 13 = nI p → p ≤ t → z ≤ t → M 400 12 = nI z → Y M = some (none, (M, L)))
    (hgo : ∀ (M : Nat → Nat → Int32) i s, rI t w o M i s → i < t → lvc (btA t w i) = lv → ∃ M', Y M = Y M' ∧ rO t o M M' s (bnd (sub (i + 1)) (fun q => .inr (q, [btA t w i]))) ∧ wf3 t i (bnd (sub (i + 1)) (fun q => .inr (q, [btA t w i])))) :
    ∀ k i s (M : Nat → Nat → Int32), 120 ≤ k + i → rI t w o M i s → ∃ M', Y M = some (none, (M', L)) ∧ rO t o M M' s (loopP (btA t w) sub lv k i) := by
  intro k
  induction k with
  | zero =>
    intro i s M hk hI
    have hb : btA t w i = 256 := bt_end (by omega)
    have hne : lvc (btA t w i) ≠ lv := by rw [hb, show lvc 256 = 9 from by decide]; omega
    exact ⟨M, hend M i s hI hne, rO_nil hI⟩
  | succ k ih =>
    intro i s M hk hI
    by_cases q : lvc (btA t w i) = lv
    · have hi : i < t := bt_lt (w := w) (by have := (lvc_ne (x := btA t w i) (by omega)).1; omega)
      obtain ⟨M1, e1, o1, w1⟩ := hgo M i s hI hi q
      rw [e1, loopP_s, if_pos q]
      cases hr : bnd (sub (i + 1)) (fun q => .inr (q, [btA t w i])) with
      | inl p =>
        rw [hr] at o1 w1
        obtain ⟨f1, ⟨o13, hp⟩, z, hz, o12⟩ := o1
        exact ⟨M1, hflt M1 p z ((f1.2 11 (by omega) (by omega) (by omega) (by omega)).trans hI.1.1) o13 hp hz o12, f1, ⟨o13, hp⟩, z, hz, o12⟩
      | inr zz =>
        obtain ⟨q1, xs⟩ := zz
        rw [hr] at o1 w1
        obtain ⟨v1, v2, v3⟩ := w1
        have hsi := hI.2.2.2
        obtain ⟨M2, e2, o2⟩ := ih q1 _ M1 (by omega) (rO_I hI o1 v2 (by omega))
        refine ⟨M2, e2, rO_seq o1 ?_⟩
        rw [if_neg h2]
        exact o2
    · rw [loopP_end q]
      exact ⟨M, hend M i s hI q, rO_nil hI⟩
/-- one level above another -/
theorem rlv (ht : t ≤ 120) {sub : Nat → PQ} {lv o D y : Nat} (hsub : RLS E L t w sub o (D + 1) y []) (hwf : ∀ i, i ≤ t → wfP t i (sub i)) (Z : (Nat → Nat → Int32) → PR) {D' y' : Nat} (hZ : ∀ M M1, C E (D + 1) y [vR 1 12 400] (M, L) = some (none, (M1, L)) → C E D' y' [vR 1 12 400] (M, L) = Z M1)
    (hflt : ∀ (M1 : Nat → Nat → Int32) p z, M1 400 11 = nI t → M1 400 13 = nI p → p ≤ t → z ≤ t → M1 400 12 = nI z → Z M1 = some (none, (M1, L)))
    (hgo : ∀ q s (M1 : Nat → Nat → Int32), rI t w o M1 q s → ∃ M2, Z M1 = some (none, (M2, L)) ∧ rO t o M1 M2 s (loopP (btA t w) sub lv 120 q)) :
    RLS E L t w (fun i => bnd (sub i) (loopP (btA t w) sub lv 120)) o D' y' [] := by
  intro M i s hI
  obtain ⟨M1, e1, o1⟩ := hsub M i s hI
  have hwi := hwf i hI.2.2.1
  rw [hZ M M1 e1]
  show ∃ M', Z M1 = some (none, (M', L)) ∧ rO t o M M' s (bnd (sub i) (loopP (btA t w) sub lv 120))
  cases hr : sub i with
  | inl p =>
    rw [hr] at o1
    obtain ⟨f1, ⟨o13, hp⟩, z, hz, o12⟩ := o1
    exact ⟨M1, hflt M1 p z ((f1.2 11 (by omega) (by omega) (by omega) (by omega)).trans hI.1.1) o13 hp hz o12, f1, ⟨o13, hp⟩, z, hz, o12⟩
  | inr zz =>
    obtain ⟨q, xs⟩ := zz
    rw [hr] at o1 hwi
    obtain ⟨w1, w2, w3, w4⟩ := hwi
    have hsi := hI.2.2.2
    obtain ⟨M2, e2, o2⟩ := hgo q _ M1 (rO_I hI o1 w2 (by omega))
    exact ⟨M2, e2, rO_seq o1 o2⟩
theorem r179 (ht : t ≤ 120) (hw : ∀ j, j < t → w j < 256) {sub : Nat → PQ} {o : Nat} (hsub : RLS E L t w sub o (d + 1) 182 []) (hwf : ∀ i, i ≤ t → wfP t i (sub i)) : RLS E L t w (fun i => bnd (sub i) (loopP (btA t w) sub 4 120)) o (d + 2) 179 [] := by
  have ec : ∀ i k, 0 < k → k < 256 → (rpk (btA t w i) = nI k) = (btA t w i = k) := fun i k h0 hk => rpk_e (by have := bt_256 hw i; omega) hk h0
  have flt : ∀ (M1 : Nat → Nat → Int32) p z, M1 400 11 = nI t → M1 400 13 = nI p → p ≤ t → z ≤ t → M1 400 12 = nI z → (bI (C E (d + 1) 171 [vR 1 12 400] (M1, L)) fun r2 s2 => X E (d + 1) me179 9 [some (vR 1 12 400), some (vI r2)] [] s2) = some (none, (M1, L)) := by
    intro M1 p z h11 h13 hp hz h12
    obtain ⟨x, e⟩ := e171f E d L ht M1 h11 h12 hz
    rw [e, bI_s, x179_9, if_pos (by rw [h13]; exact pos_le (by omega))]
  refine rlv E L ht hsub hwf (fun M1 => bI (C E (d + 1) 171 [vR 1 12 400] (M1, L)) fun r2 s2 => X E (d + 1) me179 9 [some (vR 1 12 400), some (vI r2)] [] s2) (fun M M1 e => by rw [x179, e, bV_s]) flt ?_
  intro q s M1 hI1
  refine rlp L ht (by omega) (by omega) (fun M1 => bI (C E (d + 1) 171 [vR 1 12 400] (M1, L)) fun r2 s2 => X E (d + 1) me179 9 [some (vR 1 12 400), some (vI r2)] [] s2) ?_ flt ?_ 120 q s M1 (by omega) hI1
  · intro M i s hI hne
    show (bI (C E (d + 1) 171 [vR 1 12 400] (M, L)) fun r2 s2 => X E (d + 1) me179 9 [some (vR 1 12 400), some (vI r2)] [] s2) = _
    have n4 : ¬ (btA t w i = 42 ∨ btA t w i = 47 ∨ btA t w i = 37) := fun z => hne (lvc_4.mpr z)
    have n42 : ¬ rpk (btA t w i) = 42 := by rw [show (42 : Int32) = nI 42 from rfl, ec i 42 (by omega) (by omega)]; omega
    have n47 : ¬ rpk (btA t w i) = 47 := by rw [show (47 : Int32) = nI 47 from rfl, ec i 47 (by omega) (by omega)]; omega
    have n37 : ¬ rpk (btA t w i) = 37 := by rw [show (37 : Int32) = nI 37 from rfl, ec i 37 (by omega) (by omega)]; omega
    rw [e171 E d L ht hw M hI, bI_s, x179_9, if_neg (by rw [hI.1.2.2.2.1]; decide), if_neg n42, if_neg n47, if_neg n37]
  · intro M i s hI hi hq
    obtain ⟨M', e', o', w'⟩ := stepR E L ht (y := 182) hsub hwf M hI hi (btA t w i) (fun s4 => bI (C E (d + 1) 171 [vR 1 12 400] s4) fun r5 s5 => X E (d + 1) me179 9 [some (vR 1 12 400), some (vI r5)] [] s5)
    refine ⟨M', ?_, o', w'⟩
    have hn := rpk_n (c := btA t w i) (lvc_ne (by omega)).1
    show (bI (C E (d + 1) 171 [vR 1 12 400] (M, L)) fun r2 s2 => X E (d + 1) me179 9 [some (vR 1 12 400), some (vI r2)] [] s2) = _
    rw [e171 E d L ht hw M hI, bI_s, x179_9, if_neg (by rw [hI.1.2.2.2.1]; decide), hn]
    rcases lvc_4.mp hq with q | q | q
    · rw [q] at e' ⊢
      rw [if_pos (show nI 42 = 42 from rfl)]
      exact e'
    · rw [q] at e' ⊢
      rw [if_neg (show ¬ nI 47 = 42 by decide), if_pos (show nI 47 = 47 from rfl)]
      exact e'
    · rw [q] at e' ⊢
      rw [if_neg (show ¬ nI 37 = 42 by decide), if_neg (show ¬ nI 37 = 47 by decide), if_pos (show nI 37 = 37 from rfl)]
      exact e'
theorem w178 (D : Nat) (u u' : Option PV) (M : Nat → Nat → Int32) : X E D me178 4 [some (vR 1 12 400), u] [] (M, L) = X E D me178 4 [some (vR 1 12 400), u'] [] (M, L) := by rw [x178_4, x178_4]
theorem r178 (ht : t ≤ 120) (hw : ∀ j, j < t → w j < 256) {sub : Nat → PQ} {o : Nat} (hsub : RLS E L t w sub o (d + 1) 179 []) (hwf : ∀ i, i ≤ t → wfP t i (sub i)) : RLS E L t w (fun i => bnd (sub i) (loopP (btA t w) sub 3 120)) o (d + 2) 178 [] := by
  have ec : ∀ i k, 0 < k → k < 256 → (rpk (btA t w i) = nI k) = (btA t w i = k) := fun i k h0 hk => rpk_e (by have := bt_256 hw i; omega) hk h0
  have flt : ∀ (M1 : Nat → Nat → Int32) p z, M1 400 11 = nI t → M1 400 13 = nI p → p ≤ t → z ≤ t → M1 400 12 = nI z → X E (d + 1) me178 4 [some (vR 1 12 400), none] [] (M1, L) = some (none, (M1, L)) := by
    intro M1 p z h11 h13 hp hz h12
    rw [x178_4, if_pos (by rw [h13]; exact pos_le (by omega))]
  refine rlv E L ht hsub hwf (fun M1 => X E (d + 1) me178 4 [some (vR 1 12 400), none] [] (M1, L)) (fun M M1 e => by rw [x178, e, bV_s]) flt ?_
  intro q s M1 hI1
  refine rlp L ht (by omega) (by omega) (fun M1 => X E (d + 1) me178 4 [some (vR 1 12 400), none] [] (M1, L)) ?_ flt ?_ 120 q s M1 (by omega) hI1
  · intro M i s hI hne
    show X E (d + 1) me178 4 [some (vR 1 12 400), none] [] (M, L) = _
    have n3 : ¬ (btA t w i = 43 ∨ btA t w i = 45) := fun z => hne (lvc_3.mpr z)
    have n43 : ¬ rpk (btA t w i) = 43 := by rw [show (43 : Int32) = nI 43 from rfl, ec i 43 (by omega) (by omega)]; omega
    have n45 : ¬ rpk (btA t w i) = 45 := by rw [show (45 : Int32) = nI 45 from rfl, ec i 45 (by omega) (by omega)]; omega
    rw [x178_4, if_neg (by rw [hI.1.2.2.2.1]; decide), e171 E d L ht hw M hI, bI_s, if_neg n43, e171 E d L ht hw M hI, bI_s, if_neg n45]
  · intro M i s hI hi hq
    obtain ⟨M', e', o', w'⟩ := stepR E L ht (y := 179) hsub hwf M hI hi (btA t w i) (fun s5 => X E (d + 1) me178 4 [some (vR 1 12 400), some (vI (nI (btA t w i)))] [] s5)
    refine ⟨M', ?_, o', w'⟩
    have hn := rpk_n (c := btA t w i) (lvc_ne (by omega)).1
    show X E (d + 1) me178 4 [some (vR 1 12 400), none] [] (M, L) = X E (d + 1) me178 4 [some (vR 1 12 400), none] [] (M', L)
    have h171 := e171 E d L ht hw M hI
    rw [hn] at h171
    rw [x178_4, if_neg (by rw [hI.1.2.2.2.1]; decide), h171, bI_s]
    rw [w178 E L (d + 1) none (some (vI (nI (btA t w i)))) M']
    rcases lvc_3.mp hq with q | q
    · rw [q] at e' h171 ⊢
      rw [if_pos (show nI 43 = 43 from rfl), h171, bI_s]
      exact e'
    · rw [q] at e' h171 ⊢
      rw [if_neg (show ¬ nI 45 = 43 by decide), h171, bI_s, if_pos (show nI 45 = 45 from rfl), h171, bI_s]
      exact e'
theorem r177 (ht : t ≤ 120) (hw : ∀ j, j < t → w j < 256) {sub : Nat → PQ} {o : Nat} (hsub : RLS E L t w sub o (d + 1) 178 []) (hwf : ∀ i, i ≤ t → wfP t i (sub i)) : RLS E L t w (fun i => bnd (sub i) (loopP (btA t w) sub 2 120)) o (d + 2) 177 [] := by
  have ec : ∀ i k, 0 < k → k < 256 → (rpk (btA t w i) = nI k) = (btA t w i = k) := fun i k h0 hk => rpk_e (by have := bt_256 hw i; omega) hk h0
  intro M i s hI
  obtain ⟨M1, e1, o1⟩ := hsub M i s hI
  have hwi := hwf i hI.2.2.1
  have e1 : C E (d + 1) 178 [vR 1 12 400] (M, L) = some (none, (M1, L)) := e1
  rw [x177, e1, bV_s]
  show ∃ M', _ ∧ rO t o M M' s (bnd (sub i) (loopP (btA t w) sub 2 120))
  cases hr : sub i with
  | inl p =>
    rw [hr] at o1
    obtain ⟨f1, ⟨o13, hp⟩, z, hz, o12⟩ := o1
    obtain ⟨x, e⟩ := e171f E d L ht M1 ((f1.2 11 (by omega) (by omega) (by omega) (by omega)).trans hI.1.1) o12 hz
    refine ⟨M1, ?_, f1, ⟨o13, hp⟩, z, hz, o12⟩
    rw [e, bI_s, if_pos (show (0 : Int32) ≤ M1 400 13 by rw [o13]; exact pos_le (by omega))]
  | inr zz =>
    obtain ⟨q, xs⟩ := zz
    rw [hr] at o1 hwi
    obtain ⟨w1, w2, w3, w4⟩ := hwi
    have hsi := hI.2.2.2
    have hI1 := rO_I hI o1 w2 (by omega)
    have h171 := e171 E d L ht hw M1 hI1
    rw [h171, bI_s, if_neg (show ¬ (0 : Int32) ≤ M1 400 13 by rw [hI1.1.2.2.2.1]; decide)]
    by_cases h2 : lvc (btA t w q) = 2
    · have hq : q < t := bt_lt (w := w) (by have := (lvc_ne (x := btA t w q) (by omega)).1; omega)
      obtain ⟨M2, e2, o2, v2⟩ := stepR E L ht (y := 178) hsub hwf M1 hI1 hq (btA t w q) (fun s4 => some (none, s4))
      have hn := rpk_n (c := btA t w q) (lvc_ne (by omega)).1
      refine ⟨M2, ?_, rO_seq o1 ?_⟩
      · rw [hn]
        rcases lvc_2.mp h2 with z | z | z
        · rw [z] at e2 ⊢
          rw [if_pos (show nI 60 = 60 from rfl)]
          exact e2
        · rw [z] at e2 ⊢
          rw [if_neg (show ¬ nI 61 = 60 by decide), if_pos (show nI 61 = 61 from rfl)]
          exact e2
        · rw [z] at e2 ⊢
          rw [if_neg (show ¬ nI 62 = 60 by decide), if_neg (show ¬ nI 62 = 61 by decide), if_pos (show nI 62 = 62 from rfl)]
          exact e2
      · rw [loopP_s, if_pos h2]
        cases hr2 : bnd (sub (q + 1)) (fun z => .inr (z, [btA t w q])) with
        | inl p => rw [hr2] at o2; exact o2
        | inr zz =>
          obtain ⟨q2, ys⟩ := zz
          rw [hr2] at o2 v2
          obtain ⟨v3, v4, v5⟩ := v2
          have hsi1 := hI1.2.2.2
          refine rO_seq o2 ?_
          rw [if_pos rfl]
          exact rO_nil (rO_I hI1 o2 v4 (by omega))
    · have n2 : ¬ (btA t w q = 60 ∨ btA t w q = 61 ∨ btA t w q = 62) := fun z => h2 (lvc_2.mpr z)
      have n60 : ¬ rpk (btA t w q) = 60 := by rw [show (60 : Int32) = nI 60 from rfl, ec q 60 (by omega) (by omega)]; omega
      have n61 : ¬ rpk (btA t w q) = 61 := by rw [show (61 : Int32) = nI 61 from rfl, ec q 61 (by omega) (by omega)]; omega
      have n62 : ¬ rpk (btA t w q) = 62 := by rw [show (62 : Int32) = nI 62 from rfl, ec q 62 (by omega) (by omega)]; omega
      rw [if_neg n60, if_neg n61, if_neg n62]
      refine ⟨M1, rfl, rO_seq o1 ?_⟩
      rw [loopP_end h2]
      exact rO_nil hI1
theorem r176 (ht : t ≤ 120) (hw : ∀ j, j < t → w j < 256) {sub : Nat → PQ} {o : Nat} (hsub : RLS E L t w sub o (d + 2) 177 []) (hwf : ∀ i, i ≤ t → wfP t i (sub i)) : RLS E L t w (fun i => bnd (sub i) (loopP (btA t w) sub 1 120)) o (d + 3) 176 [] := by
  have flt : ∀ (M1 : Nat → Nat → Int32) p z, M1 400 11 = nI t → M1 400 13 = nI p → p ≤ t → z ≤ t → M1 400 12 = nI z → X E (d + 2) me176 4 [some (vR 1 12 400)] [] (M1, L) = some (none, (M1, L)) := by
    intro M1 p z h11 h13 hp hz h12
    rw [x176_4, e173f E (d + 1) L M1 (p := p) (by omega) h13, bI_s, if_pos rfl]
  refine rlv E L ht hsub hwf (fun M1 => X E (d + 2) me176 4 [some (vR 1 12 400)] [] (M1, L)) (fun M M1 e => by rw [x176, e, bV_s]) flt ?_
  intro q s M1 hI1
  refine rlp L ht (by omega) (by omega) (fun M1 => X E (d + 2) me176 4 [some (vR 1 12 400)] [] (M1, L)) ?_ flt ?_ 120 q s M1 (by omega) hI1
  · intro M i s hI hne
    show X E (d + 2) me176 4 [some (vR 1 12 400)] [] (M, L) = _
    have h173 := e173 E d L ht hw M hI (k := 38) (by omega) (by omega)
    rw [if_neg (fun z => hne (lvc_1.mpr z))] at h173
    have h173 : C E (d + 2) 173 [vR 1 12 400, vI (38 : Int32)] (M, L) = _ := h173
    rw [x176_4, h173, bI_s, if_pos rfl]
  · intro M i s hI hi hq
    obtain ⟨M', e', o', w'⟩ := stepR E L ht (y := 177) hsub hwf M hI hi (btA t w i) (fun s5 => X E (d + 2) me176 4 [some (vR 1 12 400)] [] s5)
    refine ⟨M', ?_, o', w'⟩
    show X E (d + 2) me176 4 [some (vR 1 12 400)] [] (M, L) = X E (d + 2) me176 4 [some (vR 1 12 400)] [] (M', L)
    have h173 := e173 E d L ht hw M hI (k := 38) (by omega) (by omega)
    rw [if_pos (lvc_1.mp hq)] at h173
    have h173 : C E (d + 2) 173 [vR 1 12 400, vI (38 : Int32)] (M, L) = _ := h173
    rw [lvc_1.mp hq] at e'
    rw [x176_4, h173, bI_s, if_neg (by decide)]
    exact e'
theorem r175 (ht : t ≤ 120) (hw : ∀ j, j < t → w j < 256) {sub : Nat → PQ} {o : Nat} (hsub : RLS E L t w sub o (d + 2) 176 []) (hwf : ∀ i, i ≤ t → wfP t i (sub i)) : RLS E L t w (fun i => bnd (sub i) (loopP (btA t w) sub 0 120)) o (d + 3) 175 [] := by
  have flt : ∀ (M1 : Nat → Nat → Int32) p z, M1 400 11 = nI t → M1 400 13 = nI p → p ≤ t → z ≤ t → M1 400 12 = nI z → X E (d + 2) me175 4 [some (vR 1 12 400)] [] (M1, L) = some (none, (M1, L)) := by
    intro M1 p z h11 h13 hp hz h12
    rw [x175_4, e173f E (d + 1) L M1 (p := p) (by omega) h13, bI_s, if_pos rfl]
  refine rlv E L ht hsub hwf (fun M1 => X E (d + 2) me175 4 [some (vR 1 12 400)] [] (M1, L)) (fun M M1 e => by rw [x175, e, bV_s]) flt ?_
  intro q s M1 hI1
  refine rlp L ht (by omega) (by omega) (fun M1 => X E (d + 2) me175 4 [some (vR 1 12 400)] [] (M1, L)) ?_ flt ?_ 120 q s M1 (by omega) hI1
  · intro M i s hI hne
    show X E (d + 2) me175 4 [some (vR 1 12 400)] [] (M, L) = _
    have h173 := e173 E d L ht hw M hI (k := 124) (by omega) (by omega)
    rw [if_neg (fun z => hne (lvc_0.mpr z))] at h173
    have h173 : C E (d + 2) 173 [vR 1 12 400, vI (124 : Int32)] (M, L) = _ := h173
    rw [x175_4, h173, bI_s, if_pos rfl]
  · intro M i s hI hi hq
    obtain ⟨M', e', o', w'⟩ := stepR E L ht (y := 176) hsub hwf M hI hi (btA t w i) (fun s5 => X E (d + 2) me175 4 [some (vR 1 12 400)] [] s5)
    refine ⟨M', ?_, o', w'⟩
    show X E (d + 2) me175 4 [some (vR 1 12 400)] [] (M, L) = X E (d + 2) me175 4 [some (vR 1 12 400)] [] (M', L)
    have h173 := e173 E d L ht hw M hI (k := 124) (by omega) (by omega)
    rw [if_pos (lvc_0.mp hq)] at h173
    have h173 : C E (d + 2) 173 [vR 1 12 400, vI (124 : Int32)] (M, L) = _ := h173
    rw [lvc_0.mp hq] at e'
    rw [x175_4, h173, bI_s, if_neg (by decide)]
    exact e'
/-- all levels over one -/
theorem r175E (ht : t ≤ 120) (hw : ∀ j, j < t → w j < 256) {op : Nat → PQ} {o : Nat} (hop : RLS E L t w op o (d + 1) 182 []) (hwf : ∀ i, i ≤ t → wfP t i (op i)) : RLS E L t w (clP (btA t w) op 5) o (d + 6) 175 [] := by
  have c := fun r (hr : r ≤ 5) => wf_cl (w := w) hwf r hr
  have h1 := r179 E d L ht hw hop hwf
  have h2 := r178 E (d + 1) L ht hw (sub := clP (btA t w) op 1) h1 (c 1 (by omega))
  have h3 := r177 E (d + 2) L ht hw (sub := clP (btA t w) op 2) h2 (c 2 (by omega))
  have h4 := r176 E (d + 2) L ht hw (sub := clP (btA t w) op 3) h3 (c 3 (by omega))
  have h5 := r175 E (d + 3) L ht hw (sub := clP (btA t w) op 4) h4 (c 4 (by omega))
  exact h5
end RLEV
