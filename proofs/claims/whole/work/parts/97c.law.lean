/-! the text of a law: the class's reading, what stands in brackets, and a line's end -/
theorem cO_flt {t : Nat} {w : Nat → Nat} {M : Nat → Nat → Int32} {i s : Nat} (ht : t ≤ 120) (h : cI t w M i s) : cO M (u2 M 70 6 (M 70 5)) s (.inl i) :=
  ⟨⟨fun c h1 _ _ => u2_o h1, u2_n (by omega)⟩, by rw [u2_s]; exact h.1.2.1, s, by have := h.2.2.1; have := h.2.2.2; omega, by rw [u2_n (by omega)]; exact h.1.2.2.1⟩
theorem cO_nil {t : Nat} {w : Nat → Nat} {M : Nat → Nat → Int32} {i s : Nat} (h : cI t w M i s) : cO M M s (.inr (i, [])) := ⟨cF.re M, ⟨h.1.2.2.2, h.1.2.1, h.1.2.2.1, trivial⟩, fun _ _ => ⟨rfl, rfl⟩⟩
section CREAD2
variable (E : Nat × (Nat → Int32)) (d : Nat) (L : Nat → Nat → Int64) {t : Nat} {w : Nat → Nat}
theorem cl73 (ht : t ≤ 120) (hw : ∀ j, j < t → w j < 256) {cl : Nat → PQ} {o : Nat} (hcl : CLS E L t w cl (d + 1) 71 [vI (nI 0), vI (nI o)]) (hwf : ∀ i, i ≤ t → wfP t i (cl i)) : CLS E L t w (fun i => bnd (cl i) (clsP (btA t w))) (d + 2) 73 [vI (nI o)] := by
  intro M i s hI
  obtain ⟨M1, e1, o1⟩ := hcl M i s hI
  have e1 : C E (d + 1) 71 [vR 1 7 70, vI (0 : Int32), vI (nI o)] (M, L) = some (none, (M1, L)) := e1
  rw [x73, e1, bV_s]
  have hwi := hwf i hI.2.2.1
  show ∃ M', _ ∧ cO M M' s (bnd (cl i) (clsP (btA t w)))
  cases hr : cl i with
  | inl p =>
    rw [hr] at o1 hwi
    have hp : p ≤ t := hwi
    refine ⟨M1, ?_, o1⟩
    dsimp only
    rw [if_pos (show (0 : Int32) ≤ M1 70 6 by rw [o1.2.1, t_le, t_0, t_nI (by omega)]; omega)]
  | inr zz =>
    obtain ⟨q, xs⟩ := zz
    rw [hr] at o1 hwi
    obtain ⟨w1, w2, w3, w4'⟩ := hwi
    have hsi := hI.2.2.2
    have hI2 := cO_I hI o1 w2 (by omega)
    dsimp only
    rw [if_neg (show ¬ (0 : Int32) ≤ M1 70 6 by rw [hI2.1.2.2.2]; decide), e68 E d L ht hw M1 hI2, bI_s]
    have e41 : (cpk (btA t w q) = 41) = (btA t w q = 41) := cpk_e (k := 41) (by have := bt_256 hw q; omega) (by omega)
    by_cases h41 : btA t w q = 41
    · rw [if_pos (by rw [e41]; exact h41)]
      have hq : q < t := bt_lt (w := w) (by omega)
      refine ⟨_, rfl, cO_seq o1 ?_⟩
      unfold clsP
      rw [if_pos h41]
      exact cO_adv (x := M1 70 5 + 1) (cO_nil (cI_adv hI2 hq))
    · rw [if_neg (by rw [e41]; exact h41)]
      refine ⟨_, rfl, cO_seq o1 ?_⟩
      unfold clsP
      rw [if_neg h41]
      exact cO_flt ht hI2
theorem opc72 (ht : t ≤ 120) (hw : ∀ j, j < t → w j < 256) {sub : Nat → PQ} {may : Bool} {o : Nat} (ho : o ≤ 6) (hwf : ∀ i, i ≤ t → wfP t i (sub i)) (hy : may = true → o < 6 ∧ CLS E L t w sub (d + 3) 72 [vI (nI (o + 1))] ∧ CLS E L t w (fun i => bnd (clP (btA t w) sub 5 i) (clsP (btA t w))) (d + 3) 73 [vI (nI (o + 1))]) (hn : may = false → o = 6) : CLS E L t w (opR (btA t w) sub may) (d + 4) 72 [vI (nI o)] := by
  intro M i s hI
  have hc := bt_256 hw i
  have hx := e68 E (d + 2) L ht hw M hI
  have ec : ∀ k, k < 256 → (cpk (btA t w i) = nI k) = (btA t w i = k) := fun k hk => cpk_e (by omega) hk
  have e40 : (cpk (btA t w i) = 40) = (btA t w i = 40) := ec 40 (by omega)
  have e33 : (cpk (btA t w i) = 33) = (btA t w i = 33) := ec 33 (by omega)
  have e45 : (cpk (btA t w i) = 45) = (btA t w i = 45) := ec 45 (by omega)
  rw [x72, hx, bI_s, e75c E _ L M hc, bI_s]
  unfold opR
  by_cases q1 : isD (btA t w i) = true
  · rw [if_pos q1, if_neg (by decide), if_pos q1]
    obtain ⟨M', e', o'⟩ := e74 E (d + 1) L ht hw M i s hI
    exact ⟨M', by rw [e', bV_s], o'⟩
  · rw [if_neg q1, if_pos rfl, e76 E _ L M hc, bI_s, if_neg q1]
    by_cases q2 : nmo (btA t w i) < 9
    · have h6 := nmo_6 _ hc q2
      have hi : i < t := bt_lt (w := w) (fun z => by rw [z] at q2; exact absurd q2 (by decide))
      have en : nmI (btA t w i) = nI (nmo (btA t w i)) := by unfold nmI; rw [if_pos q2]
      rw [en, if_neg (nI_pos (by omega)), e76 E _ L _ hc, bI_s, en, if_pos q2]
      obtain ⟨M', e', o'⟩ := e69c E (d + 2) L ht _ (cI_adv hI hi) (256 + nmo (btA t w i)) (a := 1) (b := nI (nmo (btA t w i))) (by unfold stI; rw [if_neg (by omega), if_pos (by omega)]) (by unfold vlu; rw [if_neg (by omega), if_pos (by omega), Nat.add_sub_cancel_left])
      exact ⟨M', by rw [e', bV_s], cO_adv o'⟩
    · have en : nmI (btA t w i) = -1 := by unfold nmI; rw [if_neg q2]
      rw [en, if_pos (by decide), if_neg q2]
      have flt : ¬ ((btA t w i = 40 ∨ btA t w i = 33 ∨ btA t w i = 45) ∧ may = true) → ∃ M', (some (none, (u2 M 70 6 (M 70 5), L)) : PR) = some (none, (M', L)) ∧ cO M M' s (if (btA t w i = 40 ∨ btA t w i = 33 ∨ btA t w i = 45) ∧ may = true then (if btA t w i = 40 then bnd (clP (btA t w) sub 5 (i + 1)) (clsP (btA t w)) else bnd (sub (i + 1)) (fun q => .inr (q, [if btA t w i = 45 then 110 else 33]))) else .inl i) := fun z => by
        rw [if_neg z]
        exact ⟨_, rfl, cO_flt ht hI⟩
      -- a sign ahead
      have un : ∀ (x : Nat) (a : Int32), a = stI x → (0 : Int32) = vlu x → may = true → i < t → ∃ M', (bV (C E (d + 3) 72 [vR 1 7 70, vI (nI o + 1)] (u2 M 70 5 (M 70 5 + 1), L)) fun s5 => bV (C E (d + 3) 69 [vR 1 7 70, vI a, vI (0 : Int32)] s5) fun s6 => some (none, s6)) = some (none, (M', L)) ∧ cO M M' s (bnd (sub (i + 1)) (fun q => .inr (q, [x]))) := by
        intro x a ha hb hm hi
        obtain ⟨y1, y2, y3⟩ := hy hm
        have hI1 := cI_adv hI hi
        obtain ⟨M1, e1, o1⟩ := y2 _ (i + 1) s hI1
        rw [nI_1, e1, bV_s]
        have hwi := hwf (i + 1) hi
        cases hr : sub (i + 1) with
        | inl p =>
          rw [hr] at o1
          obtain ⟨of1, o6, z, hz, o4⟩ := o1
          obtain ⟨M2, e2, f2, g6, g4⟩ := e69f E (d + 2) L M1 o4 hz o6 a 0
          exact ⟨M2, by rw [e2, bV_s], cO_adv (x := M 70 5 + 1) ⟨of1.tr f2, g6, g4⟩⟩
        | inr zz =>
          obtain ⟨q, xs⟩ := zz
          rw [hr] at o1 hwi
          obtain ⟨w1, w2, w3, w4'⟩ := hwi
          have hsi := hI.2.2.2
          have hI2 := cO_I hI1 o1 w2 (by omega)
          obtain ⟨M2, e2, o2⟩ := e69c E (d + 2) L ht M1 hI2 x ha hb
          exact ⟨M2, by rw [e2, bV_s], cO_adv (x := M 70 5 + 1) (cO_seq (f := fun q => .inr (q, [x])) o1 o2)⟩
      have h6o : may = true → ¬ (6 : Int32) ≤ nI o := fun hm => nI_ge (b := 6) (hy hm).1 (by omega)
      have h6y : may = false → (6 : Int32) ≤ nI o := fun hm => nI_le (a := 6) (by rw [hn hm]; omega) (by omega)
      by_cases c40 : btA t w i = 40
      · have hi : i < t := bt_lt (w := w) (by omega)
        rw [if_pos (by rw [e40]; exact c40)]
        cases hm : may with
        | false =>
          rw [if_pos (h6y hm)]
          have := flt (by rw [hm]; simp)
          rw [hm] at this
          exact this
        | true =>
          rw [if_neg (h6o hm), if_pos (by rw [e40]; exact c40), if_pos ⟨Or.inl c40, rfl⟩, if_pos c40]
          obtain ⟨y1, y2, y3⟩ := hy hm
          obtain ⟨M1, e1, o1⟩ := y3 _ (i + 1) s (cI_adv hI hi)
          dsimp only
          rw [nI_1, e1, bV_s]
          exact ⟨M1, rfl, cO_adv o1⟩
      · rw [if_neg (by rw [e40]; exact c40)]
        by_cases c33 : btA t w i = 33
        · have hi : i < t := bt_lt (w := w) (by omega)
          rw [if_pos (by rw [e33]; exact c33)]
          cases hm : may with
          | false =>
            rw [if_pos (h6y hm)]
            have := flt (by rw [hm]; simp)
            rw [hm] at this
            exact this
          | true =>
            rw [if_neg (h6o hm), if_neg (by rw [e40]; exact c40), if_pos ⟨Or.inr (Or.inl c33), rfl⟩, if_neg c40, if_neg (show ¬ btA t w i = 45 by omega)]
            simp only [if_pos (show cpk (btA t w i) = 33 by rw [e33]; exact c33)]
            exact un 33 5 (by decide) (by decide) hm hi
        · rw [if_neg (by rw [e33]; exact c33)]
          by_cases c45 : btA t w i = 45
          · have hi : i < t := bt_lt (w := w) (by omega)
            rw [if_pos (by rw [e45]; exact c45)]
            cases hm : may with
            | false =>
              rw [if_pos (h6y hm)]
              have := flt (by rw [hm]; simp)
              rw [hm] at this
              exact this
            | true =>
              rw [if_neg (h6o hm), if_neg (by rw [e40]; exact c40), if_pos ⟨Or.inr (Or.inr c45), rfl⟩, if_neg c40, if_pos c45]
              simp only [if_neg (show ¬ cpk (btA t w i) = 33 by rw [e33]; exact c33)]
              exact un 110 4 (by decide) (by decide) hm hi
          · rw [if_neg (by rw [e45]; exact c45)]
            exact flt (fun z => by rcases z.1 with q | q | q <;> omega)
theorem op72 (ht : t ≤ 120) (hw : ∀ j, j < t → w j < 256) : ∀ m, m ≤ 6 → ∀ d, CLS E L t w (opP (btA t w) m) (d + 8 * m + 4) 72 [vI (nI (6 - m))] := by
  intro m
  induction m with
  | zero =>
    intro _ d
    exact opc72 E d L ht hw (sub := fun i => .inl i) (may := false) (o := 6) (by omega) (fun i h => h) (fun h => absurd h (by decide)) (fun _ => rfl)
  | succ m ih =>
    intro hm d
    have ih := ih (by omega)
    have hwf := wf_op (t := t) (w := w) m
    have hE := cl71 E (d + 8 * m + 3) L ht hw (o := 6 - m) (ih d) hwf 5 (Nat.le_refl _)
    have h73 := cl73 E (d + 8 * m + 9) L ht hw (o := 6 - m) hE (wf_cl hwf 5 (Nat.le_refl _))
    have up := ih (d + 7)
    rw [show d + 7 + 8 * m + 4 = d + 8 * m + 8 + 3 by omega] at up
    have := opc72 E (d + 8 * m + 8) L ht hw (sub := opP (btA t w) m) (may := true) (o := 6 - (m + 1)) (by omega) hwf (fun _ => ⟨by omega, by
      rw [show 6 - (m + 1) + 1 = 6 - m by omega]; exact up, by
      rw [show 6 - (m + 1) + 1 = 6 - m by omega]; exact h73⟩) (fun h => absurd h (by decide))
    exact this
/-- a whole E -/
theorem e71E (ht : t ≤ 120) (hw : ∀ j, j < t → w j < 256) : CLS E L t w (clP (btA t w) (opP (btA t w) 6) 5) (d + 58) 71 [vI (0 : Int32), vI (0 : Int32)] := by
  have := cl71 E (d + 51) L ht hw (o := 0) (op72 E L ht hw 6 (Nat.le_refl _) d) (wf_op 6) 5 (Nat.le_refl _)
  exact this
end CREAD2
