/-! the text of a law: the reference's operands -/
theorem bnd_ii {q q' : Nat} {xs ys : List Nat} {f : Nat → PQ} (h : f q = .inr (q', ys)) : bnd (.inr (q, xs)) f = .inr (q', xs ++ ys) := by
  unfold bnd
  simp only [h]
theorem bnd_il {q p : Nat} {xs : List Nat} {f : Nat → PQ} (h : f q = .inl p) : bnd (.inr (q, xs)) f = .inl p := by
  unfold bnd
  simp only [h]
theorem rO_o {t o o' : Nat} {M M' : Nat → Nat → Int32} {s q : Nat} {xs : List Nat} (h : rO t o M M' s (.inr (q, xs))) : rO t o' M (u2 M' 400 14 (nI o')) s (.inr (q, xs)) := by
  obtain ⟨a, ⟨b1, b2, b3, b4, b5⟩, c⟩ := h
  refine ⟨a.tr (rFr.u M' (by omega) _), ⟨by rw [u2_n (by omega)]; exact b1, by rw [u2_n (by omega)]; exact b2, by rw [u2_n (by omega)]; exact b3, u2_s, ?_⟩, fun j hj => ?_⟩
  · rw [u2_o (by omega)]; exact b5
  · rw [u2_o (by omega)]; exact c j hj
theorem rO_of {t o o' : Nat} {M M' : Nat → Nat → Int32} {s p : Nat} (h : rO t o M M' s (.inl p)) : rO t o' M M' s (.inl p) := h
theorem rO_13 {t o : Nat} {M M' : Nat → Nat → Int32} {s p : Nat} (h : rO t o M M' s (.inl p)) : rO t o M (u2 M' 400 13 (M' 400 13)) s (.inl p) := by
  obtain ⟨a, ⟨b1, b2⟩, z, hz, b3⟩ := h
  exact ⟨a.tr (rFr.u M' (by omega) _), ⟨by rw [u2_s]; exact b1, b2⟩, z, hz, by rw [u2_n (by omega)]; exact b3⟩
theorem rO_14 {t o : Nat} {M M' : Nat → Nat → Int32} {s p : Nat} {x : Int32} (h : rO t o M M' s (.inl p)) : rO t o M (u2 M' 400 14 x) s (.inl p) := by
  obtain ⟨a, ⟨b1, b2⟩, z, hz, b3⟩ := h
  exact ⟨a.tr (rFr.u M' (by omega) _), ⟨by rw [u2_n (by omega)]; exact b1, b2⟩, z, hz, by rw [u2_n (by omega)]; exact b3⟩
theorem rI_opn {t : Nat} {w : Nat → Nat} {o : Nat} {M : Nat → Nat → Int32} {i s : Nat} (h : rI t w o M i s) (hi : i < t) : rI t w (o + 1) (u2 (u2 M 400 14 (nI (o + 1))) 400 12 (nI (i + 1))) (i + 1) s :=
  ⟨⟨by rw [u2_n (by omega), u2_n (by omega)]; exact h.1.1, u2_s, by rw [u2_n (by omega), u2_n (by omega)]; exact h.1.2.2.1, by rw [u2_n (by omega), u2_n (by omega)]; exact h.1.2.2.2.1, by rw [u2_n (by omega), u2_s]⟩, fun j hj => by rw [u2_o (by omega), u2_o (by omega)]; exact h.2.1 j hj, hi, by have := h.2.2.2; omega⟩
section ROP
variable (E : Nat × (Nat → Int32)) (d : Nat) (L : Nat → Nat → Int64) {t : Nat} {w : Nat → Nat}
theorem dgl182 (ht : t ≤ 120) (hw : ∀ j, j < t → w j < 256) {o : Nat} (x1 x2 : Int32) : ∀ k, k ≤ 3 → ∀ v i s (M : Nat → Nat → Int32), rI t w o M i s → s < i → ∃ M', X E (d + 1) me182 71 [some (vR 1 12 400), some (vI x1), some (vI x2), some (vI (nI v)), some (vI (nI (4 - k)))] [] (M, L) = some (none, (M', L)) ∧ rO t o M M' s (.inr ((dig (btA t w) k v i).1, [1000 + (dig (btA t w) k v i).2])) := by
  have lay : ∀ v i s (M : Nat → Nat → Int32), rI t w o M i s → s < i → ∃ M', (bV (C E (d + 1) 174 [vR 1 12 400, vI ((1000 : Int32) + nI v)] (M, L)) fun s8 => some (none, s8)) = some (none, (M', L)) ∧ rO t o M M' s (.inr (i, [1000 + v])) := by
    intro v i s M hI hs
    obtain ⟨M', e', o'⟩ := e174 E d L ht M hI hs (1000 + v)
    refine ⟨M', ?_, o'⟩
    rw [show (1000 : Int32) + nI v = nI (1000 + v) from nI_add 1000 v, e', bV_s]
  intro k
  induction k with
  | zero =>
    intro _ v i s M hI hs
    obtain ⟨M', e', o'⟩ := lay v i s M hI hs
    refine ⟨M', ?_, o'⟩
    rw [x182_71, if_pos (show (4 : Int32) ≤ nI (4 - 0) by decide), if_neg (show ¬ nI (4 - 0) = 0 by decide)]
    exact e'
  | succ k ih =>
    intro hk v i s M hI hs
    have hc := bt_256 hw i
    have hx := e171 E d L ht hw M hI
    have hr := rgt _ hc
    have hz : ¬ nI (4 - (k + 1)) = 0 := fun z => by have := nI_inj (b := 0) (by omega) (by omega) z; omega
    rw [x182_71, if_neg (show ¬ (4 : Int32) ≤ nI (4 - (k + 1)) from nI_ge (b := 4) (by omega) (by omega)), hx, bI_s]
    unfold dig
    by_cases q : isD (btA t w i) = true
    · obtain ⟨q1, q2⟩ := isD_t.mp q
      have hi : i < t := bt_lt (w := w) (by omega)
      have hcp := rpk_n (c := btA t w i) (by omega)
      rw [q] at hr
      rw [Bool.not_true, Bool.or_eq_false_iff] at hr
      rw [if_neg (of_decide_eq_false hr.1), hx, bI_s, if_neg (of_decide_eq_false hr.2), hx, bI_s, if_pos q, hcp, nI_1]
      have e10 : ((10 : Int32) * nI v + nI (btA t w i)) - 48 = nI (10 * v + (btA t w i - 48)) := by
        rw [Int32.mul_comm]; exact dgv v _ q1
      rw [e10]
      obtain ⟨M', e', o'⟩ := ih (by omega) (10 * v + (btA t w i - 48)) (i + 1) s _ (rI_adv hI hi) (by omega)
      refine ⟨M', ?_, rO_u (by omega) o'⟩
      rw [show 4 - (k + 1) + 1 = 4 - k by omega]
      exact e'
    · rw [f_of q, Bool.not_false] at hr
      rw [if_neg q]
      by_cases h48 : rpk (btA t w i) < 48
      · rw [if_pos h48, if_neg hz]
        exact lay v i s M hI hs
      · rw [if_neg h48, hx, bI_s, if_pos (by
          rw [decide_eq_false h48, Bool.false_or] at hr
          exact of_decide_eq_true hr), if_neg hz]
        exact lay v i s M hI hs
theorem r181 (ht : t ≤ 120) (hw : ∀ j, j < t → w j < 256) {sub : Nat → PQ} {may : Bool} {o : Nat} (ho : o ≤ 6) (hwf : ∀ i, i ≤ t → wfP t i (sub i)) (hy : may = true → o < 6 ∧ RLS E L t w sub (o + 1) (d + 3) 182 [] ∧ RLS E L t w (clP (btA t w) sub 5) (o + 1) (d + 3) 175 []) (hn : may = false → o = 6) {c : Nat} (hc : c = 40 ∨ c = 33 ∨ c = 45) (M : Nat → Nat → Int32) {i s : Nat} (hI : rI t w o M i s) (hi : i < t) :
    ∃ M', C E (d + 4) 181 [vR 1 12 400, vI (nI c)] (M, L) = some (none, (M', L)) ∧ rO t o M M' s (if may = true then (if c = 40 then bnd (clP (btA t w) sub 5 (i + 1)) (clsP (btA t w)) else bnd (sub (i + 1)) (fun q => .inr (q, [if c = 45 then 110 else 33]))) else .inl i) := by
  have h14 := hI.1.2.2.2.2
  cases hm : may with
  | false =>
    refine ⟨u2 M 400 13 (M 400 12), ?_, ?_⟩
    · rw [x181, h14, hn hm, if_pos (show nI 6 = 6 from rfl), e172 E (d + 2) L M hI.1.2.2.2.1, bV_s]
    · rw [if_neg (by decide)]
      exact rO_flt hI
  | true =>
    obtain ⟨y1, y2, y3⟩ := hy hm
    have hI1 := rI_opn hI hi
    have n6 : ¬ nI o = (6 : Int32) := fun z => by have := nI_inj (b := 6) (by omega) (by omega) z; omega
    have st : u2 (u2 M 400 14 (M 400 14 + 1)) 400 12 (u2 M 400 14 (M 400 14 + 1) 400 12 + 1) = u2 (u2 M 400 14 (nI (o + 1))) 400 12 (nI (i + 1)) := by
      rw [h14, nI_1, u2_n (i := 12) (by omega), hI.1.2.1, nI_1]
    have po : nI (o + 1) - 1 = nI o := nI_pred o
    rw [if_pos rfl]
    rw [x181, if_neg (by rw [h14]; exact n6), st]
    by_cases c40 : c = 40
    · rw [c40, if_pos (show nI 40 = 40 from rfl), if_pos rfl]
      obtain ⟨M2, e2, o2⟩ := y3 _ (i + 1) s hI1
      have e2 : C E (d + 3) 175 [vR 1 12 400] (u2 (u2 M 400 14 (nI (o + 1))) 400 12 (nI (i + 1)), L) = some (none, (M2, L)) := e2
      rw [e2, bV_s]
      have hwi := wf_cl (w := w) hwf 5 (Nat.le_refl _) (i + 1) hi
      cases hr : clP (btA t w) sub 5 (i + 1) with
      | inl p =>
        rw [hr] at o2 hwi
        have hp : p ≤ t := hwi
        refine ⟨u2 M2 400 13 (M2 400 13), ?_, rO_13 (rO_u (by omega) (rO_u (by omega) o2))⟩
        rw [e173f E (d + 2) L M2 (p := p) (by omega) o2.2.1.1, bI_s, if_pos rfl, e172f E (d + 2) L M2 (p := p) (by omega) o2.2.1.1, bV_s]
      | inr zz =>
        obtain ⟨q, xs⟩ := zz
        rw [hr] at o2 hwi
        obtain ⟨w1, w2, w3, w4⟩ := hwi
        have hsi := hI.2.2.2
        have hI2 := rO_I hI1 o2 w2 (by omega)
        have h173 := e173 E (d + 1) L ht hw M2 hI2 (k := 41) (by omega) (by omega)
        have h173 : C E (d + 3) 173 [vR 1 12 400, vI (41 : Int32)] (M2, L) = _ := h173
        rw [h173]
        have o2' := rO_u (t := t) (o := o + 1) (by omega : (14 : Nat) = 12 ∨ 14 = 13 ∨ 14 = 14 ∨ 14 = 19) (rO_u (by omega) o2)
        by_cases h41 : btA t w q = 41
        · have hq : q < t := bt_lt (w := w) (by omega)
          rw [if_pos h41, bI_s, if_neg (by decide)]
          have o3 := rO_seq (f := clsP (btA t w)) o2' (M2 := u2 M2 400 12 (M2 400 12 + 1)) (by
            unfold clsP
            rw [if_pos h41]
            exact rO_u (x := M2 400 12 + 1) (by omega) (rO_nil (rI_adv hI2 hq)))
          have e14 : u2 M2 400 12 (M2 400 12 + 1) 400 14 = nI (o + 1) := by rw [u2_n (by omega)]; exact hI2.1.2.2.2.2
          refine ⟨u2 (u2 M2 400 12 (M2 400 12 + 1)) 400 14 (nI o), ?_, ?_⟩
          · dsimp only
            rw [e14, po]
          · have eb : bnd (.inr (q, xs)) (clsP (btA t w)) = .inr (q + 1, xs ++ []) := by
              have ecl : clsP (btA t w) q = .inr (q + 1, []) := by unfold clsP; rw [if_pos h41]
              exact bnd_ii ecl
            rw [eb] at o3 ⊢
            exact rO_o o3
        · rw [if_neg h41, bI_s, if_pos rfl, e172 E (d + 2) L M2 hI2.1.2.2.2.1, bV_s]
          have eb : bnd (.inr (q, xs)) (clsP (btA t w)) = .inl q := by
            have ecl : clsP (btA t w) q = .inl q := by unfold clsP; rw [if_neg h41]
            exact bnd_il ecl
          rw [eb]
          exact ⟨_, rfl, o2'.1.tr (rFr.u M2 (by omega) _), ⟨by rw [u2_s]; exact hI2.1.2.1, w2⟩, q, w2, by rw [u2_n (by omega)]; exact hI2.1.2.1⟩
    · have n40 : ¬ nI c = (40 : Int32) := fun z => c40 (nI_inj (b := 40) (by omega) (by omega) z)
      rw [if_neg n40, if_neg c40]
      obtain ⟨M2, e2, o2⟩ := y2 _ (i + 1) s hI1
      have e2 : C E (d + 3) 182 [vR 1 12 400] (u2 (u2 M 400 14 (nI (o + 1))) 400 12 (nI (i + 1)), L) = some (none, (M2, L)) := e2
      rw [e2, bV_s]
      have hwi := hwf (i + 1) hi
      -- what is laid
      have fin : ∀ (a : Int32) x, a = nI x → ∃ M', (bV (C E (d + 3) 174 [vR 1 12 400, vI a] (M2, L)) fun s6 => some (none, (u2 s6.1 400 14 (s6.1 400 14 - 1), s6.2))) = some (none, (M', L)) ∧ rO t o M M' s (bnd (sub (i + 1)) (fun q => .inr (q, [x]))) := by
        intro a x ha
        cases hr : sub (i + 1) with
        | inl p =>
          rw [hr] at o2 hwi
          have hp : p ≤ t := hwi
          refine ⟨_, ?_, rO_14 (x := M2 400 14 - 1) (rO_u (by omega) (rO_u (by omega) o2))⟩
          rw [e174f E (d + 2) L M2 (p := p) (by omega) o2.2.1.1, bV_s]
        | inr zz =>
          obtain ⟨q, xs⟩ := zz
          rw [hr] at o2 hwi
          obtain ⟨w1, w2, w3, w4⟩ := hwi
          have hsi := hI.2.2.2
          have hI2 := rO_I hI1 o2 w2 (by omega)
          obtain ⟨M3, e3, o3⟩ := e174 E (d + 2) L ht M2 hI2 (by omega) x
          have o23 := rO_u (t := t) (o := o + 1) (by omega : (14 : Nat) = 12 ∨ 14 = 13 ∨ 14 = 14 ∨ 14 = 19) (rO_u (by omega) (rO_seq (f := fun q => .inr (q, [x])) o2 o3))
          refine ⟨u2 M3 400 14 (nI o), ?_, rO_o o23⟩
          rw [ha, e3, bV_s]
          dsimp only
          rw [o3.2.1.2.2.2.1, po]
      rcases hc with h | h | h
      · exact absurd h c40
      · rw [h, if_neg (show ¬ nI 33 = 45 by decide), if_neg (by decide)]
        exact fin (nI 33) 33 rfl
      · rw [h, if_pos (show nI 45 = 45 from rfl), if_pos rfl]
        exact fin 110 110 rfl
theorem opc182 (ht : t ≤ 120) (hw : ∀ j, j < t → w j < 256) {sub : Nat → PQ} {may : Bool} {o : Nat} (ho : o ≤ 6) (hwf : ∀ i, i ≤ t → wfP t i (sub i)) (hy : may = true → o < 6 ∧ RLS E L t w sub (o + 1) (d + 3) 182 [] ∧ RLS E L t w (clP (btA t w) sub 5) (o + 1) (d + 3) 175 []) (hn : may = false → o = 6) : RLS E L t w (opR (btA t w) sub may) o (d + 5) 182 [] := by
  intro M i s hI
  have hc := bt_256 hw i
  have hx := e171 E (d + 3) L ht hw M hI
  have ec : ∀ k, 0 < k → k < 256 → (rpk (btA t w i) = nI k) = (btA t w i = k) := fun k h0 hk => rpk_e (by omega) hk h0
  have e40 : (rpk (btA t w i) = 40) = (btA t w i = 40) := ec 40 (by omega) (by omega)
  have e33 : (rpk (btA t w i) = 33) = (btA t w i = 33) := ec 33 (by omega) (by omega)
  have e45 : (rpk (btA t w i) = 45) = (btA t w i = 45) := ec 45 (by omega) (by omega)
  rw [x182, if_pos (show M 400 13 < 0 by rw [hI.1.2.2.2.1]; decide), hx, bI_s]
  by_cases h3 : btA t w i = 40 ∨ btA t w i = 33 ∨ btA t w i = 45
  · have hi : i < t := bt_lt (w := w) (by omega)
    have hcp := rpk_n (c := btA t w i) (by omega)
    have eop : opR (btA t w) sub may i = if may = true then (if btA t w i = 40 then bnd (clP (btA t w) sub 5 (i + 1)) (clsP (btA t w)) else bnd (sub (i + 1)) (fun q => .inr (q, [if btA t w i = 45 then 110 else 33]))) else .inl i := by
      unfold opR
      have nd : ¬ isD (btA t w i) = true := fun z => by have := isD_t.mp z; omega
      have nn : ¬ nmo (btA t w i) < 9 := by rcases h3 with h | h | h <;> rw [h] <;> decide
      rw [if_neg nd, if_neg nn]
      cases hm : may with
      | true => rw [if_pos ⟨h3, rfl⟩, if_pos rfl]
      | false => rw [if_neg (fun z => by cases z.2), if_neg (by decide)]
    obtain ⟨M', e', o'⟩ := r181 E d L ht hw ho hwf hy hn h3 M hI hi
    rw [← eop] at o'
    refine ⟨M', ?_, o'⟩
    rw [hcp]
    by_cases c33 : btA t w i = 33
    · rw [c33] at e' ⊢
      rw [if_pos (show nI 33 = 33 from rfl), e', bV_s]
    · rw [if_neg (show ¬ nI (btA t w i) = (33 : Int32) from fun z => c33 (nI_inj (b := 33) (by omega) (by omega) z))]
      by_cases c45 : btA t w i = 45
      · rw [c45] at e' ⊢
        rw [if_pos (show nI 45 = 45 from rfl), e', bV_s]
      · have c40 : btA t w i = 40 := by omega
        rw [c40] at e' ⊢
        rw [if_neg (show ¬ nI 40 = 45 by decide), if_pos (show nI 40 = 40 from rfl), e', bV_s]
  · rw [if_neg (by rw [e33]; omega), if_neg (by rw [e45]; omega), if_neg (by rw [e40]; omega), e180 E _ L M hc, bI_s]
    unfold opR
    by_cases q2 : nmo (btA t w i) < 9
    · have h6 := nmo_6 _ hc q2
      have hi : i < t := bt_lt (w := w) (fun z => by rw [z] at q2; exact absurd q2 (by decide))
      have en : nmI (btA t w i) = nI (nmo (btA t w i)) := by unfold nmI; rw [if_pos q2]
      have nd : ¬ isD (btA t w i) = true := fun z => by
        have z := isD_t.mp z
        unfold nmo at q2
        (repeat' split at q2) <;> omega
      rw [en, if_neg (nI_pos (by omega)), if_neg nd, if_pos q2]
      have hs := hI.2.2.2
      obtain ⟨M', e', o'⟩ := e174 E (d + 3) L ht _ (rI_adv hI hi) (by omega) (256 + nmo (btA t w i))
      refine ⟨M', ?_, rO_u (by omega) o'⟩
      rw [show (256 : Int32) + nI (nmo (btA t w i)) = nI (256 + nmo (btA t w i)) from nI_add 256 _]
      dsimp only
      rw [e', bV_s]
    · have en : nmI (btA t w i) = -1 := by unfold nmI; rw [if_neg q2]
      have hr := rgt _ hc
      have hx' := e171 E (d + 3) L ht hw M hI
      rw [en, if_pos (by decide)]
      rw [x182_71, if_neg (show ¬ (4 : Int32) ≤ 0 by decide), hx', bI_s]
      by_cases q : isD (btA t w i) = true
      · obtain ⟨q1, q2⟩ := isD_t.mp q
        have hi : i < t := bt_lt (w := w) (by omega)
        have hcp := rpk_n (c := btA t w i) (by omega)
        have hs := hI.2.2.2
        rw [q, Bool.not_true, Bool.or_eq_false_iff] at hr
        rw [if_neg (of_decide_eq_false hr.1), hx', bI_s, if_neg (of_decide_eq_false hr.2), hx', bI_s, if_pos q, hcp]
        have e10 : ((10 : Int32) * (0 : Int32) + nI (btA t w i)) - 48 = nI (10 * 0 + (btA t w i - 48)) := by
          have := dgv 0 _ q1
          rw [Int32.mul_comm]; exact this
        rw [e10]
        obtain ⟨M', e', o'⟩ := dgl182 E (d + 3) L ht hw (nI (btA t w i)) (-1) 3 (Nat.le_refl _) (10 * 0 + (btA t w i - 48)) (i + 1) s _ (rI_adv hI hi) (by omega)
        have ed : dig (btA t w) 4 0 i = dig (btA t w) 3 (10 * 0 + (btA t w i - 48)) (i + 1) := by
          rw [dig, if_pos q]
        refine ⟨M', e', ?_⟩
        rw [ed]
        exact rO_u (by omega) o'
      · rw [f_of q, Bool.not_false] at hr
        rw [if_neg q, if_neg q2, if_neg (show ¬ ((btA t w i = 40 ∨ btA t w i = 33 ∨ btA t w i = 45) ∧ may = true) from fun z => h3 z.1)]
        refine ⟨u2 M 400 13 (M 400 12), ?_, rO_flt hI⟩
        by_cases h48 : rpk (btA t w i) < 48
        · rw [if_pos h48, if_pos rfl, e172 E (d + 3) L M hI.1.2.2.2.1, bV_s]
        · rw [if_neg h48, hx', bI_s, if_pos (by
            rw [decide_eq_false h48, Bool.false_or] at hr
            exact of_decide_eq_true hr), if_pos rfl, e172 E (d + 3) L M hI.1.2.2.2.1, bV_s]
theorem op182 (ht : t ≤ 120) (hw : ∀ j, j < t → w j < 256) : ∀ m, m ≤ 6 → ∀ d, RLS E L t w (opP (btA t w) m) (6 - m) (d + 7 * m + 5) 182 [] := by
  intro m
  induction m with
  | zero =>
    intro _ d
    exact opc182 E d L ht hw (sub := fun i => .inl i) (may := false) (o := 6) (by omega) (fun i h => h) (fun h => absurd h (by decide)) (fun _ => rfl)
  | succ m ih =>
    intro hm d
    have ih := ih (by omega)
    have hwf := wf_op (t := t) (w := w) m
    have hE := r175E E (d + 7 * m + 4) L ht hw (o := 6 - m) (ih d) hwf
    have up := ih (d + 5)
    rw [show d + 5 + 7 * m + 5 = d + 7 * m + 7 + 3 by omega] at up
    have := opc182 E (d + 7 * m + 7) L ht hw (sub := opP (btA t w) m) (may := true) (o := 6 - (m + 1)) (by omega) hwf (fun _ => ⟨by omega, by
      rw [show 6 - (m + 1) + 1 = 6 - m by omega]; exact up, by
      rw [show 6 - (m + 1) + 1 = 6 - m by omega]; exact hE⟩) (fun h => absurd h (by decide))
    exact this
/-- a whole E -/
theorem e175E (ht : t ≤ 120) (hw : ∀ j, j < t → w j < 256) : RLS E L t w (clP (btA t w) (opP (btA t w) 6) 5) 0 (d + 52) 175 [] := by
  have := r175E E (d + 46) L ht hw (o := 0) (op182 E L ht hw 6 (Nat.le_refl _) d) (wf_op 6)
  exact this
end ROP
