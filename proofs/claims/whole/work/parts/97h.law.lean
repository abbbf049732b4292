/-! the text of a law: the class compiles it -/
theorem layL_keep {g h g' h' : Nat → Int32} : ∀ {ls : List LN} {s : Nat}, (∀ j, j < s + lnsC ls → g' j = g j ∧ h' j = h j) → layL g h s ls → layL g' h' s ls
  | [], _, _, _ => trivial
  | l :: ls, s, hk, hl => by
    have hk : ∀ j, j < s + (lnC l + lnsC ls) → g' j = g j ∧ h' j = h j := hk
    exact ⟨lay1_keep (fun j hj => hk j (by omega)) hl.1, layL_keep (fun j hj => hk j (by omega)) hl.2⟩
theorem lsP_i {b : Nat → Nat} {t k i q : Nat} {l : LN} (h : lnP b i = .inr (q, l)) : lsP b t k i = csL l (rsP b t k q) := by
  unfold lsP
  simp only [h]
theorem lsP_l {b : Nat → Nat} {t k i p : Nat} (h : lnP b i = .inl p) : lsP b t k i = .inl p := by
  unfold lsP
  simp only [h]
section CCOMP
variable (E : Nat × (Nat → Int32)) (d : Nat) (L : Nat → Nat → Int64) {t : Nat} {w : Nat → Nat}
/-- behind a line -/
def cJ (t : Nat) (w : Nat → Nat) (M : Nat → Nat → Int32) (i s : Nat) : Prop := (M 70 3 = nI t ∧ M 70 5 = nI i ∧ M 70 4 = nI s ∧ M 70 6 = -1) ∧ (∀ j, j < t → M 71 j = nI (w j)) ∧ i ≤ t ∧ s ≤ i + 1
theorem e68j (ht : t ≤ 120) (hw : ∀ j, j < t → w j < 256) (M : Nat → Nat → Int32) {i s : Nat} (h : cJ t w M i s) : C E (d + 1) 68 [vR 1 7 70] (M, L) = some (some (vI (cpk (btA t w i))), (M, L)) := by
  obtain ⟨⟨h3, h5, h4, h6⟩, hb, hi, hs⟩ := h
  rw [x68, h5, h3, if_neg (nI_pos (by omega))]
  unfold btA
  by_cases q : i < t
  · rw [if_neg (nI_ge (by omega) (by omega)), if_neg (show ¬ (120 : Int32) ≤ nI i from nI_ge (b := 120) (by omega) (by omega)), if_pos (by rw [ib_nI (by omega)]; omega), ix_nI (by omega), if_pos q, hb i q]
    unfold cpk
    have := hw i q
    rw [if_neg (by omega)]
  · rw [if_pos (nI_le (by omega) (by omega)), if_neg q]
    rfl
def tO (t : Nat) (M M' : Nat → Nat → Int32) (s : Nat) (r : Int32) (res : Nat ⊕ List LN) : Prop := cF M M' ∧ match res with
  | .inl p => r = nI p ∧ p ≤ t
  | .inr ls => (r = -1 ∧ M' 70 4 = nI (s + lnsC ls) ∧ s + lnsC ls ≤ 121 ∧ layL (M' 72) (M' 73) s ls) ∧ ∀ j, j < s → M' 72 j = M 72 j ∧ M' 73 j = M 73 j
theorem l67 (ht : t ≤ 120) (hw : ∀ j, j < t → w j < 256) : ∀ k, k ≤ 120 → ∀ i s (M : Nat → Nat → Int32), cJ t w M i s → ∃ M' r, X E (d + 59) me67 21 [some (vR 1 7 70), some (vI (nI (120 - k)))] [] (M, L) = some (some (vI r), (M', L)) ∧ tO t M M' s r (rsP (btA t w) t k i) := by
  have fin : ∀ i s (M : Nat → Nat → Int32), cJ t w M i s → ∃ M' r, (if 0 ≤ (M 70 6) then some (some (vI (M 70 6)), (M, L)) else (if (M 70 3) ≤ (M 70 5) then some (some (vI (M 70 6)), (M, L)) else some (some (vI ((u2 M 70 6 (M 70 5)) 70 6)), ((u2 M 70 6 (M 70 5)), L))) : PR) = some (some (vI r), (M', L)) ∧ tO t M M' s r (ndP t i) := by
    intro i s M hJ
    obtain ⟨⟨h3, h5, h4, h6⟩, hb, hi, hs⟩ := hJ
    rw [if_neg (show ¬ (0 : Int32) ≤ M 70 6 by rw [h6]; decide)]
    unfold ndP
    by_cases q : i < t
    · rw [if_neg (show ¬ M 70 3 ≤ M 70 5 by rw [h3, h5]; exact nI_ge (by omega) (by omega)), if_pos q]
      exact ⟨_, _, rfl, ⟨fun c h1 _ _ => u2_o h1, u2_n (by omega)⟩, by rw [u2_s]; exact h5, hi⟩
    · rw [if_pos (show M 70 3 ≤ M 70 5 by rw [h3, h5]; exact nI_le (by omega) (by omega)), if_neg q]
      exact ⟨M, _, rfl, cF.re M, ⟨h6, h4, by show s + 0 ≤ 121; omega, trivial⟩, fun _ _ => ⟨rfl, rfl⟩⟩
  intro k
  induction k with
  | zero =>
    intro _ i s M hJ
    rw [x67_21, if_pos (show (120 : Int32) ≤ nI (120 - 0) by decide)]
    exact fin i s M hJ
  | succ k ih =>
    intro hk i s M hJ
    have e59 : (cpk (btA t w i) = 59) = (btA t w i = 59) := cpk_e (k := 59) (by have := bt_256 hw i; omega) (by omega)
    rw [x67_21, if_neg (show ¬ (120 : Int32) ≤ nI (120 - (k + 1)) from nI_ge (b := 120) (by omega) (by omega)), if_neg (show ¬ (0 : Int32) ≤ M 70 6 by rw [hJ.1.2.2.2]; decide), e68j E (d + 58) L ht hw M hJ, bI_s, rsP_s]
    by_cases h59 : btA t w i = 59
    · have hi : i < t := bt_lt (w := w) (by omega)
      rw [if_pos (by rw [e59]; exact h59), if_pos h59]
      have hI1 : cI t w (u2 M 70 5 (M 70 5 + 1)) (i + 1) s := ⟨⟨by rw [u2_n (by omega)]; exact hJ.1.1, by rw [u2_s, hJ.1.2.1, nI_1], by rw [u2_n (by omega)]; exact hJ.1.2.2.1, by rw [u2_n (by omega)]; exact hJ.1.2.2.2⟩, fun j hj => by rw [u2_o (by omega)]; exact hJ.2.1 j hj, hi, hJ.2.2.2⟩
      obtain ⟨M1, e1, o1⟩ := e70 E d L ht hw _ hI1
      have f0 : cF M (u2 M 70 5 (M 70 5 + 1)) := ⟨fun c h1 _ _ => u2_o h1, u2_n (by omega)⟩
      have hwl := wf_ln (t := t) (w := w) (i := i + 1) hi
      dsimp only
      rw [e1, bV_s, nI_1, show 120 - (k + 1) + 1 = 120 - k by omega]
      cases hr : lnP (btA t w) (i + 1) with
      | inl p =>
        rw [hr] at o1
        rw [lsP_l hr]
        obtain ⟨f1, o6, hp⟩ := o1
        refine ⟨M1, M1 70 6, ?_, f0.tr f1, o6, hp⟩
        have hz : (0 : Int32) ≤ M1 70 6 := by rw [o6]; exact pos_le (by omega)
        rw [x67_21, if_pos hz]
        by_cases q : (120 : Int32) ≤ nI (120 - k)
        · rw [if_pos q]
        · rw [if_neg q, if_pos hz]
      | inr zz =>
        obtain ⟨q, l⟩ := zz
        rw [hr] at o1 hwl
        rw [lsP_i hr]
        obtain ⟨f1, ⟨o6, o5, o4, ol, os⟩, opre⟩ := o1
        obtain ⟨wl1, wl2, wl3⟩ := hwl
        have hJ1 : cJ t w M1 q (s + lnC l) := ⟨⟨f1.2.trans hI1.1.1, o5, o4, o6⟩, fun j hj => by rw [f1.1 71 (by omega) (by omega) (by omega)]; exact hI1.2.1 j hj, wl2, os⟩
        obtain ⟨M2, r, e2, f2, o2⟩ := ih (by omega) q _ M1 hJ1
        refine ⟨M2, r, e2, f0.tr (f1.tr f2), ?_⟩
        cases hr2 : rsP (btA t w) t k q with
        | inl p => rw [hr2] at o2; exact o2
        | inr ls =>
          rw [hr2] at o2
          obtain ⟨⟨p1, p2, p3, p4⟩, ppre⟩ := o2
          refine ⟨⟨p1, ?_, ?_, lay1_keep (fun j hj => ppre j hj) ol, p4⟩, fun j hj => ?_⟩
          · rw [p2]
            show nI (s + lnC l + lnsC ls) = nI (s + (lnC l + lnsC ls))
            rw [Nat.add_assoc]
          · show s + (lnC l + lnsC ls) ≤ 121
            omega
          · obtain ⟨a1, a2⟩ := ppre j (by omega)
            obtain ⟨b1, b2⟩ := opre j hj
            rw [u2_o (by omega), u2_o (by omega)] at *
            exact ⟨a1.trans b1, a2.trans b2⟩
    · rw [if_neg (by rw [e59]; exact h59), if_neg h59]
      exact fin i s M hJ
def txP (t : Nat) (w : Nat → Nat) : Nat ⊕ List LN := lsP (btA t w) t 120 0
theorem e67 (ht : t ≤ 120) (hw : ∀ j, j < t → w j < 256) (M : Nat → Nat → Int32) (h3 : M 70 3 = nI t) (hb : ∀ j, j < t → M 71 j = nI (w j)) : ∃ M' r, C E (d + 60) 67 [vR 1 7 70] (M, L) = some (some (vI r), (M', L)) ∧ cF M M' ∧ (match txP t w with
    | .inl p => r = nI p ∧ p ≤ t
    | .inr ls => r = -1 ∧ M' 70 4 = nI (lnsC ls) ∧ lnsC ls ≤ 121 ∧ layL (M' 72) (M' 73) 0 ls) := by
  have hI : cI t w (u2 (u2 (u2 M 70 5 (0 : Int32)) 70 4 (0 : Int32)) 70 6 (-1 : Int32)) 0 0 := ⟨⟨by rw [u2_n (by omega), u2_n (by omega), u2_n (by omega)]; exact h3, by rw [u2_n (by omega), u2_n (by omega), u2_s]; rfl, by rw [u2_n (by omega), u2_s]; rfl, u2_s⟩, fun j hj => by rw [u2_o (by omega), u2_o (by omega), u2_o (by omega)]; exact hb j hj, by omega, by omega⟩
  have f0 : cF M (u2 (u2 (u2 M 70 5 (0 : Int32)) 70 4 (0 : Int32)) 70 6 (-1 : Int32)) := ⟨fun c h1 _ _ => by rw [u2_o h1, u2_o h1, u2_o h1], by rw [u2_n (by omega), u2_n (by omega), u2_n (by omega)]⟩
  generalize hM0 : u2 (u2 (u2 M 70 5 (0 : Int32)) 70 4 (0 : Int32)) 70 6 (-1 : Int32) = M0 at hI f0
  obtain ⟨M1, e1, o1⟩ := e70 E d L ht hw _ hI
  have hwl := wf_ln (t := t) (w := w) (i := 0) (by omega)
  rw [x67, hM0, e1, bV_s]
  unfold txP
  cases hr : lnP (btA t w) 0 with
  | inl p =>
    rw [hr] at o1
    rw [lsP_l hr]
    obtain ⟨f1, o6, hp⟩ := o1
    have hz : (0 : Int32) ≤ M1 70 6 := by rw [o6]; exact pos_le (by omega)
    refine ⟨M1, M1 70 6, ?_, f0.tr f1, o6, hp⟩
    rw [x67_21, if_neg (by decide), if_pos hz, if_pos hz]
  | inr zz =>
    obtain ⟨q, l⟩ := zz
    rw [hr] at o1 hwl
    rw [lsP_i hr]
    obtain ⟨f1, ⟨o6, o5, o4, ol, os⟩, opre⟩ := o1
    obtain ⟨wl1, wl2, wl3⟩ := hwl
    have hJ1 : cJ t w M1 q (0 + lnC l) := ⟨⟨f1.2.trans hI.1.1, o5, o4, o6⟩, fun j hj => by rw [f1.1 71 (by omega) (by omega) (by omega)]; exact hI.2.1 j hj, wl2, os⟩
    obtain ⟨M2, r, e2, f2, o2⟩ := l67 E d L ht hw 120 (Nat.le_refl _) q _ M1 hJ1
    have e2 : X E (d + 59) me67 21 [some (vR 1 7 70), some (vI (0 : Int32))] [] (M1, L) = _ := e2
    refine ⟨M2, r, e2, f0.tr (f1.tr f2), ?_⟩
    cases hr2 : rsP (btA t w) t 120 q with
    | inl p => rw [hr2] at o2; exact o2
    | inr ls =>
      rw [hr2] at o2
      obtain ⟨⟨p1, p2, p3, p4⟩, ppre⟩ := o2
      refine ⟨p1, ?_, ?_, lay1_keep (fun j hj => ppre j hj) ol, p4⟩
      · rw [p2, Nat.zero_add]; rfl
      · show lnC l + lnsC ls ≤ 121
        omega
end CCOMP
