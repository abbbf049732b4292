/-! the text of a law: lines, and the class's -/
abbrev LN : Type := Option (List Nat) × List Nat
def EP (b : Nat → Nat) : Nat → PQ := clP b (opP b 6) 5
def lnP (b : Nat → Nat) (i : Nat) : Nat ⊕ (Nat × LN) := match EP b i with
  | .inl p => .inl p
  | .inr (q, xs) => if b q = 63 then (match EP b (q + 1) with
    | .inl p => .inl p
    | .inr (q', ys) => .inr (q', (some xs, ys))) else .inr (q, (none, xs))
def csL (l : LN) (r : Nat ⊕ List LN) : Nat ⊕ List LN := match r with
  | .inl p => .inl p
  | .inr ls => .inr (l :: ls)
def ndP (t i : Nat) : Nat ⊕ List LN := if i < t then .inl i else .inr []
def rsP (b : Nat → Nat) (t : Nat) : Nat → Nat → Nat ⊕ List LN
  | 0, i => ndP t i
  | k + 1, i => if b i = 59 then (match lnP b (i + 1) with
    | .inl p => .inl p
    | .inr (q, l) => csL l (rsP b t k q)) else ndP t i
def lsP (b : Nat → Nat) (t k i : Nat) : Nat ⊕ List LN := match lnP b i with
  | .inl p => .inl p
  | .inr (q, l) => csL l (rsP b t k q)
theorem rsP_s (b : Nat → Nat) (t k i : Nat) : rsP b t (k + 1) i = if b i = 59 then lsP b t k (i + 1) else ndP t i := rfl
theorem rsP_e {b : Nat → Nat} {t i : Nat} (h : b i ≠ 59) : ∀ k, rsP b t k i = ndP t i
  | 0 => rfl
  | k + 1 => by rw [rsP_s, if_neg h]
def gdL (l : LN) : Prop := (∀ xs, l.1 = some xs → gdI xs) ∧ gdI l.2
theorem wf_ln {t : Nat} {w : Nat → Nat} {i : Nat} (h : i ≤ t) : match lnP (btA t w) i with
    | .inl p => p ≤ t
    | .inr (q, l) => i < q ∧ q ≤ t ∧ gdL l := by
  unfold lnP
  have h1 := wf_E (t := t) (w := w) 6 i h
  have e1 : EP (btA t w) i = clP (btA t w) (opP (btA t w) 6) 5 i := rfl
  rw [← e1] at h1
  cases hr : EP (btA t w) i with
  | inl p => rw [hr] at h1; exact h1
  | inr z =>
    obtain ⟨q, xs⟩ := z
    rw [hr] at h1
    obtain ⟨a, b, c, e⟩ := h1
    dsimp only
    by_cases h63 : btA t w q = 63
    · rw [if_pos h63]
      have hq : q < t := bt_lt (w := w) (by omega)
      have h2 := wf_E (t := t) (w := w) 6 (q + 1) hq
      have e2 : EP (btA t w) (q + 1) = clP (btA t w) (opP (btA t w) 6) 5 (q + 1) := rfl
      rw [← e2] at h2
      cases hr2 : EP (btA t w) (q + 1) with
      | inl p => rw [hr2] at h2; exact h2
      | inr z =>
        obtain ⟨q', ys⟩ := z
        rw [hr2] at h2
        obtain ⟨a', b', c', e'⟩ := h2
        exact ⟨by omega, b', fun zs hz => by cases hz; exact e, e'⟩
    · rw [if_neg h63]
      exact ⟨a, b, fun zs hz => (by cases hz), e⟩
def lnC (l : LN) : Nat := match l with
  | (none, ys) => ys.length + 1
  | (some xs, ys) => xs.length + 1 + ys.length + 1
def lay1 (g h : Nat → Int32) (s : Nat) (l : LN) : Prop := match l with
  | (none, ys) => itm g h s ys ∧ g (s + ys.length) = 2
  | (some xs, ys) => itm g h s xs ∧ (g (s + xs.length) = 3 ∧ h (s + xs.length) = nI (s + (xs.length + 1 + ys.length + 1))) ∧ itm g h (s + xs.length + 1) ys ∧ g (s + xs.length + 1 + ys.length) = 2
def layL (g h : Nat → Int32) : Nat → List LN → Prop
  | _, [] => True
  | s, l :: ls => lay1 g h s l ∧ layL g h (s + lnC l) ls
def lnsC : List LN → Nat
  | [] => 0
  | l :: ls => lnC l + lnsC ls
theorem lay1_keep {g h g' h' : Nat → Int32} {s : Nat} {l : LN} (hk : ∀ j, j < s + lnC l → g' j = g j ∧ h' j = h j) (hl : lay1 g h s l) : lay1 g' h' s l := by
  obtain ⟨o, ys⟩ := l
  cases o with
  | none =>
    have hk : ∀ j, j < s + (ys.length + 1) → g' j = g j ∧ h' j = h j := hk
    obtain ⟨a, b⟩ := hl
    exact ⟨itm_keep (fun j _ h2 => hk j (by omega)) a, by rw [(hk (s + ys.length) (by omega)).1]; exact b⟩
  | some xs =>
    have hk : ∀ j, j < s + (xs.length + 1 + ys.length + 1) → g' j = g j ∧ h' j = h j := hk
    obtain ⟨a, ⟨b, c⟩, e, f⟩ := hl
    exact ⟨itm_keep (fun j _ h2 => hk j (by omega)) a, ⟨by rw [(hk (s + xs.length) (by omega)).1]; exact b, by rw [(hk (s + xs.length) (by omega)).2]; exact c⟩, itm_keep (fun j _ h2 => hk j (by omega)) e, by rw [(hk (s + xs.length + 1 + ys.length) (by omega)).1]; exact f⟩
section CLINE
variable (E : Nat × (Nat → Int32)) (d : Nat) (L : Nat → Nat → Int64) {t : Nat} {w : Nat → Nat}
def lO (t : Nat) (M M' : Nat → Nat → Int32) (s : Nat) (r : Nat ⊕ (Nat × LN)) : Prop := cF M M' ∧ match r with
  | .inl p => M' 70 6 = nI p ∧ p ≤ t
  | .inr (q, l) => (M' 70 6 = -1 ∧ M' 70 5 = nI q ∧ M' 70 4 = nI (s + lnC l) ∧ lay1 (M' 72) (M' 73) s l ∧ s + lnC l ≤ q + 1) ∧ ∀ j, j < s → M' 72 j = M 72 j ∧ M' 73 j = M 73 j
theorem emt_72 {M : Nat → Nat → Int32} {s j : Nat} {a b : Int32} (h : j ≠ s) : emt M s a b 72 j = M 72 j ∧ emt M s a b 73 j = M 73 j := by
  unfold emt
  rw [u2_o (c := 72) (by omega), u2_o (c := 72) (by omega), u2_n h, u2_o (c := 73) (by omega), u2_n h, u2_o (c := 73) (by omega)]
  exact ⟨rfl, rfl⟩
theorem emt_s {M : Nat → Nat → Int32} {s : Nat} {a b : Int32} : emt M s a b 72 s = a ∧ emt M s a b 73 s = b := by
  unfold emt
  rw [u2_o (c := 72) (by omega), u2_o (c := 72) (by omega), u2_s, u2_o (c := 73) (by omega), u2_s]
  exact ⟨rfl, rfl⟩
theorem emt_70 {M : Nat → Nat → Int32} {s : Nat} {a b : Int32} : emt M s a b 70 4 = nI (s + 1) ∧ (∀ j, j ≠ 4 → emt M s a b 70 j = M 70 j) ∧ ∀ c, c ≠ 70 → c ≠ 72 → c ≠ 73 → emt M s a b c = M c := by
  unfold emt
  refine ⟨u2_s, fun j hj => by rw [u2_n hj, u2_o (by omega), u2_o (by omega)], fun c h1 h2 h3 => by rw [u2_o h1, u2_o h3, u2_o h2]⟩
theorem e70 (ht : t ≤ 120) (hw : ∀ j, j < t → w j < 256) (M : Nat → Nat → Int32) {i s : Nat} (hI : cI t w M i s) : ∃ M', C E (d + 59) 70 [vR 1 7 70] (M, L) = some (none, (M', L)) ∧ lO t M M' s (lnP (btA t w) i) := by
  obtain ⟨M1, e1, o1⟩ := e71E E d L ht hw M i s hI
  have e1 : C E (d + 58) 71 [vR 1 7 70, vI (0 : Int32), vI (0 : Int32)] (M, L) = some (none, (M1, L)) := e1
  have hwi := wf_E (t := t) (w := w) 6 i hI.2.2.1
  have eE : EP (btA t w) i = clP (btA t w) (opP (btA t w) 6) 5 i := rfl
  rw [← eE] at o1 hwi
  rw [x70, e1, bV_s]
  unfold lnP
  cases hr : EP (btA t w) i with
  | inl p =>
    rw [hr] at o1 hwi
    have hp : p ≤ t := hwi
    obtain ⟨of1, o6, z, hz, o4⟩ := o1
    obtain ⟨M2, e2, f2, g6, -⟩ := e69f E (d + 57) L M1 o4 hz o6 2 0
    refine ⟨M2, ?_, of1.tr f2, g6, hp⟩
    rw [if_pos (show (0 : Int32) ≤ M1 70 6 by rw [o6]; exact pos_le (by omega)), e2, bV_s]
  | inr zz =>
    obtain ⟨q, xs⟩ := zz
    rw [hr] at o1 hwi
    obtain ⟨w1, w2, w3, w4⟩ := hwi
    have hsi := hI.2.2.2
    have hI1 := cO_I hI o1 w2 (by omega)
    have e63 : (cpk (btA t w q) = 63) = (btA t w q = 63) := cpk_e (k := 63) (by have := bt_256 hw q; omega) (by omega)
    rw [if_neg (show ¬ (0 : Int32) ≤ M1 70 6 by rw [hI1.1.2.2.2]; decide), e68 E (d + 57) L ht hw M1 hI1, bI_s]
    dsimp only
    by_cases h63 : btA t w q = 63
    · have hq : q < t := bt_lt (w := w) (by omega)
      rw [if_pos (by rw [e63]; exact h63), if_pos h63]
      have hI1' := cI_adv hI1 hq
      have hs1 := hI1'.2.2.2
      generalize hMa : u2 M1 70 5 (M1 70 5 + 1) = Ma at hI1'
      have fa : cF M1 Ma ∧ (∀ j, Ma 72 j = M1 72 j ∧ Ma 73 j = M1 73 j) := by
        rw [← hMa]
        exact ⟨⟨fun c h1 _ _ => u2_o h1, u2_n (by omega)⟩, fun j => by rw [u2_o (by omega), u2_o (by omega)]; exact ⟨rfl, rfl⟩⟩
      have ea4 := hI1'.1.2.2.1
      rw [e69 E (d + 57) L Ma ea4 (by omega) 3 0, bV_s]
      have em := emt_70 (M := Ma) (s := s + xs.length) (a := 3) (b := 0)
      have hIb : cI t w (emt Ma (s + xs.length) 3 0) (q + 1) (s + xs.length + 1) := ⟨⟨by rw [em.2.1 3 (by omega)]; exact hI1'.1.1, by rw [em.2.1 5 (by omega)]; exact hI1'.1.2.1, em.1, by rw [em.2.1 6 (by omega)]; exact hI1'.1.2.2.2⟩, fun j hj => by rw [em.2.2 71 (by omega) (by omega) (by omega)]; exact hI1'.2.1 j hj, hq, by have := hI1.2.2.2; omega⟩
      obtain ⟨M3, e3, o3⟩ := e71E E d L ht hw _ (q + 1) (s + xs.length + 1) hIb
      have e3 : C E (d + 58) 71 [vR 1 7 70, vI (0 : Int32), vI (0 : Int32)] (emt Ma (s + xs.length) 3 0, L) = some (none, (M3, L)) := e3
      have hwi2 := wf_E (t := t) (w := w) 6 (q + 1) hq
      have eE2 : EP (btA t w) (q + 1) = clP (btA t w) (opP (btA t w) 6) 5 (q + 1) := rfl
      rw [← eE2] at o3 hwi2
      have ibs : ib (nI (s + xs.length)) 128 := by rw [ib_nI (by omega)]; omega
      have ngs : ¬ (128 : Int32) ≤ nI (s + xs.length) := nI_ge (b := 128) (by omega) (by omega)
      rw [e3, bV_s]
      cases hr2 : EP (btA t w) (q + 1) with
      | inl p =>
        rw [hr2] at o3 hwi2
        have hp : p ≤ t := hwi2
        obtain ⟨of3, o6, z, hz, o4⟩ := o3
        obtain ⟨M4, e4, f4, g6, -⟩ := e69f E (d + 57) L M3 o4 hz o6 2 0
        refine ⟨u2 M4 73 (s + xs.length) (M4 70 4), ?_, (((o1.1.tr fa.1).tr cF_emt).tr of3).tr (f4.tr ⟨fun c h1 h2 h3 => u2_o h3, by rw [u2_o (by omega)]⟩), ?_, hp⟩
        · rw [e4, bV_s]
          simp only [ea4, if_neg ngs, if_pos ibs, ix_nI (n := s + xs.length) (by omega)]
        · rw [u2_o (by omega)]; exact g6
      | inr zz =>
        obtain ⟨q', ys⟩ := zz
        rw [hr2] at o3 hwi2
        obtain ⟨v1, v2, v3, v4⟩ := hwi2
        have hIc := cO_I hIb o3 v2 (by have := hIb.2.2.2; omega)
        have hc4 := hIc.1.2.2.1
        have hcs := hIc.2.2.2
        refine ⟨u2 (emt M3 (s + xs.length + 1 + ys.length) 2 0) 73 (s + xs.length) (nI (s + xs.length + 1 + ys.length + 1)), ?_, (((o1.1.tr fa.1).tr cF_emt).tr o3.1).tr (cF_emt.tr ⟨fun c h1 h2 h3 => u2_o h3, by rw [u2_o (by omega)]⟩), ⟨?_, ?_, ?_, ?_, ?_⟩, ?_⟩
        · rw [e69 E (d + 57) L M3 hc4 (by omega) 2 0, bV_s]
          simp only [ea4, if_neg ngs, if_pos ibs, ix_nI (n := s + xs.length) (by omega), (emt_70 (M := M3) (s := s + xs.length + 1 + ys.length) (a := 2) (b := 0)).1]
        · rw [u2_o (by omega), emt_70.2.1 6 (by omega)]; exact hIc.1.2.2.2
        · rw [u2_o (by omega), emt_70.2.1 5 (by omega)]; exact hIc.1.2.1
        · rw [u2_o (by omega), emt_70.1]
          show _ = nI (s + (xs.length + 1 + ys.length + 1))
          rw [show s + xs.length + 1 + ys.length + 1 = s + (xs.length + 1 + ys.length + 1) by omega]
        · -- what lies there
          have k3 := o3.2.2
          have hx1 : itm (M1 72) (M1 73) s xs := o1.2.1.2.2.2
          have hy1 : itm (M3 72) (M3 73) (s + xs.length + 1) ys := o3.2.1.2.2.2
          have low : ∀ j, j < s + xs.length → M3 72 j = M1 72 j ∧ M3 73 j = M1 73 j := fun j hj => by
            obtain ⟨a1, a2⟩ := k3 j (by omega)
            obtain ⟨b1, b2⟩ := emt_72 (M := Ma) (s := s + xs.length) (a := 3) (b := 0) (j := j) (by omega)
            obtain ⟨c1, c2⟩ := fa.2 j
            exact ⟨(a1.trans b1).trans c1, (a2.trans b2).trans c2⟩
          have skp : M3 72 (s + xs.length) = 3 := by
            rw [(k3 (s + xs.length) (by omega)).1]; exact emt_s.1
          have hi : ∀ j, j ≠ s + xs.length → j ≠ s + xs.length + 1 + ys.length → u2 (emt M3 (s + xs.length + 1 + ys.length) 2 0) 73 (s + xs.length) (nI (s + xs.length + 1 + ys.length + 1)) 72 j = M3 72 j ∧ u2 (emt M3 (s + xs.length + 1 + ys.length) 2 0) 73 (s + xs.length) (nI (s + xs.length + 1 + ys.length + 1)) 73 j = M3 73 j := fun j h1 h2 => by
            rw [u2_o (by omega), u2_n h1]
            exact emt_72 h2
          refine ⟨itm_keep (fun j h1 h2 => ?_) hx1, ⟨?_, ?_⟩, itm_keep (fun j h1 h2 => hi j (by omega) (by omega)) hy1, ?_⟩
          · obtain ⟨a1, a2⟩ := hi j (by omega) (by omega)
            obtain ⟨b1, b2⟩ := low j h2
            exact ⟨a1.trans b1, a2.trans b2⟩
          · rw [u2_o (by omega), (emt_72 (by omega)).1]; exact skp
          · rw [u2_s, show s + xs.length + 1 + ys.length + 1 = s + (xs.length + 1 + ys.length + 1) by omega]
          · rw [u2_o (by omega)]; exact emt_s.1
        · show s + (xs.length + 1 + ys.length + 1) ≤ q' + 1
          omega
        · intro j hj
          have k3 := o3.2.2
          obtain ⟨a1, a2⟩ := k3 j (by omega)
          obtain ⟨b1, b2⟩ := emt_72 (M := Ma) (s := s + xs.length) (a := 3) (b := 0) (j := j) (by omega)
          obtain ⟨c1, c2⟩ := fa.2 j
          obtain ⟨d1, d2⟩ := o1.2.2 j hj
          obtain ⟨f1, f2⟩ := emt_72 (M := M3) (s := s + xs.length + 1 + ys.length) (a := 2) (b := 0) (j := j) (by omega)
          rw [u2_o (by omega), u2_n (by omega)]
          exact ⟨(((f1.trans a1).trans b1).trans c1).trans d1, (((f2.trans a2).trans b2).trans c2).trans d2⟩
    · rw [if_neg (by rw [e63]; exact h63), if_neg h63]
      have hs1 := hI1.2.2.2
      refine ⟨emt M1 (s + xs.length) 2 0, ?_, o1.1.tr cF_emt, ⟨?_, ?_, ?_, ?_, ?_⟩, ?_⟩
      · rw [e69 E (d + 57) L M1 hI1.1.2.2.1 (by omega) 2 0, bV_s]
      · rw [emt_70.2.1 6 (by omega)]; exact hI1.1.2.2.2
      · rw [emt_70.2.1 5 (by omega)]; exact hI1.1.2.1
      · rw [emt_70.1]; rfl
      · exact ⟨itm_keep (fun j h1 h2 => emt_72 (by omega)) o1.2.1.2.2.2, emt_s.1⟩
      · show s + (xs.length + 1) ≤ q + 1
        omega
      · intro j hj
        obtain ⟨a1, a2⟩ := emt_72 (M := M1) (s := s + xs.length) (a := 2) (b := 0) (j := j) (by omega)
        obtain ⟨b1, b2⟩ := o1.2.2 j hj
        exact ⟨a1.trans b1, a2.trans b2⟩
end CLINE
