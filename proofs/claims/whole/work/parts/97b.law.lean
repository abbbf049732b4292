/-! the text of a law: the class's reading -/
def cpk (c : Nat) : Int32 := if c = 256 then -1 else nI c
theorem cpk_e {c k : Nat} (hc : c ≤ 256) (hk : k < 256) : (cpk c = nI k) = (c = k) := by
  unfold cpk
  by_cases q : c = 256
  · rw [if_pos q]
    refine propext ⟨fun z => ?_, fun z => absurd z (by omega)⟩
    have := congrArg Int32.toInt z
    rw [t_m1, t_nI (by omega)] at this
    omega
  · rw [if_neg q]
    exact nI_eqB (by omega) (by omega)
def lvI (c : Nat) : Int32 := if lvc c < 9 then nI (lvc c) else -1
def nmI (c : Nat) : Int32 := if nmo c < 9 then nI (nmo c) else -1
def lvF (x : Int32) : Int32 := if x = 37 then 4 else if x = 38 then 1 else if x = 42 then 4 else if x = 43 then 3 else if x = 45 then 3 else if x = 47 then 4 else if x = 60 then 2 else if x = 61 then 2 else if x = 62 then 2 else if x = 124 then 0 else -1
def nmF' (x : Int32) : Int32 := if x = 97 then 3 else if x = 100 then 4 else if x = 104 then 1 else if x = 114 then 2 else if x = 115 then 0 else if x = 120 then 5 else -1
theorem lvF_c : ∀ c, c < 257 → lvF (cpk c) = lvI c := by decide +kernel
theorem nmF_c : ∀ c, c < 257 → nmF' (cpk c) = nmI c := by decide +kernel
theorem nmF_n : ∀ c, c < 256 → nmF' (nI c) = nmI c := by decide +kernel
theorem nmo_6 : ∀ c, c < 257 → nmo c < 9 → nmo c < 6 := by decide +kernel
theorem dgt : ∀ c, c < 257 → decide (48 ≤ (cpk c).toInt ∧ (cpk c).toInt ≤ 57) = isD c := by decide +kernel
theorem nI_mulN (a b : Nat) : nI a * nI b = nI (a * b) := by
  apply Int32.toBitVec.inj
  show (nI a).toBitVec * (nI b).toBitVec = (nI (a * b)).toBitVec
  rw [nI_bv, nI_bv, nI_bv]
  exact (BitVec.ofNat_mul a b).symm
theorem dgv (v c : Nat) (h : 48 ≤ c) : (nI v * (10 : Int32) + nI c) - 48 = nI (10 * v + (c - 48)) := by
  have e1 : nI v * (10 : Int32) = nI (v * 10) := nI_mulN v 10
  rw [e1, nI_add, show v * 10 + c = (10 * v + (c - 48)) + 48 by omega, ← nI_add]
  exact Int32.add_sub_cancel _ _
def stI (x : Nat) : Int32 := if 1000 ≤ x then 0 else if 256 ≤ x then 1 else if x = 110 then 4 else if x = 33 then 5 else nI x
def vlu (x : Nat) : Int32 := if 1000 ≤ x then nI (x - 1000) else if 256 ≤ x then nI (x - 256) else 0
/-- the steps of some signs lie from s on -/
def itm (g h : Nat → Int32) : Nat → List Nat → Prop
  | _, [] => True
  | s, x :: t => (g s = stI x ∧ h s = vlu x) ∧ itm g h (s + 1) t
theorem itm_app {g h : Nat → Int32} : ∀ {xs ys : List Nat} {s : Nat}, itm g h s xs → itm g h (s + xs.length) ys → itm g h s (xs ++ ys)
  | [], _, _, _, h2 => h2
  | x :: t, ys, s, h1, h2 => by
    refine ⟨h1.1, itm_app h1.2 ?_⟩
    rw [List.length_cons] at h2
    rw [show s + 1 + t.length = s + (t.length + 1) by omega]
    exact h2
theorem itm_keep {g h g' h' : Nat → Int32} : ∀ {xs : List Nat} {s : Nat}, (∀ j, s ≤ j → j < s + xs.length → g' j = g j ∧ h' j = h j) → itm g h s xs → itm g' h' s xs
  | [], _, _, _ => trivial
  | x :: t, s, hk, hi => by
    rw [List.length_cons] at hk
    refine ⟨?_, itm_keep (fun j h1 h2 => hk j (by omega) (by omega)) hi.2⟩
    obtain ⟨a, b⟩ := hk s (Nat.le_refl _) (by omega)
    rw [a, b]
    exact hi.1
def cI (t : Nat) (w : Nat → Nat) (M : Nat → Nat → Int32) (i s : Nat) : Prop := (M 70 3 = nI t ∧ M 70 5 = nI i ∧ M 70 4 = nI s ∧ M 70 6 = -1) ∧ (∀ j, j < t → M 71 j = nI (w j)) ∧ i ≤ t ∧ s ≤ i
def cF (M M' : Nat → Nat → Int32) : Prop := (∀ c, c ≠ 70 → c ≠ 72 → c ≠ 73 → M' c = M c) ∧ M' 70 3 = M 70 3
theorem cF.re (M : Nat → Nat → Int32) : cF M M := ⟨fun _ _ _ _ => rfl, rfl⟩
theorem cF.tr {M M1 M2 : Nat → Nat → Int32} (h : cF M M1) (h' : cF M1 M2) : cF M M2 := ⟨fun c a b e => (h'.1 c a b e).trans (h.1 c a b e), h'.2.trans h.2⟩
def cO (M M' : Nat → Nat → Int32) (s : Nat) (r : PQ) : Prop := cF M M' ∧ match r with
  | .inl p => M' 70 6 = nI p ∧ ∃ z, z ≤ 128 ∧ M' 70 4 = nI z
  | .inr (q, xs) => (M' 70 6 = -1 ∧ M' 70 5 = nI q ∧ M' 70 4 = nI (s + xs.length) ∧ itm (M' 72) (M' 73) s xs) ∧ ∀ j, j < s → M' 72 j = M 72 j ∧ M' 73 j = M 73 j
theorem cO_seq {M M1 M2 : Nat → Nat → Int32} {s q : Nat} {xs : List Nat} {f : Nat → PQ} (h1 : cO M M1 s (.inr (q, xs))) (h2 : cO M1 M2 (s + xs.length) (f q)) : cO M M2 s (bnd (.inr (q, xs)) f) := by
  show cO M M2 s (match f q with
    | .inl p => .inl p
    | .inr (q', ys) => .inr (q', xs ++ ys))
  cases hr : f q with
  | inl p =>
    rw [hr] at h2
    exact ⟨h1.1.tr h2.1, h2.2⟩
  | inr z =>
    obtain ⟨q', ys⟩ := z
    rw [hr] at h2
    obtain ⟨a, ⟨⟨b1', b2', b3', b4'⟩, c⟩⟩ := h1
    obtain ⟨a', ⟨⟨b1, b2, b3, b4⟩, c'⟩⟩ := h2
    refine ⟨a.tr a', ⟨b1, b2, ?_, itm_app (itm_keep (fun j _ h => c' j h) b4') b4⟩, fun j hj => ?_⟩
    · rw [b3, List.length_append, Nat.add_assoc]
    · obtain ⟨e1, e2⟩ := c j hj
      obtain ⟨e3, e4⟩ := c' j (by omega)
      exact ⟨e3.trans e1, e4.trans e2⟩
theorem cO_I {t : Nat} {w : Nat → Nat} {M M' : Nat → Nat → Int32} {i s q : Nat} {xs : List Nat} (h : cI t w M i s) (h1 : cO M M' s (.inr (q, xs))) (hq : q ≤ t) (hx : s + xs.length ≤ q) : cI t w M' q (s + xs.length) :=
  ⟨⟨h1.1.2.trans h.1.1, h1.2.1.2.1, h1.2.1.2.2.1, h1.2.1.1⟩, fun j hj => by rw [h1.1.1 71 (by omega) (by omega) (by omega)]; exact h.2.1 j hj, hq, hx⟩
theorem cI_adv {t : Nat} {w : Nat → Nat} {M : Nat → Nat → Int32} {i s : Nat} (h : cI t w M i s) (hi : i < t) : cI t w (u2 M 70 5 (M 70 5 + 1)) (i + 1) s :=
  ⟨⟨by rw [u2_n (by omega)]; exact h.1.1, by rw [u2_s, h.1.2.1, nI_1], by rw [u2_n (by omega)]; exact h.1.2.2.1, by rw [u2_n (by omega)]; exact h.1.2.2.2⟩, fun j hj => by rw [u2_o (by omega)]; exact h.2.1 j hj, hi, by have := h.2.2.2; omega⟩
theorem cO_adv {M M' : Nat → Nat → Int32} {s : Nat} {x : Int32} {r : PQ} (h : cO (u2 M 70 5 x) M' s r) : cO M M' s r := by
  obtain ⟨⟨a1, a2⟩, b⟩ := h
  refine ⟨⟨fun c h1 h2 h3 => by rw [a1 c h1 h2 h3, u2_o h1], by rw [a2, u2_n (by omega)]⟩, ?_⟩
  cases r with
  | inl p => exact b
  | inr z =>
    refine ⟨b.1, fun j hj => ?_⟩
    have := b.2 j hj
    rw [u2_o (by omega), u2_o (by omega)] at this
    exact this
section CREAD
variable (E : Nat × (Nat → Int32)) (d : Nat) (L : Nat → Nat → Int64) {t : Nat} (ht : t ≤ 120) {w : Nat → Nat} (hw : ∀ j, j < t → w j < 256)
theorem bt_256 {t : Nat} {w : Nat → Nat} (hw : ∀ j, j < t → w j < 256) (i : Nat) : btA t w i < 257 := by
  unfold btA
  split
  · rename_i h; have := hw i h; omega
  · omega
theorem e68 (ht : t ≤ 120) (hw : ∀ j, j < t → w j < 256) (M : Nat → Nat → Int32) {i s : Nat} (h : cI t w M i s) : C E (d + 1) 68 [vR 1 7 70] (M, L) = some (some (vI (cpk (btA t w i))), (M, L)) := by
  obtain ⟨⟨h3, h5, h4, h6⟩, hb, hi, hs⟩ := h
  rw [x68, h5, h3, if_neg (nI_pos (by omega))]
  unfold btA
  by_cases q : i < t
  · rw [if_neg (nI_ge (by omega) (by omega)), if_neg (show ¬ (120 : Int32) ≤ nI i from nI_ge (b := 120) (by omega) (by omega)), if_pos (by rw [ib_nI (by omega)]; omega), ix_nI (by omega), if_pos q, hb i q]
    unfold cpk
    have := hw i q
    rw [if_neg (by omega)]
  · rw [if_pos (nI_le (by omega) (by omega)), if_neg q]
    rfl
theorem e77 (M : Nat → Nat → Int32) {c : Nat} (hc : c < 257) : C E (d + 1) 77 [vI (cpk c)] (M, L) = some (some (vI (lvI c)), (M, L)) := by
  rw [x77, ← lvF_c c hc]
  unfold lvF
  (repeat' split) <;> rfl
theorem e76 (M : Nat → Nat → Int32) {c : Nat} (hc : c < 257) : C E (d + 1) 76 [vI (cpk c)] (M, L) = some (some (vI (nmI c)), (M, L)) := by
  rw [x76, ← nmF_c c hc]
  unfold nmF'
  (repeat' split) <;> rfl
theorem e75c (M : Nat → Nat → Int32) {c : Nat} (hc : c < 257) : C E (d + 1) 75 [vI (cpk c)] (M, L) = some (some (vI (if isD c = true then 1 else 0)), (M, L)) := by
  have := dgt c hc
  rw [e75]
  cases h : isD c with
  | true => rw [h] at this; rw [b1_t (of_decide_eq_true this), if_pos rfl]
  | false => rw [h] at this; rw [b1_f (of_decide_eq_false this), if_neg (by decide)]
def emt (M : Nat → Nat → Int32) (s : Nat) (a b : Int32) : Nat → Nat → Int32 := u2 (u2 (u2 M 72 s a) 73 s b) 70 4 (nI (s + 1))
theorem e69 (M : Nat → Nat → Int32) {s : Nat} (h : M 70 4 = nI s) (hs : s < 128) (a b : Int32) : C E (d + 1) 69 [vR 1 7 70, vI a, vI b] (M, L) = some (none, (emt M s a b, L)) := by
  have i1 : ib (nI s) 128 := by rw [ib_nI (by omega)]; exact hs
  have e1 : u2 M 72 s a 70 4 = nI s := by rw [u2_o (by omega)]; exact h
  have e2 : u2 (u2 M 72 s a) 73 s b 70 4 = nI s := by rw [u2_o (by omega)]; exact e1
  rw [x69, h, if_neg (show ¬ (128 : Int32) ≤ nI s from nI_ge (b := 128) (by omega) (by omega)), if_pos i1, ix_nI (by omega), e1]
  simp only [if_pos i1, ix_nI (n := s) (by omega), e2, nI_1]
  rfl
theorem cF_emt {M : Nat → Nat → Int32} {s : Nat} {a b : Int32} : cF M (emt M s a b) := by
  unfold emt
  exact ⟨fun c h1 h2 h3 => by rw [u2_o h1, u2_o h3, u2_o h2], by rw [u2_n (by omega), u2_o (by omega), u2_o (by omega)]⟩
/-- in a fault -/
theorem e69f (M : Nat → Nat → Int32) {z p : Nat} (h : M 70 4 = nI z) (hz : z ≤ 128) (h6 : M 70 6 = nI p) (a b : Int32) : ∃ M', C E (d + 1) 69 [vR 1 7 70, vI a, vI b] (M, L) = some (none, (M', L)) ∧ cF M M' ∧ M' 70 6 = nI p ∧ ∃ z, z ≤ 128 ∧ M' 70 4 = nI z := by
  by_cases q : z < 128
  · refine ⟨_, e69 E d L M h q a b, cF_emt, ?_, z + 1, by omega, ?_⟩
    · unfold emt; rw [u2_n (by omega), u2_o (by omega), u2_o (by omega)]; exact h6
    · unfold emt; rw [u2_s]
  · refine ⟨M, ?_, cF.re M, h6, z, hz, h⟩
    rw [x69, h, if_pos (show (128 : Int32) ≤ nI z from nI_le (a := 128) (by omega) (by omega))]
theorem e69c (ht : t ≤ 120) (M : Nat → Nat → Int32) {i s : Nat} (h : cI t w M i s) (x : Nat) {a b : Int32} (ha : a = stI x) (hb : b = vlu x) : ∃ M', C E (d + 1) 69 [vR 1 7 70, vI a, vI b] (M, L) = some (none, (M', L)) ∧ cO M M' s (.inr (i, [x])) := by
  obtain ⟨⟨h3, h5, h4, h6⟩, hbb, hi, hs⟩ := h
  refine ⟨_, e69 E d L M h4 (by omega) a b, cF_emt, ⟨?_, ?_, ?_, ⟨?_, trivial⟩⟩, fun j hj => ?_⟩
  · unfold emt; rw [u2_n (by omega), u2_o (by omega), u2_o (by omega)]; exact h6
  · unfold emt; rw [u2_n (by omega), u2_o (by omega), u2_o (by omega)]; exact h5
  · unfold emt; rw [u2_s]; rfl
  · unfold emt
    rw [u2_o (c := 72) (by omega), u2_o (c := 72) (by omega), u2_s, u2_o (c := 73) (by omega), u2_s]
    exact ⟨ha, hb⟩
  · unfold emt
    rw [u2_o (c := 72) (by omega), u2_o (c := 72) (by omega), u2_n (by omega), u2_o (c := 73) (by omega), u2_n (by omega), u2_o (c := 73) (by omega)]
    exact ⟨rfl, rfl⟩
def CLS (t : Nat) (w : Nat → Nat) (fn : Nat → PQ) (D y : Nat) (args : List PV) : Prop := ∀ (M : Nat → Nat → Int32) (i s : Nat), cI t w M i s → ∃ M', C E D y (vR 1 7 70 :: args) (M, L) = some (none, (M', L)) ∧ cO M M' s (fn i)
theorem e74 (ht : t ≤ 120) (hw : ∀ j, j < t → w j < 256) : CLS E L t w (fun i => .inr ((dig (btA t w) 4 0 i).1, [1000 + (dig (btA t w) 4 0 i).2])) (d + 2) 74 [] := by
  have h : ∀ k v (M : Nat → Nat → Int32) i s, k ≤ 4 → cI t w M i s → ∃ M', X E (d + 1) me74 4 [some (vR 1 7 70), some (vI (nI v)), some (vI (nI (4 - k)))] [] (M, L) = some (none, (M', L)) ∧ cO M M' s (.inr ((dig (btA t w) k v i).1, [1000 + (dig (btA t w) k v i).2])) := by
    intro k
    induction k with
    | zero =>
      intro v M i s _ hI
      obtain ⟨M', e', o'⟩ := e69c E d L ht M hI (1000 + v) (a := 0) (b := nI v) (by unfold stI; rw [if_pos (by omega)]) (by unfold vlu; rw [if_pos (by omega), Nat.add_sub_cancel_left])
      refine ⟨M', ?_, o'⟩
      rw [x74_4, if_pos (show (4 : Int32) ≤ nI (4 - 0) by decide), e', bV_s]
    | succ k ih =>
      intro v M i s hk hI
      have hc := bt_256 hw i
      have hx := e68 E d L ht hw M hI
      rw [x74_4, if_neg (show ¬ (4 : Int32) ≤ nI (4 - (k + 1)) from nI_ge (b := 4) (by omega) (by omega)), hx, bI_s, e75c E d L M hc, bI_s]
      unfold dig
      by_cases q : isD (btA t w i) = true
      · obtain ⟨q1, q2⟩ := isD_t.mp q
        have hi : i < t := bt_lt (w := w) (by omega)
        have hcp : cpk (btA t w i) = nI (btA t w i) := by unfold cpk; rw [if_neg (by omega)]
        rw [if_pos q, if_neg (by decide), hx, bI_s, hcp, dgv _ _ q1, nI_1, if_pos q]
        obtain ⟨M', e', o'⟩ := ih (10 * v + (btA t w i - 48)) _ (i + 1) s (by omega) (cI_adv hI hi)
        refine ⟨M', ?_, cO_adv o'⟩
        rw [show 4 - (k + 1) + 1 = 4 - k by omega]
        exact e'
      · rw [if_neg q, if_pos rfl, if_neg q]
        obtain ⟨M', e', o'⟩ := e69c E d L ht M hI (1000 + v) (a := 0) (b := nI v) (by unfold stI; rw [if_pos (by omega)]) (by unfold vlu; rw [if_pos (by omega), Nat.add_sub_cancel_left])
        refine ⟨M', ?_, o'⟩
        rw [e', bV_s]
  intro M i s hI
  obtain ⟨M', e', o'⟩ := h 4 0 M i s (by omega) hI
  refine ⟨M', ?_, o'⟩
  rw [x74]
  exact e'
theorem stI_bin {c : Nat} (h : lvc c < 9) : cpk c = stI c ∧ (0 : Int32) = vlu c := by
  obtain ⟨a, b⟩ := lvc_ne h
  unfold cpk stI vlu
  rw [if_neg (by omega), if_neg (by omega), if_neg (by omega), if_neg (fun q => b (Or.inl q)), if_neg (fun q => b (Or.inr q)), if_neg (by omega), if_neg (by omega)]
  exact ⟨rfl, rfl⟩
theorem lp71 (ht : t ≤ 120) (hw : ∀ j, j < t → w j < 256) {sub : Nat → PQ} {lv o : Nat} (hsub : CLS E L t w sub (d + 1) 71 [vI (nI (lv + 1)), vI (nI o)]) (hwf : ∀ i, i ≤ t → wfP t i (sub i)) (hlv : lv < 5) :
    ∀ k, k ≤ 120 → ∀ i s (M : Nat → Nat → Int32) w4, cI t w M i s → ∃ M', X E (d + 1) me71 21 [some (vR 1 7 70), some (vI (nI lv)), some (vI (nI o)), some (vI (nI (120 - k))), w4] [] (M, L) = some (none, (M', L)) ∧ cO M M' s (loopP (btA t w) sub lv k i) := by
  have triv : ∀ i s (M : Nat → Nat → Int32), cI t w M i s → cO M M s (.inr (i, [])) := fun i s M h => ⟨cF.re M, ⟨h.1.2.2.2, h.1.2.1, h.1.2.2.1, trivial⟩, fun _ _ => ⟨rfl, rfl⟩⟩
  intro k
  induction k with
  | zero =>
    intro _ i s M w4 hI
    refine ⟨M, ?_, triv i s M hI⟩
    rw [x71_21, if_pos (show (120 : Int32) ≤ nI (120 - 0) by decide)]
  | succ k ih =>
    intro hk i s M w4 hI
    have hc := bt_256 hw i
    have hx := e68 E d L ht hw M hI
    rw [x71_21, if_neg (show ¬ (120 : Int32) ≤ nI (120 - (k + 1)) from nI_ge (b := 120) (by omega) (by omega)), hI.1.2.2.2, if_neg (by decide), hx, bI_s, e77 E d L M hc, bI_s]
    have elv : (lvI (btA t w i) = nI lv) = (lvc (btA t w i) = lv) := by
      unfold lvI
      by_cases q : lvc (btA t w i) < 9
      · rw [if_pos q]; exact nI_eqB (by omega) (by omega)
      · rw [if_neg q]
        refine propext ⟨fun z => ?_, fun z => absurd z (by omega)⟩
        have := congrArg Int32.toInt z
        rw [t_m1, t_nI (by omega)] at this
        omega
    unfold loopP
    by_cases q : lvc (btA t w i) = lv
    · have h9 : lvc (btA t w i) < 9 := by omega
      have hi : i < t := bt_lt (w := w) (by have := (lvc_ne h9).1; omega)
      obtain ⟨hs1, hs2⟩ := stI_bin h9
      rw [if_pos (by rw [elv]; exact q), hx, bI_s, nI_1, if_pos q]
      have hI1 := cI_adv hI hi
      obtain ⟨M1, e1, o1⟩ := hsub _ (i + 1) s hI1
      have e1 : C E (d + 1) 71 [vR 1 7 70, vI (nI (lv + 1)), vI (nI o)] (u2 M 70 5 (M 70 5 + 1), L) = some (none, (M1, L)) := e1
      dsimp only
      rw [e1, bV_s]
      have hwf1 := hwf (i + 1) hi
      cases hr : sub (i + 1) with
      | inl p =>
        rw [hr] at o1 hwf1
        obtain ⟨of1, o6, z, hz, o4⟩ := o1
        obtain ⟨M2, e2, f2, g6, z2, hz2, g4⟩ := e69f E d L M1 o4 hz o6 (cpk (btA t w i)) 0
        have hp : p ≤ t := hwf1
        have hfin : cO M M2 s (.inl p) := cO_adv (x := M 70 5 + 1) ⟨of1.tr f2, g6, z2, hz2, g4⟩
        rw [e2, bV_s]
        by_cases ql : nI lv = 2
        · rw [if_pos ql]
          exact ⟨M2, rfl, hfin⟩
        · rw [if_neg ql]
          refine ⟨M2, ?_, hfin⟩
          rw [x71_21, g6, if_pos (show (0 : Int32) ≤ nI p by rw [t_le, t_0, t_nI (by omega)]; omega)]
          split <;> rfl
      | inr zz =>
        obtain ⟨q1, xs⟩ := zz
        rw [hr] at o1 hwf1
        obtain ⟨w1, w2, w3, w4'⟩ := hwf1
        have hsi := hI.2.2.2
        have hI2 := cO_I hI1 o1 w2 (by omega)
        obtain ⟨M2, e2, o2⟩ := e69c E d L ht M1 hI2 (btA t w i) hs1 hs2
        have o12 := cO_seq (f := fun q => .inr (q, [btA t w i])) o1 o2
        have hI3 := cO_I hI1 o12 w2 (by rw [List.length_append, List.length_singleton]; omega)
        rw [e2, bV_s]
        have e2q : (nI lv = 2) = (lv = 2) := nI_eqB (b := 2) (by omega) (by omega)
        by_cases ql : lv = 2
        · rw [if_pos (by rw [e2q]; exact ql)]
          refine ⟨M2, rfl, cO_adv (x := M 70 5 + 1) ?_⟩
          refine cO_seq o12 ?_
          rw [if_pos ql]
          exact triv _ _ _ hI3
        · rw [if_neg (by rw [e2q]; exact ql)]
          obtain ⟨M3, e3, o3⟩ := ih (by omega) q1 _ M2 (some (vI (cpk (btA t w i)))) hI3
          refine ⟨M3, ?_, cO_adv (x := M 70 5 + 1) ?_⟩
          · rw [nI_1, show 120 - (k + 1) + 1 = 120 - k by omega]
            exact e3
          · refine cO_seq o12 ?_
            rw [if_neg ql]
            exact o3
    · rw [if_neg (by rw [elv]; exact q), if_neg q]
      exact ⟨M, rfl, triv i s M hI⟩
theorem cl71 (ht : t ≤ 120) (hw : ∀ j, j < t → w j < 256) {op : Nat → PQ} {o : Nat} (hop : CLS E L t w op (d + 1) 72 [vI (nI o)]) (hwf : ∀ i, i ≤ t → wfP t i (op i)) : ∀ r, r ≤ 5 → CLS E L t w (clP (btA t w) op r) (d + 2 + r) 71 [vI (nI (5 - r)), vI (nI o)] := by
  intro r
  induction r with
  | zero =>
    intro _ M i s hI
    obtain ⟨M', e', o'⟩ := hop M i s hI
    refine ⟨M', ?_, o'⟩
    show C E (d + 1 + 1) 71 [vR 1 7 70, vI (nI 5), vI (nI o)] (M, L) = _
    rw [x71, if_neg (by decide), e', bV_s]
  | succ r ih =>
    intro hr M i s hI
    have ih := ih (by omega)
    have hwr := wf_cl (w := w) hwf r (by omega)
    obtain ⟨M1, e1, o1⟩ := ih M i s hI
    show ∃ M', C E (d + 2 + r + 1) 71 [vR 1 7 70, vI (nI (5 - (r + 1))), vI (nI o)] (M, L) = some (none, (M', L)) ∧ cO M M' s (bnd (clP (btA t w) op r i) (loopP (btA t w) (clP (btA t w) op r) (4 - r) 120))
    rw [x71, if_pos (show nI (5 - (r + 1)) < (5 : Int32) from nI_lt (b := 5) (by omega) (by omega)), nI_1, show 5 - (r + 1) + 1 = 5 - r by omega, e1, bV_s, show 5 - (r + 1) = 4 - r by omega]
    have hwi := hwr i hI.2.2.1
    cases hr1 : clP (btA t w) op r i with
    | inl p =>
      rw [hr1] at o1 hwi
      obtain ⟨of1, o6, z, hz, o4⟩ := o1
      have hp : p ≤ t := hwi
      refine ⟨M1, ?_, ⟨of1, o6, z, hz, o4⟩⟩
      rw [x71_21, if_neg (by decide), o6, if_pos (show (0 : Int32) ≤ nI p by rw [t_le, t_0, t_nI (by omega)]; omega)]
    | inr zz =>
      obtain ⟨q, xs⟩ := zz
      rw [hr1] at o1 hwi
      obtain ⟨w1, w2, w3, w4'⟩ := hwi
      have hsi := hI.2.2.2
      have hI2 := cO_I hI o1 w2 (by omega)
      have hsub : CLS E L t w (clP (btA t w) op r) (d + 1 + r + 1) 71 [vI (nI (4 - r + 1)), vI (nI o)] := by
        rw [show d + 1 + r + 1 = d + 2 + r by omega, show 4 - r + 1 = 5 - r by omega]; exact ih
      obtain ⟨M2, e2, o2⟩ := lp71 E (d + 1 + r) L ht hw hsub hwr (by omega) 120 (Nat.le_refl _) q _ M1 none hI2
      refine ⟨M2, ?_, cO_seq o1 o2⟩
      rw [show d + 1 + r + 1 = d + 2 + r by omega] at e2
      exact e2
end CREAD
