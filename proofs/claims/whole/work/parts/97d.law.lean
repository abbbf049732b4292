/-! the text of a law: the reference's reading -/
def rpk (c : Nat) : Int32 := if c = 256 then 0 else nI c
theorem rpk_e {c k : Nat} (hc : c ≤ 256) (hk : k < 256) (h0 : 0 < k) : (rpk c = nI k) = (c = k) := by
  unfold rpk
  by_cases q : c = 256
  · rw [if_pos q]
    refine propext ⟨fun z => ?_, fun z => absurd z (by omega)⟩
    have := nI_inj (a := 0) (by omega) (by omega) z
    omega
  · rw [if_neg q]
    exact nI_eqB (by omega) (by omega)
theorem rpk_n {c : Nat} (h : c < 256) : rpk c = nI c := by unfold rpk; rw [if_neg (by omega)]
theorem rmF_c : ∀ c, c < 257 → nmF' (rpk c) = nmI c := by decide +kernel
theorem rgt : ∀ c, c < 257 → (decide (rpk c < 48) || decide ((57 : Int32) < rpk c)) = !isD c := by decide +kernel
def itr (g : Nat → Int32) : Nat → List Nat → Prop
  | _, [] => True
  | s, x :: t => g s = nI x ∧ itr g (s + 1) t
theorem itr_app {g : Nat → Int32} : ∀ {xs ys : List Nat} {s : Nat}, itr g s xs → itr g (s + xs.length) ys → itr g s (xs ++ ys)
  | [], _, _, _, h2 => h2
  | x :: t, ys, s, h1, h2 => by
    refine ⟨h1.1, itr_app h1.2 ?_⟩
    rw [List.length_cons] at h2
    rw [show s + 1 + t.length = s + (t.length + 1) by omega]
    exact h2
theorem itr_keep {g g' : Nat → Int32} : ∀ {xs : List Nat} {s : Nat}, (∀ j, s ≤ j → j < s + xs.length → g' j = g j) → itr g s xs → itr g' s xs
  | [], _, _, _ => trivial
  | x :: t, s, hk, hi => by
    rw [List.length_cons] at hk
    refine ⟨?_, itr_keep (fun j h1 h2 => hk j (by omega) (by omega)) hi.2⟩
    rw [hk s (Nat.le_refl _) (by omega)]
    exact hi.1
def rI (t : Nat) (w : Nat → Nat) (o : Nat) (M : Nat → Nat → Int32) (i s : Nat) : Prop := (M 400 11 = nI t ∧ M 400 12 = nI i ∧ M 400 19 = nI s ∧ M 400 13 = -1 ∧ M 400 14 = nI o) ∧ (∀ j, j < t → M 411 j = nI (w j)) ∧ i ≤ t ∧ s ≤ i
def rFr (M M' : Nat → Nat → Int32) : Prop := (∀ c, c ≠ 400 → c ≠ 417 → M' c = M c) ∧ ∀ j, j ≠ 12 → j ≠ 13 → j ≠ 14 → j ≠ 19 → M' 400 j = M 400 j
theorem rFr.re (M : Nat → Nat → Int32) : rFr M M := ⟨fun _ _ _ => rfl, fun _ _ _ _ _ => rfl⟩
theorem rFr.tr {M M1 M2 : Nat → Nat → Int32} (h : rFr M M1) (h' : rFr M1 M2) : rFr M M2 := ⟨fun c a b => (h'.1 c a b).trans (h.1 c a b), fun j a b c e => (h'.2 j a b c e).trans (h.2 j a b c e)⟩
theorem rFr.u (M : Nat → Nat → Int32) {j : Nat} (hj : j = 12 ∨ j = 13 ∨ j = 14 ∨ j = 19) (x : Int32) : rFr M (u2 M 400 j x) := ⟨fun c h _ => u2_o h, fun k a b c e => u2_n (by omega)⟩
def rO (t o : Nat) (M M' : Nat → Nat → Int32) (s : Nat) (r : PQ) : Prop := rFr M M' ∧ match r with
  | .inl p => (M' 400 13 = nI p ∧ p ≤ t) ∧ ∃ z, z ≤ t ∧ M' 400 12 = nI z
  | .inr (q, xs) => (M' 400 13 = -1 ∧ M' 400 12 = nI q ∧ M' 400 19 = nI (s + xs.length) ∧ M' 400 14 = nI o ∧ itr (M' 417) s xs) ∧ ∀ j, j < s → M' 417 j = M 417 j
theorem rO_seq {t o : Nat} {M M1 M2 : Nat → Nat → Int32} {s q : Nat} {xs : List Nat} {f : Nat → PQ} (h1 : rO t o M M1 s (.inr (q, xs))) (h2 : rO t o M1 M2 (s + xs.length) (f q)) : rO t o M M2 s (bnd (.inr (q, xs)) f) := by
  show rO t o M M2 s (match f q with
    | .inl p => .inl p
    | .inr (q', ys) => .inr (q', xs ++ ys))
  cases hr : f q with
  | inl p =>
    rw [hr] at h2
    exact ⟨h1.1.tr h2.1, h2.2⟩
  | inr z =>
    obtain ⟨q', ys⟩ := z
    rw [hr] at h2
    obtain ⟨a, ⟨⟨b1', b2', b3', b5', b4'⟩, c⟩⟩ := h1
    obtain ⟨a', ⟨⟨b1, b2, b3, b5, b4⟩, c'⟩⟩ := h2
    refine ⟨a.tr a', ⟨b1, b2, ?_, b5, itr_app (itr_keep (fun j _ h => c' j h) b4') b4⟩, fun j hj => ?_⟩
    · rw [b3, List.length_append, Nat.add_assoc]
    · exact (c' j (by omega)).trans (c j hj)
theorem rO_I {t : Nat} {w : Nat → Nat} {o : Nat} {M M' : Nat → Nat → Int32} {i s q : Nat} {xs : List Nat} (h : rI t w o M i s) (h1 : rO t o M M' s (.inr (q, xs))) (hq : q ≤ t) (hx : s + xs.length ≤ q) : rI t w o M' q (s + xs.length) :=
  ⟨⟨(h1.1.2 11 (by omega) (by omega) (by omega) (by omega)).trans h.1.1, h1.2.1.2.1, h1.2.1.2.2.1, h1.2.1.1, h1.2.1.2.2.2.1⟩, fun j hj => by rw [h1.1.1 411 (by omega) (by omega)]; exact h.2.1 j hj, hq, hx⟩
theorem rI_adv {t : Nat} {w : Nat → Nat} {o : Nat} {M : Nat → Nat → Int32} {i s : Nat} (h : rI t w o M i s) (hi : i < t) : rI t w o (u2 M 400 12 (M 400 12 + 1)) (i + 1) s :=
  ⟨⟨by rw [u2_n (by omega)]; exact h.1.1, by rw [u2_s, h.1.2.1, nI_1], by rw [u2_n (by omega)]; exact h.1.2.2.1, by rw [u2_n (by omega)]; exact h.1.2.2.2.1, by rw [u2_n (by omega)]; exact h.1.2.2.2.2⟩, fun j hj => by rw [u2_o (by omega)]; exact h.2.1 j hj, hi, by have := h.2.2.2; omega⟩
theorem rO_u {t o : Nat} {M M' : Nat → Nat → Int32} {s j : Nat} (hj : j = 12 ∨ j = 13 ∨ j = 14 ∨ j = 19) {x : Int32} {r : PQ} (h : rO t o (u2 M 400 j x) M' s r) : rO t o M M' s r := by
  obtain ⟨a, b⟩ := h
  refine ⟨(rFr.u M hj x).tr a, ?_⟩
  cases r with
  | inl p => exact b
  | inr z =>
    refine ⟨b.1, fun k hk => ?_⟩
    have := b.2 k hk
    rw [u2_o (by omega)] at this
    exact this
theorem rO_nil {t : Nat} {w : Nat → Nat} {o : Nat} {M : Nat → Nat → Int32} {i s : Nat} (h : rI t w o M i s) : rO t o M M s (.inr (i, [])) := ⟨rFr.re M, ⟨h.1.2.2.2.1, h.1.2.1, h.1.2.2.1, h.1.2.2.2.2, trivial⟩, fun _ _ => rfl⟩
theorem rO_flt {t : Nat} {w : Nat → Nat} {o o' : Nat} {M : Nat → Nat → Int32} {i s : Nat} (h : rI t w o M i s) : rO t o' M (u2 M 400 13 (M 400 12)) s (.inl i) :=
  ⟨rFr.u M (by omega) _, ⟨by rw [u2_s]; exact h.1.2.1, h.2.2.1⟩, i, h.2.2.1, by rw [u2_n (by omega)]; exact h.1.2.1⟩
section RREAD
variable (E : Nat × (Nat → Int32)) (d : Nat) (L : Nat → Nat → Int64) {t : Nat} {w : Nat → Nat}
theorem e171 (ht : t ≤ 120) (hw : ∀ j, j < t → w j < 256) {o : Nat} (M : Nat → Nat → Int32) {i s : Nat} (h : rI t w o M i s) : C E (d + 1) 171 [vR 1 12 400] (M, L) = some (some (vI (rpk (btA t w i))), (M, L)) := by
  obtain ⟨⟨h11, h12, h19, h13, h14⟩, hb, hi, hs⟩ := h
  rw [x171, h11, h12]
  unfold btA
  by_cases q : i < t
  · rw [if_neg (nI_ge (by omega) (by omega)), if_pos (by rw [ib_nI (by omega)]; omega), ix_nI (by omega), if_pos q, hb i q, rpk_n (hw i q)]
  · rw [if_pos (nI_le (by omega) (by omega)), if_neg q]
    rfl
theorem e171f (ht : t ≤ 120) {z : Nat} (M : Nat → Nat → Int32) (h11 : M 400 11 = nI t) (h12 : M 400 12 = nI z) (hz : z ≤ t) : ∃ x, C E (d + 1) 171 [vR 1 12 400] (M, L) = some (some (vI x), (M, L)) := by
  rw [x171, h11, h12]
  by_cases q : z < t
  · rw [if_neg (nI_ge (by omega) (by omega)), if_pos (by rw [ib_nI (by omega)]; omega)]
    exact ⟨_, rfl⟩
  · rw [if_pos (nI_le (by omega) (by omega))]
    exact ⟨_, rfl⟩
theorem e180 (M : Nat → Nat → Int32) {c : Nat} (hc : c < 257) : C E (d + 1) 180 [vI (rpk c)] (M, L) = some (some (vI (nmI c)), (M, L)) := by
  rw [x180, ← rmF_c c hc]
  unfold nmF'
  (repeat' split) <;> rfl
theorem e172 (M : Nat → Nat → Int32) (h : M 400 13 = -1) : C E (d + 1) 172 [vR 1 12 400] (M, L) = some (none, (u2 M 400 13 (M 400 12), L)) := by
  rw [x172, if_neg (by rw [h]; decide)]
theorem pos_le {p : Nat} (h : p ≤ 120) : (0 : Int32) ≤ nI p := by rw [t_le, t_0, t_nI (by omega)]; omega
theorem e172f (M : Nat → Nat → Int32) {p : Nat} (hp : p ≤ 120) (h : M 400 13 = nI p) : C E (d + 1) 172 [vR 1 12 400] (M, L) = some (none, (u2 M 400 13 (M 400 13), L)) := by
  rw [x172, if_pos (by rw [h]; exact pos_le hp)]
theorem e174 (ht : t ≤ 120) {o : Nat} (M : Nat → Nat → Int32) {i s : Nat} (h : rI t w o M i s) (hs : s < i) (x : Nat) : ∃ M', C E (d + 1) 174 [vR 1 12 400, vI (nI x)] (M, L) = some (none, (M', L)) ∧ rO t o M M' s (.inr (i, [x])) := by
  obtain ⟨⟨h11, h12, h19, h13, h14⟩, hb, hi, _⟩ := h
  refine ⟨u2 (u2 M 417 s (nI x)) 400 19 (nI (s + 1)), ?_, ⟨fun c h1 h2 => by rw [u2_o h1, u2_o h2], fun j a b c e => by rw [u2_n e, u2_o (by omega)]⟩, ⟨?_, ?_, ?_, ?_, ?_, trivial⟩, fun j hj => ?_⟩
  · have e19 : u2 M 417 s (nI x) 400 19 = nI s := by rw [u2_o (by omega)]; exact h19
    rw [x174, if_neg (by rw [h13]; decide), h19, if_pos (by rw [ib_nI (by omega)]; omega), ix_nI (by omega), e19, nI_1]
  · rw [u2_n (by omega), u2_o (by omega)]; exact h13
  · rw [u2_n (by omega), u2_o (by omega)]; exact h12
  · rw [u2_s]; rfl
  · rw [u2_n (by omega), u2_o (by omega)]; exact h14
  · rw [u2_o (by omega), u2_s]
  · rw [u2_o (by omega), u2_n (by omega)]
theorem e174f (M : Nat → Nat → Int32) {p : Nat} (hp : p ≤ 120) (h : M 400 13 = nI p) (x : Int32) : C E (d + 1) 174 [vR 1 12 400, vI x] (M, L) = some (none, (M, L)) := by
  rw [x174, if_pos (by rw [h]; exact pos_le hp)]
theorem e173f (M : Nat → Nat → Int32) {p : Nat} (hp : p ≤ 120) (h : M 400 13 = nI p) (x : Int32) : C E (d + 1) 173 [vR 1 12 400, vI x] (M, L) = some (some (vI (0 : Int32)), (M, L)) := by
  rw [x173, if_pos (by rw [h]; exact pos_le hp)]
theorem e173 (ht : t ≤ 120) (hw : ∀ j, j < t → w j < 256) {o : Nat} (M : Nat → Nat → Int32) {i s : Nat} (h : rI t w o M i s) {k : Nat} (hk : k < 256) (h0 : 0 < k) : C E (d + 2) 173 [vR 1 12 400, vI (nI k)] (M, L) = if btA t w i = k then some (some (vI (1 : Int32)), (u2 M 400 12 (M 400 12 + 1), L)) else some (some (vI (0 : Int32)), (M, L)) := by
  have e := rpk_e (c := btA t w i) (k := k) (by have := bt_256 hw i; omega) hk h0
  rw [x173, if_neg (by rw [h.1.2.2.2.1]; decide), e171 E d L ht hw M h, bI_s]
  by_cases q : btA t w i = k
  · rw [if_pos (by rw [e]; exact q), if_pos q]
  · rw [if_neg (by rw [e]; exact q), if_neg q]
def RLS (t : Nat) (w : Nat → Nat) (fn : Nat → PQ) (o D y : Nat) (args : List PV) : Prop := ∀ (M : Nat → Nat → Int32) (i s : Nat), rI t w o M i s → ∃ M', C E D y (vR 1 12 400 :: args) (M, L) = some (none, (M', L)) ∧ rO t o M M' s (fn i)
def wf3 (t i : Nat) (r : PQ) : Prop := match r with
  | .inl p => p ≤ t
  | .inr (q, xs) => i < q ∧ q ≤ t ∧ i + xs.length ≤ q
/-- a sign, what comes behind it, and the sign laid -/
theorem stepR (ht : t ≤ 120) {sub : Nat → PQ} {o D y : Nat} (hsub : RLS E L t w sub o (D + 1) y []) (hwf : ∀ i, i ≤ t → wfP t i (sub i)) (M : Nat → Nat → Int32) {i s : Nat} (h : rI t w o M i s) (hi : i < t) (x : Nat) (K : PS → PR) : ∃ M', (bV (C E (D + 1) y [vR 1 12 400] (u2 M 400 12 (M 400 12 + 1), L)) fun s3 => bV (C E (D + 1) 174 [vR 1 12 400, vI (nI x)] s3) K) = K (M', L) ∧ rO t o M M' s (bnd (sub (i + 1)) (fun q => .inr (q, [x]))) ∧ wf3 t i (bnd (sub (i + 1)) (fun q => .inr (q, [x]))) := by
  have h1 := rI_adv h hi
  obtain ⟨M1, e1, o1⟩ := hsub _ (i + 1) s h1
  have e1 : C E (D + 1) y [vR 1 12 400] (u2 M 400 12 (M 400 12 + 1), L) = some (none, (M1, L)) := e1
  have hwi := hwf (i + 1) hi
  rw [e1, bV_s]
  cases hr : sub (i + 1) with
  | inl p =>
    rw [hr] at o1 hwi
    have hp : p ≤ t := hwi
    refine ⟨M1, ?_, rO_u (by omega) o1, hp⟩
    rw [e174f E D L M1 (p := p) (by omega) o1.2.1.1, bV_s]
  | inr zz =>
    obtain ⟨q, xs⟩ := zz
    rw [hr] at o1 hwi
    obtain ⟨w1, w2, w3, w4⟩ := hwi
    have hsi := h.2.2.2
    have h2 := rO_I h1 o1 w2 (by omega)
    obtain ⟨M2, e2, o2⟩ := e174 E D L ht M1 h2 (by omega) x
    refine ⟨M2, ?_, rO_u (by omega) (rO_seq (f := fun q => .inr (q, [x])) o1 o2), by omega, w2, ?_⟩
    · rw [e2, bV_s]
    · rw [List.length_append, List.length_singleton]; omega
end RREAD
