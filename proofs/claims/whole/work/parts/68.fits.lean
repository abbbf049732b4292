/-! fits: the call -/
theorem altA_a {P : TP} {k : Nat} {x v : Int32} : altA (altA P k x) k v = altA P k v := by
  unfold altA
  have : (fun j => if j = k then v else (if j = k then x else pAl P j)) = fun j => if j = k then v else pAl P j := by
    funext j
    by_cases e : j = k
    · rw [if_pos e, if_pos e]
    · rw [if_neg e, if_neg e, if_neg e]
  show (_, _, _, (fun j => if j = k then v else (if j = k then x else pAl P j)), _) = _
  rw [this]
theorem altM_a {T : TS} {p : Nat} {x v : Int32} : altM (altM T p x) p v = altM T p v := by
  unfold altM
  have : (fun q => if q = p then v else (if q = p then x else tM T q)) = fun q => if q = p then v else tM T q := by
    funext j
    by_cases e : j = p
    · rw [if_pos e, if_pos e]
    · rw [if_neg e, if_neg e, if_neg e]
  show (_, (fun q => if q = p then v else (if q = p then x else tM T q)), _) = _
  rw [this]
theorem chA {M M' : Nat → Nat → Int32} {o : Nat} {P : TP} {T : TS} (h : CH M o P T) {k : Nat} {v : Int32} (q : ∀ c, o ≤ c → c ≤ o + 11 → c ≠ o + 5 → M' c = M c) (q5 : ∀ j, j < pN P → M' (o + 5) j = if j = k then v else M (o + 5) j) : CH M' o (altA P k v) T := by
  obtain ⟨h1, h2, h3, h4, h5, h6⟩ := h
  have e0 := q o (by omega) (by omega) (by omega)
  refine ⟨by rw [e0]; exact h1, by rw [e0]; exact h2, by rw [e0]; exact h3, by rw [e0]; exact h4, fun j hj => ?_, fun p hp => ?_⟩
  · obtain ⟨a1, a2, a3⟩ := h5 j hj
    rw [q (o + 3) (by omega) (by omega) (by omega), q (o + 4) (by omega) (by omega) (by omega), q5 j hj, a3]
    exact ⟨a1, a2, rfl⟩
  · rw [q (o + 6) (by omega) (by omega) (by omega), q (o + 7) (by omega) (by omega) (by omega), q (o + 8) (by omega) (by omega) (by omega), q (o + 9) (by omega) (by omega) (by omega)]
    exact h6 p hp
theorem chM {M M' : Nat → Nat → Int32} {o : Nat} {P : TP} {T : TS} (h : CH M o P T) {p : Nat} {v : Int32} (q : ∀ c, o ≤ c → c ≤ o + 11 → c ≠ o + 6 → M' c = M c) (q6 : ∀ j, j < pG P → M' (o + 6) j = if j = p then v else M (o + 6) j) : CH M' o P (altM T p v) := by
  obtain ⟨h1, h2, h3, h4, h5, h6⟩ := h
  have e0 := q o (by omega) (by omega) (by omega)
  refine ⟨by rw [e0]; exact h1, by rw [e0]; exact h2, by rw [e0]; exact h3, by rw [e0]; exact h4, fun j hj => ?_, fun j hj => ?_⟩
  · rw [q (o + 3) (by omega) (by omega) (by omega), q (o + 4) (by omega) (by omega) (by omega), q (o + 5) (by omega) (by omega) (by omega)]
    exact h5 j hj
  · obtain ⟨a1, a2, a3, a4⟩ := h6 j hj
    rw [q6 j hj, q (o + 7) (by omega) (by omega) (by omega), q (o + 8) (by omega) (by omega) (by omega), q (o + 9) (by omega) (by omega) (by omega), a1]
    exact ⟨rfl, a2, a3, a4⟩
section FITS2
variable (E : Nat × (Nat → Int32)) (d : Nat) (L : Nat → Nat → Int64)
theorem rxA {M : Nat → Nat → Int32} {P : TP} {T : TS} (h : RX E M P T) (hn : pN P ≤ 8) {k : Nat} (hk : k < pN P) (v : Int32) : RX E (u2 M 401 (16 + k) v) (altA P k v) T := by
  obtain ⟨⟨a1, a2, a3, a4, a5⟩, ⟨b1', b2', b3'⟩, hl⟩ := h
  have o4 := u2_o (M := M) (a := 401) (j := 16 + k) (x := v) (c := 400) (by omega)
  refine ⟨⟨by rw [o4]; exact a1, by rw [o4]; exact a2, by rw [u2_n (by omega)]; exact a3, fun j hj => ?_, fun p hp => ?_⟩, ⟨fun j hj => ?_, fun p hp => ?_, by rw [u2_n (by omega)]; exact b3'⟩, hl.keep (by rw [o4]) (by rw [u2_o (by omega)]) (by rw [u2_o (by omega)]) (by rw [u2_o (by omega)])⟩
  · have hj' : j < pN P := hj
    rw [u2_n (by omega)]
    refine ⟨(a4 j hj).1, ?_⟩
    show _ = if j = k then v else pAl P j
    by_cases e : j = k
    · rw [if_pos e, e, u2_s]
    · rw [if_neg e, u2_n (by omega)]; exact (a4 j hj).2
  · rw [u2_n (by omega), u2_n (by omega)]; exact a5 p hp
  · have hj' : j < pN P := hj
    rw [u2_n (by omega)]; exact b1' j hj
  · rw [u2_n (by omega), u2_n (by omega)]; exact b2' p hp
theorem rxM {M : Nat → Nat → Int32} {P : TP} {T : TS} (h : RX E M P T) (hn : pN P ≤ 8) (hg : pG P ≤ 9) {p : Nat} (hp : p < pG P) (v : Int32) : RX E (u2 M 401 (24 + p) v) P (altM T p v) := by
  obtain ⟨⟨a1, a2, a3, a4, a5⟩, ⟨b1', b2', b3'⟩, hl⟩ := h
  have o4 := u2_o (M := M) (a := 401) (j := 24 + p) (x := v) (c := 400) (by omega)
  refine ⟨⟨by rw [o4]; exact a1, by rw [o4]; exact a2, by rw [u2_n (by omega)]; exact a3, fun j hj => ?_, fun q hq => ?_⟩, ⟨fun j hj => ?_, fun q hq => ?_, by rw [u2_n (by omega)]; exact b3'⟩, hl.keep (by rw [o4]) (by rw [u2_o (by omega)]) (by rw [u2_o (by omega)]) (by rw [u2_o (by omega)])⟩
  · rw [u2_n (by omega), u2_n (by omega)]; exact a4 j hj
  · rw [u2_n (by omega), u2_n (by omega)]; exact a5 q hq
  · rw [u2_n (by omega)]; exact b1' j hj
  · rw [u2_n (i := 51 + q) (by omega)]
    refine ⟨?_, (b2' q hq).2⟩
    show _ = if q = p then v else tM T q
    by_cases e : q = p
    · rw [if_pos e, e, u2_s]
    · rw [if_neg e, u2_n (by omega)]; exact (b2' q hq).1
/-- the class's count and least, for means -/
theorem g91M (M : Nat → Nat → Int32) {P : TP} {T : TS} (hC : CH M 40 P T) (hn8 : pN P ≤ 8) (hg9 : pG P ≤ 9) (hl : LW E (pK P) M) {b s m p : Nat} (hb : b < pN P) (hp : p < pG P) (hs : s < 6) (hk : M 331 s = nI 0) (hm : M 332 s = nI m) (hm60 : m ≤ 60) :
    ∃ M', C E (d + 8) 91 [vR 1 8 110, vI (nI p), vI (3 : Int32), vI (nI b), vR 1 6 330, vI (nI s)] (M, L) = some (none, (M', L)) ∧ (∀ c, ¬ fQ c → M' c = M c) ∧ M' 110 8 = nI (cu (gdF L (fun x => (P, altM T p x)) b s m) 100 0) ∧ M' 110 9 = ftr (gdF L (fun x => (P, altM T p x)) b s m) 100 0 := by
  obtain ⟨M1, e1, f1, c1⟩ := e25 E (d + 5) L (u2 (u2 M 110 8 0) 110 9 (-2)) 170 40 (by omega)
  have hC0 : CH (u2 (u2 M 110 8 0) 110 9 (-2)) 40 P T := hC.keep (fun c h1 h2 => by rw [u2_o (by omega), u2_o (by omega)])
  have hC1 := c1 P T hC0 hn8 hg9
  have hf : ∀ c, ¬ fQ c → M1 c = M c := fun c hc => by
    rw [f1 c (by unfold fQ at hc; omega), u2_o (by unfold fQ at hc; omega), u2_o (by unfold fQ at hc; omega)]
  have hse : M (40 + 9) p = tE T p := (hC.2.2.2.2.2 p hp).2.2.2
  have loop : ∀ x7 : Int32, (x7 = 0 → ¬ tE T p = nI b) → _ := fun x7 h7 => l91 E (d + 1) L M (fun x => (P, altM T p x)) (n := pN P) (g := pG P) (kf := pK P) (fun _ => ⟨rfl, rfl, rfl⟩) hn8 hg9 hl (b := b) (s := s) (m := m) (most := 99) (num := p) (sx := 3) (x7 := x7) hb hs hk hm hm60 (by omega)
    (fun M1 x v h => ⟨_, e23_3 E _ M1 L 170 v (by omega), fun c hc => u2_o (by omega), by
      have := chM h (p := p) (v := v) (M' := u2 M1 (170 + 6) p v) (fun c _ _ q => u2_o q) (fun j _ => by rw [u2_ap, if_pos rfl])
      rw [altM_a] at this
      exact this⟩)
    (fun h0 v hv => by
      have hns := h7 h0
      have key : ∀ y, ftr (wrP P (altM T p y) b (L (334 + s))) m 0 = ftr (wrP P T b (L (334 + s))) m 0 := fun y => ftr_congr (fun j _ _ => by
        have hloc : LocS P (nI b) T (altM T p y) := ⟨fun _ _ => rfl, rfl, fun q _ hs' => (if_neg (fun e => hns (by rw [← e]; exact hs'))).symm, fun _ _ _ => rfl⟩
        have := (locAs hn8 hloc j).2.2.2 b hb rfl
        unfold wrP
        rw [this])
      unfold gdF wrF
      simp only [key])
    100 0 M1 (by omega) hf ⟨tM T p, by
      refine chM hC1 (fun _ _ _ _ => rfl) (fun j hj => ?_)
      by_cases e : j = p
      · rw [if_pos e, e]; exact (hC1.2.2.2.2.2 p hp).1
      · rw [if_neg e]⟩ (by rw [f1 110 (by omega), u2_n (by omega), u2_s]; rfl) (by rw [f1 110 (by omega), u2_s]; rfl) (fun _ q => absurd q (by omega))
  rw [x91, if_pos rfl, if_pos rfl, e22_6 E _ M L 40 (by omega), bI_s, hse]
  by_cases h : tE T p = nI b
  · rw [if_pos h, e1, bV_s]
    exact loop 1 (fun q => absurd q (by decide))
  · rw [if_neg h, e1, bV_s]
    exact loop 0 (fun _ => h)
theorem g91A (M : Nat → Nat → Int32) {P : TP} {T : TS} (hC : CH M 40 P T) (hn8 : pN P ≤ 8) (hg9 : pG P ≤ 9) (hl : LW E (pK P) M) {b s m k : Nat} (hb : b < pN P) (hkn : k < pN P) (hs : s < 6) (hk : M 331 s = nI 0) (hm : M 332 s = nI m) (hm60 : m ≤ 60) :
    ∃ M', C E (d + 8) 91 [vR 1 8 110, vI (nI k), vI (2 : Int32), vI (nI b), vR 1 6 330, vI (nI s)] (M, L) = some (none, (M', L)) ∧ (∀ c, ¬ fQ c → M' c = M c) ∧ M' 110 8 = nI (cu (gdF L (fun x => (altA P k x, T)) b s m) 10 0) ∧ M' 110 9 = ftr (gdF L (fun x => (altA P k x, T)) b s m) 10 0 := by
  obtain ⟨M1, e1, f1, c1⟩ := e25 E (d + 5) L (u2 (u2 M 110 8 0) 110 9 (-2)) 170 40 (by omega)
  have hC0 : CH (u2 (u2 M 110 8 0) 110 9 (-2)) 40 P T := hC.keep (fun c h1 h2 => by rw [u2_o (by omega), u2_o (by omega)])
  have hC1 := c1 P T hC0 hn8 hg9
  have hf : ∀ c, ¬ fQ c → M1 c = M c := fun c hc => by
    rw [f1 c (by unfold fQ at hc; omega), u2_o (by unfold fQ at hc; omega), u2_o (by unfold fQ at hc; omega)]
  have loop : ∀ x7 : Int32, (x7 = 0 → ¬ b = k) → _ := fun x7 h7 => l91 E (d + 1) L M (fun x => (altA P k x, T)) (n := pN P) (g := pG P) (kf := pK P) (fun _ => ⟨rfl, rfl, rfl⟩) hn8 hg9 hl (b := b) (s := s) (m := m) (most := 9) (num := k) (sx := 2) (x7 := x7) hb hs hk hm hm60 (by omega)
    (fun M1 x v h => ⟨_, e23_2 E _ M1 L 170 v (by omega), fun c hc => u2_o (by omega), by
      have := chA h (k := k) (v := v) (M' := u2 M1 (170 + 5) k v) (fun c _ _ q => u2_o q) (fun j _ => by rw [u2_ap, if_pos rfl])
      rw [altA_a] at this
      exact this⟩)
    (fun h0 v hv => by
      have hns := h7 h0
      have key : ∀ y, ftr (wrP (altA P k y) T b (L (334 + s))) m 0 = ftr (wrP P T b (L (334 + s))) m 0 := fun y => ftr_congr (fun j _ _ => by
        have := (locAlts (v := y) hn8 hb hns (T := T) j).2.2.2 b hb rfl
        unfold wrP
        rw [this])
      unfold gdF wrF
      simp only [key])
    10 0 M1 (by omega) hf ⟨pAl P k, by
      refine chA hC1 (fun _ _ _ _ => rfl) (fun j hj => ?_)
      by_cases e : j = k
      · rw [if_pos e, e]; exact (hC1.2.2.2.2.1 k hkn).2.2
      · rw [if_neg e]⟩ (by rw [f1 110 (by omega), u2_n (by omega), u2_s]; rfl) (by rw [f1 110 (by omega), u2_s]; rfl) (fun _ q => absurd q (by omega))
  rw [x91, if_neg (by decide), if_neg (by decide)]
  by_cases h : nI k = nI b
  · rw [if_pos h, e1, bV_s]
    exact loop 1 (fun q => absurd q (by decide))
  · rw [if_neg h, e1, bV_s]
    exact loop 0 (fun _ q => h (by rw [q]))
end FITS2
