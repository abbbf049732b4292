/-! the text of a law: what it gives; the class's working out -/
def jF (p a b : Int32) : Int32 := if p = 37 then (if b = 0 then 0 else rm32 a b) else if p = 38 then (if a = 0 then 0 else if b = 0 then 0 else 1) else if p = 42 then a * b else if p = 43 then a + b else if p = 45 then a - b else if p = 47 then (if b = 0 then 0 else a / b) else if p = 60 then (if b ≤ a then 0 else 1) else if p = 61 then (if a = b then 1 else 0) else if p = 62 then (if a ≤ b then 0 else 1) else if p = 124 then (if a = 0 then (if b = 0 then 0 else 1) else 1) else 0
def jG (p a b : Int32) : Int32 := if p = 38 then (if a = 0 then 0 else if b = 0 then 0 else 1) else if p = 42 then a * b else if p = 43 then a + b else if p = 45 then a - b else if p = 47 then (if b = 0 then 0 else a / b) else if p = 60 then (if b ≤ a then 0 else 1) else if p = 61 then (if a = b then 1 else 0) else if p = 62 then (if a ≤ b then 0 else 1) else if p = 124 then (if a = 0 then (if b = 0 then 0 else 1) else 1) else (if b = 0 then 0 else rm32 a b)
theorem lvc_ten {x : Nat} (h : lvc x < 9) : x = 124 ∨ x = 38 ∨ x = 60 ∨ x = 61 ∨ x = 62 ∨ x = 43 ∨ x = 45 ∨ x = 42 ∨ x = 47 ∨ x = 37 := by
  unfold lvc at h
  (repeat' split at h) <;> omega
theorem jG_F {x : Nat} (h : lvc x < 9) (a b : Int32) : jG (nI x) a b = jF (nI x) a b := by
  rcases lvc_ten h with h | h | h | h | h | h | h | h | h | h <;> rw [h] <;> rfl
def eS (f : Nat → Int32) (x : Nat) (g : Nat → Int32) (n : Nat) : (Nat → Int32) × Nat :=
  if 1000 ≤ x then (upd g n (nI (x - 1000)), n + 1) else if 256 ≤ x then (upd g n (f (x - 256)), n + 1) else if x = 110 then (upd g (n - 1) (-(g (n - 1))), n) else if x = 33 then (upd g (n - 1) (if g (n - 1) = 0 then 1 else 0), n) else (upd g (n - 2) (jF (nI x) (g (n - 2)) (g (n - 1))), n - 1)
def eV (f : Nat → Int32) : List Nat → (Nat → Int32) → Nat → (Nat → Int32) × Nat
  | [], g, n => (g, n)
  | x :: t, g, n => eV f t (eS f x g n).1 (eS f x g n).2
theorem upd_e {g : Nat → Int32} {j i : Nat} {x : Int32} : upd g j x i = if i = j then x else g i := rfl
/-- one sign may be worked out -/
def stO (x n : Nat) : Prop := 256 ≤ x ∨ ((x = 110 ∨ x = 33) ∧ 1 ≤ n) ∨ (x < 256 ∧ ¬ (x = 110 ∨ x = 33) ∧ 2 ≤ n)
theorem dpn_s {x : Nat} {t : List Nat} {n n' : Nat} (h : dpn (x :: t) n = some n') (f : Nat → Int32) (g : Nat → Int32) : stO x n ∧ dpn t (eS f x g n).2 = some n' := by
  unfold dpn at h
  unfold stO eS
  by_cases h1 : 256 ≤ x
  · rw [if_pos h1] at h
    refine ⟨Or.inl h1, ?_⟩
    by_cases h2 : 1000 ≤ x
    · rw [if_pos h2]; exact h
    · rw [if_neg h2, if_pos h1]; exact h
  · rw [if_neg h1] at h
    rw [if_neg (show ¬ 1000 ≤ x by omega), if_neg h1]
    by_cases h2 : x = 110 ∨ x = 33
    · rw [if_pos h2] at h
      match n, h with
      | n + 1, h =>
        refine ⟨Or.inr (Or.inl ⟨h2, by omega⟩), ?_⟩
        rcases h2 with q | q
        · rw [if_pos q]; exact h
        · rw [if_neg (by omega), if_pos q]; exact h
    · rw [if_neg h2] at h
      match n, h with
      | n + 2, h =>
        refine ⟨Or.inr (Or.inr ⟨by omega, h2, by omega⟩), ?_⟩
        rw [if_neg (fun q => h2 (Or.inl q)), if_neg (fun q => h2 (Or.inr q))]
        exact h
theorem eS_ag {f : Nat → Int32} {x n : Nat} {g g' : Nat → Int32} (h : stO x n) (hg : ∀ j, j < n → g j = g' j) : (eS f x g n).2 = (eS f x g' n).2 ∧ ∀ j, j < (eS f x g n).2 → (eS f x g n).1 j = (eS f x g' n).1 j := by
  unfold eS
  by_cases h2 : 1000 ≤ x
  · rw [if_pos h2, if_pos h2]
    refine ⟨rfl, fun j hj => ?_⟩
    show upd g n _ j = upd g' n _ j
    have hj : j < n + 1 := hj
    rw [upd_e, upd_e]
    split
    · rfl
    · exact hg j (by omega)
  · rw [if_neg h2, if_neg h2]
    by_cases h1 : 256 ≤ x
    · rw [if_pos h1, if_pos h1]
      refine ⟨rfl, fun j hj => ?_⟩
      show upd g n _ j = upd g' n _ j
      have hj : j < n + 1 := hj
      rw [upd_e, upd_e]
      split
      · rfl
      · exact hg j (by omega)
    · rw [if_neg h1, if_neg h1]
      by_cases h3 : x = 110
      · rw [if_pos h3, if_pos h3]
        have hn : 1 ≤ n := by rcases h with h | h | h <;> omega
        refine ⟨rfl, fun j hj => ?_⟩
        have hj : j < n := hj
        show upd g (n - 1) _ j = upd g' (n - 1) _ j
        rw [upd_e, upd_e, hg (n - 1) (by omega), hg j hj]
      · rw [if_neg h3, if_neg h3]
        by_cases h4 : x = 33
        · rw [if_pos h4, if_pos h4]
          have hn : 1 ≤ n := by rcases h with h | h | h <;> omega
          refine ⟨rfl, fun j hj => ?_⟩
          have hj : j < n := hj
          show upd g (n - 1) _ j = upd g' (n - 1) _ j
          rw [upd_e, upd_e, hg (n - 1) (by omega), hg j hj]
        · rw [if_neg h4, if_neg h4]
          have hn : 2 ≤ n := by rcases h with h | h | h <;> omega
          refine ⟨rfl, fun j hj => ?_⟩
          have hj : j < n - 1 := hj
          show upd g (n - 2) _ j = upd g' (n - 2) _ j
          rw [upd_e, upd_e, hg (n - 2) (by omega), hg (n - 1) (by omega), hg j (by omega)]
theorem eV_ag {f : Nat → Int32} : ∀ {xs : List Nat} {n n' : Nat} {g g' : Nat → Int32}, dpn xs n = some n' → (∀ j, j < n → g j = g' j) → (eV f xs g n).2 = n' ∧ (eV f xs g' n).2 = n' ∧ ∀ j, j < n' → (eV f xs g n).1 j = (eV f xs g' n).1 j
  | [], n, n', g, g', h, hg => by
    cases h
    exact ⟨rfl, rfl, hg⟩
  | x :: t, n, n', g, g', h, hg => by
    obtain ⟨s1, s2⟩ := dpn_s h f g
    obtain ⟨-, s3⟩ := dpn_s h f g'
    obtain ⟨a1, a2⟩ := eS_ag (f := f) s1 hg
    show (eV f t (eS f x g n).1 (eS f x g n).2).2 = n' ∧ (eV f t (eS f x g' n).1 (eS f x g' n).2).2 = n' ∧ ∀ j, j < n' → (eV f t (eS f x g n).1 (eS f x g n).2).1 j = (eV f t (eS f x g' n).1 (eS f x g' n).2).1 j
    rw [← a1]
    exact eV_ag s2 a2
def vlE (f : Nat → Int32) (xs : List Nat) : Int32 := (eV f xs (fun _ => 0) 0).1 0
theorem vlE_any {f : Nat → Int32} {xs : List Nat} (h : gdI xs) (g : Nat → Int32) : (eV f xs g 0).2 = 1 ∧ (eV f xs g 0).1 0 = vlE f xs := by
  obtain ⟨a, b, c⟩ := eV_ag (f := f) (g := g) (g' := fun _ => 0) (h.2 0) (fun j hj => absurd hj (by omega))
  exact ⟨a, c 0 (by omega)⟩
theorem eV_f {f f' : Nat → Int32} (hf : ∀ i, i < 6 → f i = f' i) : ∀ {xs : List Nat} {g : Nat → Int32} {n : Nat}, (∀ x ∈ xs, okI x) → eV f xs g n = eV f' xs g n
  | [], _, _, _ => rfl
  | x :: t, g, n, h => by
    have hx := h x List.mem_cons_self
    have e : eS f x g n = eS f' x g n := by
      unfold eS
      by_cases h2 : 1000 ≤ x
      · rw [if_pos h2, if_pos h2]
      · rw [if_neg h2, if_neg h2]
        by_cases h1 : 256 ≤ x
        · have : x < 262 := by
            rcases hx with q | q | q | q | q <;> omega
          rw [if_pos h1, if_pos h1, hf (x - 256) (by omega)]
        · rw [if_neg h1, if_neg h1]
    show eV f t _ _ = eV f' t _ _
    rw [e]
    exact eV_f hf (fun y hy => h y (List.mem_cons_of_mem _ hy))
theorem vlE_f {f f' : Nat → Int32} {xs : List Nat} (hf : ∀ i, i < 6 → f i = f' i) (h : gdI xs) : vlE f xs = vlE f' xs := by
  unfold vlE
  rw [eV_f hf h.1]
def kfL (f : Nat → Int32) : List LN → Int32
  | [] => 0
  | (none, ys) :: _ => vlE f ys
  | (some xs, ys) :: ls => if vlE f xs = 0 then kfL f ls else vlE f ys
theorem kfL_f {f f' : Nat → Int32} (hf : ∀ i, i < 6 → f i = f' i) : ∀ {ls : List LN}, (∀ l ∈ ls, gdL l) → kfL f ls = kfL f' ls
  | [], _ => rfl
  | (none, ys) :: _, h => vlE_f hf (h _ List.mem_cons_self).2
  | (some xs, ys) :: ls, h => by
    have h1 := h _ List.mem_cons_self
    show (if vlE f xs = 0 then kfL f ls else vlE f ys) = (if vlE f' xs = 0 then kfL f' ls else vlE f' ys)
    rw [vlE_f hf (h1.1 xs rfl), vlE_f hf h1.2, kfL_f hf (fun l hl => h l (List.mem_cons_of_mem _ hl))]
section CEVAL
variable (E : Nat × (Nat → Int32)) (d : Nat) (L : Nat → Nat → Int64)
theorem e38 (M : Nat → Nat → Int32) (p a b : Int32) : C E (d + 1) 38 [vI p, vI a, vI b] (M, L) = some (some (vI (jF p a b)), (M, L)) := by
  rw [x38]
  unfold jF
  by_cases h37 : p = 37
  · rw [if_pos h37, if_pos h37]
    by_cases hb : b = 0
    · rw [if_pos hb, if_pos hb]
    · rw [if_neg hb, if_neg hb, if_neg hb]
  · rw [if_neg h37, if_neg h37]
    by_cases h38 : p = 38
    · rw [if_pos h38, if_pos h38]
      by_cases ha : a = 0
      · rw [if_pos ha, if_pos ha]
      · rw [if_neg ha, if_neg ha]
        by_cases hb : b = 0
        · rw [if_pos hb, if_pos hb]
        · rw [if_neg hb, if_neg hb]
    · rw [if_neg h38, if_neg h38]
      by_cases h42 : p = 42
      · rw [if_pos h42, if_pos h42]
      · rw [if_neg h42, if_neg h42]
        by_cases h43 : p = 43
        · rw [if_pos h43, if_pos h43]
        · rw [if_neg h43, if_neg h43]
          by_cases h45 : p = 45
          · rw [if_pos h45, if_pos h45]
          · rw [if_neg h45, if_neg h45]
            by_cases h47 : p = 47
            · rw [if_pos h47, if_pos h47]
              by_cases hb : b = 0
              · rw [if_pos hb, if_pos hb]
              · rw [if_neg hb, if_neg hb, if_neg hb]
            · rw [if_neg h47, if_neg h47]
              by_cases h60 : p = 60
              · rw [if_pos h60, if_pos h60]
                by_cases hb : b ≤ a
                · rw [if_pos hb, if_pos hb]
                · rw [if_neg hb, if_neg hb]
              · rw [if_neg h60, if_neg h60]
                by_cases h61 : p = 61
                · rw [if_pos h61, if_pos h61]
                  by_cases hb : a = b
                  · rw [if_pos hb, if_pos hb]
                  · rw [if_neg hb, if_neg hb]
                · rw [if_neg h61, if_neg h61]
                  by_cases h62 : p = 62
                  · rw [if_pos h62, if_pos h62]
                    by_cases hb : a ≤ b
                    · rw [if_pos hb, if_pos hb]
                    · rw [if_neg hb, if_neg hb]
                  · rw [if_neg h62, if_neg h62]
                    by_cases h124 : p = 124
                    · rw [if_pos h124, if_pos h124]
                      by_cases ha : a = 0
                      · rw [if_pos ha, if_pos ha]
                        by_cases hb : b = 0
                        · rw [if_pos hb, if_pos hb]
                        · rw [if_neg hb, if_neg hb]
                      · rw [if_neg ha, if_neg ha]
                    · rw [if_neg h124, if_neg h124]
theorem e185 (M : Nat → Nat → Int32) (p a b : Int32) : C E (d + 1) 185 [vI p, vI a, vI b] (M, L) = some (some (vI (jG p a b)), (M, L)) := by
  rw [x185]
  unfold jG
  by_cases h38 : p = 38
  · rw [if_pos h38, if_pos h38]
    by_cases ha : a = 0
    · rw [if_pos ha, if_pos ha]
    · rw [if_neg ha, if_neg ha]
      by_cases hb : b = 0
      · rw [if_pos hb, if_pos hb]
      · rw [if_neg hb, if_neg hb]
  · rw [if_neg h38, if_neg h38]
    by_cases h42 : p = 42
    · rw [if_pos h42, if_pos h42]
    · rw [if_neg h42, if_neg h42]
      by_cases h43 : p = 43
      · rw [if_pos h43, if_pos h43]
      · rw [if_neg h43, if_neg h43]
        by_cases h45 : p = 45
        · rw [if_pos h45, if_pos h45]
        · rw [if_neg h45, if_neg h45]
          by_cases h47 : p = 47
          · rw [if_pos h47, if_pos h47]
            by_cases hb : b = 0
            · rw [if_pos hb, if_pos hb]
            · rw [if_neg hb, if_neg hb, if_neg hb]
          · rw [if_neg h47, if_neg h47]
            by_cases h60 : p = 60
            · rw [if_pos h60, if_pos h60]
              by_cases hb : b ≤ a
              · rw [if_pos hb, if_pos hb]
              · rw [if_neg hb, if_neg hb]
            · rw [if_neg h60, if_neg h60]
              by_cases h61 : p = 61
              · rw [if_pos h61, if_pos h61]
                by_cases hb : a = b
                · rw [if_pos hb, if_pos hb]
                · rw [if_neg hb, if_neg hb]
              · rw [if_neg h61, if_neg h61]
                by_cases h62 : p = 62
                · rw [if_pos h62, if_pos h62]
                  by_cases hb : a ≤ b
                  · rw [if_pos hb, if_pos hb]
                  · rw [if_neg hb, if_neg hb]
                · rw [if_neg h62, if_neg h62]
                  by_cases h124 : p = 124
                  · rw [if_pos h124, if_pos h124]
                    by_cases ha : a = 0
                    · rw [if_pos ha, if_pos ha]
                      by_cases hb : b = 0
                      · rw [if_pos hb, if_pos hb]
                      · rw [if_neg hb, if_neg hb]
                    · rw [if_neg ha, if_neg ha]
                  · rw [if_neg h124, if_neg h124]
                    by_cases hb : b = 0
                    · rw [if_pos hb, if_pos hb]
                    · rw [if_neg hb, if_neg hb, if_neg hb]
theorem u2_93 {M : Nat → Nat → Int32} {a j : Nat} {x : Int32} : u2 M a j x a = upd (M a) j x := if_pos rfl
/-- one step -/
theorem step37 (M : Nat → Nat → Int32) {s n k z x : Nat} (hx : okI x) (hs : stO x n) (h1 : M 91 s = stI x) (h2 : M 92 s = vlu x) (hz : M 90 4 = nI z) (hz1 : z ≤ 128) (hsz : s < z) (hk : k ≤ s) (hn : n ≤ s) (w4 w5 w6 : Option PV) :
    ∃ M' w4' w5' w6', X E (d + 1) me37 6 [some (vR 1 3 90), some (vI (nI n)), some (vI (nI s)), some (vI (nI k)), w4, w5, w6] [] (M, L) = X E (d + 1) me37 6 [some (vR 1 3 90), some (vI (nI (eS (M 94) x (M 93) n).2)), some (vI (nI (s + 1))), some (vI (nI (k + 1))), w4', w5', w6'] [] (M', L) ∧ M' 93 = (eS (M 94) x (M 93) n).1 ∧ ∀ c, c ≠ 93 → M' c = M c := by
  have ibs : ib (nI s) 128 := by rw [ib_nI (by omega)]; omega
  have ixs := ix_nI (n := s) (by omega)
  rw [x37_6, if_neg (show ¬ (128 : Int32) ≤ nI k from nI_ge (b := 128) (by omega) (by omega)), if_neg (nI_pos (by omega)), hz, if_neg (nI_ge (by omega) (by omega)), if_neg (show ¬ (128 : Int32) ≤ nI s from nI_ge (b := 128) (by omega) (by omega)), if_pos ibs, if_pos ibs, ixs, h1, h2, nI_1]
  unfold eS
  have ibn : ib (nI n) 128 := by rw [ib_nI (by omega)]; omega
  have ixn := ix_nI (n := n) (by omega)
  have ltn : nI n < (128 : Int32) := nI_lt (b := 128) (by omega) (by omega)
  by_cases c1 : 1000 ≤ x
  · have e1 : stI x = 0 := by unfold stI; rw [if_pos c1]
    have e2 : vlu x = nI (x - 1000) := by unfold vlu; rw [if_pos c1]
    rw [e1, e2, if_pos rfl, if_pos ltn, x37_71, if_neg (by decide), if_pos ibn, ixn, nI_1, nI_1, if_pos c1]
    exact ⟨_, _, _, _, rfl, u2_93, fun c hc => u2_o hc⟩
  · by_cases c2 : 256 ≤ x
    · have hx6 : x < 262 := by rcases hx with q | q | q | q | q <;> omega
      have e1 : stI x = 1 := by unfold stI; rw [if_neg c1, if_pos c2]
      have e2 : vlu x = nI (x - 256) := by unfold vlu; rw [if_neg c1, if_pos c2]
      rw [e1, e2, if_neg (by decide), if_pos rfl, if_pos ltn, x37_71, if_pos rfl, if_neg (nI_pos (by omega)), if_neg (show ¬ (6 : Int32) ≤ nI (x - 256) from nI_ge (b := 6) (by omega) (by omega)), if_pos (by rw [ib_nI (by omega)]; omega), if_pos ibn, ixn, ix_nI (n := x - 256) (by omega), nI_1, nI_1, if_neg c1, if_pos c2]
      exact ⟨_, _, _, _, rfl, u2_93, fun c hc => u2_o hc⟩
    · by_cases c3 : x = 110
      · have hn1 : 1 ≤ n := by rcases hs with q | q | q <;> omega
        have e1 : stI x = 4 := by unfold stI; rw [if_neg c1, if_neg c2, if_pos c3]
        obtain ⟨m, hm⟩ : ∃ m, n = m + 1 := ⟨n - 1, by omega⟩
        have en : nI n - 1 = nI (n - 1) := by rw [hm, nI_pred]; rfl
        have ibm : ib (nI (n - 1)) 128 := by rw [ib_nI (by omega)]; omega
        rw [e1, if_neg (by decide), if_neg (by decide), x37_125, if_pos (show (0 : Int32) < nI n from nI_lt (a := 0) (by omega) (by omega)), if_neg (by decide), if_neg (by decide), if_pos rfl, en, if_pos ibm, if_pos ibm, ix_nI (n := n - 1) (by omega), nI_1, if_neg c1, if_neg c2, if_pos c3]
        exact ⟨_, _, _, _, rfl, u2_93, fun c hc => u2_o hc⟩
      · by_cases c4 : x = 33
        · have hn1 : 1 ≤ n := by rcases hs with q | q | q <;> omega
          have e1 : stI x = 5 := by unfold stI; rw [if_neg c1, if_neg c2, if_neg c3, if_pos c4]
          obtain ⟨m, hm⟩ : ∃ m, n = m + 1 := ⟨n - 1, by omega⟩
          have en : nI n - 1 = nI (n - 1) := by rw [hm, nI_pred]; rfl
          have ibm : ib (nI (n - 1)) 128 := by rw [ib_nI (by omega)]; omega
          rw [e1, if_neg (by decide), if_neg (by decide), x37_125, if_pos (show (0 : Int32) < nI n from nI_lt (a := 0) (by omega) (by omega)), if_neg (by decide), if_neg (by decide), if_neg (by decide), if_pos rfl, en, if_pos ibm, ix_nI (n := n - 1) (by omega), nI_1, if_neg c1, if_neg c2, if_neg c3, if_pos c4]
          by_cases q : M 93 (n - 1) = 0
          · rw [if_pos q, if_pos ibm, if_pos q]
            exact ⟨_, _, _, _, rfl, u2_93, fun c hc => u2_o hc⟩
          · rw [if_neg q, if_pos ibm, if_neg q]
            exact ⟨_, _, _, _, rfl, u2_93, fun c hc => u2_o hc⟩
        · have hlv : lvc x < 9 := by rcases hx with q | q | q | q | q <;> omega
          have hn2 : 2 ≤ n := by rcases hs with q | q | q <;> omega
          have e1 : stI x = nI x := by unfold stI; rw [if_neg c1, if_neg c2, if_neg c3, if_neg c4]
          obtain ⟨m, hm⟩ : ∃ m, n = m + 2 := ⟨n - 2, by omega⟩
          have en : nI n + Int32.ofInt (-1) = nI (n - 1) := by rw [hm, nI_dn]; rfl
          have en2 : nI (n - 1) - 1 = nI (n - 2) := by rw [hm]; exact nI_pred m
          have ibm : ib (nI (n - 1)) 128 := by rw [ib_nI (by omega)]; omega
          have ibm2 : ib (nI (n - 2)) 128 := by rw [ib_nI (by omega)]; omega
          have big : ∀ j, j < 6 → ¬ nI x = nI j := fun j hj q => by
            have := nI_inj (by rcases lvc_ten hlv with h | h | h | h | h | h | h | h | h | h <;> omega) (by omega) q
            rcases lvc_ten hlv with h | h | h | h | h | h | h | h | h | h <;> omega
          rw [e1, if_neg (show ¬ nI x = 0 from big 0 (by omega)), if_neg (show ¬ nI x = 1 from big 1 (by omega)), x37_125, if_pos (show (0 : Int32) < nI n from nI_lt (a := 0) (by omega) (by omega)), if_neg (show ¬ nI x = 2 from big 2 (by omega)), if_neg (show ¬ nI x = 3 from big 3 (by omega)), if_neg (show ¬ nI x = 4 from big 4 (by omega)), if_neg (show ¬ nI x = 5 from big 5 (by omega)), if_neg (show ¬ nI n < (2 : Int32) from nI_nlt (b := 2) (by omega) (by omega)), en, x37_241, en2, if_pos ibm2, if_pos ibm, ix_nI (n := n - 1) (by omega), ix_nI (n := n - 2) (by omega), e38, bI_s, if_pos ibm2, nI_1, if_neg c1, if_neg c2, if_neg c3, if_neg c4]
          exact ⟨_, _, _, _, rfl, u2_93, fun c hc => u2_o hc⟩
theorem run37 : ∀ (xs : List Nat) (M : Nat → Nat → Int32) {s n k z n' : Nat}, (∀ x ∈ xs, okI x) → dpn xs n = some n' → itm (M 91) (M 92) s xs → M 90 4 = nI z → z ≤ 128 → s + xs.length ≤ z → k ≤ s → n ≤ s → ∀ w4 w5 w6 : Option PV,
    ∃ M' w4' w5' w6', X E (d + 1) me37 6 [some (vR 1 3 90), some (vI (nI n)), some (vI (nI s)), some (vI (nI k)), w4, w5, w6] [] (M, L) = X E (d + 1) me37 6 [some (vR 1 3 90), some (vI (nI n')), some (vI (nI (s + xs.length))), some (vI (nI (k + xs.length))), w4', w5', w6'] [] (M', L) ∧ M' 93 = (eV (M 94) xs (M 93) n).1 ∧ ∀ c, c ≠ 93 → M' c = M c
  | [], M, s, n, k, z, n', _, h, _, _, _, _, _, _, w4, w5, w6 => by
    cases h
    exact ⟨M, w4, w5, w6, rfl, rfl, fun _ _ => rfl⟩
  | x :: t, M, s, n, k, z, n', ho, h, hi, hz, hz1, hs, hk, hn, w4, w5, w6 => by
    rw [List.length_cons] at hs
    obtain ⟨d1, d2⟩ := dpn_s h (M 94) (M 93)
    obtain ⟨M1, w4', w5', w6', e1, g1, f1⟩ := step37 E d L M (ho x List.mem_cons_self) d1 hi.1.1 hi.1.2 hz hz1 (by omega) hk hn w4 w5 w6
    have hn1 : (eS (M 94) x (M 93) n).2 ≤ s + 1 := by
      unfold eS
      (repeat' split) <;> dsimp only <;> omega
    have f91 := f1 91 (by omega)
    have f92 := f1 92 (by omega)
    have f90 := f1 90 (by omega)
    have f94 := f1 94 (by omega)
    obtain ⟨M2, v4, v5, v6, e2, g2, f2⟩ := run37 t M1 (s := s + 1) (n := (eS (M 94) x (M 93) n).2) (k := k + 1) (z := z) (n' := n') (fun y hy => ho y (List.mem_cons_of_mem _ hy)) d2 (by rw [f91, f92]; exact hi.2) (by rw [f90]; exact hz) hz1 (by omega) (by omega) hn1 w4' w5' w6'
    refine ⟨M2, v4, v5, v6, ?_, ?_, fun c hc => (f2 c hc).trans (f1 c hc)⟩
    · rw [e1, e2, List.length_cons, show s + 1 + t.length = s + (t.length + 1) by omega, show k + 1 + t.length = k + (t.length + 1) by omega]
    · rw [g2, f94, g1]
      rfl
theorem end37 (M : Nat → Nat → Int32) {s k z : Nat} (h1 : M 91 s = 2) (hz : M 90 4 = nI z) (hz1 : z ≤ 128) (hsz : s < z) (hk : k ≤ s) (w4 w5 w6 : Option PV) : X E (d + 1) me37 6 [some (vR 1 3 90), some (vI (nI 1)), some (vI (nI s)), some (vI (nI k)), w4, w5, w6] [] (M, L) = some (some (vI (M 93 0)), (M, L)) := by
  have ibs : ib (nI s) 128 := by rw [ib_nI (by omega)]; omega
  rw [x37_6, if_neg (show ¬ (128 : Int32) ≤ nI k from nI_ge (b := 128) (by omega) (by omega)), if_neg (nI_pos (by omega)), hz, if_neg (nI_ge (by omega) (by omega)), if_neg (show ¬ (128 : Int32) ≤ nI s from nI_ge (b := 128) (by omega) (by omega)), if_pos ibs, if_pos ibs, ix_nI (n := s) (by omega), h1, if_neg (by decide), if_neg (by decide), x37_125, if_pos (by decide), if_pos rfl, if_pos (by decide)]
  rfl
theorem skp37 (M : Nat → Nat → Int32) {s k z T : Nat} (h1 : M 91 s = 3) (h2 : M 92 s = nI T) (hz : M 90 4 = nI z) (hz1 : z ≤ 128) (hsz : s < z) (hk : k ≤ s) (w4 w5 w6 : Option PV) : ∃ w4' w5' w6', X E (d + 1) me37 6 [some (vR 1 3 90), some (vI (nI 1)), some (vI (nI s)), some (vI (nI k)), w4, w5, w6] [] (M, L) = X E (d + 1) me37 6 [some (vR 1 3 90), some (vI (nI 0)), some (vI (nI (if M 93 0 = 0 then T else s + 1))), some (vI (nI (k + 1))), w4', w5', w6'] [] (M, L) := by
  have ibs : ib (nI s) 128 := by rw [ib_nI (by omega)]; omega
  have e0 : nI 1 + Int32.ofInt (-1) = nI 0 := nI_dn 0
  rw [x37_6, if_neg (show ¬ (128 : Int32) ≤ nI k from nI_ge (b := 128) (by omega) (by omega)), if_neg (nI_pos (by omega)), hz, if_neg (nI_ge (by omega) (by omega)), if_neg (show ¬ (128 : Int32) ≤ nI s from nI_ge (b := 128) (by omega) (by omega)), if_pos ibs, if_pos ibs, ix_nI (n := s) (by omega), h1, h2, if_neg (by decide), if_neg (by decide), x37_125, if_pos (by decide), if_neg (by decide), if_pos rfl, e0, x37_155, if_pos (by decide), ix_nI (n := 0) (by omega), nI_1, nI_1]
  by_cases q : M 93 0 = 0
  · rw [if_pos q, if_pos q]
    exact ⟨_, _, _, rfl⟩
  · rw [if_neg q, if_neg q]
    exact ⟨_, _, _, rfl⟩
/-- the class's law gives what the lines give -/
theorem txt37 : ∀ (ls : List LN) (M : Nat → Nat → Int32) {s k z : Nat}, (∀ l ∈ ls, gdL l) → layL (M 91) (M 92) s ls → M 90 4 = nI z → z ≤ 128 → s + lnsC ls = z → k ≤ s → ∀ w4 w5 w6 : Option PV, ∃ M', X E (d + 1) me37 6 [some (vR 1 3 90), some (vI (nI 0)), some (vI (nI s)), some (vI (nI k)), w4, w5, w6] [] (M, L) = some (some (vI (kfL (M 94) ls)), (M', L)) ∧ ∀ c, c ≠ 93 → M' c = M c
  | [], M, s, k, z, _, _, hz, hz1, hs, hk, w4, w5, w6 => by
    have hs : s + 0 = z := hs
    refine ⟨M, ?_, fun _ _ => rfl⟩
    rw [x37_6]
    by_cases q : (128 : Int32) ≤ nI k
    · rw [if_pos q]; rfl
    · rw [if_neg q, if_neg (nI_pos (by omega)), hz, if_pos (nI_le (by omega) (by omega))]; rfl
  | (none, ys) :: ls, M, s, k, z, hg, hl, hz, hz1, hs, hk, w4, w5, w6 => by
    have hs : s + (ys.length + 1 + lnsC ls) = z := hs
    have hgy := (hg _ List.mem_cons_self).2
    obtain ⟨⟨a1, a2⟩, -⟩ := hl
    obtain ⟨M1, w4', w5', w6', e1, g1, f1⟩ := run37 E d L ys M (n := 0) hgy.1 (hgy.2 0) a1 hz hz1 (by omega) hk (by omega) w4 w5 w6
    refine ⟨M1, ?_, f1⟩
    rw [e1, end37 E d L M1 (by rw [f1 91 (by omega)]; exact a2) (by rw [f1 90 (by omega)]; exact hz) hz1 (by omega) (by omega), g1, (vlE_any hgy (M 93)).2]
    rfl
  | (some xs, ys) :: ls, M, s, k, z, hg, hl, hz, hz1, hs, hk, w4, w5, w6 => by
    have hs : s + (xs.length + 1 + ys.length + 1 + lnsC ls) = z := hs
    have hgy : gdI ys := (hg _ List.mem_cons_self).2
    have hgx : gdI xs := (hg _ List.mem_cons_self).1 xs rfl
    obtain ⟨⟨a1, ⟨a2, a3⟩, a4, a5⟩, hrest⟩ := hl
    obtain ⟨M1, w4', w5', w6', e1, g1, f1⟩ := run37 E d L xs M (n := 0) hgx.1 (hgx.2 0) a1 hz hz1 (by omega) hk (by omega) w4 w5 w6
    obtain ⟨v4, v5, v6, e2⟩ := skp37 E d L M1 (s := s + xs.length) (k := k + xs.length) (by rw [f1 91 (by omega)]; exact a2) (by rw [f1 92 (by omega)]; exact a3) (by rw [f1 90 (by omega)]; exact hz) hz1 (by omega) (by omega) w4' w5' w6'
    have hv : M1 93 0 = vlE (M 94) xs := by rw [g1]; exact (vlE_any hgx (M 93)).2
    rw [e1, e2, hv]
    show ∃ M', _ = some (some (vI (if vlE (M 94) xs = 0 then kfL (M 94) ls else vlE (M 94) ys)), (M', L)) ∧ _
    by_cases q : vlE (M 94) xs = 0
    · rw [if_pos q, if_pos q]
      obtain ⟨M2, e3, f3⟩ := txt37 ls M1 (s := s + (xs.length + 1 + ys.length + 1)) (k := k + xs.length + 1) (z := z) (fun l hl => hg l (List.mem_cons_of_mem _ hl)) (by rw [f1 91 (by omega), f1 92 (by omega)]; exact hrest) (by rw [f1 90 (by omega)]; exact hz) hz1 (by omega) (by omega) v4 v5 v6
      refine ⟨M2, ?_, fun c hc => (f3 c hc).trans (f1 c hc)⟩
      rw [e3, f1 94 (by omega)]
    · rw [if_neg q, if_neg q]
      obtain ⟨M2, u4, u5, u6, e3, g3, f3⟩ := run37 E d L ys M1 (s := s + xs.length + 1) (k := k + xs.length + 1) (z := z) (n := 0) hgy.1 (hgy.2 0) (by rw [f1 91 (by omega), f1 92 (by omega)]; exact a4) (by rw [f1 90 (by omega)]; exact hz) hz1 (by omega) (by omega) (by omega) v4 v5 v6
      refine ⟨M2, ?_, fun c hc => (f3 c hc).trans (f1 c hc)⟩
      rw [e3, end37 E d L M2 (by rw [f3 91 (by omega), f1 91 (by omega)]; exact a5) (by rw [f3 90 (by omega), f1 90 (by omega)]; exact hz) hz1 (by omega) (by omega), g3, f1 94 (by omega), (vlE_any hgy (M1 93)).2]
end CEVAL
