/-! the text of a law: the reference's working out, and its keeping -/
theorem nI_subK {x k : Nat} (h : k ≤ x) : nI x - nI k = nI (x - k) := by
  rw [show x = (x - k) + k by omega, ← nI_add, Nat.add_sub_cancel]
  exact Int32.add_sub_cancel _ _
section REVAL
variable (E : Nat × (Nat → Int32)) (d : Nat) (L : Nat → Nat → Int64)
theorem step186 (M : Nat → Nat → Int32) {j n e x : Nat} {x1 : Int32} (hx : okI x) (hs : stO x n) (h1 : M 422 j = nI x) (he : e ≤ 120) (hj : j < e) (hn : n ≤ j) (w5 : Option PV) :
    ∃ M' w5', X E (d + 1) me186 5 [some (vR 1 12 400), some (vI x1), some (vI (nI e)), some (vI (nI n)), some (vI (nI j)), w5] [] (M, L) = X E (d + 1) me186 5 [some (vR 1 12 400), some (vI x1), some (vI (nI e)), some (vI (nI (eS (M 416) x (M 426) n).2)), some (vI (nI (j + 1))), w5'] [] (M', L) ∧ M' 426 = (eS (M 416) x (M 426) n).1 ∧ ∀ c, c ≠ 426 → M' c = M c := by
  have hx11 : x < 11000 := by
    rcases hx with q | q | q | q | q <;> omega
  rw [x186_5, if_neg (nI_ge (by omega) (by omega)), if_pos (by rw [ib_nI (by omega)]; omega), ix_nI (n := j) (by omega), h1, nI_1]
  unfold eS
  have ibn : ib (nI n) 121 := by rw [ib_nI (by omega)]; omega
  have ixn := ix_nI (n := n) (by omega)
  have lt256 : (nI x < (256 : Int32)) = (x < 256) := nI_ltB (b := 256) (by omega) (by omega)
  have lt1000 : (nI x < (1000 : Int32)) = (x < 1000) := nI_ltB (b := 1000) (by omega) (by omega)
  by_cases c1 : 1000 ≤ x
  · rw [if_neg (by rw [lt256]; omega), if_neg (by rw [lt1000]; omega), if_pos ibn, ixn, nI_1, show nI x - (1000 : Int32) = nI (x - 1000) from nI_subK c1, if_pos c1]
    exact ⟨_, _, rfl, u2_93, fun c hc => u2_o hc⟩
  · by_cases c2 : 256 ≤ x
    · have hx6 : x < 262 := by rcases hx with q | q | q | q | q <;> omega
      rw [if_neg (by rw [lt256]; omega), if_pos (by rw [lt1000]; omega), show nI x - (256 : Int32) = nI (x - 256) from nI_subK c2, if_pos (by rw [ib_nI (by omega)]; omega), if_pos ibn, ixn, ix_nI (n := x - 256) (by omega), nI_1, if_neg c1, if_pos c2]
      exact ⟨_, _, rfl, u2_93, fun c hc => u2_o hc⟩
    · have e110 : (nI x = (110 : Int32)) = (x = 110) := nI_eqB (b := 110) (by omega) (by omega)
      have e33 : (nI x = (33 : Int32)) = (x = 33) := nI_eqB (b := 33) (by omega) (by omega)
      rw [if_pos (by rw [lt256]; omega)]
      by_cases c3 : x = 110
      · have hn1 : 1 ≤ n := by rcases hs with q | q | q <;> omega
        obtain ⟨m, hm⟩ : ∃ m, n = m + 1 := ⟨n - 1, by omega⟩
        have en : nI n - 1 = nI (n - 1) := by rw [hm, nI_pred]; rfl
        have ibm : ib (nI (n - 1)) 121 := by rw [ib_nI (by omega)]; omega
        rw [if_pos (by rw [e110]; exact c3), en, if_pos ibm, if_pos ibm, ix_nI (n := n - 1) (by omega), if_neg c1, if_neg c2, if_pos c3]
        exact ⟨_, _, rfl, u2_93, fun c hc => u2_o hc⟩
      · rw [if_neg (by rw [e110]; exact c3)]
        by_cases c4 : x = 33
        · have hn1 : 1 ≤ n := by rcases hs with q | q | q <;> omega
          obtain ⟨m, hm⟩ : ∃ m, n = m + 1 := ⟨n - 1, by omega⟩
          have en : nI n - 1 = nI (n - 1) := by rw [hm, nI_pred]; rfl
          have ibm : ib (nI (n - 1)) 121 := by rw [ib_nI (by omega)]; omega
          rw [if_pos (by rw [e33]; exact c4), en, if_pos ibm, ix_nI (n := n - 1) (by omega), if_neg c1, if_neg c2, if_neg c3, if_pos c4]
          by_cases q : M 426 (n - 1) = 0
          · rw [if_pos q, if_pos ibm, if_pos q]
            exact ⟨_, _, rfl, u2_93, fun c hc => u2_o hc⟩
          · rw [if_neg q, if_pos ibm, if_neg q]
            exact ⟨_, _, rfl, u2_93, fun c hc => u2_o hc⟩
        · have hlv : lvc x < 9 := by rcases hx with q | q | q | q | q <;> omega
          have hn2 : 2 ≤ n := by rcases hs with q | q | q <;> omega
          obtain ⟨m, hm⟩ : ∃ m, n = m + 2 := ⟨n - 2, by omega⟩
          have en : nI n + Int32.ofInt (-1) = nI (n - 1) := by rw [hm, nI_dn]; rfl
          have en2 : nI (n - 1) - 1 = nI (n - 2) := by rw [hm]; exact nI_pred m
          have ibm : ib (nI (n - 1)) 121 := by rw [ib_nI (by omega)]; omega
          have ibm2 : ib (nI (n - 2)) 121 := by rw [ib_nI (by omega)]; omega
          rw [if_neg (by rw [e33]; exact c4), en, x186_132, en2, if_pos ibm2, if_pos ibm, ix_nI (n := n - 1) (by omega), ix_nI (n := n - 2) (by omega), e185, bI_s, if_pos ibm2, nI_1, if_neg c1, if_neg c2, if_neg c3, if_neg c4, jG_F hlv]
          exact ⟨_, _, rfl, u2_93, fun c hc => u2_o hc⟩
theorem run186 {x1 : Int32} : ∀ (xs : List Nat) (M : Nat → Nat → Int32) {j n e n' : Nat}, (∀ x ∈ xs, okI x) → dpn xs n = some n' → itr (M 422) j xs → e ≤ 120 → j + xs.length ≤ e → n ≤ j → ∀ w5 : Option PV,
    ∃ M' w5', X E (d + 1) me186 5 [some (vR 1 12 400), some (vI x1), some (vI (nI e)), some (vI (nI n)), some (vI (nI j)), w5] [] (M, L) = X E (d + 1) me186 5 [some (vR 1 12 400), some (vI x1), some (vI (nI e)), some (vI (nI n')), some (vI (nI (j + xs.length))), w5'] [] (M', L) ∧ M' 426 = (eV (M 416) xs (M 426) n).1 ∧ ∀ c, c ≠ 426 → M' c = M c
  | [], M, j, n, e, n', _, h, _, _, _, _, w5 => by
    cases h
    exact ⟨M, w5, rfl, rfl, fun _ _ => rfl⟩
  | x :: t, M, j, n, e, n', ho, h, hi, he, hs, hn, w5 => by
    rw [List.length_cons] at hs
    obtain ⟨d1, d2⟩ := dpn_s h (M 416) (M 426)
    obtain ⟨M1, w5', e1, g1, f1⟩ := step186 E d L M (x1 := x1) (ho x List.mem_cons_self) d1 hi.1 he (by omega) hn w5
    have hn1 : (eS (M 416) x (M 426) n).2 ≤ j + 1 := by
      unfold eS
      (repeat' split) <;> dsimp only <;> omega
    have f422 := f1 422 (by omega)
    have f416 := f1 416 (by omega)
    obtain ⟨M2, v5, e2, g2, f2⟩ := run186 t M1 (j := j + 1) (n := (eS (M 416) x (M 426) n).2) (e := e) (n' := n') (fun y hy => ho y (List.mem_cons_of_mem _ hy)) d2 (by rw [f422]; exact hi.2) he (by omega) hn1 w5'
    refine ⟨M2, v5, ?_, ?_, fun c hc => (f2 c hc).trans (f1 c hc)⟩
    · rw [e1, e2, List.length_cons, show j + 1 + t.length = j + (t.length + 1) by omega]
    · rw [g2, f416, g1]
      rfl
theorem e186 (M : Nat → Nat → Int32) {xs : List Nat} {a : Nat} (hg : gdI xs) (hi : itr (M 422) a xs) (ha : a + xs.length ≤ 120) : ∃ M', C E (d + 2) 186 [vR 1 12 400, vI (nI a), vI (nI (a + xs.length))] (M, L) = some (some (vI (vlE (M 416) xs)), (M', L)) ∧ ∀ c, c ≠ 426 → M' c = M c := by
  obtain ⟨M1, w5, e1, g1, f1⟩ := run186 E d L (x1 := nI a) xs M (j := a) (n := 0) (e := a + xs.length) hg.1 (hg.2 0) hi ha (Nat.le_refl _) (by omega) none
  refine ⟨M1, ?_, f1⟩
  rw [x186]
  have e1 : X E (d + 1) me186 5 [some (vR 1 12 400), some (vI (nI a)), some (vI (nI (a + xs.length))), some (vI (0 : Int32)), some (vI (nI a)), none] [] (M, L) = _ := e1
  rw [e1, x186_5, if_pos (nI_le (Nat.le_refl _) (by omega)), if_pos (by decide), show ix (0 : Int32) = 0 by decide, g1, (vlE_any hg (M 426)).2]
theorem layR_st {sg st sp : Nat → Int32} : ∀ {ls : List LN} {c s : Nat}, layR sg st sp c s ls → st c = nI s
  | [], _, _, h => h
  | (none, _) :: _, _, _, h => h.1.1
  | (some _, _) :: _, _, _, h => h.1.1
theorem gdI_ne {xs : List Nat} (h : gdI xs) : 1 ≤ xs.length := by
  cases xs with
  | nil => have := h.2 0; cases this
  | cons x t => rw [List.length_cons]; omega
theorem txt187 : ∀ (ls : List LN) (M : Nat → Nat → Int32) {c s z : Nat}, (∀ l ∈ ls, gdL l) → layR (M 422) (M 423) (M 424) c s ls → M 400 24 = nI z → z ≤ 120 → c + ls.length = z → s + lnsR ls ≤ 120 → ∃ M', X E (d + 2) me187 2 [some (vR 1 12 400), some (vI (nI c))] [] (M, L) = some (some (vI (kfL (M 416) ls)), (M', L)) ∧ ∀ c, c ≠ 426 → M' c = M c
  | [], M, c, s, z, _, _, hz, hz1, hc, _ => by
    have hc : c + 0 = z := hc
    refine ⟨M, ?_, fun _ _ => rfl⟩
    rw [x187_2, hz, if_pos (nI_le (by omega) (by omega))]
    rfl
  | (none, ys) :: ls, M, c, s, z, hg, hl, hz, hz1, hc, hs => by
    have hc : c + (ls.length + 1) = z := hc
    have hs : s + (ys.length + lnsR ls) ≤ 120 := hs
    have hgy : gdI ys := (hg _ List.mem_cons_self).2
    obtain ⟨⟨a1, a2, a3⟩, hrest⟩ := hl
    have a4 : M 423 (c + 1) = nI (s + ys.length) := layR_st hrest
    have ibc : ib (nI c) 121 := by rw [ib_nI (by omega)]; omega
    have ibc1 : ib (nI (c + 1)) 121 := by rw [ib_nI (by omega)]; omega
    obtain ⟨M1, e1, f1⟩ := e186 E d L M hgy a3 (by omega)
    refine ⟨M1, ?_, f1⟩
    rw [x187_2, hz, if_neg (nI_ge (by omega) (by omega)), if_pos ibc, if_pos ibc, ix_nI (n := c) (by omega), a1, a2, if_pos rfl, if_pos ibc, nI_1, if_pos ibc1, ix_nI (n := c + 1) (by omega), a4, e1, bI_s]
    rfl
  | (some xs, ys) :: ls, M, c, s, z, hg, hl, hz, hz1, hc, hs => by
    have hc : c + (ls.length + 1) = z := hc
    have hs : s + (xs.length + ys.length + lnsR ls) ≤ 120 := hs
    have hgy : gdI ys := (hg _ List.mem_cons_self).2
    have hgx : gdI xs := (hg _ List.mem_cons_self).1 xs rfl
    have hx1 := gdI_ne hgx
    obtain ⟨⟨a1, a2, a3, a5⟩, hrest⟩ := hl
    have a4 : M 423 (c + 1) = nI (s + (xs.length + ys.length)) := layR_st hrest
    have ibc : ib (nI c) 121 := by rw [ib_nI (by omega)]; omega
    have ibc1 : ib (nI (c + 1)) 121 := by rw [ib_nI (by omega)]; omega
    obtain ⟨M1, e1, f1⟩ := e186 E d L M hgx a3 (by omega)
    rw [x187_2, hz, if_neg (nI_ge (by omega) (by omega)), if_pos ibc, if_pos ibc, ix_nI (n := c) (by omega), a1, a2, if_neg (fun q => by have := nI_inj (by omega) (by omega) q; omega), if_pos ibc, if_pos ibc, e1, bI_s]
    show ∃ M', _ = some (some (vI (if vlE (M 416) xs = 0 then kfL (M 416) ls else vlE (M 416) ys)), (M', L)) ∧ _
    by_cases q : vlE (M 416) xs = 0
    · rw [if_pos q, if_pos q, nI_1]
      obtain ⟨M2, e2, f2⟩ := txt187 ls M1 (c := c + 1) (s := s + (xs.length + ys.length)) (z := z) (fun l hl => hg l (List.mem_cons_of_mem _ hl)) (by rw [f1 422 (by omega), f1 423 (by omega), f1 424 (by omega)]; exact hrest) (by rw [f1 400 (by omega)]; exact hz) hz1 (by omega) (by omega)
      refine ⟨M2, ?_, fun c hc => (f2 c hc).trans (f1 c hc)⟩
      rw [e2, f1 416 (by omega)]
    · rw [if_neg q, if_neg q, if_pos ibc, nI_1, if_pos ibc1, ix_nI (n := c + 1) (by omega)]
      have b1' : M1 424 c = nI (s + xs.length) := by rw [f1 424 (by omega)]; exact a2
      have b2' : M1 423 (c + 1) = nI (s + xs.length + ys.length) := by rw [f1 423 (by omega), a4, Nat.add_assoc]
      obtain ⟨M2, e2, f2⟩ := e186 E d L M1 (a := s + xs.length) hgy (by rw [f1 422 (by omega)]; exact a5) (by omega)
      refine ⟨M2, ?_, fun c hc => (f2 c hc).trans (f1 c hc)⟩
      dsimp only
      rw [b1', b2', e2, bI_s, f1 416 (by omega)]
theorem layR_keep {sg st sp sg' st' sp' : Nat → Int32} : ∀ {ls : List LN} {c s : Nat}, (∀ j, j < s + lnsR ls → sg' j = sg j) → (∀ j, j ≤ c + ls.length → st' j = st j ∧ sp' j = sp j) → layR sg st sp c s ls → layR sg' st' sp' c s ls
  | [], c, s, _, h2, h => by
    have := h2 c (by omega)
    show st' c = nI s
    rw [this.1]
    exact h
  | l :: ls, c, s, h1, h2, h => by
    have h1 : ∀ j, j < s + (lnR l + lnsR ls) → sg' j = sg j := h1
    rw [List.length_cons] at h2
    exact ⟨lyr1_keep (fun j hj => h1 j (by omega)) (h2 c (by omega)).1 (h2 c (by omega)).2 h.1, layR_keep (fun j hj => h1 j (by omega)) (fun j hj => h2 j (by omega)) h.2⟩
/-- what the reference's call leaves -/
def rW (M M' : Nat → Nat → Int32) : Prop := (∀ c, c ≠ 400 → c ≠ 417 → c ≠ 418 → c ≠ 419 → c ≠ 422 → c ≠ 423 → c ≠ 424 → M' c = M c) ∧ ∀ j, j ≠ 11 → j ≠ 12 → j ≠ 13 → j ≠ 14 → j ≠ 19 → j ≠ 20 → j ≠ 24 → M' 400 j = M 400 j
theorem e184 {t : Nat} {w : Nat → Nat} (ht : t ≤ 120) (hw : ∀ j, j < t → w j < 256) (M : Nat → Nat → Int32) (h11 : M 400 11 = nI t) (hb : ∀ j, j < t → M 411 j = nI (w j)) : ∃ M' r, C E (d + 54) 184 [vR 1 12 400] (M, L) = some (some (vI r), (M', L)) ∧ rW M M' ∧ M' 400 11 = 0 ∧ (match txP t w with
    | .inl p => r = -100 - nI p ∧ M' 400 24 = M 400 24 ∧ M' 422 = M 422 ∧ M' 423 = M 423 ∧ M' 424 = M 424
    | .inr ls => r = 1 ∧ M' 400 24 = nI ls.length ∧ ls.length ≤ 120 ∧ lnsR ls ≤ 120 ∧ layR (M' 422) (M' 423) (M' 424) 0 0 ls) := by
  obtain ⟨M1, e1, g1, o1⟩ := e183 E d L ht hw M h11 hb
  rw [x184, e1, bV_s]
  dsimp only
  cases hr : txP t w with
  | inl p =>
    rw [hr] at o1
    obtain ⟨o13, hp⟩ := o1
    have e13 : u2 M1 400 11 (0 : Int32) 400 13 = nI p := by rw [u2_n (by omega)]; exact o13
    refine ⟨u2 M1 400 11 (0 : Int32), -100 - nI p, ?_, ⟨fun c a b e f _ _ _ => by rw [u2_o a]; exact g1.1 c a b e f, fun j a b c e f i _ => by rw [u2_n a]; exact g1.2 j b c e f i⟩, u2_s, rfl, ?_, ?_, ?_, ?_⟩
    · rw [if_neg (show ¬ u2 M1 400 11 (0 : Int32) 400 13 < 0 by rw [e13]; exact nI_pos (by omega)), e13]
    · rw [u2_n (by omega)]; exact g1.2 24 (by omega) (by omega) (by omega) (by omega) (by omega)
    · rw [u2_o (by omega)]; exact g1.1 422 (by omega) (by omega) (by omega) (by omega)
    · rw [u2_o (by omega)]; exact g1.1 423 (by omega) (by omega) (by omega) (by omega)
    · rw [u2_o (by omega)]; exact g1.1 424 (by omega) (by omega) (by omega) (by omega)
  | inr ls =>
    rw [hr] at o1
    obtain ⟨o13, o20, o19, hl1, hl2, hlay⟩ := o1
    have e13 : u2 M1 400 11 (0 : Int32) 400 13 = -1 := by rw [u2_n (by omega)]; exact o13
    rw [if_pos (show u2 M1 400 11 (0 : Int32) 400 13 < 0 by rw [e13]; decide)]
    generalize hMa : u2 M1 400 11 (0 : Int32) = Ma
    have ma : (∀ c, c ≠ 400 → Ma c = M1 c) ∧ (∀ j, j ≠ 11 → Ma 400 j = M1 400 j) ∧ Ma 400 11 = 0 := by
      rw [← hMa]
      exact ⟨fun c hc => u2_o hc, fun j hj => u2_n hj, u2_s⟩
    obtain ⟨m1, m2, m3⟩ := ma
    have a19 : Ma 400 19 = nI (lnsR ls) := (m2 19 (by omega)).trans o19
    have a20 : Ma 400 20 = nI ls.length := (m2 20 (by omega)).trans o20
    have cp2 : ∀ r k (M3 : Nat → Nat → Int32), k + r = ls.length + 1 → (∀ c, c ≠ 422 → c ≠ 423 → c ≠ 424 → M3 c = Ma c) → (∀ j, j < lnsR ls → M3 422 j = Ma 417 j) → (∀ j, j < k → M3 423 j = Ma 418 j ∧ M3 424 j = Ma 419 j) → ∃ M4, X E (d + 53) me184 54 [some (vR 1 12 400), some (vI (nI k))] [] (M3, L) = some (some (vI (1 : Int32)), (u2 M4 400 24 (nI ls.length), L)) ∧ (∀ c, c ≠ 422 → c ≠ 423 → c ≠ 424 → M4 c = Ma c) ∧ (∀ j, j < lnsR ls → M4 422 j = Ma 417 j) ∧ (∀ j, j ≤ ls.length → M4 423 j = Ma 418 j ∧ M4 424 j = Ma 419 j) := by
      intro r
      induction r with
      | zero =>
        intro k M3 hk f3 q3 p3
        have e : k = ls.length + 1 := by omega
        refine ⟨M3, ?_, f3, q3, fun j hj => p3 j (by omega)⟩
        rw [x184_54, f3 400 (by omega) (by omega) (by omega), a20, e, if_pos (show nI ls.length < nI (ls.length + 1) from nI_lt (by omega) (by omega))]
      | succ r ih =>
        intro k M3 hk f3 q3 p3
        have ibk : ib (nI k) 121 := by rw [ib_nI (by omega)]; omega
        have f418 : M3 418 = Ma 418 := f3 418 (by omega) (by omega) (by omega)
        have f419 : u2 M3 423 k (M3 418 k) 419 = Ma 419 := by rw [u2_o (by omega)]; exact f3 419 (by omega) (by omega) (by omega)
        rw [x184_54, f3 400 (by omega) (by omega) (by omega), a20, if_neg (show ¬ nI ls.length < nI k from nI_nlt (by omega) (by omega)), if_pos ibk, if_pos ibk, if_pos ibk, if_pos ibk, ix_nI (n := k) (by omega), nI_1]
        refine ih (k + 1) _ (by omega) (fun c h1 h2 h3 => by rw [u2_o h3, u2_o h2]; exact f3 c h1 h2 h3) (fun j hj => by rw [u2_o (by omega), u2_o (by omega)]; exact q3 j hj) (fun j hj => ?_)
        by_cases q : j = k
        · rw [q, u2_o (c := 423) (by omega), u2_s, u2_s, f419, f418]
          exact ⟨rfl, rfl⟩
        · rw [u2_o (c := 423) (by omega), u2_n q, u2_n q, u2_o (c := 424) (by omega)]
          exact p3 j (by omega)
    have cp1 : ∀ r k (M3 : Nat → Nat → Int32), k + r = lnsR ls → (∀ c, c ≠ 422 → M3 c = Ma c) → (∀ j, j < k → M3 422 j = Ma 417 j) → ∃ M4, X E (d + 53) me184 26 [some (vR 1 12 400), some (vI (nI k))] [] (M3, L) = some (some (vI (1 : Int32)), (u2 M4 400 24 (nI ls.length), L)) ∧ (∀ c, c ≠ 422 → c ≠ 423 → c ≠ 424 → M4 c = Ma c) ∧ (∀ j, j < lnsR ls → M4 422 j = Ma 417 j) ∧ (∀ j, j ≤ ls.length → M4 423 j = Ma 418 j ∧ M4 424 j = Ma 419 j) := by
      intro r
      induction r with
      | zero =>
        intro k M3 hk f3 q3
        have e : k = lnsR ls := by omega
        rw [x184_26, f3 400 (by omega), a19, e, if_pos (nI_le (Nat.le_refl _) (by omega))]
        exact cp2 (ls.length + 1) 0 M3 (by omega) (fun c h1 h2 h3 => f3 c h1) (fun j hj => q3 j (by omega)) (fun j hj => absurd hj (by omega))
      | succ r ih =>
        intro k M3 hk f3 q3
        have ibk : ib (nI k) 120 := by rw [ib_nI (by omega)]; omega
        rw [x184_26, f3 400 (by omega), a19, if_neg (nI_ge (by omega) (by omega)), if_pos ibk, if_pos ibk, ix_nI (n := k) (by omega), nI_1]
        refine ih (k + 1) _ (by omega) (fun c h1 => by rw [u2_o h1]; exact f3 c h1) (fun j hj => ?_)
        by_cases q : j = k
        · rw [q, u2_s, f3 417 (by omega)]
        · rw [u2_n q]; exact q3 j (by omega)
    obtain ⟨M4, e4, f4, q4, p4⟩ := cp1 (lnsR ls) 0 Ma (by omega) (fun _ _ => rfl) (fun j hj => absurd hj (by omega))
    refine ⟨_, 1, e4, ⟨fun c a b e f i j k => by rw [u2_o a, f4 c i j k, m1 c a]; exact g1.1 c a b e f, fun j a b c e f i k => by rw [u2_n k, f4 400 (by omega) (by omega) (by omega), m2 j a]; exact g1.2 j b c e f i⟩, ?_, rfl, u2_s, hl1, hl2, ?_⟩
    · rw [u2_n (by omega), f4 400 (by omega) (by omega) (by omega)]; exact m3
    · refine layR_keep (fun j hj => ?_) (fun j hj => ?_) hlay
      · rw [u2_o (by omega), q4 j (by omega), m1 417 (by omega)]
      · obtain ⟨a, b⟩ := p4 j (by omega)
        rw [u2_o (by omega), u2_o (by omega), a, b, m1 418 (by omega), m1 419 (by omega)]
        exact ⟨rfl, rfl⟩
end REVAL
