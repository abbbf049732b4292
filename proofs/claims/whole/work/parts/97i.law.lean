/-! the text of a law: the reference reads it -/
def lnR (l : LN) : Nat := match l with
  | (none, ys) => ys.length
  | (some xs, ys) => xs.length + ys.length
def lyr1 (sg st sp : Nat → Int32) (c s : Nat) (l : LN) : Prop := match l with
  | (none, ys) => st c = nI s ∧ sp c = nI s ∧ itr sg s ys
  | (some xs, ys) => st c = nI s ∧ sp c = nI (s + xs.length) ∧ itr sg s xs ∧ itr sg (s + xs.length) ys
def layR (sg st sp : Nat → Int32) : Nat → Nat → List LN → Prop
  | c, s, [] => st c = nI s
  | c, s, l :: ls => lyr1 sg st sp c s l ∧ layR sg st sp (c + 1) (s + lnR l) ls
def lnsR : List LN → Nat
  | [] => 0
  | l :: ls => lnR l + lnsR ls
theorem lyr1_keep {sg st sp sg' st' sp' : Nat → Int32} {c s : Nat} {l : LN} (h1 : ∀ j, j < s + lnR l → sg' j = sg j) (h2 : st' c = st c) (h3 : sp' c = sp c) (h : lyr1 sg st sp c s l) : lyr1 sg' st' sp' c s l := by
  obtain ⟨o, ys⟩ := l
  cases o with
  | none =>
    have h1 : ∀ j, j < s + ys.length → sg' j = sg j := h1
    obtain ⟨a, b, e⟩ := h
    exact ⟨h2.trans a, h3.trans b, itr_keep (fun j _ hj => h1 j hj) e⟩
  | some xs =>
    have h1 : ∀ j, j < s + (xs.length + ys.length) → sg' j = sg j := h1
    obtain ⟨a, b, e, f⟩ := h
    exact ⟨h2.trans a, h3.trans b, itr_keep (fun j _ hj => h1 j (by omega)) e, itr_keep (fun j _ hj => h1 j (by omega)) f⟩
def rG (M M' : Nat → Nat → Int32) : Prop := (∀ c, c ≠ 400 → c ≠ 417 → c ≠ 418 → c ≠ 419 → M' c = M c) ∧ ∀ j, j ≠ 12 → j ≠ 13 → j ≠ 14 → j ≠ 19 → j ≠ 20 → M' 400 j = M 400 j
theorem rG.tr {M M1 M2 : Nat → Nat → Int32} (h : rG M M1) (h' : rG M1 M2) : rG M M2 := ⟨fun c a b e f => (h'.1 c a b e f).trans (h.1 c a b e f), fun j a b c e f => (h'.2 j a b c e f).trans (h.2 j a b c e f)⟩
theorem rG.of {M M' : Nat → Nat → Int32} (h : rFr M M') : rG M M' := ⟨fun c a b _ _ => h.1 c a b, fun j a b c e _ => h.2 j a b c e⟩
theorem rG.u (M : Nat → Nat → Int32) {a j : Nat} (ha : a = 417 ∨ a = 418 ∨ a = 419) (x : Int32) : rG M (u2 M a j x) := ⟨fun c h1 h2 h3 h4 => u2_o (by omega), fun k _ _ _ _ _ => by rw [u2_o (by omega)]⟩
theorem rG.u0 (M : Nat → Nat → Int32) {j : Nat} (hj : j = 12 ∨ j = 13 ∨ j = 14 ∨ j = 19 ∨ j = 20) (x : Int32) : rG M (u2 M 400 j x) := ⟨fun c h1 _ _ _ => u2_o h1, fun k _ _ _ _ _ => u2_n (by omega)⟩
theorem rG.rfl' (M : Nat → Nat → Int32) : rG M M := ⟨fun _ _ _ _ _ => rfl, fun _ _ _ _ _ _ => rfl⟩
def tR (t : Nat) (M M' : Nat → Nat → Int32) (s c : Nat) (res : Nat ⊕ List LN) : Prop := rG M M' ∧ match res with
  | .inl p => M' 400 13 = nI p ∧ p ≤ t
  | .inr ls => (M' 400 13 = -1 ∧ M' 400 20 = nI (c + ls.length) ∧ M' 400 19 = nI (s + lnsR ls) ∧ c + ls.length ≤ 120 ∧ s + lnsR ls ≤ 120 ∧ layR (M' 417) (M' 418) (M' 419) c s ls) ∧ (∀ j, j < s → M' 417 j = M 417 j) ∧ ∀ j, j < c → M' 418 j = M 418 j ∧ M' 419 j = M 419 j
section RTEXT
variable (E : Nat × (Nat → Int32)) (d : Nat) (L : Nat → Nat → Int64) {t : Nat} {w : Nat → Nat}
noncomputable def tl183 (E : Nat × (Nat → Int32)) (D : Nat) (L : Nat → Nat → Int64) (M5 : Nat → Nat → Int32) : PR := if ib ((u2 M5 400 20 ((M5 400 20) + (1 : Int32))) 400 20) 121 then (bI (C E D 173 [vR 1 12 400, vI (59 : Int32)] ((u2 (u2 M5 400 20 ((M5 400 20) + (1 : Int32))) 418 (ix ((u2 M5 400 20 ((M5 400 20) + (1 : Int32))) 400 20)) ((u2 M5 400 20 ((M5 400 20) + (1 : Int32))) 400 19)), L)) fun r4 s4 => X E D me183 27 [some (vR 1 12 400), some (vI r4)] [] s4) else none
/-- behind a line, all well -/
theorem tl_ok (ht : t ≤ 120) (hw : ∀ j, j < t → w j < 256) (M5 : Nat → Nat → Int32) {q s c : Nat} (hI : rI t w 0 M5 q s) (hc : M5 400 20 = nI c) (hc1 : c + 1 ≤ 120) : ∃ M6, tl183 E (d + 2) L M5 = X E (d + 2) me183 27 [some (vR 1 12 400), some (vI (if btA t w q = 59 then 1 else 0))] [] (M6, L) ∧ rG M5 M6 ∧ rI t w 0 M6 (if btA t w q = 59 then q + 1 else q) s ∧ M6 400 20 = nI (c + 1) ∧ M6 418 (c + 1) = nI s ∧ (∀ j, j ≠ c + 1 → M6 418 j = M5 418 j) ∧ M6 417 = M5 417 ∧ M6 419 = M5 419 := by
  have e20 : u2 M5 400 20 (M5 400 20 + 1) 400 20 = nI (c + 1) := by rw [u2_s, hc, nI_1]
  have e19 : u2 M5 400 20 (M5 400 20 + 1) 400 19 = nI s := by rw [u2_n (by omega)]; exact hI.1.2.2.1
  have i1 : ib (nI (c + 1)) 121 := by rw [ib_nI (by omega)]; omega
  generalize hMa : u2 (u2 M5 400 20 (M5 400 20 + 1)) 418 (c + 1) (nI s) = Ma
  have ma : rG M5 Ma ∧ rI t w 0 Ma q s ∧ Ma 400 20 = nI (c + 1) ∧ Ma 418 (c + 1) = nI s ∧ (∀ j, j ≠ c + 1 → Ma 418 j = M5 418 j) ∧ Ma 417 = M5 417 ∧ Ma 419 = M5 419 := by
    rw [← hMa]
    refine ⟨(rG.u0 M5 (by omega) _).tr (rG.u _ (by omega) _), ⟨⟨?_, ?_, ?_, ?_, ?_⟩, fun j hj => ?_, hI.2.2.1, hI.2.2.2⟩, ?_, u2_s, fun j hj => ?_, ?_, ?_⟩
    · rw [u2_o (by omega), u2_n (by omega)]; exact hI.1.1
    · rw [u2_o (by omega), u2_n (by omega)]; exact hI.1.2.1
    · rw [u2_o (by omega), u2_n (by omega)]; exact hI.1.2.2.1
    · rw [u2_o (by omega), u2_n (by omega)]; exact hI.1.2.2.2.1
    · rw [u2_o (by omega), u2_n (by omega)]; exact hI.1.2.2.2.2
    · rw [u2_o (by omega), u2_o (by omega)]; exact hI.2.1 j hj
    · rw [u2_o (by omega)]; exact e20
    · rw [u2_n hj, u2_o (by omega)]
    · rw [u2_o (by omega), u2_o (by omega)]
    · rw [u2_o (by omega), u2_o (by omega)]
  obtain ⟨m1, m2, m3, m4, m5, m6, m7⟩ := ma
  have h173 := e173 E d L ht hw Ma m2 (k := 59) (by omega) (by omega)
  have h173 : C E (d + 2) 173 [vR 1 12 400, vI (59 : Int32)] (Ma, L) = _ := h173
  have e : tl183 E (d + 2) L M5 = (bI (C E (d + 2) 173 [vR 1 12 400, vI (59 : Int32)] (Ma, L)) fun r4 s4 => X E (d + 2) me183 27 [some (vR 1 12 400), some (vI r4)] [] s4) := by
    unfold tl183
    simp only [e20, e19, if_pos i1, ix_nI (n := c + 1) (by omega), hMa]
  rw [e, h173]
  by_cases h59 : btA t w q = 59
  · have hq : q < t := bt_lt (w := w) (by omega)
    simp only [if_pos h59]
    rw [bI_s]
    exact ⟨_, rfl, m1.tr (rG.u0 Ma (by omega) _), rI_adv m2 hq, by rw [u2_n (by omega)]; exact m3, by rw [u2_o (by omega)]; exact m4, fun j hj => by rw [u2_o (by omega)]; exact m5 j hj, by rw [u2_o (by omega)]; exact m6, by rw [u2_o (by omega)]; exact m7⟩
  · simp only [if_neg h59]
    rw [bI_s]
    exact ⟨_, rfl, m1, m2, m3, m4, m5, m6, m7⟩
theorem tl_flt (M5 : Nat → Nat → Int32) {p c : Nat} (hp : p ≤ 120) (h13 : M5 400 13 = nI p) (hc : M5 400 20 = nI c) (hc1 : c + 1 ≤ 120) : ∃ M6, tl183 E (d + 2) L M5 = some (none, (M6, L)) ∧ rG M5 M6 ∧ M6 400 13 = nI p := by
  have e20 : u2 M5 400 20 (M5 400 20 + 1) 400 20 = nI (c + 1) := by rw [u2_s, hc, nI_1]
  have i1 : ib (nI (c + 1)) 121 := by rw [ib_nI (by omega)]; omega
  generalize hx : u2 M5 400 20 (M5 400 20 + 1) 400 19 = x
  generalize hMa : u2 (u2 M5 400 20 (M5 400 20 + 1)) 418 (c + 1) x = Ma
  have ma : rG M5 Ma ∧ Ma 400 13 = nI p := by
    rw [← hMa]
    exact ⟨(rG.u0 M5 (by omega) _).tr (rG.u _ (by omega) _), by rw [u2_o (by omega), u2_n (by omega)]; exact h13⟩
  have e : tl183 E (d + 2) L M5 = (bI (C E (d + 2) 173 [vR 1 12 400, vI (59 : Int32)] (Ma, L)) fun r4 s4 => X E (d + 2) me183 27 [some (vR 1 12 400), some (vI r4)] [] s4) := by
    unfold tl183
    simp only [e20, hx, if_pos i1, ix_nI (n := c + 1) (by omega), hMa]
  refine ⟨Ma, ?_, ma⟩
  rw [e, e173f E (d + 1) L Ma hp ma.2, bI_s, x183_27, if_pos rfl, if_pos (by rw [ma.2]; exact pos_le hp)]
/-- from a line on -/
def T183 (t : Nat) (w : Nat → Nat) (D k : Nat) : Prop := ∀ i s c (M : Nat → Nat → Int32), 120 ≤ k + i → rI t w 0 M i s → M 400 20 = nI c → 2 * c ≤ i → ∃ M', X E D me183 27 [some (vR 1 12 400), some (vI (1 : Int32))] [] (M, L) = some (none, (M', L)) ∧ tR t M M' s c (lsP (btA t w) t k i)
theorem s183 (ht : t ≤ 120) (hw : ∀ j, j < t → w j < 256) {k : Nat} (ih : ∀ k', k = k' + 1 → T183 E L t w (d + 52) k') : T183 E L t w (d + 52) k := by
  intro i s c M hk hI hc h2c
  have hi120 := hI.2.2.1
  have ibc : ib (nI c) 121 := by rw [ib_nI (by omega)]; omega
  have ixc := ix_nI (n := c) (by omega)
  -- behind a line
  have endL : ∀ (M5 : Nat → Nat → Int32) q l, i < q → rI t w 0 M5 q (s + lnR l) → M5 400 20 = nI c → rG M M5 → lyr1 (M5 417) (M5 418) (M5 419) c s l → (∀ j, j < s → M5 417 j = M 417 j) → (∀ j, j < c → M5 418 j = M 418 j ∧ M5 419 j = M 419 j) → ∃ M', tl183 E (d + 52) L M5 = some (none, (M', L)) ∧ tR t M M' s c (csL l (rsP (btA t w) t k q)) := by
    intro M5 q l hiq h5 h5c hg hly p417 p418
    obtain ⟨M6, e6, g6, i6, c6, n6, o6, q6, r6⟩ := tl_ok E (d + 50) L ht hw M5 h5 h5c (by omega)
    have e6 : tl183 E (d + 52) L M5 = _ := e6
    rw [e6]
    have hly6 : lyr1 (M6 417) (M6 418) (M6 419) c s l := lyr1_keep (fun j _ => by rw [q6]) (o6 c (by omega)) (by rw [r6]) hly
    have h5s := h5.2.2.2
    have h5t := h5.2.2.1
    by_cases h59 : btA t w q = 59
    · have hq : q < t := bt_lt (w := w) (by omega)
      rw [if_pos h59] at i6
      rw [if_pos h59]
      obtain ⟨k', hk'⟩ : ∃ k', k = k' + 1 := ⟨k - 1, by omega⟩
      obtain ⟨M', e', o'⟩ := ih k' hk' (q + 1) (s + lnR l) (c + 1) M6 (by omega) i6 c6 (by omega)
      refine ⟨M', e', ?_⟩
      rw [hk', rsP_s, if_pos h59]
      obtain ⟨g', o'⟩ := o'
      refine ⟨(hg.tr g6).tr g', ?_⟩
      cases hr : lsP (btA t w) t k' (q + 1) with
      | inl p => rw [hr] at o'; exact o'
      | inr ls =>
        rw [hr] at o'
        obtain ⟨⟨b1, b2, b3, b4, b5, b6⟩, b7, b8⟩ := o'
        refine ⟨⟨b1, ?_, ?_, ?_, ?_, lyr1_keep (fun j hj => b7 j hj) (b8 c (by omega)).1 (b8 c (by omega)).2 hly6, b6⟩, fun j hj => ?_, fun j hj => ?_⟩
        · rw [b2, List.length_cons]; rw [show c + 1 + ls.length = c + (ls.length + 1) by omega]
        · rw [b3]; show nI (s + lnR l + lnsR ls) = nI (s + (lnR l + lnsR ls)); rw [Nat.add_assoc]
        · rw [List.length_cons]; omega
        · show s + (lnR l + lnsR ls) ≤ 120; omega
        · rw [b7 j (by omega), q6]; exact p417 j hj
        · obtain ⟨a1, a2⟩ := b8 j (by omega)
          obtain ⟨a3, a4⟩ := p418 j hj
          rw [o6 j (by omega)] at a1
          rw [r6] at a2
          exact ⟨a1.trans a3, a2.trans a4⟩
    · rw [if_neg h59] at i6
      rw [if_neg h59, rsP_e h59, x183_27, if_pos rfl, if_neg (by rw [i6.1.2.2.2.1]; decide), i6.1.1, i6.1.2.1]
      unfold ndP
      by_cases hq : q < t
      · rw [if_neg (nI_ge (by omega) (by omega)), if_pos hq, e172 E (d + 51) L M6 i6.1.2.2.2.1, bV_s]
        exact ⟨_, rfl, (hg.tr g6).tr (rG.u0 M6 (by omega) _), by rw [u2_s]; exact i6.1.2.1, h5t⟩
      · rw [if_pos (nI_le (by omega) (by omega)), if_neg hq]
        refine ⟨M6, rfl, hg.tr g6, ⟨i6.1.2.2.2.1, c6, ?_, ?_, ?_, hly6, n6⟩, fun j hj => by rw [q6]; exact p417 j hj, fun j hj => ?_⟩
        · exact i6.1.2.2.1
        · show c + 1 ≤ 120; omega
        · show s + (lnR l + 0) ≤ 120; omega
        · rw [o6 j (by omega), r6]; exact p418 j hj
  -- the line
  generalize hM0 : u2 (u2 M 418 c (nI s)) 419 c (nI s) = M0
  have m0 : rG M M0 ∧ rI t w 0 M0 i s ∧ M0 400 20 = nI c ∧ M0 418 c = nI s ∧ M0 419 c = nI s ∧ M0 417 = M 417 ∧ ∀ j, j < c → M0 418 j = M 418 j ∧ M0 419 j = M 419 j := by
    rw [← hM0]
    refine ⟨(rG.u M (by omega) _).tr (rG.u _ (by omega) _), ⟨by rw [u2_o (by omega), u2_o (by omega)]; exact hI.1, fun j hj => by rw [u2_o (by omega), u2_o (by omega)]; exact hI.2.1 j hj, hI.2.2.1, hI.2.2.2⟩, ?_, ?_, u2_s, ?_, fun j hj => ?_⟩
    · rw [u2_o (by omega), u2_o (by omega)]; exact hc
    · rw [u2_o (by omega), u2_s]
    · rw [u2_o (by omega), u2_o (by omega)]
    · rw [u2_o (by omega), u2_n (by omega), u2_n (by omega), u2_o (by omega)]; exact ⟨rfl, rfl⟩
  obtain ⟨g0, i0, c0, st0, sp0, sg0, pre0⟩ := m0
  obtain ⟨M1, e1, o1⟩ := e175E E d L ht hw M0 i s i0
  have e1 : C E (d + 52) 175 [vR 1 12 400] (M0, L) = some (none, (M1, L)) := e1
  have hwi := wf_E (t := t) (w := w) 6 i hI.2.2.1
  have eE : EP (btA t w) i = clP (btA t w) (opP (btA t w) 6) 5 i := rfl
  rw [← eE] at o1 hwi
  have g1 : rG M M1 := g0.tr (rG.of o1.1)
  have c1 : M1 400 20 = nI c := (o1.1.2 20 (by omega) (by omega) (by omega) (by omega)).trans c0
  have k418 : M1 418 = M0 418 := o1.1.1 418 (by omega) (by omega)
  have k419 : M1 419 = M0 419 := o1.1.1 419 (by omega) (by omega)
  have row : X E (d + 52) me183 27 [some (vR 1 12 400), some (vI (1 : Int32))] [] (M, L) = (bI (C E (d + 52) 173 [vR 1 12 400, vI (63 : Int32)] (M1, L)) fun r3 s3 => (if r3 = 0 then (if ib ((u2 s3.1 400 20 ((s3.1 400 20) + (1 : Int32))) 400 20) 121 then (bI (C E (d + 52) 173 [vR 1 12 400, vI (59 : Int32)] ((u2 (u2 s3.1 400 20 ((s3.1 400 20) + (1 : Int32))) 418 (ix ((u2 s3.1 400 20 ((s3.1 400 20) + (1 : Int32))) 400 20)) ((u2 s3.1 400 20 ((s3.1 400 20) + (1 : Int32))) 400 19)), s3.2)) fun r4 s4 => X E (d + 52) me183 27 [some (vR 1 12 400), some (vI r4)] [] s4) else none) else (if ib (s3.1 400 20) 121 then (bV (C E (d + 52) 175 [vR 1 12 400] ((u2 s3.1 419 (ix (s3.1 400 20)) (s3.1 400 19)), s3.2)) fun s5 => (if ib ((u2 s5.1 400 20 ((s5.1 400 20) + (1 : Int32))) 400 20) 121 then (bI (C E (d + 52) 173 [vR 1 12 400, vI (59 : Int32)] ((u2 (u2 s5.1 400 20 ((s5.1 400 20) + (1 : Int32))) 418 (ix ((u2 s5.1 400 20 ((s5.1 400 20) + (1 : Int32))) 400 20)) ((u2 s5.1 400 20 ((s5.1 400 20) + (1 : Int32))) 400 19)), s5.2)) fun r6 s6 => X E (d + 52) me183 27 [some (vR 1 12 400), some (vI r6)] [] s6) else none)) else none))) := by
    have a20 : u2 M 418 c (nI s) 400 20 = nI c := by rw [u2_o (by omega)]; exact hc
    have a19 : u2 M 418 c (nI s) 400 19 = nI s := by rw [u2_o (by omega)]; exact hI.1.2.2.1
    rw [x183_27, if_neg (by decide), hc, if_pos ibc, ixc, hI.1.2.2.1, a20, if_pos ibc]
    simp only [ixc, a19, hM0]
    rw [e1, bV_s]
  rw [row]
  cases hr : EP (btA t w) i with
  | inl p =>
    rw [hr] at o1 hwi
    have hp : p ≤ t := hwi
    have hln : lnP (btA t w) i = .inl p := by unfold lnP; simp only [hr]
    rw [lsP_l hln, e173f E (d + 51) L M1 (p := p) (by omega) o1.2.1.1, bI_s, if_pos rfl]
    obtain ⟨M6, e6, g6, h6⟩ := tl_flt E (d + 50) L M1 (p := p) (by omega) o1.2.1.1 c1 (by omega)
    exact ⟨M6, e6, g1.tr g6, h6, hp⟩
  | inr zz =>
    obtain ⟨q, xs⟩ := zz
    rw [hr] at o1 hwi
    obtain ⟨w1, w2, w3, w4⟩ := hwi
    have hsi := hI.2.2.2
    have hI1 := rO_I i0 o1 w2 (by omega)
    have h173 := e173 E (d + 50) L ht hw M1 hI1 (k := 63) (by omega) (by omega)
    have h173 : C E (d + 52) 173 [vR 1 12 400, vI (63 : Int32)] (M1, L) = _ := h173
    rw [h173]
    have p417 : ∀ j, j < s → M1 417 j = M 417 j := fun j hj => by rw [o1.2.2 j hj, sg0]
    have p418 : ∀ j, j < c → M1 418 j = M 418 j ∧ M1 419 j = M 419 j := fun j hj => by rw [k418, k419]; exact pre0 j hj
    by_cases h63 : btA t w q = 63
    · have hq : q < t := bt_lt (w := w) (by omega)
      rw [if_pos h63, bI_s, if_neg (by decide)]
      have hI2 := rI_adv hI1 hq
      generalize hM2 : u2 M1 400 12 (M1 400 12 + 1) = M2 at hI2
      have m2 : rG M1 M2 ∧ M2 400 20 = nI c ∧ M2 417 = M1 417 ∧ M2 418 = M1 418 ∧ M2 419 = M1 419 := by
        rw [← hM2]
        exact ⟨rG.u0 M1 (by omega) _, by rw [u2_n (by omega)]; exact c1, u2_o (by omega), u2_o (by omega), u2_o (by omega)⟩
      obtain ⟨g2, c2, a2, b2, d2⟩ := m2
      generalize hM3 : u2 M2 419 c (nI (s + xs.length)) = M3
      have m3 : rG M2 M3 ∧ rI t w 0 M3 (q + 1) (s + xs.length) ∧ M3 400 20 = nI c ∧ M3 417 = M1 417 ∧ M3 418 = M1 418 ∧ M3 419 c = nI (s + xs.length) ∧ ∀ j, j < c → M3 419 j = M1 419 j := by
        rw [← hM3]
        refine ⟨rG.u M2 (by omega) _, ⟨by rw [u2_o (by omega)]; exact hI2.1, fun j hj => by rw [u2_o (by omega)]; exact hI2.2.1 j hj, hI2.2.2⟩, by rw [u2_o (by omega)]; exact c2, by rw [u2_o (by omega)]; exact a2, by rw [u2_o (by omega)]; exact b2, u2_s, fun j hj => by rw [u2_n (by omega), d2]⟩
      obtain ⟨g3, i3, c3, a3, b3, d3, f3⟩ := m3
      obtain ⟨M4, e4, o4⟩ := e175E E d L ht hw M3 (q + 1) (s + xs.length) i3
      have e4 : C E (d + 52) 175 [vR 1 12 400] (M3, L) = some (none, (M4, L)) := e4
      have hwi2 := wf_E (t := t) (w := w) 6 (q + 1) hq
      have eE2 : EP (btA t w) (q + 1) = clP (btA t w) (opP (btA t w) 6) 5 (q + 1) := rfl
      rw [← eE2] at o4 hwi2
      have g4 : rG M M4 := ((g1.tr g2).tr g3).tr (rG.of o4.1)
      have c4 : M4 400 20 = nI c := (o4.1.2 20 (by omega) (by omega) (by omega) (by omega)).trans c3
      have n418 : M4 418 = M1 418 := (o4.1.1 418 (by omega) (by omega)).trans b3
      have n419 : M4 419 = M3 419 := o4.1.1 419 (by omega) (by omega)
      dsimp only
      simp only [c2, if_pos ibc, ixc, hI2.1.2.2.1, hM3]
      rw [e4, bV_s]
      cases hr2 : EP (btA t w) (q + 1) with
      | inl p =>
        rw [hr2] at o4 hwi2
        have hp : p ≤ t := hwi2
        have hln : lnP (btA t w) i = .inl p := by unfold lnP; simp only [hr, if_pos h63, hr2]
        rw [lsP_l hln]
        obtain ⟨M6, e6, g6, h6⟩ := tl_flt E (d + 50) L M4 (p := p) (by omega) o4.2.1.1 c4 (by omega)
        exact ⟨M6, e6, g4.tr g6, h6, hp⟩
      | inr zz =>
        obtain ⟨q', ys⟩ := zz
        rw [hr2] at o4 hwi2
        obtain ⟨v1, v2, v3, v4⟩ := hwi2
        have hln : lnP (btA t w) i = .inr (q', (some xs, ys)) := by unfold lnP; simp only [hr, if_pos h63, hr2]
        rw [lsP_i hln]
        have hs3 := i3.2.2.2
        have i4 := rO_I i3 o4 v2 (by omega)
        rw [Nat.add_assoc] at i4
        refine endL M4 q' (some xs, ys) (by omega) i4 c4 g4 ⟨?_, ?_, ?_, ?_⟩ ?_ ?_
        · rw [n418, k418]; exact st0
        · rw [n419]; exact d3
        · refine itr_keep (fun j h1 h2 => ?_) o1.2.1.2.2.2.2
          rw [o4.2.2 j h2, a3]
        · exact o4.2.1.2.2.2.2
        · intro j hj
          rw [o4.2.2 j (by omega), a3]
          exact p417 j hj
        · intro j hj
          rw [n418, n419, f3 j hj]
          exact p418 j hj
    · rw [if_neg h63, bI_s, if_pos rfl]
      have hln : lnP (btA t w) i = .inr (q, (none, xs)) := by unfold lnP; simp only [hr, if_neg h63]
      rw [lsP_i hln]
      exact endL M1 q (none, xs) w1 hI1 c1 g1 ⟨by rw [k418]; exact st0, by rw [k419]; exact sp0, o1.2.1.2.2.2.2⟩ p417 p418
theorem t183 (ht : t ≤ 120) (hw : ∀ j, j < t → w j < 256) : ∀ k, T183 E L t w (d + 52) k
  | 0 => s183 E d L ht hw (fun k' h => absurd h (by omega))
  | k + 1 => s183 E d L ht hw (fun k' h => by rw [show k' = k by omega]; exact t183 ht hw k)
theorem e183 (ht : t ≤ 120) (hw : ∀ j, j < t → w j < 256) (M : Nat → Nat → Int32) (h11 : M 400 11 = nI t) (hb : ∀ j, j < t → M 411 j = nI (w j)) : ∃ M', C E (d + 53) 183 [vR 1 12 400] (M, L) = some (none, (M', L)) ∧ rG M M' ∧ (match txP t w with
    | .inl p => M' 400 13 = nI p ∧ p ≤ t
    | .inr ls => M' 400 13 = -1 ∧ M' 400 20 = nI ls.length ∧ M' 400 19 = nI (lnsR ls) ∧ ls.length ≤ 120 ∧ lnsR ls ≤ 120 ∧ layR (M' 417) (M' 418) (M' 419) 0 0 ls) := by
  generalize hM0 : u2 (u2 (u2 (u2 (u2 M 400 12 (0 : Int32)) 400 13 (-1 : Int32)) 400 14 (0 : Int32)) 400 19 (0 : Int32)) 400 20 (0 : Int32) = M0
  have m0 : rG M M0 ∧ rI t w 0 M0 0 0 ∧ M0 400 20 = nI 0 := by
    rw [← hM0]
    refine ⟨((((rG.u0 M (by omega) _).tr (rG.u0 _ (by omega) _)).tr (rG.u0 _ (by omega) _)).tr (rG.u0 _ (by omega) _)).tr (rG.u0 _ (by omega) _), ⟨⟨?_, ?_, ?_, ?_, ?_⟩, fun j hj => ?_, by omega, by omega⟩, u2_s⟩
    · rw [u2_n (by omega), u2_n (by omega), u2_n (by omega), u2_n (by omega), u2_n (by omega)]; exact h11
    · rw [u2_n (by omega), u2_n (by omega), u2_n (by omega), u2_n (by omega), u2_s]; rfl
    · rw [u2_n (by omega), u2_s]; rfl
    · rw [u2_n (by omega), u2_n (by omega), u2_n (by omega), u2_s]
    · rw [u2_n (by omega), u2_n (by omega), u2_s]; rfl
    · rw [u2_o (by omega), u2_o (by omega), u2_o (by omega), u2_o (by omega), u2_o (by omega)]; exact hb j hj
  obtain ⟨g0, i0, c0⟩ := m0
  obtain ⟨M', e', g', o'⟩ := t183 E d L ht hw 120 0 0 0 M0 (by omega) i0 c0 (by omega)
  refine ⟨M', ?_, g0.tr g', ?_⟩
  · rw [x183, hM0]; exact e'
  · unfold txP
    cases hr : lsP (btA t w) t 120 0 with
    | inl p => rw [hr] at o'; exact o'
    | inr ls =>
      rw [hr] at o'
      obtain ⟨⟨b1, b2, b3, b4, b5, b6⟩, -⟩ := o'
      rw [Nat.zero_add] at b2 b3 b4 b5
      exact ⟨b1, b2, b3, b4, b5, b6⟩
end RTEXT
