/-! the text of a law: both alike -/
theorem gd_ls {t : Nat} {w : Nat → Nat} : ∀ k i ls, i ≤ t → lsP (btA t w) t k i = .inr ls → (∀ l ∈ ls, gdL l) ∧ ls ≠ [] := by
  intro k
  induction k with
  | zero =>
    intro i ls hi h
    have hwl := wf_ln (w := w) hi
    cases hr : lnP (btA t w) i with
    | inl p => rw [lsP_l hr] at h; cases h
    | inr zz =>
      obtain ⟨q, l⟩ := zz
      rw [hr] at hwl
      rw [lsP_i hr] at h
      have h : csL l (ndP t q) = .inr ls := h
      unfold ndP at h
      by_cases hq : q < t
      · rw [if_pos hq] at h; cases h
      · rw [if_neg hq] at h
        have h : (.inr [l] : Nat ⊕ List LN) = .inr ls := h
        cases h
        exact ⟨fun m hm => by rw [List.mem_singleton.mp hm]; exact hwl.2.2, by simp⟩
  | succ k ih =>
    intro i ls hi h
    have hwl := wf_ln (w := w) hi
    cases hr : lnP (btA t w) i with
    | inl p => rw [lsP_l hr] at h; cases h
    | inr zz =>
      obtain ⟨q, l⟩ := zz
      rw [hr] at hwl
      rw [lsP_i hr, rsP_s] at h
      by_cases h59 : btA t w q = 59
      · have hq : q < t := bt_lt (w := w) (by omega)
        rw [if_pos h59] at h
        cases hr2 : lsP (btA t w) t k (q + 1) with
        | inl p => rw [hr2] at h; cases h
        | inr ms =>
          rw [hr2] at h
          have h : (.inr (l :: ms) : Nat ⊕ List LN) = .inr ls := h
          cases h
          have := ih (q + 1) ms hq hr2
          refine ⟨fun m hm => ?_, by simp⟩
          rcases List.mem_cons.mp hm with z | z
          · rw [z]; exact hwl.2.2
          · exact this.1 m z
      · rw [if_neg h59] at h
        unfold ndP at h
        by_cases hq : q < t
        · rw [if_pos hq] at h; cases h
        · rw [if_neg hq] at h
          have h : (.inr [l] : Nat ⊕ List LN) = .inr ls := h
          cases h
          exact ⟨fun m hm => by rw [List.mem_singleton.mp hm]; exact hwl.2.2, by simp⟩
theorem lnsC_pos {ls : List LN} (h : ls ≠ []) : 1 ≤ lnsC ls := by
  cases ls with
  | nil => exact absurd rfl h
  | cons l t =>
    obtain ⟨o, ys⟩ := l
    cases o with
    | none => show 1 ≤ ys.length + 1 + lnsC t; omega
    | some xs => show 1 ≤ xs.length + 1 + ys.length + 1 + lnsC t; omega
section OPLAW
variable (E : Nat × (Nat → Int32)) (d : Nat)
theorem op_law : Opk E d 109 184 [] := by
  intro M L h
  obtain ⟨n, g, kf, h1, ⟨h2, h2'⟩, h3, h4, h5, h6, h7, h8⟩ := h
  obtain ⟨t, ht, t3, t11, tb⟩ := h3
  have hwb : ∀ j, j < t → M 71 j = nI (M 71 j).toInt.toNat := fun j hj => by
    have := (tb j hj).2
    unfold btw at this
    exact toN_nI (by omega)
  have hw : ∀ j, j < t → (fun j => (M 71 j).toInt.toNat) j < 256 := fun j hj => by
    have := (tb j hj).2
    unfold btw at this
    show (M 71 j).toInt.toNat < 256
    omega
  obtain ⟨M1, r1, e1, f1, o1⟩ := e67 E (d + 39) L ht (w := fun j => (M 71 j).toInt.toNat) hw M t3 hwb
  generalize hW : (fun j => (M 71 j).toInt.toNat) = w at *
  cases hr : txP t w with
  | inl p =>
    rw [hr] at o1
    obtain ⟨or1, op⟩ := o1
    -- the class
    have kM : ∀ c, c ≠ 70 → c ≠ 72 → c ≠ 73 → u2 M1 70 3 (0 : Int32) c = M c := fun c a b e => by rw [u2_o a]; exact f1.1 c a b e
    have G1 : C E (d + 100) 109 [vR 1 11 10] (M, L) = some (some (vI (-100 - nI p)), (u2 M1 70 3 (0 : Int32), L)) := by
      have hz : (0 : Int32) ≤ r1 := by rw [or1]; exact pos_le (by omega)
      rw [x109, e1, bI_s, if_pos hz, x66, bV_s, if_pos hz, or1]
    have g11 : u2 M1 70 3 (0 : Int32) 400 11 = nI t := by rw [kM 400 (by omega) (by omega) (by omega)]; exact t11
    have gb : ∀ j, j < t → u2 M1 70 3 (0 : Int32) 411 j = nI (w j) := fun j hj => by
      rw [kM 411 (by omega) (by omega) (by omega), (tb j hj).1, ← hW]; exact hwb j hj
    have g70 : u2 M1 70 3 (0 : Int32) 70 3 = nI 0 := u2_s
    generalize u2 M1 70 3 (0 : Int32) = Ma at *
    obtain ⟨M2, r2, e2, w2, z2, o2⟩ := e184 E (d + 46) L ht hw Ma g11 gb
    rw [hr] at o2
    obtain ⟨or2, k24, k422, k423, k424⟩ := o2
    rw [or2] at e2
    have c : ∀ c, c ≠ 70 → c ≠ 72 → c ≠ 73 → c ≠ 400 → c ≠ 417 → c ≠ 418 → c ≠ 419 → c ≠ 422 → c ≠ 423 → c ≠ 424 → M2 c = M c := fun c a b e f i j k l m o => (w2.1 c f i j k l m o).trans (kM c a b e)
    have s : ∀ j, j ≠ 11 → j ≠ 12 → j ≠ 13 → j ≠ 14 → j ≠ 19 → j ≠ 20 → j ≠ 24 → M2 400 j = M 400 j := fun j a b e f i k l => (w2.2 j a b e f i k l).trans (by rw [kM 400 (by omega) (by omega) (by omega)])
    refine ⟨-100 - nI p, Ma, L, M2, L, G1, e2, n, g, kf, ?_, ⟨?_, ?_⟩, ?_, ?_, ?_, ?_, ?_, ?_⟩
    · exact h1.kp (fun x a b => c x (by omega) (by omega) (by omega) (by omega) (by omega) (by omega) (by omega) (by omega) (by omega) (by omega)) (fun x a => c x (by omega) (by omega) (by omega) (by omega) (by omega) (by omega) (by omega) (by omega) (by omega) (by omega)) (fun j a => s j (by omega) (by omega) (by omega) (by omega) (by omega) (by omega) (by omega))
    · exact h2.keep4 (by rw [c 90 (by omega) (by omega) (by omega) (by omega) (by omega) (by omega) (by omega) (by omega) (by omega) (by omega)]) (c 91 (by omega) (by omega) (by omega) (by omega) (by omega) (by omega) (by omega) (by omega) (by omega) (by omega)) (c 92 (by omega) (by omega) (by omega) (by omega) (by omega) (by omega) (by omega) (by omega) (by omega) (by omega))
    · exact h2'.keep (k24.trans (by rw [kM 400 (by omega) (by omega) (by omega)])) (k422.trans (kM 422 (by omega) (by omega) (by omega))) (k423.trans (kM 423 (by omega) (by omega) (by omega))) (k424.trans (kM 424 (by omega) (by omega) (by omega)))
    · exact ⟨0, by omega, by rw [w2.1 70 (by omega) (by omega) (by omega) (by omega) (by omega) (by omega) (by omega)]; exact g70, z2, fun i hi => absurd hi (by omega)⟩
    · exact h4.kp (fun x a b => c x (by omega) (by omega) (by omega) (by omega) (by omega) (by omega) (by omega) (by omega) (by omega) (by omega)) (fun x a b => c x (by omega) (by omega) (by omega) (by omega) (by omega) (by omega) (by omega) (by omega) (by omega) (by omega)) (fun j a => s j (by omega) (by omega) (by omega) (by omega) (by omega) (by omega) (by omega))
    · exact h5.kp (c 435 (by omega) (by omega) (by omega) (by omega) (by omega) (by omega) (by omega) (by omega) (by omega) (by omega)) (c 281 (by omega) (by omega) (by omega) (by omega) (by omega) (by omega) (by omega) (by omega) (by omega) (by omega))
    · exact h6.kp (c 280 (by omega) (by omega) (by omega) (by omega) (by omega) (by omega) (by omega) (by omega) (by omega) (by omega)) (c 282 (by omega) (by omega) (by omega) (by omega) (by omega) (by omega) (by omega) (by omega) (by omega) (by omega)) (fun x a b => c x (by omega) (by omega) (by omega) (by omega) (by omega) (by omega) (by omega) (by omega) (by omega) (by omega)) (c 439 (by omega) (by omega) (by omega) (by omega) (by omega) (by omega) (by omega) (by omega) (by omega) (by omega)) (c 440 (by omega) (by omega) (by omega) (by omega) (by omega) (by omega) (by omega) (by omega) (by omega) (by omega)) (fun j a => s j (by omega) (by omega) (by omega) (by omega) (by omega) (by omega) (by omega))
    · exact h7.kp (fun x a b => c x (by omega) (by omega) (by omega) (by omega) (by omega) (by omega) (by omega) (by omega) (by omega) (by omega)) (c 442 (by omega) (by omega) (by omega) (by omega) (by omega) (by omega) (by omega) (by omega) (by omega) (by omega)) (c 443 (by omega) (by omega) (by omega) (by omega) (by omega) (by omega) (by omega) (by omega) (by omega) (by omega)) (fun j a => s j (by omega) (by omega) (by omega) (by omega) (by omega) (by omega) (by omega))
    · exact h8.kp (c 331 (by omega) (by omega) (by omega) (by omega) (by omega) (by omega) (by omega) (by omega) (by omega) (by omega)) (c 332 (by omega) (by omega) (by omega) (by omega) (by omega) (by omega) (by omega) (by omega) (by omega) (by omega)) (c 447 (by omega) (by omega) (by omega) (by omega) (by omega) (by omega) (by omega) (by omega) (by omega) (by omega)) (c 448 (by omega) (by omega) (by omega) (by omega) (by omega) (by omega) (by omega) (by omega) (by omega) (by omega)) (by rw [c 320 (by omega) (by omega) (by omega) (by omega) (by omega) (by omega) (by omega) (by omega) (by omega) (by omega)])
  | inr ls =>
    rw [hr] at o1
    obtain ⟨or1, o4, ol, olay⟩ := o1
    obtain ⟨hgd, hne⟩ := gd_ls 120 0 ls (by omega) hr
    have hpos := lnsC_pos hne
    generalize hMb : u2 (u2 (c2 (c2 M1 72 91 0 0 128) 73 92 0 0 128) 90 4 (M1 70 4)) 70 3 (0 : Int32) = Mb
    have mb : (∀ c, c ≠ 70 → c ≠ 72 → c ≠ 73 → c ≠ 90 → c ≠ 91 → c ≠ 92 → Mb c = M c) ∧ Mb 70 3 = nI 0 ∧ Mb 90 4 = nI (lnsC ls) ∧ layL (Mb 91) (Mb 92) 0 ls := by
      rw [← hMb]
      refine ⟨fun c a b e f i j => ?_, u2_s, ?_, ?_⟩
      · rw [u2_o a, u2_o f, c2_o j, c2_o i]; exact f1.1 c a b e
      · rw [u2_o (by omega), u2_s]; exact o4
      · refine layL_keep (fun j hj => ?_) olay
        rw [u2_o (by omega), u2_o (by omega), c2_o (by omega), c2_ap, if_pos rfl, if_pos ⟨by omega, by omega⟩, u2_o (by omega), u2_o (by omega), c2_ap, if_pos rfl, if_pos ⟨by omega, by omega⟩, c2_o (by omega)]
        rw [Nat.sub_zero, Nat.zero_add]
        exact ⟨rfl, rfl⟩
    obtain ⟨kM, g70, g90, glay⟩ := mb
    have G1 : C E (d + 100) 109 [vR 1 11 10] (M, L) = some (some (vI (1 : Int32)), (Mb, L)) := by
      have hz : ¬ (0 : Int32) ≤ r1 := by rw [or1]; decide
      have c1' := e999 E (d + 97) M1 L (a := 72) (b := 91) (n0 := 128) (n1 := 128) (sp := 0) (dp := 0) (n := 128) (by omega) (by omega) (by omega) (by omega)
      have c1' : C E (d + 98) 999 [vR 2 128 72, vI (0 : Int32), vR 2 128 91, vI (0 : Int32), vI (128 : Int32)] (M1, L) = _ := c1'
      have c2' := e999 E (d + 97) (c2 M1 72 91 0 0 128) L (a := 73) (b := 92) (n0 := 128) (n1 := 128) (sp := 0) (dp := 0) (n := 128) (by omega) (by omega) (by omega) (by omega)
      have c2' : C E (d + 98) 999 [vR 2 128 73, vI (0 : Int32), vR 2 128 92, vI (0 : Int32), vI (128 : Int32)] (c2 M1 72 91 0 0 128, L) = _ := c2'
      have e70' : c2 (c2 M1 72 91 0 0 128) 73 92 0 0 128 70 4 = M1 70 4 := by rw [c2_o (by omega), c2_o (by omega)]
      have h35 : C E (d + 99) 35 [vR 1 3 90, vR 1 7 70] (M1, L) = some (none, (u2 (c2 (c2 M1 72 91 0 0 128) 73 92 0 0 128) 90 4 (M1 70 4), L)) := by
        rw [x35, c1', bV_s, c2', bV_s]
        dsimp only
        rw [e70']
      rw [x109, e1, bI_s, if_neg hz, h35, bV_s, x66, bV_s, if_neg hz, hMb]
    have g11 : Mb 400 11 = nI t := by rw [kM 400 (by omega) (by omega) (by omega) (by omega) (by omega) (by omega)]; exact t11
    have gb : ∀ j, j < t → Mb 411 j = nI (w j) := fun j hj => by
      rw [kM 411 (by omega) (by omega) (by omega) (by omega) (by omega) (by omega), (tb j hj).1, ← hW]; exact hwb j hj
    obtain ⟨M2, r2, e2, w2, z2, o2⟩ := e184 E (d + 46) L ht hw Mb g11 gb
    rw [hr] at o2
    obtain ⟨or2, k24, hl1, hl2, rlay⟩ := o2
    rw [or2] at e2
    have c : ∀ c, c ≠ 70 → c ≠ 72 → c ≠ 73 → c ≠ 90 → c ≠ 91 → c ≠ 92 → c ≠ 400 → c ≠ 417 → c ≠ 418 → c ≠ 419 → c ≠ 422 → c ≠ 423 → c ≠ 424 → M2 c = M c := fun c a b e p q v f i j k l m o => (w2.1 c f i j k l m o).trans (kM c a b e p q v)
    have s : ∀ j, j ≠ 11 → j ≠ 12 → j ≠ 13 → j ≠ 14 → j ≠ 19 → j ≠ 20 → j ≠ 24 → M2 400 j = M 400 j := fun j a b e f i k l => (w2.2 j a b e f i k l).trans (by rw [kM 400 (by omega) (by omega) (by omega) (by omega) (by omega) (by omega)])
    have k9 : ∀ c, (c = 90 ∨ c = 91 ∨ c = 92 ∨ c = 70) → M2 c = Mb c := fun c hc => w2.1 c (by omega) (by omega) (by omega) (by omega) (by omega) (by omega) (by omega)
    have hlen : 1 ≤ ls.length := by
      cases ls with
      | nil => exact absurd rfl hne
      | cons l t => rw [List.length_cons]; omega
    refine ⟨1, Mb, L, M2, L, G1, e2, n, g, fun f => kfL f ls, ?_, ⟨?_, ?_⟩, ?_, ?_, ?_, ?_, ?_, ?_⟩
    · exact h1.kp (fun x a b => c x (by omega) (by omega) (by omega) (by omega) (by omega) (by omega) (by omega) (by omega) (by omega) (by omega) (by omega) (by omega) (by omega)) (fun x a => c x (by omega) (by omega) (by omega) (by omega) (by omega) (by omega) (by omega) (by omega) (by omega) (by omega) (by omega) (by omega) (by omega)) (fun j a => s j (by omega) (by omega) (by omega) (by omega) (by omega) (by omega) (by omega))
    · refine ⟨fun f f' hf => kfL_f hf hgd, Or.inr ⟨?_, fun M3 L3 d3 q0 q1 q2 => ?_⟩⟩
      · rw [k9 90 (by omega), g90]
        intro q
        have := nI_inj (b := 0) (by omega) (by omega) q
        omega
      · have hz : M3 90 4 = nI (lnsC ls) := by rw [q0, k9 90 (by omega)]; exact g90
        obtain ⟨M4, e4, f4⟩ := txt37 E d3 L3 ls M3 (s := 0) (k := 0) (z := lnsC ls) hgd (by rw [q1, q2, k9 91 (by omega), k9 92 (by omega)]; exact glay) hz (by omega) (by omega) (Nat.le_refl _) none none none
        refine ⟨M4, ?_, f4⟩
        rw [x37]
        exact e4
    · refine ⟨fun f f' hf => kfL_f hf hgd, Or.inr ⟨?_, fun M3 L3 d3 q0 q1 q2 q3 => ?_⟩⟩
      · rw [k24, t_nI (by omega)]; omega
      · obtain ⟨M4, e4, f4⟩ := txt187 E d3 L3 ls M3 (c := 0) (s := 0) (z := ls.length) hgd (by rw [q1, q2, q3]; exact rlay) (by rw [q0]; exact k24) hl1 (by omega) (by omega)
        refine ⟨M4, ?_, f4⟩
        rw [x187]
        exact e4
    · exact ⟨0, by omega, by rw [k9 70 (by omega)]; exact g70, z2, fun i hi => absurd hi (by omega)⟩
    · exact h4.kp (fun x a b => c x (by omega) (by omega) (by omega) (by omega) (by omega) (by omega) (by omega) (by omega) (by omega) (by omega) (by omega) (by omega) (by omega)) (fun x a b => c x (by omega) (by omega) (by omega) (by omega) (by omega) (by omega) (by omega) (by omega) (by omega) (by omega) (by omega) (by omega) (by omega)) (fun j a => s j (by omega) (by omega) (by omega) (by omega) (by omega) (by omega) (by omega))
    · exact h5.kp (c 435 (by omega) (by omega) (by omega) (by omega) (by omega) (by omega) (by omega) (by omega) (by omega) (by omega) (by omega) (by omega) (by omega)) (c 281 (by omega) (by omega) (by omega) (by omega) (by omega) (by omega) (by omega) (by omega) (by omega) (by omega) (by omega) (by omega) (by omega))
    · exact h6.kp (c 280 (by omega) (by omega) (by omega) (by omega) (by omega) (by omega) (by omega) (by omega) (by omega) (by omega) (by omega) (by omega) (by omega)) (c 282 (by omega) (by omega) (by omega) (by omega) (by omega) (by omega) (by omega) (by omega) (by omega) (by omega) (by omega) (by omega) (by omega)) (fun x a b => c x (by omega) (by omega) (by omega) (by omega) (by omega) (by omega) (by omega) (by omega) (by omega) (by omega) (by omega) (by omega) (by omega)) (c 439 (by omega) (by omega) (by omega) (by omega) (by omega) (by omega) (by omega) (by omega) (by omega) (by omega) (by omega) (by omega) (by omega)) (c 440 (by omega) (by omega) (by omega) (by omega) (by omega) (by omega) (by omega) (by omega) (by omega) (by omega) (by omega) (by omega) (by omega)) (fun j a => s j (by omega) (by omega) (by omega) (by omega) (by omega) (by omega) (by omega))
    · exact h7.kp (fun x a b => c x (by omega) (by omega) (by omega) (by omega) (by omega) (by omega) (by omega) (by omega) (by omega) (by omega) (by omega) (by omega) (by omega)) (c 442 (by omega) (by omega) (by omega) (by omega) (by omega) (by omega) (by omega) (by omega) (by omega) (by omega) (by omega) (by omega) (by omega)) (c 443 (by omega) (by omega) (by omega) (by omega) (by omega) (by omega) (by omega) (by omega) (by omega) (by omega) (by omega) (by omega) (by omega)) (fun j a => s j (by omega) (by omega) (by omega) (by omega) (by omega) (by omega) (by omega))
    · exact h8.kp (c 331 (by omega) (by omega) (by omega) (by omega) (by omega) (by omega) (by omega) (by omega) (by omega) (by omega) (by omega) (by omega) (by omega)) (c 332 (by omega) (by omega) (by omega) (by omega) (by omega) (by omega) (by omega) (by omega) (by omega) (by omega) (by omega) (by omega) (by omega)) (c 447 (by omega) (by omega) (by omega) (by omega) (by omega) (by omega) (by omega) (by omega) (by omega) (by omega) (by omega) (by omega) (by omega)) (c 448 (by omega) (by omega) (by omega) (by omega) (by omega) (by omega) (by omega) (by omega) (by omega) (by omega) (by omega) (by omega) (by omega)) (by rw [c 320 (by omega) (by omega) (by omega) (by omega) (by omega) (by omega) (by omega) (by omega) (by omega) (by omega) (by omega) (by omega) (by omega)])
end OPLAW
