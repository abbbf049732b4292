/-! acts of kinds -/
/-- one number pushed -/
def p1C (M : Nat → Nat → Int32) (c : Int32) : Nat → Nat → Int32 := if 24 ≤ M 320 3 then u2 M 320 3 (M 320 3 + 1) else u2 (u2 M 322 (ix (M 320 3)) c) 320 3 (M 320 3 + 1)
def p1R (M : Nat → Nat → Int32) (c : Int32) : Nat → Nat → Int32 := if 24 ≤ M 400 43 then u2 M 400 43 (M 400 43 + 1) else u2 (u2 M 443 (ix (M 400 43)) c) 400 43 (M 400 43 + 1)
def psC : (Nat → Nat → Int32) → List Int32 → Nat → Nat → Int32
  | M, [] => M
  | M, c :: cs => psC (p1C M c) cs
def psR : (Nat → Nat → Int32) → List Int32 → Nat → Nat → Int32
  | M, [] => M
  | M, c :: cs => psR (p1R M c) cs
theorem psC_ap : ∀ (a b : List Int32) (M : Nat → Nat → Int32), psC M (a ++ b) = psC (psC M a) b
  | [], _, _ => rfl
  | _ :: a, b, M => psC_ap a b _
theorem psR_ap : ∀ (a b : List Int32) (M : Nat → Nat → Int32), psR M (a ++ b) = psR (psR M a) b
  | [], _, _ => rfl
  | _ :: a, b, M => psR_ap a b _
theorem p1C_o {M : Nat → Nat → Int32} {c : Int32} {x : Nat} (h : x ≠ 320 ∧ x ≠ 322) : p1C M c x = M x := by
  unfold p1C
  split
  · rw [u2_o h.1]
  · rw [u2_o h.1, u2_o h.2]
theorem p1R_o {M : Nat → Nat → Int32} {c : Int32} {x : Nat} (h : x ≠ 400 ∧ x ≠ 443) : p1R M c x = M x := by
  unfold p1R
  split
  · rw [u2_o h.1]
  · rw [u2_o h.1, u2_o h.2]
theorem p1C_j {M : Nat → Nat → Int32} {c : Int32} {j : Nat} (h : j ≠ 3) : p1C M c 320 j = M 320 j := by
  unfold p1C
  split
  · rw [u2_n h]
  · rw [u2_n h, u2_o (by omega)]
theorem p1R_j {M : Nat → Nat → Int32} {c : Int32} {j : Nat} (h : j ≠ 43) : p1R M c 400 j = M 400 j := by
  unfold p1R
  split
  · rw [u2_n h]
  · rw [u2_n h, u2_o (by omega)]
theorem p1C_k {M : Nat → Nat → Int32} {c : Int32} {r : Nat} (h : M 320 3 = nI r) : p1C M c 320 3 = nI (r + 1) := by
  unfold p1C
  split
  · rw [u2_s, h, nI_1]
  · rw [u2_s, h, nI_1]
theorem p1R_k {M : Nat → Nat → Int32} {c : Int32} {r : Nat} (h : M 400 43 = nI r) : p1R M c 400 43 = nI (r + 1) := by
  unfold p1R
  split
  · rw [u2_s, h, nI_1]
  · rw [u2_s, h, nI_1]
theorem psC_o {x : Nat} (h : x ≠ 320 ∧ x ≠ 322) : ∀ (cs : List Int32) (M : Nat → Nat → Int32), psC M cs x = M x
  | [], _ => rfl
  | _ :: cs, M => (psC_o h cs _).trans (p1C_o h)
theorem psR_o {x : Nat} (h : x ≠ 400 ∧ x ≠ 443) : ∀ (cs : List Int32) (M : Nat → Nat → Int32), psR M cs x = M x
  | [], _ => rfl
  | _ :: cs, M => (psR_o h cs _).trans (p1R_o h)
theorem psC_j {j : Nat} (h : j ≠ 3) : ∀ (cs : List Int32) (M : Nat → Nat → Int32), psC M cs 320 j = M 320 j
  | [], _ => rfl
  | _ :: cs, M => (psC_j h cs _).trans (p1C_j h)
theorem psR_j {j : Nat} (h : j ≠ 43) : ∀ (cs : List Int32) (M : Nat → Nat → Int32), psR M cs 400 j = M 400 j
  | [], _ => rfl
  | _ :: cs, M => (psR_j h cs _).trans (p1R_j h)
theorem psC_k : ∀ (cs : List Int32) (M : Nat → Nat → Int32) (r : Nat), M 320 3 = nI r → psC M cs 320 3 = nI (r + cs.length)
  | [], _, _, h => h
  | c :: cs, M, r, h => by
    have := psC_k cs (p1C M c) (r + 1) (p1C_k h)
    rw [show r + (c :: cs).length = r + 1 + cs.length by simp; omega]
    exact this
theorem psR_k : ∀ (cs : List Int32) (M : Nat → Nat → Int32) (r : Nat), M 400 43 = nI r → psR M cs 400 43 = nI (r + cs.length)
  | [], _, _, h => h
  | c :: cs, M, r, h => by
    have := psR_k cs (p1R M c) (r + 1) (p1R_k h)
    rw [show r + (c :: cs).length = r + 1 + cs.length by simp; omega]
    exact this
theorem ps_eq : ∀ (cs : List Int32) (M M' : Nat → Nat → Int32) (r : Nat), M 320 3 = nI r → M' 400 43 = nI r → r + cs.length ≤ 900 → (∀ i, i < r → i < 24 → M' 443 i = M 322 i) → ∀ i, i < r + cs.length → i < 24 → psR M' cs 443 i = psC M cs 322 i
  | [], _, _, _, _, _, _, h => h
  | c :: cs, M, M', r, h1, h2, h3, h4 => by
    have hl : (c :: cs).length = cs.length + 1 := rfl
    rw [hl] at h3 ⊢
    intro i hi hi2
    refine ps_eq cs (p1C M c) (p1R M' c) (r + 1) (p1C_k h1) (p1R_k h2) (by omega) (fun i hi hi2 => ?_) i (by omega) hi2
    unfold p1C p1R
    rw [h1, h2, ix_nI (by omega)]
    by_cases q : 24 ≤ r
    · rw [if_pos (show (24 : Int32) ≤ nI r from nI_le (a := 24) q (by omega)), if_pos (show (24 : Int32) ≤ nI r from nI_le (a := 24) q (by omega)), u2_o (by omega), u2_o (by omega)]
      exact h4 i (by omega) hi2
    · rw [if_neg (show ¬ (24 : Int32) ≤ nI r from nI_ge (b := 24) (by omega) (by omega)), if_neg (show ¬ (24 : Int32) ≤ nI r from nI_ge (b := 24) (by omega) (by omega)), u2_o (by omega), u2_o (c := 322) (by omega)]
      by_cases e : i = r
      · rw [e, u2_s, u2_s]
      · rw [u2_n e, u2_n e]; exact h4 i (by omega) hi2
section ACTS
variable (E : Nat × (Nat → Int32)) (d : Nat) (L : Nat → Nat → Int64)
theorem e8 (M : Nat → Nat → Int32) {r : Nat} (h : M 320 3 = nI r) (hr : r ≤ 900) (c : Int32) : C E (d + 1) 8 [vR 1 0 320, vI c] (M, L) = some (none, (p1C M c, L)) := by
  unfold p1C
  rw [x8, h, if_neg (nI_pos (by omega))]
  by_cases q : 24 ≤ r
  · rw [if_pos (show (24 : Int32) ≤ nI r from nI_le (a := 24) q (by omega)), if_pos (show (24 : Int32) ≤ nI r from nI_le (a := 24) q (by omega))]
  · rw [if_neg (show ¬ (24 : Int32) ≤ nI r from nI_ge (b := 24) (by omega) (by omega)), if_neg (show ¬ (24 : Int32) ≤ nI r from nI_ge (b := 24) (by omega) (by omega)), if_pos (by rw [ib_nI (by omega)]; omega), u2_o (c := 320) (by omega), h]
theorem e233 (M : Nat → Nat → Int32) {r : Nat} (h : M 400 43 = nI r) (hr : r ≤ 900) (c : Int32) : C E (d + 1) 233 [vR 1 12 400, vI c] (M, L) = some (none, (p1R M c, L)) := by
  unfold p1R
  rw [x233, h]
  by_cases q : 24 ≤ r
  · rw [if_pos (show (24 : Int32) ≤ nI r from nI_le (a := 24) q (by omega)), if_pos (show (24 : Int32) ≤ nI r from nI_le (a := 24) q (by omega))]
  · rw [if_neg (show ¬ (24 : Int32) ≤ nI r from nI_ge (b := 24) (by omega) (by omega)), if_neg (show ¬ (24 : Int32) ≤ nI r from nI_ge (b := 24) (by omega) (by omega)), if_pos (by rw [ib_nI (by omega)]; omega), u2_o (c := 400) (by omega), h]
theorem e3k (s : PS) {q : Nat} (hq : q < 8) : C E (d + 1) 3 [vI (nI q)] s = some (some (vI (stA.getD q 0)), s) := by
  obtain ⟨M, L⟩ := s
  rw [x3, if_neg (nI_pos (by omega)), if_neg (show ¬ (8 : Int32) ≤ nI q from nI_ge (b := 8) hq (by omega)), if_pos (by rw [ib_nI (by omega)]; exact hq), ix_nI (by omega)]
  rfl
theorem e4k (s : PS) {q a : Nat} (hq : q < 8) (ha : a < 4) : C E (d + 1) 4 [vI (nI q), vI (nI a)] s = some (some (vI (stB.getD (4 * q + a) 0)), s) := by
  obtain ⟨M, L⟩ := s
  have e : nI q * 4 + nI a = nI (4 * q + a) := by
    rw [show (4 : Int32) = nI 4 from rfl, Int32.mul_comm]; unfold nI; rw [← Int32.ofNat_mul, ← Int32.ofNat_add]
  rw [x4, if_neg (nI_pos (by omega)), if_neg (show ¬ (8 : Int32) ≤ nI q from nI_ge (b := 8) hq (by omega)), if_neg (nI_pos (by omega)), if_neg (show ¬ (4 : Int32) ≤ nI a from nI_ge (b := 4) ha (by omega)), e, if_pos (by rw [ib_nI (by omega)]; omega), ix_nI (by omega)]
  rfl
/-- what a body does -/
noncomputable def swi (x1 x3 x4 x5 c u : Int32) (s : PS) : PR := (if c = (1 : Int32) then some (some (vI (x4 + x1)), s) else (if c = (2 : Int32) then (bI (C E d 9 [vR 1 0 320, vI x1, vI (1 : Int32), vI x4, vI (x5 + (1 : Int32))] s) fun r52 s52 => (bI (C E d 9 [vR 1 0 320, vI x1, vI (2 : Int32), vI (1 : Int32), vI (x5 + (1 : Int32))] s52) fun r53 s53 => some (some (vI (r52 - r53)), s53))) else (if c = (10 : Int32) then (bI (C E d 9 [vR 1 0 320, vI x1, vI (0 : Int32), vI x4, vI (x5 + (1 : Int32))] s) fun r51 s51 => some (some (vI (r51 * (2 : Int32))), s51)) else (if c = (11 : Int32) then some (some (vI (x4 ^^^ x1)), s) else (if c = (20 : Int32) then (bI (C E d 10 [vR 1 0 320, vI x1, vI u, vI x3, vI x4, vI (x5 + (1 : Int32))] s) fun r50 s50 => some (some (vI (r50 + (3 : Int32))), s50)) else (if c = (30 : Int32) then (bI (C E d 10 [vR 1 0 320, vI x1, vI u, vI x3, vI x4, vI (x5 + (1 : Int32))] s) fun r49 s49 => some (some (vI (-r49)), s49)) else (if c = (40 : Int32) then (bI (C E d 10 [vR 1 0 320, vI x1, vI u, vI x3, vI x4, vI (x5 + (1 : Int32))] s) fun r48 s48 => some (some (vI (r48 * (3 : Int32))), s48)) else (if c = (41 : Int32) then (bI (C E d 10 [vR 1 0 320, vI x1, vI u, vI x3, vI (x4 + (1 : Int32)), vI (x5 + (1 : Int32))] s) fun r47 s47 => some (some (vI r47), s47)) else (if c = (50 : Int32) then (bI (C E d 10 [vR 1 0 320, vI x1, vI u, vI x3, vI x4, vI (x5 + (1 : Int32))] s) fun r45 s45 => (bI (C E d 9 [vR 1 0 320, vI x1, vI (0 : Int32), vI (2 : Int32), vI (x5 + (1 : Int32))] s45) fun r46 s46 => some (some (vI (r45 - r46)), s46))) else (if c = (60 : Int32) then (bI (C E d 10 [vR 1 0 320, vI x1, vI u, vI x3, vI x4, vI (x5 + (1 : Int32))] s) fun r44 s44 => some (some (vI (r44 ^^^ (5 : Int32))), s44)) else (if c = (70 : Int32) then (bI (C E d 10 [vR 1 0 320, vI x1, vI u, vI x3, vI x4, vI (x5 + (1 : Int32))] s) fun r43 s43 => some (some (vI (r43 * (2 : Int32))), s43)) else (if c = (80 : Int32) then (bI (C E d 10 [vR 1 0 320, vI x1, vI u, vI x3, vI x4, vI (x5 + (1 : Int32))] s) fun r41 s41 => (bI (C E d 9 [vR 1 0 320, vI x1, vI (2 : Int32), vI (2 : Int32), vI (x5 + (1 : Int32))] s41) fun r42 s42 => some (some (vI (r41 + r42)), s42))) else (if c = (81 : Int32) then (bI (C E d 10 [vR 1 0 320, vI x1, vI u, vI x3, vI x4, vI (x5 + (1 : Int32))] s) fun r40 s40 => some (some (vI (r40 - (1 : Int32))), s40)) else some (some (vI (0 : Int32)), s))))))))))))))
theorem l10 {q a kk : Nat} (hq : q < 8) (ha : a < 4) (hk : kk < 8) {c : Int32} (hc : stB.getD (4 * q + a) 0 = c) (hc0 : ¬ c = 0) (x1 x2 x4 x5 : Int32) (hd : x5 ≤ 40) (w8 w9 : Option PV) (M : Nat → Nat → Int32) {r : Nat} (h : M 320 3 = nI r) (hr : r ≤ 900) :
    X E (d + 1) me10 6 [some (vR 1 0 320), some (vI x1), some (vI x2), some (vI (nI a)), some (vI x4), some (vI x5), some (vI (nI q)), some (vI (nI kk)), w8, w9] [] (M, L) = swi E (d + 1) x1 (nI a) x4 x5 c (stA.getD q 0) (p1C M c, L) := by
  rw [x10_6, if_neg (show ¬ (8 : Int32) ≤ nI kk from nI_ge (b := 8) hk (by omega)), if_neg (nI_pos (by omega)), e4k E d _ hq ha, hc, bI_s, if_neg hc0, e4k E d _ hq ha, hc, bI_s, if_neg hc0, if_pos hd, e8 E d L M h hr, bV_s, e3k E d _ hq, bI_s]
  rfl
theorem l10z {q q' a kk : Nat} (hq : q < 8) (ha : a < 4) (hk : kk < 8) (hc : stB.getD (4 * q + a) 0 = 0) (hu : stA.getD q 0 = nI q') (x1 x2 x4 x5 : Int32) (w8 w9 : Option PV) (M : Nat → Nat → Int32) :
    X E (d + 1) me10 6 [some (vR 1 0 320), some (vI x1), some (vI x2), some (vI (nI a)), some (vI x4), some (vI x5), some (vI (nI q)), some (vI (nI kk)), w8, w9] [] (M, L) = X E (d + 1) me10 6 [some (vR 1 0 320), some (vI x1), some (vI x2), some (vI (nI a)), some (vI x4), some (vI x5), some (vI (nI q')), some (vI (nI (kk + 1))), w8, w9] [] (M, L) := by
  rw [x10_6, if_neg (show ¬ (8 : Int32) ≤ nI kk from nI_ge (b := 8) hk (by omega)), if_neg (nI_pos (by omega)), e4k E d _ hq ha, hc, bI_s, if_pos rfl, e3k E d _ hq, hu, bI_s, nI_1]
end ACTS
