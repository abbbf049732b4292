/-! acts: class and reference -/
section ACTS2
variable (E : Nat × (Nat → Int32)) (d : Nat) (L : Nat → Nat → Int64)
section SW
variable (x1 x3 x4 x5 u : Int32) (s : PS)
theorem swi1 : swi E d x1 x3 x4 x5 (1 : Int32) u s = some (some (vI (x4 + x1)), s) := by
  unfold swi
  (repeat rw [if_neg (by decide)])
  rw [if_pos rfl]
theorem swi2 : swi E d x1 x3 x4 x5 (2 : Int32) u s = bI (C E d 9 [vR 1 0 320, vI x1, vI (1 : Int32), vI x4, vI (x5 + 1)] s) fun r s => bI (C E d 9 [vR 1 0 320, vI x1, vI (2 : Int32), vI (1 : Int32), vI (x5 + 1)] s) fun r2 s2 => some (some (vI (r - r2)), s2) := by
  unfold swi
  (repeat rw [if_neg (by decide)])
  rw [if_pos rfl]
theorem swi10 : swi E d x1 x3 x4 x5 (10 : Int32) u s = bI (C E d 9 [vR 1 0 320, vI x1, vI (0 : Int32), vI x4, vI (x5 + 1)] s) fun r s => some (some (vI (r * 2)), s) := by
  unfold swi
  (repeat rw [if_neg (by decide)])
  rw [if_pos rfl]
theorem swi11 : swi E d x1 x3 x4 x5 (11 : Int32) u s = some (some (vI (x4 ^^^ x1)), s) := by
  unfold swi
  (repeat rw [if_neg (by decide)])
  rw [if_pos rfl]
theorem swi20 : swi E d x1 x3 x4 x5 (20 : Int32) u s = bI (C E d 10 [vR 1 0 320, vI x1, vI u, vI x3, vI x4, vI (x5 + 1)] s) fun r s => some (some (vI (r + 3)), s) := by
  unfold swi
  (repeat rw [if_neg (by decide)])
  rw [if_pos rfl]
theorem swi30 : swi E d x1 x3 x4 x5 (30 : Int32) u s = bI (C E d 10 [vR 1 0 320, vI x1, vI u, vI x3, vI x4, vI (x5 + 1)] s) fun r s => some (some (vI (-r)), s) := by
  unfold swi
  (repeat rw [if_neg (by decide)])
  rw [if_pos rfl]
theorem swi40 : swi E d x1 x3 x4 x5 (40 : Int32) u s = bI (C E d 10 [vR 1 0 320, vI x1, vI u, vI x3, vI x4, vI (x5 + 1)] s) fun r s => some (some (vI (r * 3)), s) := by
  unfold swi
  (repeat rw [if_neg (by decide)])
  rw [if_pos rfl]
theorem swi60 : swi E d x1 x3 x4 x5 (60 : Int32) u s = bI (C E d 10 [vR 1 0 320, vI x1, vI u, vI x3, vI x4, vI (x5 + 1)] s) fun r s => some (some (vI (r ^^^ 5)), s) := by
  unfold swi
  (repeat rw [if_neg (by decide)])
  rw [if_pos rfl]
theorem swi70 : swi E d x1 x3 x4 x5 (70 : Int32) u s = bI (C E d 10 [vR 1 0 320, vI x1, vI u, vI x3, vI x4, vI (x5 + 1)] s) fun r s => some (some (vI (r * 2)), s) := by
  unfold swi
  (repeat rw [if_neg (by decide)])
  rw [if_pos rfl]
theorem swi81 : swi E d x1 x3 x4 x5 (81 : Int32) u s = bI (C E d 10 [vR 1 0 320, vI x1, vI u, vI x3, vI x4, vI (x5 + 1)] s) fun r s => some (some (vI (r - 1)), s) := by
  unfold swi
  (repeat rw [if_neg (by decide)])
  rw [if_pos rfl]
theorem swi41 : swi E d x1 x3 x4 x5 (41 : Int32) u s = bI (C E d 10 [vR 1 0 320, vI x1, vI u, vI x3, vI (x4 + 1), vI (x5 + 1)] s) fun r s => some (some (vI r), s) := by
  unfold swi
  (repeat rw [if_neg (by decide)])
  rw [if_pos rfl]
theorem swi50 : swi E d x1 x3 x4 x5 (50 : Int32) u s = bI (C E d 10 [vR 1 0 320, vI x1, vI u, vI x3, vI x4, vI (x5 + 1)] s) fun r s => bI (C E d 9 [vR 1 0 320, vI x1, vI (0 : Int32), vI (2 : Int32), vI (x5 + 1)] s) fun r2 s2 => some (some (vI (r - r2)), s2) := by
  unfold swi
  (repeat rw [if_neg (by decide)])
  rw [if_pos rfl]
theorem swi80 : swi E d x1 x3 x4 x5 (80 : Int32) u s = bI (C E d 10 [vR 1 0 320, vI x1, vI u, vI x3, vI x4, vI (x5 + 1)] s) fun r s => bI (C E d 9 [vR 1 0 320, vI x1, vI (2 : Int32), vI (2 : Int32), vI (x5 + 1)] s) fun r2 s2 => some (some (vI (r + r2)), s2) := by
  unfold swi
  (repeat rw [if_neg (by decide)])
  rw [if_pos rfl]
end SW
def okA (M : Nat → Nat → Int32) (j k : Nat) : Prop := ∃ b, j < b ∧ b ≤ 50 ∧ M 320 2 = nI b ∧ M 321 j = nI k
theorem okA.ps {M : Nat → Nat → Int32} {j k : Nat} (h : okA M j k) (cs : List Int32) : okA (psC M cs) j k := by
  obtain ⟨b, h1, h2, h3, h4⟩ := h
  exact ⟨b, h1, h2, by rw [psC_j (by omega)]; exact h3, by rw [psC_o (by omega)]; exact h4⟩
theorem okA.p1 {M : Nat → Nat → Int32} {j k : Nat} (h : okA M j k) (c : Int32) : okA (p1C M c) j k := h.ps [c]
def CE (j k a q m h : Nat) (f : Int32 → Int32) (cs : List Int32) : Prop := ∀ D (M : Nat → Nat → Int32) (r : Nat) (x : Int32) (dep : Nat) (x2 : Int32) (kk : Nat) (w8 w9 : Option PV), M 320 3 = nI r → r + cs.length ≤ 900 → okA M j k → dep + h ≤ 40 → kk ≤ m → X E (D + 2 * h + 5) me10 6 [some (vR 1 0 320), some (vI (nI j)), some (vI x2), some (vI (nI a)), some (vI x), some (vI (nI dep)), some (vI (nI q)), some (vI (nI kk)), w8, w9] [] (M, L) = some (some (vI (f x)), (psC M cs, L))
variable {E L}
theorem CE.w {j k a q m h m' h' : Nat} {f : Int32 → Int32} {cs : List Int32} (H : CE E L j k a q m h f cs) (hm : m' ≤ m) (hh : h ≤ h') : CE E L j k a q m' h' f cs := by
  intro D M r x dep x2 kk w8 w9 h1 h2 h3 h4 h5
  have := H (D + 2 * (h' - h)) M r x dep x2 kk w8 w9 h1 h2 h3 (by omega) (by omega)
  rw [show D + 2 * (h' - h) + 2 * h + 5 = D + 2 * h' + 5 by omega] at this
  exact this
theorem CE.z {j k a q q' m h : Nat} {f : Int32 → Int32} {cs : List Int32} (H : CE E L j k a q' (m + 1) h f cs) (hq : q < 8) (ha : a < 4) (hm : m < 8) (hc : stB.getD (4 * q + a) 0 = 0) (hu : stA.getD q 0 = nI q') : CE E L j k a q m h f cs := by
  intro D M r x dep x2 kk w8 w9 h1 h2 h3 h4 h5
  rw [l10z E (D + 2 * h + 4) L hq ha (by omega) hc hu]
  exact H D M r x dep x2 (kk + 1) w8 w9 h1 h2 h3 h4 (by omega)
theorem c2k (M : Nat → Nat → Int32) {j k : Nat} (h : okA M j k) : C E (d + 2) 2 [vR 1 0 320, vI (nI j)] (M, L) = some (some (vI (nI k)), (M, L)) := by
  obtain ⟨b, h1, h2, h3, h4⟩ := h
  rw [x2, e0, b1_t (by rw [t_nI (by omega), h3, t_nI (by omega)]; omega), bI_s, if_neg (by decide), if_pos (by rw [ib_nI (by omega)]; omega), ix_nI (by omega)]
  show some (some (vI (M 321 j)), (M, L)) = _
  rw [h4]
theorem CE.o {j k a m h : Nat} {f : Int32 → Int32} {cs : List Int32} (H : CE E L j k a k m h f cs) (D : Nat) (M : Nat → Nat → Int32) (r : Nat) (x : Int32) (dep : Nat) (h1 : M 320 3 = nI r) (h2 : r + cs.length ≤ 900) (h3 : okA M j k) (h4 : dep + h ≤ 40) : C E (D + 2 * h + 7) 9 [vR 1 0 320, vI (nI j), vI (nI a), vI x, vI (nI dep)] (M, L) = some (some (vI (f x)), (psC M cs, L)) := by
  rw [x9, c2k _ M h3, bI_s, x10, n_0, H D M r x dep _ 0 _ _ h1 h2 h3 h4 (by omega), bI_s]
theorem CE.u {j k a q q' h : Nat} {c : Int32} {f g pre : Int32 → Int32} {cs : List Int32} (H : CE E L j k a q' 0 h f cs) (hq : q < 8) (ha : a < 4) (hc : stB.getD (4 * q + a) 0 = c) (hc0 : ¬ c = 0) (hu : stA.getD q 0 = nI q')
    (hsw : ∀ D x1 x3 x4 x5 u s, swi E D x1 x3 x4 x5 c u s = bI (C E D 10 [vR 1 0 320, vI x1, vI u, vI x3, vI (pre x4), vI (x5 + 1)] s) fun r s => some (some (vI (g r)), s)) : CE E L j k a q 7 (h + 1) (fun x => g (f (pre x))) (c :: cs) := by
  intro D M r x dep x2 kk w8 w9 h1 h2 h3 h4 h5
  have hl : (c :: cs).length = cs.length + 1 := rfl
  have := H (D + 1) (p1C M c) (r + 1) (pre x) (dep + 1) (nI q') 0 none none (p1C_k h1) (by omega) (h3.p1 c) (by omega) (by omega)
  rw [show D + 1 + 2 * h + 5 = D + 2 * (h + 1) + 4 by omega] at this
  rw [l10 E (D + 2 * (h + 1) + 4) L hq ha (by omega) hc hc0 _ _ _ _ (show nI dep ≤ (40 : Int32) from nI_le (b := 40) (by omega) (by omega)) _ _ M h1 (by omega), hsw, hu, x10, nI_1, n_0, this, bI_s]
  rfl
theorem CE.v {j k a q h a' m : Nat} {c : Int32} {f g : Int32 → Int32} {cs : List Int32} (H : CE E L j k a' k m h f cs) (hq : q < 8) (ha : a < 4) (hc : stB.getD (4 * q + a) 0 = c) (hc0 : ¬ c = 0)
    (hsw : ∀ D x1 x3 x4 x5 u s, swi E D x1 x3 x4 x5 c u s = bI (C E D 9 [vR 1 0 320, vI x1, vI (nI a'), vI x4, vI (x5 + 1)] s) fun r s => some (some (vI (g r)), s)) : CE E L j k a q 7 (h + 1) (fun x => g (f x)) (c :: cs) := by
  intro D M r x dep x2 kk w8 w9 h1 h2 h3 h4 h5
  have hl : (c :: cs).length = cs.length + 1 := rfl
  have := H.o D (p1C M c) (r + 1) x (dep + 1) (p1C_k h1) (by omega) (h3.p1 c) (by omega)
  rw [show D + 2 * h + 7 = D + 2 * (h + 1) + 4 + 1 by omega] at this
  rw [l10 E (D + 2 * (h + 1) + 4) L hq ha (by omega) hc hc0 _ _ _ _ (show nI dep ≤ (40 : Int32) from nI_le (b := 40) (by omega) (by omega)) _ _ M h1 (by omega), hsw, nI_1, this, bI_s]
  rfl
theorem CE.p {j k a q q' h a' m : Nat} {c y : Int32} {f f2 : Int32 → Int32} {g : Int32 → Int32 → Int32} {cs cs2 : List Int32} (H : CE E L j k a q' 0 h f cs) (H2 : CE E L j k a' k m h f2 cs2) (hq : q < 8) (ha : a < 4) (hc : stB.getD (4 * q + a) 0 = c) (hc0 : ¬ c = 0) (hu : stA.getD q 0 = nI q')
    (hsw : ∀ D x1 x3 x4 x5 u s, swi E D x1 x3 x4 x5 c u s = bI (C E D 10 [vR 1 0 320, vI x1, vI u, vI x3, vI x4, vI (x5 + 1)] s) fun r s => bI (C E D 9 [vR 1 0 320, vI x1, vI (nI a'), vI y, vI (x5 + 1)] s) fun r2 s2 => some (some (vI (g r r2)), s2)) : CE E L j k a q 7 (h + 1) (fun x => g (f x) (f2 y)) (c :: (cs ++ cs2)) := by
  intro D M r x dep x2 kk w8 w9 h1 h2 h3 h4 h5
  have hl : (c :: (cs ++ cs2)).length = cs.length + cs2.length + 1 := by simp
  have e1 := H (D + 1) (p1C M c) (r + 1) x (dep + 1) (nI q') 0 none none (p1C_k h1) (by omega) (h3.p1 c) (by omega) (by omega)
  rw [show D + 1 + 2 * h + 5 = D + 2 * (h + 1) + 4 by omega] at e1
  have e2 := H2.o D (psC (p1C M c) cs) (r + 1 + cs.length) y (dep + 1) (psC_k cs _ _ (p1C_k h1)) (by omega) ((h3.p1 c).ps cs) (by omega)
  rw [show D + 2 * h + 7 = D + 2 * (h + 1) + 4 + 1 by omega] at e2
  rw [l10 E (D + 2 * (h + 1) + 4) L hq ha (by omega) hc hc0 _ _ _ _ (show nI dep ≤ (40 : Int32) from nI_le (b := 40) (by omega) (by omega)) _ _ M h1 (by omega), hsw, hu, x10, nI_1, n_0, e1, bI_s, e2, bI_s, ← psC_ap]
  rfl
theorem CE.q {j k a q h a1 a2 m m2 : Nat} {c y : Int32} {f f2 : Int32 → Int32} {g : Int32 → Int32 → Int32} {cs cs2 : List Int32} (H : CE E L j k a1 k m h f cs) (H2 : CE E L j k a2 k m2 h f2 cs2) (hq : q < 8) (ha : a < 4) (hc : stB.getD (4 * q + a) 0 = c) (hc0 : ¬ c = 0)
    (hsw : ∀ D x1 x3 x4 x5 u s, swi E D x1 x3 x4 x5 c u s = bI (C E D 9 [vR 1 0 320, vI x1, vI (nI a1), vI x4, vI (x5 + 1)] s) fun r s => bI (C E D 9 [vR 1 0 320, vI x1, vI (nI a2), vI y, vI (x5 + 1)] s) fun r2 s2 => some (some (vI (g r r2)), s2)) : CE E L j k a q 7 (h + 1) (fun x => g (f x) (f2 y)) (c :: (cs ++ cs2)) := by
  intro D M r x dep x2 kk w8 w9 h1 h2 h3 h4 h5
  have hl : (c :: (cs ++ cs2)).length = cs.length + cs2.length + 1 := by simp
  have e1 := H.o D (p1C M c) (r + 1) x (dep + 1) (p1C_k h1) (by omega) (h3.p1 c) (by omega)
  have e2 := H2.o D (psC (p1C M c) cs) (r + 1 + cs.length) y (dep + 1) (psC_k cs _ _ (p1C_k h1)) (by omega) ((h3.p1 c).ps cs) (by omega)
  rw [show D + 2 * h + 7 = D + 2 * (h + 1) + 4 + 1 by omega] at e1 e2
  rw [l10 E (D + 2 * (h + 1) + 4) L hq ha (by omega) hc hc0 _ _ _ _ (show nI dep ≤ (40 : Int32) from nI_le (b := 40) (by omega) (by omega)) _ _ M h1 (by omega), hsw, nI_1, e1, bI_s, e2, bI_s, ← psC_ap]
  rfl
theorem CE.l {j k a q : Nat} {c : Int32} {f : Int32 → Int32} (hq : q < 8) (ha : a < 4) (hc : stB.getD (4 * q + a) 0 = c) (hc0 : ¬ c = 0) (hsw : ∀ D x3 x4 x5 u s, swi E D (nI j) x3 x4 x5 c u s = some (some (vI (f x4)), s)) : CE E L j k a q 7 0 f [c] := by
  intro D M r x dep x2 kk w8 w9 h1 h2 h3 h4 h5
  have hl : ([c] : List Int32).length = 1 := rfl
  rw [l10 E (D + 2 * 0 + 4) L hq ha (by omega) hc hc0 _ _ _ _ (show nI dep ≤ (40 : Int32) from nI_le (b := 40) (by omega) (by omega)) _ _ M h1 (by omega), hsw]
  rfl
/-- what an act answers, and the bodies that it begins -/
def stF (j q : Nat) (x : Int32) : Int32 := if q = 1 ∨ q = 4 ∨ q = 7 then (x + nI j) + 3 else if q = 6 then (x + nI j) * 2 else x + nI j
def stL (q : Nat) : List Int32 := if q = 1 ∨ q = 4 ∨ q = 7 then [20, 1] else if q = 6 then [70, 1] else [1]
def ckF (j k q : Nat) (x : Int32) : Int32 := if q = 3 ∨ q = 5 then (x ^^^ nI j) * 3 else if q = 4 ∨ q = 7 then (x ^^^ nI j) - stF j k 2 else x ^^^ nI j
def ckL (k q : Nat) : List Int32 := if q = 3 ∨ q = 5 then [40, 11] else if q = 4 ∨ q = 7 then 50 :: ([11] ++ stL k) else [11]
def akF (j k q : Nat) (x : Int32) : Int32 := if q = 2 then -(stF j k x * 2) else if q = 3 ∨ q = 5 then -(stF j k (x + 1) * 2) else if q = 7 then stF j k x * 2 + ckF j k k 2 else stF j k x * 2
def akL (k q : Nat) : List Int32 := if q = 2 then 30 :: 10 :: stL k else if q = 3 ∨ q = 5 then 41 :: 30 :: 10 :: stL k else if q = 7 then 80 :: (10 :: stL k ++ ckL k k) else 10 :: stL k
def teF (j k q : Nat) (x : Int32) : Int32 := if q = 5 then (akF j k k x - ckF j k k 1) ^^^ 5 else if q = 7 then (akF j k k x - ckF j k k 1) - 1 else akF j k k x - ckF j k k 1
def teL (k q : Nat) : List Int32 := if q = 5 then 60 :: 2 :: (akL k k ++ ckL k k) else if q = 7 then 81 :: 2 :: (akL k k ++ ckL k k) else 2 :: (akL k k ++ ckL k k)
theorem q8 {q : Nat} (h : q < 8) : q = 0 ∨ q = 1 ∨ q = 2 ∨ q = 3 ∨ q = 4 ∨ q = 5 ∨ q = 6 ∨ q = 7 := by omega
theorem ceS (j k : Nat) {q : Nat} (hq : q < 8) : CE E L j k 0 q 3 1 (stF j q) (stL q) := by
  have b0 : CE E L j k 0 0 7 0 (fun x => x + nI j) [1] := CE.l (c := 1) (by decide) (by decide) rfl (by decide) (fun D x3 x4 x5 u s => swi1 E D _ _ _ _ _ _)
  have b1' : CE E L j k 0 1 7 1 (fun x => (x + nI j) + 3) [20, 1] := CE.u (c := 20) (g := fun r => r + 3) (pre := fun x => x) (b0.w (by omega) (Nat.le_refl _)) (by decide) (by decide) rfl (by decide) rfl (fun D x1 x3 x4 x5 u s => swi20 E D _ _ _ _ _ _)
  have b6 : CE E L j k 0 6 7 1 (fun x => (x + nI j) * 2) [70, 1] := CE.u (c := 70) (g := fun r => r * 2) (pre := fun x => x) (b0.w (by omega) (Nat.le_refl _)) (by decide) (by decide) rfl (by decide) rfl (fun D x1 x3 x4 x5 u s => swi70 E D _ _ _ _ _ _)
  have b2' : CE E L j k 0 2 6 0 (fun x => x + nI j) [1] := b0.z (by decide) (by decide) (by decide) rfl rfl
  have b3' : CE E L j k 0 3 5 0 (fun x => x + nI j) [1] := b2'.z (by decide) (by decide) (by decide) rfl rfl
  have b5 : CE E L j k 0 5 4 0 (fun x => x + nI j) [1] := b3'.z (by decide) (by decide) (by decide) rfl rfl
  have b4' : CE E L j k 0 4 6 1 (fun x => (x + nI j) + 3) [20, 1] := b1'.z (by decide) (by decide) (by decide) rfl rfl
  have b7 : CE E L j k 0 7 5 1 (fun x => (x + nI j) + 3) [20, 1] := b4'.z (by decide) (by decide) (by decide) rfl rfl
  rcases q8 hq with rfl | rfl | rfl | rfl | rfl | rfl | rfl | rfl
  · exact b0.w (by omega) (by omega)
  · exact b1'.w (by omega) (by omega)
  · exact b2'.w (by omega) (by omega)
  · exact b3'.w (by omega) (by omega)
  · exact b4'.w (by omega) (by omega)
  · exact b5.w (by omega) (by omega)
  · exact b6.w (by omega) (by omega)
  · exact b7.w (by omega) (by omega)
theorem ceK (j : Nat) {k q : Nat} (hk : k < 8) (hq : q < 8) : CE E L j k 2 q 3 2 (ckF j k q) (ckL k q) := by
  have b0 : CE E L j k 2 0 7 0 (fun x => x ^^^ nI j) [11] := CE.l (c := 11) (by decide) (by decide) rfl (by decide) (fun D x3 x4 x5 u s => swi11 E D _ _ _ _ _ _)
  have b1' : CE E L j k 2 1 6 0 (fun x => x ^^^ nI j) [11] := b0.z (by decide) (by decide) (by decide) rfl rfl
  have b2' : CE E L j k 2 2 6 0 (fun x => x ^^^ nI j) [11] := b0.z (by decide) (by decide) (by decide) rfl rfl
  have b6 : CE E L j k 2 6 6 0 (fun x => x ^^^ nI j) [11] := b0.z (by decide) (by decide) (by decide) rfl rfl
  have b3' : CE E L j k 2 3 7 1 (fun x => (x ^^^ nI j) * 3) [40, 11] := CE.u (c := 40) (g := fun r => r * 3) (pre := fun x => x) (b2'.w (by omega) (Nat.le_refl _)) (by decide) (by decide) rfl (by decide) rfl (fun D x1 x3 x4 x5 u s => swi40 E D _ _ _ _ _ _)
  have b5 : CE E L j k 2 5 6 1 (fun x => (x ^^^ nI j) * 3) [40, 11] := b3'.z (by decide) (by decide) (by decide) rfl rfl
  have b4' : CE E L j k 2 4 7 2 (fun x => (x ^^^ nI j) - stF j k 2) (50 :: ([11] ++ stL k)) := CE.p (c := 50) (y := 2) (g := fun r r2 => r - r2) (b1'.w (by omega) (h' := 1) (by omega)) (ceS j k hk) (by decide) (by decide) rfl (by decide) rfl (fun D x1 x3 x4 x5 u s => swi50 E D _ _ _ _ _ _)
  have b7 : CE E L j k 2 7 6 2 (fun x => (x ^^^ nI j) - stF j k 2) (50 :: ([11] ++ stL k)) := b4'.z (by decide) (by decide) (by decide) rfl rfl
  rcases q8 hq with rfl | rfl | rfl | rfl | rfl | rfl | rfl | rfl
  · exact b0.w (by omega) (by omega)
  · exact b1'.w (by omega) (by omega)
  · exact b2'.w (by omega) (by omega)
  · exact b3'.w (by omega) (by omega)
  · exact b4'.w (by omega) (by omega)
  · exact b5.w (by omega) (by omega)
  · exact b6.w (by omega) (by omega)
  · exact b7.w (by omega) (by omega)
theorem ceA (j : Nat) {k q : Nat} (hk : k < 8) (hq : q < 8) : CE E L j k 1 q 3 4 (akF j k q) (akL k q) := by
  have b0 : CE E L j k 1 0 7 2 (fun x => stF j k x * 2) (10 :: stL k) := CE.v (c := 10) (a' := 0) (g := fun r => r * 2) (ceS j k hk) (by decide) (by decide) rfl (by decide) (fun D x1 x3 x4 x5 u s => swi10 E D _ _ _ _ _ _)
  have b1' : CE E L j k 1 1 6 2 (fun x => stF j k x * 2) (10 :: stL k) := b0.z (by decide) (by decide) (by decide) rfl rfl
  have b6 : CE E L j k 1 6 6 2 (fun x => stF j k x * 2) (10 :: stL k) := b0.z (by decide) (by decide) (by decide) rfl rfl
  have b4' : CE E L j k 1 4 5 2 (fun x => stF j k x * 2) (10 :: stL k) := b1'.z (by decide) (by decide) (by decide) rfl rfl
  have b2' : CE E L j k 1 2 7 3 (fun x => -(stF j k x * 2)) (30 :: 10 :: stL k) := CE.u (c := 30) (g := fun r => -r) (pre := fun x => x) (b0.w (by omega) (Nat.le_refl _)) (by decide) (by decide) rfl (by decide) rfl (fun D x1 x3 x4 x5 u s => swi30 E D _ _ _ _ _ _)
  have b3' : CE E L j k 1 3 7 4 (fun x => -(stF j k (x + 1) * 2)) (41 :: 30 :: 10 :: stL k) := CE.u (c := 41) (g := fun r => r) (pre := fun x => x + 1) (b2'.w (by omega) (Nat.le_refl _)) (by decide) (by decide) rfl (by decide) rfl (fun D x1 x3 x4 x5 u s => swi41 E D _ _ _ _ _ _)
  have b5 : CE E L j k 1 5 6 4 (fun x => -(stF j k (x + 1) * 2)) (41 :: 30 :: 10 :: stL k) := b3'.z (by decide) (by decide) (by decide) rfl rfl
  have b7 : CE E L j k 1 7 7 3 (fun x => stF j k x * 2 + ckF j k k 2) (80 :: (10 :: stL k ++ ckL k k)) := CE.p (c := 80) (y := 2) (g := fun r r2 => r + r2) (b4'.w (by omega) (Nat.le_refl _)) (ceK j hk hk) (by decide) (by decide) rfl (by decide) rfl (fun D x1 x3 x4 x5 u s => swi80 E D _ _ _ _ _ _)
  rcases q8 hq with rfl | rfl | rfl | rfl | rfl | rfl | rfl | rfl
  · exact b0.w (by omega) (by omega)
  · exact b1'.w (by omega) (by omega)
  · exact b2'.w (by omega) (by omega)
  · exact b3'.w (by omega) (by omega)
  · exact b4'.w (by omega) (by omega)
  · exact b5.w (by omega) (by omega)
  · exact b6.w (by omega) (by omega)
  · exact b7.w (by omega) (by omega)
theorem ceT (j : Nat) {k q : Nat} (hk : k < 8) (hq : q < 8) : CE E L j k 3 q 3 6 (teF j k q) (teL k q) := by
  have b0 : CE E L j k 3 0 7 5 (fun x => akF j k k x - ckF j k k 1) (2 :: (akL k k ++ ckL k k)) := CE.q (c := 2) (a1 := 1) (a2 := 2) (y := 1) (g := fun r r2 => r - r2) (ceA j hk hk) ((ceK j hk hk).w (Nat.le_refl _) (by omega)) (by decide) (by decide) rfl (by decide) (fun D x1 x3 x4 x5 u s => swi2 E D _ _ _ _ _ _)
  have b1' : CE E L j k 3 1 6 5 _ _ := b0.z (by decide) (by decide) (by decide) rfl rfl
  have b2' : CE E L j k 3 2 6 5 _ _ := b0.z (by decide) (by decide) (by decide) rfl rfl
  have b6 : CE E L j k 3 6 6 5 _ _ := b0.z (by decide) (by decide) (by decide) rfl rfl
  have b3' : CE E L j k 3 3 5 5 _ _ := b2'.z (by decide) (by decide) (by decide) rfl rfl
  have b4' : CE E L j k 3 4 5 5 _ _ := b1'.z (by decide) (by decide) (by decide) rfl rfl
  have b5 : CE E L j k 3 5 7 6 _ _ := CE.u (c := 60) (g := fun r => r ^^^ 5) (pre := fun x => x) (b3'.w (by omega) (Nat.le_refl _)) (by decide) (by decide) rfl (by decide) rfl (fun D x1 x3 x4 x5 u s => swi60 E D _ _ _ _ _ _)
  have b7 : CE E L j k 3 7 7 6 _ _ := CE.u (c := 81) (g := fun r => r - 1) (pre := fun x => x) (b4'.w (by omega) (Nat.le_refl _)) (by decide) (by decide) rfl (by decide) rfl (fun D x1 x3 x4 x5 u s => swi81 E D _ _ _ _ _ _)
  rcases q8 hq with rfl | rfl | rfl | rfl | rfl | rfl | rfl | rfl
  · exact b0.w (by omega) (by omega)
  · exact b1'.w (by omega) (by omega)
  · exact b2'.w (by omega) (by omega)
  · exact b3'.w (by omega) (by omega)
  · exact b4'.w (by omega) (by omega)
  · exact b5.w (by omega) (by omega)
  · exact b6.w (by omega) (by omega)
  · exact b7.w (by omega) (by omega)
end ACTS2
