/-! acts: the reference; the call -/
section ACTS3
variable (E : Nat × (Nat → Int32)) (d : Nat) (L : Nat → Nat → Int64)
def RE (j k y q h : Nat) (f : Int32 → Int32) (cs : List Int32) : Prop := ∀ D (M : Nat → Nat → Int32) (r : Nat) (x : Int32), M 400 43 = nI r → r + cs.length ≤ 900 → M 400 44 = nI k → M 400 45 = nI j → C E (D + 2 * h + 5) y [vR 1 12 400, vI (nI q), vI x] (M, L) = some (some (vI (f x)), (psR M cs, L))
variable {E L}
theorem RE.w {j k y q h h' : Nat} {f : Int32 → Int32} {cs : List Int32} (H : RE E L j k y q h f cs) (hh : h ≤ h') : RE E L j k y q h' f cs := by
  intro D M r x h1 h2 h3 h4
  have := H (D + 2 * (h' - h)) M r x h1 h2 h3 h4
  rw [show D + 2 * (h' - h) + 2 * h + 5 = D + 2 * h' + 5 by omega] at this
  exact this
/-- one body that calls one other -/
theorem RE.u {j k y y' q q' h : Nat} {c : Int32} {f g pre : Int32 → Int32} {cs : List Int32} {qa : PS → Int32} (H : RE E L j k y' q' h f cs) (hq : ∀ s : PS, s.1 400 44 = nI k → qa s = nI q')
    (hr : ∀ D (M : Nat → Nat → Int32) x, C E (D + 1) y [vR 1 12 400, vI (nI q), vI x] (M, L) = bV (C E D 233 [vR 1 12 400, vI c] (M, L)) fun s => bI (C E D y' [vR 1 12 400, vI (qa s), vI (pre x)] s) fun r s => some (some (vI (g r)), s)) : RE E L j k y q (h + 1) (fun x => g (f (pre x))) (c :: cs) := by
  intro D M r x h1 h2 h3 h4
  have hl : (c :: cs).length = cs.length + 1 := rfl
  have := H (D + 1) (p1R M c) (r + 1) (pre x) (p1R_k h1) (by omega) (by rw [p1R_j (by omega)]; exact h3) (by rw [p1R_j (by omega)]; exact h4)
  rw [show D + 1 + 2 * h + 5 = D + 2 * (h + 1) + 4 by omega] at this
  rw [show D + 2 * (h + 1) + 5 = D + 2 * (h + 1) + 4 + 1 from rfl, hr _ M x, e233 E (D + 2 * (h + 1) + 3) L M h1 (by omega), bV_s, hq _ (by show (p1R M c) 400 44 = _; rw [p1R_j (by omega)]; exact h3), this, bI_s]
  rfl
/-- one body that calls two others -/
theorem RE.p {j k y y' y2 q q' h : Nat} {c z : Int32} {f f2 : Int32 → Int32} {g : Int32 → Int32 → Int32} {cs cs2 : List Int32} {qa : PS → Int32} (H : RE E L j k y' q' h f cs) (H2 : RE E L j k y2 k h f2 cs2) (hq : ∀ s : PS, s.1 400 44 = nI k → qa s = nI q')
    (hr : ∀ D (M : Nat → Nat → Int32) x, C E (D + 1) y [vR 1 12 400, vI (nI q), vI x] (M, L) = bV (C E D 233 [vR 1 12 400, vI c] (M, L)) fun s => bI (C E D y' [vR 1 12 400, vI (qa s), vI x] s) fun r s => bI (C E D y2 [vR 1 12 400, vI (s.1 400 44), vI z] s) fun r2 s2 => some (some (vI (g r r2)), s2)) : RE E L j k y q (h + 1) (fun x => g (f x) (f2 z)) (c :: (cs ++ cs2)) := by
  intro D M r x h1 h2 h3 h4
  have hl : (c :: (cs ++ cs2)).length = cs.length + cs2.length + 1 := by simp
  have e1 := H (D + 1) (p1R M c) (r + 1) x (p1R_k h1) (by omega) (by rw [p1R_j (by omega)]; exact h3) (by rw [p1R_j (by omega)]; exact h4)
  have e2 := H2 (D + 1) (psR (p1R M c) cs) (r + 1 + cs.length) z (psR_k cs _ _ (p1R_k h1)) (by omega) (by rw [psR_j (by omega), p1R_j (by omega)]; exact h3) (by rw [psR_j (by omega), p1R_j (by omega)]; exact h4)
  rw [show D + 1 + 2 * h + 5 = D + 2 * (h + 1) + 4 by omega] at e1 e2
  rw [show D + 2 * (h + 1) + 5 = D + 2 * (h + 1) + 4 + 1 from rfl, hr _ M x, e233 E (D + 2 * (h + 1) + 3) L M h1 (by omega), bV_s, hq _ (by show (p1R M c) 400 44 = _; rw [p1R_j (by omega)]; exact h3), e1, bI_s]
  show bI (C E _ y2 [vR 1 12 400, vI ((psR (p1R M c) cs) 400 44), vI z] _) _ = _
  rw [psR_j (by omega), p1R_j (by omega), h3, e2, bI_s, ← psR_ap]
  rfl
theorem RE.l {j k y q : Nat} {c : Int32} {g : Int32 → Int32 → Int32} (hr : ∀ D (M : Nat → Nat → Int32) x, C E (D + 1) y [vR 1 12 400, vI (nI q), vI x] (M, L) = bV (C E D 233 [vR 1 12 400, vI c] (M, L)) fun s => some (some (vI (g x (s.1 400 45))), s)) : RE E L j k y q 0 (fun x => g x (nI j)) [c] := by
  intro D M r x h1 h2 h3 h4
  have hl : ([c] : List Int32).length = 1 := rfl
  rw [show D + 2 * 0 + 5 = D + 4 + 1 from rfl, hr _ M x, e233 E (D + 3) L M h1 (by omega), bV_s]
  show some (some (vI (g x ((p1R M c) 400 45))), _) = _
  rw [p1R_j (by omega), h4]
  rfl
theorem reS (j : Nat) {k q : Nat} (hk : k < 8) (hq : q < 8) : RE E L j k 234 q 1 (stF j q) (stL q) := by
  have b0 : RE E L j k 234 0 0 (fun x => x + nI j) [1] := RE.l (c := 1) (g := fun x b => x + b) (fun D M x => by rw [x234, if_neg (by decide), if_neg (by decide), if_neg (by decide), if_neg (by decide)]; first | done | rfl)
  have b2 : RE E L j k 234 2 0 (fun x => x + nI j) [1] := RE.l (c := 1) (g := fun x b => x + b) (fun D M x => by rw [x234, if_neg (by decide), if_neg (by decide), if_neg (by decide), if_neg (by decide)]; first | done | rfl)
  have b3 : RE E L j k 234 3 0 (fun x => x + nI j) [1] := RE.l (c := 1) (g := fun x b => x + b) (fun D M x => by rw [x234, if_neg (by decide), if_neg (by decide), if_neg (by decide), if_neg (by decide)]; first | done | rfl)
  have b5 : RE E L j k 234 5 0 (fun x => x + nI j) [1] := RE.l (c := 1) (g := fun x b => x + b) (fun D M x => by rw [x234, if_neg (by decide), if_neg (by decide), if_neg (by decide), if_neg (by decide)]; first | done | rfl)
  have b1 : RE E L j k 234 1 1 _ _ := RE.u (c := 20) (g := fun r => r + 3) (pre := fun x => x) (qa := fun _ => 0) b0 (fun _ _ => rfl) (fun D M x => by rw [x234, if_pos (by decide)]; first | done | rfl)
  have b4 : RE E L j k 234 4 1 _ _ := RE.u (c := 20) (g := fun r => r + 3) (pre := fun x => x) (qa := fun _ => 0) b0 (fun _ _ => rfl) (fun D M x => by rw [x234, if_neg (by decide), if_pos (by decide)]; first | done | rfl)
  have b7 : RE E L j k 234 7 1 _ _ := RE.u (c := 20) (g := fun r => r + 3) (pre := fun x => x) (qa := fun _ => 0) b0 (fun _ _ => rfl) (fun D M x => by rw [x234, if_neg (by decide), if_neg (by decide), if_pos (by decide)]; first | done | rfl)
  have b6 : RE E L j k 234 6 1 _ _ := RE.u (c := 70) (g := fun r => r * 2) (pre := fun x => x) (qa := fun _ => 0) b0 (fun _ _ => rfl) (fun D M x => by rw [x234, if_neg (by decide), if_neg (by decide), if_neg (by decide), if_pos (by decide)]; first | done | rfl)
  rcases q8 hq with rfl | rfl | rfl | rfl | rfl | rfl | rfl | rfl
  · exact (b0).w (by omega)
  · exact (b1).w (by omega)
  · exact (b2).w (by omega)
  · exact (b3).w (by omega)
  · exact (b4).w (by omega)
  · exact (b5).w (by omega)
  · exact (b6).w (by omega)
  · exact (b7).w (by omega)
theorem reK (j : Nat) {k q : Nat} (hk : k < 8) (hq : q < 8) : RE E L j k 236 q 2 (ckF j k q) (ckL k q) := by
  have b0 : RE E L j k 236 0 0 (fun x => x ^^^ nI j) [11] := RE.l (c := 11) (g := fun x b => x ^^^ b) (fun D M x => by rw [x236, if_neg (by decide), if_neg (by decide), if_neg (by decide), if_neg (by decide)]; first | done | rfl)
  have b1 : RE E L j k 236 1 0 (fun x => x ^^^ nI j) [11] := RE.l (c := 11) (g := fun x b => x ^^^ b) (fun D M x => by rw [x236, if_neg (by decide), if_neg (by decide), if_neg (by decide), if_neg (by decide)]; first | done | rfl)
  have b2 : RE E L j k 236 2 0 (fun x => x ^^^ nI j) [11] := RE.l (c := 11) (g := fun x b => x ^^^ b) (fun D M x => by rw [x236, if_neg (by decide), if_neg (by decide), if_neg (by decide), if_neg (by decide)]; first | done | rfl)
  have b6 : RE E L j k 236 6 0 (fun x => x ^^^ nI j) [11] := RE.l (c := 11) (g := fun x b => x ^^^ b) (fun D M x => by rw [x236, if_neg (by decide), if_neg (by decide), if_neg (by decide), if_neg (by decide)]; first | done | rfl)
  have b3 : RE E L j k 236 3 1 _ _ := RE.u (c := 40) (g := fun r => r * 3) (pre := fun x => x) (qa := fun _ => 2) b2 (fun _ _ => rfl) (fun D M x => by rw [x236, if_pos (by decide)]; first | done | rfl)
  have b5 : RE E L j k 236 5 1 _ _ := RE.u (c := 40) (g := fun r => r * 3) (pre := fun x => x) (qa := fun _ => 2) b2 (fun _ _ => rfl) (fun D M x => by rw [x236, if_neg (by decide), if_pos (by decide)]; first | done | rfl)
  have b4 : RE E L j k 236 4 2 _ _ := RE.p (c := 50) (z := 2) (g := fun r r2 => r - r2) (qa := fun _ => 1) (b1.w (h' := 1) (by omega)) (reS j hk hk) (fun _ _ => rfl) (fun D M x => by rw [x236, if_neg (by decide), if_neg (by decide), if_pos (by decide)]; first | done | rfl)
  have b7 : RE E L j k 236 7 2 _ _ := RE.p (c := 50) (z := 2) (g := fun r r2 => r - r2) (qa := fun _ => 1) (b1.w (h' := 1) (by omega)) (reS j hk hk) (fun _ _ => rfl) (fun D M x => by rw [x236, if_neg (by decide), if_neg (by decide), if_neg (by decide), if_pos (by decide)]; first | done | rfl)
  rcases q8 hq with rfl | rfl | rfl | rfl | rfl | rfl | rfl | rfl
  · exact (b0).w (by omega)
  · exact (b1).w (by omega)
  · exact (b2).w (by omega)
  · exact (b3).w (by omega)
  · exact (b4).w (by omega)
  · exact (b5).w (by omega)
  · exact (b6).w (by omega)
  · exact (b7).w (by omega)
theorem reA (j : Nat) {k q : Nat} (hk : k < 8) (hq : q < 8) : RE E L j k 235 q 4 (akF j k q) (akL k q) := by
  have b0 : RE E L j k 235 0 2 _ _ := RE.u (c := 10) (g := fun r => r * 2) (pre := fun x => x) (qa := fun s => s.1 400 44) (reS j hk hk) (fun _ h => h) (fun D M x => by rw [x235, if_neg (by decide), if_neg (by decide), if_neg (by decide), if_neg (by decide)]; first | done | rfl)
  have b1 : RE E L j k 235 1 2 _ _ := RE.u (c := 10) (g := fun r => r * 2) (pre := fun x => x) (qa := fun s => s.1 400 44) (reS j hk hk) (fun _ h => h) (fun D M x => by rw [x235, if_neg (by decide), if_neg (by decide), if_neg (by decide), if_neg (by decide)]; first | done | rfl)
  have b4 : RE E L j k 235 4 2 _ _ := RE.u (c := 10) (g := fun r => r * 2) (pre := fun x => x) (qa := fun s => s.1 400 44) (reS j hk hk) (fun _ h => h) (fun D M x => by rw [x235, if_neg (by decide), if_neg (by decide), if_neg (by decide), if_neg (by decide)]; first | done | rfl)
  have b6 : RE E L j k 235 6 2 _ _ := RE.u (c := 10) (g := fun r => r * 2) (pre := fun x => x) (qa := fun s => s.1 400 44) (reS j hk hk) (fun _ h => h) (fun D M x => by rw [x235, if_neg (by decide), if_neg (by decide), if_neg (by decide), if_neg (by decide)]; first | done | rfl)
  have b2 : RE E L j k 235 2 3 _ _ := RE.u (c := 30) (g := fun r => -r) (pre := fun x => x) (qa := fun _ => 0) b0 (fun _ _ => rfl) (fun D M x => by rw [x235, if_neg (by decide), if_neg (by decide), if_pos (by decide)]; first | done | rfl)
  have b3 : RE E L j k 235 3 4 _ _ := RE.u (c := 41) (g := fun r => r) (pre := fun x => x + 1) (qa := fun _ => 2) b2 (fun _ _ => rfl) (fun D M x => by rw [x235, if_pos (by decide)]; first | done | rfl)
  have b5 : RE E L j k 235 5 4 _ _ := RE.u (c := 41) (g := fun r => r) (pre := fun x => x + 1) (qa := fun _ => 2) b2 (fun _ _ => rfl) (fun D M x => by rw [x235, if_neg (by decide), if_pos (by decide)]; first | done | rfl)
  have b7 : RE E L j k 235 7 3 _ _ := RE.p (c := 80) (z := 2) (g := fun r r2 => r + r2) (qa := fun _ => 4) b4 (reK j hk hk) (fun _ _ => rfl) (fun D M x => by rw [x235, if_neg (by decide), if_neg (by decide), if_neg (by decide), if_pos (by decide)]; first | done | rfl)
  rcases q8 hq with rfl | rfl | rfl | rfl | rfl | rfl | rfl | rfl
  · exact (b0).w (by omega)
  · exact (b1).w (by omega)
  · exact (b2).w (by omega)
  · exact (b3).w (by omega)
  · exact (b4).w (by omega)
  · exact (b5).w (by omega)
  · exact (b6).w (by omega)
  · exact (b7).w (by omega)
theorem reT (j : Nat) {k q : Nat} (hk : k < 8) (hq : q < 8) : RE E L j k 237 q 6 (teF j k q) (teL k q) := by
  have b0 : RE E L j k 237 0 5 _ _ := RE.p (c := 2) (z := 1) (g := fun r r2 => r - r2) (qa := fun s => s.1 400 44) (reA j hk hk) ((reK j hk hk).w (by omega)) (fun _ h => h) (fun D M x => by rw [x237, if_neg (by decide), if_neg (by decide)]; first | done | rfl)
  have b1 : RE E L j k 237 1 5 _ _ := RE.p (c := 2) (z := 1) (g := fun r r2 => r - r2) (qa := fun s => s.1 400 44) (reA j hk hk) ((reK j hk hk).w (by omega)) (fun _ h => h) (fun D M x => by rw [x237, if_neg (by decide), if_neg (by decide)]; first | done | rfl)
  have b2 : RE E L j k 237 2 5 _ _ := RE.p (c := 2) (z := 1) (g := fun r r2 => r - r2) (qa := fun s => s.1 400 44) (reA j hk hk) ((reK j hk hk).w (by omega)) (fun _ h => h) (fun D M x => by rw [x237, if_neg (by decide), if_neg (by decide)]; first | done | rfl)
  have b3 : RE E L j k 237 3 5 _ _ := RE.p (c := 2) (z := 1) (g := fun r r2 => r - r2) (qa := fun s => s.1 400 44) (reA j hk hk) ((reK j hk hk).w (by omega)) (fun _ h => h) (fun D M x => by rw [x237, if_neg (by decide), if_neg (by decide)]; first | done | rfl)
  have b4 : RE E L j k 237 4 5 _ _ := RE.p (c := 2) (z := 1) (g := fun r r2 => r - r2) (qa := fun s => s.1 400 44) (reA j hk hk) ((reK j hk hk).w (by omega)) (fun _ h => h) (fun D M x => by rw [x237, if_neg (by decide), if_neg (by decide)]; first | done | rfl)
  have b6 : RE E L j k 237 6 5 _ _ := RE.p (c := 2) (z := 1) (g := fun r r2 => r - r2) (qa := fun s => s.1 400 44) (reA j hk hk) ((reK j hk hk).w (by omega)) (fun _ h => h) (fun D M x => by rw [x237, if_neg (by decide), if_neg (by decide)]; first | done | rfl)
  have b5 : RE E L j k 237 5 6 _ _ := RE.u (c := 60) (g := fun r => r ^^^ 5) (pre := fun x => x) (qa := fun _ => 3) b3 (fun _ _ => rfl) (fun D M x => by rw [x237, if_pos (by decide)]; first | done | rfl)
  have b7 : RE E L j k 237 7 6 _ _ := RE.u (c := 81) (g := fun r => r - 1) (pre := fun x => x) (qa := fun _ => 4) b4 (fun _ _ => rfl) (fun D M x => by rw [x237, if_neg (by decide), if_pos (by decide)]; first | done | rfl)
  rcases q8 hq with rfl | rfl | rfl | rfl | rfl | rfl | rfl | rfl
  · exact (b0).w (by omega)
  · exact (b1).w (by omega)
  · exact (b2).w (by omega)
  · exact (b3).w (by omega)
  · exact (b4).w (by omega)
  · exact (b5).w (by omega)
  · exact (b6).w (by omega)
  · exact (b7).w (by omega)
end ACTS3
