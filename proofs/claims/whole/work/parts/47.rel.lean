/-! the class's numbers and the reference's -/
def perC (c : Nat) : Prop := (40 ≤ c ∧ c ≤ 49) ∨ c = 71 ∨ c = 91 ∨ c = 92 ∨ (260 ≤ c ∧ c ≤ 264) ∨ (280 ≤ c ∧ c ≤ 282) ∨ (290 ≤ c ∧ c ≤ 299) ∨ (320 ≤ c ∧ c ≤ 322) ∨ c = 331 ∨ c = 332 ∨ (401 ≤ c ∧ c ≤ 404) ∨ (409 ≤ c ∧ c ≤ 411) ∨ (422 ≤ c ∧ c ≤ 424) ∨ c = 435 ∨ c = 439 ∨ c = 440 ∨ c = 442 ∨ c = 443 ∨ c = 447 ∨ c = 448
def perS (j : Nat) : Prop := j = 4 ∨ j = 5 ∨ j = 6 ∨ j = 7 ∨ j = 11 ∨ j = 24 ∨ j = 35 ∨ j = 36 ∨ j = 37 ∨ j = 40 ∨ j = 43
def Kp (M M' : Nat → Nat → Int32) : Prop := (∀ c, perC c → M' c = M c) ∧ M' 70 3 = M 70 3 ∧ M' 90 4 = M 90 4 ∧ ∀ j, perS j → M' 400 j = M 400 j
theorem Kp.re (M : Nat → Nat → Int32) : Kp M M := ⟨fun _ _ => rfl, rfl, rfl, fun _ _ => rfl⟩
theorem Kp.tra {M M' M'' : Nat → Nat → Int32} (h : Kp M M') (h' : Kp M' M'') : Kp M M'' := ⟨fun c hc => (h'.1 c hc).trans (h.1 c hc), h'.2.1.trans h.2.1, h'.2.2.1.trans h.2.2.1, fun j hj => (h'.2.2.2 j hj).trans (h.2.2.2 j hj)⟩
theorem Kp.ofQ {M M' : Nat → Nat → Int32} (h : ∀ c, ¬ fQ c → M' c = M c) : Kp M M' :=
  ⟨fun c hc => h c (by unfold perC at hc; unfold fQ; omega), by rw [h 70 (by unfold fQ; omega)], by rw [h 90 (by unfold fQ; omega)], fun j _ => by rw [h 400 (by unfold fQ; omega)]⟩
theorem Kp.ofT {M M' : Nat → Nat → Int32} (h : ∀ c, ¬ fT c → M' c = M c) : Kp M M' := Kp.ofQ (fun c hc => h c (fun q => hc (by unfold fT at q; unfold fQ; omega)))
theorem Kp.ofR {M M' : Nat → Nat → Int32} (h : frR M M') : Kp M M' :=
  ⟨fun c hc => h.1 c (by unfold perC at hc; omega) (by unfold perC at hc; omega) (by unfold perC at hc; omega) (by unfold perC at hc; omega) (by unfold perC at hc; omega) (by unfold perC at hc; omega) (by unfold perC at hc; omega), by rw [h.1 70 (by omega) (by omega) (by omega) (by omega) (by omega) (by omega) (by omega)], by rw [h.1 90 (by omega) (by omega) (by omega) (by omega) (by omega) (by omega) (by omega)], fun j hj => h.2 j (by unfold perS at hj; omega)⟩
def btw (a b : Int) (x : Int32) : Prop := a ≤ x.toInt ∧ x.toInt ≤ b
def Rbr (M : Nat → Nat → Int32) (k : Nat) : Prop := (M 401 k = M 43 k ∧ M 401 (8 + k) = M 44 k ∧ M 401 (16 + k) = M 45 k ∧ M 409 k = M 41 k ∧ M 410 k = M 42 k) ∧ btw 1 9 (M 43 k) ∧ btw 0 99 (M 44 k) ∧ btw 0 9 (M 45 k) ∧ btw 0 7 (M 41 k) ∧ btw 0 7 (M 42 k) ∧ M 41 k ≠ M 42 k
def Rbg (M : Nat → Nat → Int32) (n p : Nat) : Prop := (M 401 (24 + p) = M 46 p ∧ M 401 (33 + p) = M 47 p ∧ M 401 (42 + p) = M 48 p ∧ M 401 (51 + p) = M 49 p) ∧ btw 0 99 (M 46 p) ∧ btw 0 9 (M 47 p) ∧ btw 0 9 (M 48 p) ∧ btw (-1) ((n : Int) - 1) (M 49 p)
def Rc (M : Nat → Nat → Int32) (n g : Nat) : Prop := n ≤ 8 ∧ g ≤ 9 ∧ (M 40 11 = nI n ∧ M 400 6 = nI n ∧ M 40 12 = nI g ∧ M 400 7 = nI g) ∧ (M 401 60 = M 40 13 ∧ btw 0 99 (M 40 13)) ∧ (M 401 61 = M 40 14 ∧ btw 0 6 (M 40 14)) ∧ (∀ k, k < n → Rbr M k) ∧ ∀ p, p < g → Rbg M n p
def Rt (M : Nat → Nat → Int32) : Prop := ∃ t, t ≤ 120 ∧ M 70 3 = nI t ∧ M 400 11 = nI t ∧ ∀ i, i < t → M 411 i = M 71 i ∧ btw 0 255 (M 71 i)
def loS (s : Nat) : Int := if s = 0 then 1 else if s = 6 then -1 else 0
def hiS (n s : Nat) : Int := if s = 0 ∨ s = 2 ∨ s = 4 ∨ s = 5 then 9 else if s = 6 then (n : Int) - 1 else if s = 8 then 6 else 99
abbrev okN (n s : Nat) (v : Int32) : Prop := loS s ≤ v.toInt ∧ v.toInt ≤ hiS n s
def cntS (n g s : Nat) : Nat := if s ≤ 2 then n else if s ≤ 6 then g else if s ≤ 8 then 1 else n
def valS (n g s j : Nat) : Prop := s ≤ 8 ∧ j < cntS n g s
def plN (s j : Nat) : Nat := if s ≤ 2 then 8 * s + j else if s ≤ 6 then 24 + 9 * (s - 3) + j else 60 + (s - 7) + j
def Rc1 (M : Nat → Nat → Int32) (n g i : Nat) : Prop := ∃ s j, valS n g s j ∧ M 261 i = nI j ∧ M 262 i = nI s ∧ M 402 i = nI (plN s j) ∧ M 403 i = M 263 i ∧ M 404 i = M 264 i ∧ okN n s (M 263 i) ∧ okN n s (M 264 i)
def Rch (M : Nat → Nat → Int32) (n g : Nat) : Prop := ∃ c a, c ≤ a ∧ a ≤ 40 ∧ M 260 4 = nI c ∧ M 400 5 = nI c ∧ M 260 5 = nI a ∧ M 400 4 = nI a ∧ ∀ i, i < a → Rc1 M n g i
def Rled (M : Nat → Nat → Int32) : Prop := ∀ i, i < 5 → M 435 i = M 281 i
def Rimg (M : Nat → Nat → Int32) (n g : Nat) : Prop := (M 280 3 = 0 ∧ M 400 35 = 0) ∨ (M 280 3 = 1 ∧ M 400 35 = 1 ∧ (∀ i, i < 5 → M 440 i = M 282 i) ∧ ∃ n' g', n' ≤ n ∧ g' ≤ g ∧ M 290 11 = nI n' ∧ M 400 36 = nI n' ∧ M 290 12 = nI g' ∧ M 400 37 = nI g' ∧ (M 439 61 = M 290 14 ∧ btw 0 6 (M 290 14)) ∧ (∀ k, k < n' → M 439 (8 + k) = M 294 k ∧ btw 0 99 (M 294 k)) ∧ ∀ p, p < g' → (M 439 (24 + p) = M 296 p ∧ btw 0 99 (M 296 p)) ∧ M 439 (51 + p) = M 299 p ∧ btw (-1) ((n : Int) - 1) (M 299 p))
def Rar (M : Nat → Nat → Int32) : Prop := ∃ b r, b ≤ 50 ∧ r ≤ 1000 ∧ M 320 2 = nI b ∧ M 400 40 = nI b ∧ M 320 3 = nI r ∧ M 400 43 = nI r ∧ (∀ i, i < b → M 442 i = M 321 i ∧ ∃ k, k < 8 ∧ M 321 i = nI k) ∧ ∀ i, i < r → i < 24 → M 443 i = M 322 i
def Rs1 (M : Nat → Nat → Int32) (L : Nat → Nat → Int64) (s : Nat) : Prop := (M 331 s = -1 ∧ M 447 s = -1) ∨ (M 331 s = 5 ∧ ∃ j : Nat, M 332 s = nI j ∧ M 447 s = nI j ∧ (j : Int) < (M 320 2).toInt ∧ j < 50) ∨ ∃ k m, k ≤ 4 ∧ m ≤ 60 ∧ M 331 s = nI k ∧ M 332 s = nI m ∧ M 447 s = nI (50 + k) ∧ M 448 s = nI m ∧ (∀ i, i < m → L 449 (60 * s + i) = L (334 + s) i) ∧ (k = 0 → ∀ i, i < m → -128 ≤ (L (334 + s) i).toInt ∧ (L (334 + s) i).toInt ≤ 127)
def Rsh (M : Nat → Nat → Int32) (L : Nat → Nat → Int64) : Prop := ∀ s, s < 6 → Rs1 M L s
def RR (E : Nat × (Nat → Int32)) (M : Nat → Nat → Int32) (L : Nat → Nat → Int64) : Prop := ∃ n g kf, Rc M n g ∧ (LW E kf M ∧ RL E kf M) ∧ Rt M ∧ Rch M n g ∧ Rled M ∧ Rimg M n g ∧ Rar M ∧ Rsh M L
theorem LW.keep4 {E : Nat × (Nat → Int32)} {kf : (Nat → Int32) → Int32} {M M' : Nat → Nat → Int32} (h : LW E kf M) (h0 : M' 90 4 = M 90 4) (h1 : M' 91 = M 91) (h2 : M' 92 = M 92) : LW E kf M' := by
  refine ⟨h.1, ?_⟩
  rcases h.2 with ⟨a, b⟩ | ⟨a, b⟩
  · exact Or.inl ⟨by rw [h0]; exact a, b⟩
  · refine Or.inr ⟨by rw [h0]; exact a, fun M1 L1 d e0 e1 e2 => b M1 L1 d (by rw [e0, h0]) (by rw [e1, h1]) (by rw [e2, h2])⟩
section KEEP
variable {M M' : Nat → Nat → Int32}
theorem Rbr.kp {k : Nat} (h : Rbr M k) (q1 : M' 401 = M 401) (q2 : M' 409 = M 409) (q3 : M' 410 = M 410) (q4 : ∀ c, 41 ≤ c → c ≤ 45 → M' c = M c) : Rbr M' k := by
  unfold Rbr at *
  rw [q1, q2, q3, q4 41 (by omega) (by omega), q4 42 (by omega) (by omega), q4 43 (by omega) (by omega), q4 44 (by omega) (by omega), q4 45 (by omega) (by omega)]
  exact h
theorem Rbg.kp {n p : Nat} (h : Rbg M n p) (q1 : M' 401 = M 401) (q4 : ∀ c, 46 ≤ c → c ≤ 49 → M' c = M c) : Rbg M' n p := by
  unfold Rbg at *
  rw [q1, q4 46 (by omega) (by omega), q4 47 (by omega) (by omega), q4 48 (by omega) (by omega), q4 49 (by omega) (by omega)]
  exact h
theorem Rc.kp {n g : Nat} (h : Rc M n g) (q1 : ∀ c, 40 ≤ c → c ≤ 49 → M' c = M c) (q2 : ∀ c, c = 401 ∨ c = 409 ∨ c = 410 → M' c = M c) (q3 : ∀ j, j = 6 ∨ j = 7 → M' 400 j = M 400 j) : Rc M' n g := by
  obtain ⟨a, b, c, e, f, i, j⟩ := h
  refine ⟨a, b, ?_, ?_, ?_, fun k hk => (i k hk).kp (q2 401 (by omega)) (q2 409 (by omega)) (q2 410 (by omega)) (fun c h1 h2 => q1 c (by omega) (by omega)), fun p hp => (j p hp).kp (q2 401 (by omega)) (fun c h1 h2 => q1 c (by omega) (by omega))⟩
  · rw [q1 40 (by omega) (by omega), q3 6 (by omega), q3 7 (by omega)]; exact c
  · rw [q1 40 (by omega) (by omega), q2 401 (by omega)]; exact e
  · rw [q1 40 (by omega) (by omega), q2 401 (by omega)]; exact f
theorem Rt.kp (h : Rt M) (q1 : M' 70 3 = M 70 3) (q2 : M' 400 11 = M 400 11) (q3 : M' 411 = M 411) (q4 : M' 71 = M 71) : Rt M' := by
  unfold Rt at *
  rw [q1, q2, q3, q4]
  exact h
theorem Rch.kp {n g : Nat} (h : Rch M n g) (q1 : ∀ c, 260 ≤ c → c ≤ 264 → M' c = M c) (q2 : ∀ c, 402 ≤ c → c ≤ 404 → M' c = M c) (q3 : ∀ j, j = 4 ∨ j = 5 → M' 400 j = M 400 j) : Rch M' n g := by
  unfold Rch Rc1 at *
  rw [q1 260 (by omega) (by omega), q1 261 (by omega) (by omega), q1 262 (by omega) (by omega), q1 263 (by omega) (by omega), q1 264 (by omega) (by omega), q2 402 (by omega) (by omega), q2 403 (by omega) (by omega), q2 404 (by omega) (by omega), q3 4 (by omega), q3 5 (by omega)]
  exact h
theorem Rled.kp (h : Rled M) (q1 : M' 435 = M 435) (q2 : M' 281 = M 281) : Rled M' := by
  unfold Rled at *
  rw [q1, q2]
  exact h
theorem Rimg.kp {n g : Nat} (h : Rimg M n g) (q1 : M' 280 = M 280) (q2 : M' 282 = M 282) (q3 : ∀ c, 290 ≤ c → c ≤ 299 → M' c = M c) (q4 : M' 439 = M 439) (q5 : M' 440 = M 440) (q6 : ∀ j, j = 35 ∨ j = 36 ∨ j = 37 → M' 400 j = M 400 j) : Rimg M' n g := by
  unfold Rimg at *
  rw [q1, q2, q3 290 (by omega) (by omega), q3 294 (by omega) (by omega), q3 296 (by omega) (by omega), q3 299 (by omega) (by omega), q4, q5, q6 35 (by omega), q6 36 (by omega), q6 37 (by omega)]
  exact h
theorem Rar.kp (h : Rar M) (q1 : ∀ c, 320 ≤ c → c ≤ 322 → M' c = M c) (q2 : M' 442 = M 442) (q3 : M' 443 = M 443) (q4 : ∀ j, j = 40 ∨ j = 43 → M' 400 j = M 400 j) : Rar M' := by
  unfold Rar at *
  rw [q1 320 (by omega) (by omega), q1 321 (by omega) (by omega), q1 322 (by omega) (by omega), q2, q3, q4 40 (by omega), q4 43 (by omega)]
  exact h
theorem Rsh.kp {L : Nat → Nat → Int64} (h : Rsh M L) (q1 : M' 331 = M 331) (q2 : M' 332 = M 332) (q3 : M' 447 = M 447) (q4 : M' 448 = M 448) (q5 : M' 320 2 = M 320 2) : Rsh M' L := by
  unfold Rsh Rs1 at *
  rw [q1, q2, q3, q4, q5]
  exact h
theorem RR.kp {E : Nat × (Nat → Int32)} {L : Nat → Nat → Int64} (h : RR E M L) (k : Kp M M') : RR E M' L := by
  obtain ⟨n, g, kf, h1, ⟨h2, h2'⟩, h3, h4, h5, h6, h7, h8⟩ := h
  obtain ⟨k1, k2, k3, k4⟩ := k
  have c : ∀ c, (40 ≤ c ∧ c ≤ 49) ∨ c = 71 ∨ c = 91 ∨ c = 92 ∨ (260 ≤ c ∧ c ≤ 264) ∨ (280 ≤ c ∧ c ≤ 282) ∨ (290 ≤ c ∧ c ≤ 299) ∨ (320 ≤ c ∧ c ≤ 322) ∨ c = 331 ∨ c = 332 ∨ (401 ≤ c ∧ c ≤ 404) ∨ (409 ≤ c ∧ c ≤ 411) ∨ (422 ≤ c ∧ c ≤ 424) ∨ c = 435 ∨ c = 439 ∨ c = 440 ∨ c = 442 ∨ c = 443 ∨ c = 447 ∨ c = 448 → M' c = M c := k1
  have s : ∀ j, j = 4 ∨ j = 5 ∨ j = 6 ∨ j = 7 ∨ j = 11 ∨ j = 24 ∨ j = 35 ∨ j = 36 ∨ j = 37 ∨ j = 40 ∨ j = 43 → M' 400 j = M 400 j := k4
  exact ⟨n, g, kf, h1.kp (fun x a b => c x (by omega)) (fun x a => c x (by omega)) (fun j a => s j (by omega)),
    ⟨h2.keep4 k3 (c 91 (by omega)) (c 92 (by omega)), h2'.keep (s 24 (by omega)) (c 422 (by omega)) (c 423 (by omega)) (c 424 (by omega))⟩,
    h3.kp k2 (s 11 (by omega)) (c 411 (by omega)) (c 71 (by omega)),
    h4.kp (fun x a b => c x (by omega)) (fun x a b => c x (by omega)) (fun j a => s j (by omega)),
    h5.kp (c 435 (by omega)) (c 281 (by omega)),
    h6.kp (c 280 (by omega)) (c 282 (by omega)) (fun x a b => c x (by omega)) (c 439 (by omega)) (c 440 (by omega)) (fun j a => s j (by omega)),
    h7.kp (fun x a b => c x (by omega)) (c 442 (by omega)) (c 443 (by omega)) (fun j a => s j (by omega)),
    h8.kp (c 331 (by omega)) (c 332 (by omega)) (c 447 (by omega)) (c 448 (by omega)) (by rw [c 320 (by omega)])⟩
end KEEP
/-- the county's numbers as the class has them -/
def Pm (M : Nat → Nat → Int32) (n g : Nat) (kf : (Nat → Int32) → Int32) : TP := (n, g, M 43, M 45, M 47, M 48, M 40 13, kf)
def Tm (M : Nat → Nat → Int32) : TS := (M 44, M 46, M 49, M 40 14)
theorem Rc.ch {M : Nat → Nat → Int32} {n g : Nat} (h : Rc M n g) (kf : (Nat → Int32) → Int32) : CH M 40 (Pm M n g kf) (Tm M) := ⟨h.2.2.1.1, h.2.2.1.2.2.1, rfl, rfl, fun _ _ => ⟨rfl, rfl, rfl⟩, fun _ _ => ⟨rfl, rfl, rfl, rfl⟩⟩
theorem Rc.rq {M : Nat → Nat → Int32} {n g : Nat} (h : Rc M n g) (kf : (Nat → Int32) → Int32) : RQ M (Pm M n g kf) := ⟨h.2.2.1.2.1, h.2.2.1.2.2.2, h.2.2.2.1.1, fun k hk => ⟨(h.2.2.2.2.2.1 k hk).1.1, (h.2.2.2.2.2.1 k hk).1.2.2.1⟩, fun p hp => ⟨(h.2.2.2.2.2.2 p hp).1.2.1, (h.2.2.2.2.2.2 p hp).1.2.2.1⟩⟩
theorem Rc.rb {M : Nat → Nat → Int32} {n g : Nat} (h : Rc M n g) (kf : (Nat → Int32) → Int32) : RB M (Pm M n g kf) (Tm M) := ⟨fun k hk => (h.2.2.2.2.2.1 k hk).1.2.1, fun p hp => ⟨(h.2.2.2.2.2.2 p hp).1.1, (h.2.2.2.2.2.2 p hp).1.2.2.2⟩, h.2.2.2.2.1.1⟩
theorem Rc.se {M : Nat → Nat → Int32} {n g : Nat} (h : Rc M n g) (kf : (Nat → Int32) → Int32) : seatsOk (Pm M n g kf) (Tm M) := fun p hp => by
  have := (h.2.2.2.2.2.2 p hp).2.2.2.2
  unfold btw at this
  show -1 ≤ (M 49 p).toInt ∧ (M 49 p).toInt < (n : Int)
  omega
theorem Rc.rg {M : Nat → Nat → Int32} {n g : Nat} (h : Rc M n g) (kf : (Nat → Int32) → Int32) : rngT (Pm M n g kf) (Tm M) := ⟨fun k hk => (h.2.2.2.2.2.1 k hk).2.2.1, fun p hp => (h.2.2.2.2.2.2 p hp).2.1, h.2.2.2.2.1.2⟩
