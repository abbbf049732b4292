/-! printed by wip/whole/sym.py: what each method does, as a tree; closed by rfl -/
set_option maxRecDepth 100000 in
theorem x36 (E : Nat × (Nat → Int32)) (d : Nat) (o0 : Nat) (p1 : Int32) (M : Nat → Nat → Int32) (L : Nat → Nat → Int64) : C E (d + 1) 36 [vR 1 3 90, vR 1 2 o0, vI p1] (M, L) = (bI (C E d 15 [vR 1 2 o0, vI p1] (M, L)) fun r1 s1 => (if r1 = 0 then some (some (vI (0 : Int32)), s1) else (if (s1.1 90 4) = 0 then (if ib p1 8 then (if ib p1 8 then (if ib p1 8 then (bI (C E d 147 [vI ((((s1.1 (o0 + 3) (ix p1)) / (2 : Int32)) + ((2 : Int32) * (s1.1 (o0 + 11) (ix p1)))) - ((4 : Int32) * (s1.1 (o0 + 10) (ix p1)))), vI (20 : Int32)] s1) fun r2 s2 => some (some (vI r2), s2)) else none) else none) else none) else (if ib p1 8 then (if ib (0 : Int32) 6 then (if ib p1 8 then (if ib (1 : Int32) 6 then (if ib p1 8 then (if ib (2 : Int32) 6 then (if ib p1 8 then (if ib (3 : Int32) 6 then (if ib (4 : Int32) 6 then (if ib p1 8 then (if ib (5 : Int32) 6 then (bI (C E d 37 [vR 1 3 90] ((u2 (u2 (u2 (u2 (u2 (u2 s1.1 94 (ix (0 : Int32)) (s1.1 (o0 + 3) (ix p1))) 94 (ix (1 : Int32)) ((u2 s1.1 94 (ix (0 : Int32)) (s1.1 (o0 + 3) (ix p1))) (o0 + 10) (ix p1))) 94 (ix (2 : Int32)) ((u2 (u2 s1.1 94 (ix (0 : Int32)) (s1.1 (o0 + 3) (ix p1))) 94 (ix (1 : Int32)) ((u2 s1.1 94 (ix (0 : Int32)) (s1.1 (o0 + 3) (ix p1))) (o0 + 10) (ix p1))) (o0 + 11) (ix p1))) 94 (ix (3 : Int32)) ((u2 (u2 (u2 s1.1 94 (ix (0 : Int32)) (s1.1 (o0 + 3) (ix p1))) 94 (ix (1 : Int32)) ((u2 s1.1 94 (ix (0 : Int32)) (s1.1 (o0 + 3) (ix p1))) (o0 + 10) (ix p1))) 94 (ix (2 : Int32)) ((u2 (u2 s1.1 94 (ix (0 : Int32)) (s1.1 (o0 + 3) (ix p1))) 94 (ix (1 : Int32)) ((u2 s1.1 94 (ix (0 : Int32)) (s1.1 (o0 + 3) (ix p1))) (o0 + 10) (ix p1))) (o0 + 11) (ix p1))) (o0 + 5) (ix p1))) 94 (ix (4 : Int32)) ((u2 (u2 (u2 (u2 s1.1 94 (ix (0 : Int32)) (s1.1 (o0 + 3) (ix p1))) 94 (ix (1 : Int32)) ((u2 s1.1 94 (ix (0 : Int32)) (s1.1 (o0 + 3) (ix p1))) (o0 + 10) (ix p1))) 94 (ix (2 : Int32)) ((u2 (u2 s1.1 94 (ix (0 : Int32)) (s1.1 (o0 + 3) (ix p1))) 94 (ix (1 : Int32)) ((u2 s1.1 94 (ix (0 : Int32)) (s1.1 (o0 + 3) (ix p1))) (o0 + 10) (ix p1))) (o0 + 11) (ix p1))) 94 (ix (3 : Int32)) ((u2 (u2 (u2 s1.1 94 (ix (0 : Int32)) (s1.1 (o0 + 3) (ix p1))) 94 (ix (1 : Int32)) ((u2 s1.1 94 (ix (0 : Int32)) (s1.1 (o0 + 3) (ix p1))) (o0 + 10) (ix p1))) 94 (ix (2 : Int32)) ((u2 (u2 s1.1 94 (ix (0 : Int32)) (s1.1 (o0 + 3) (ix p1))) 94 (ix (1 : Int32)) ((u2 s1.1 94 (ix (0 : Int32)) (s1.1 (o0 + 3) (ix p1))) (o0 + 10) (ix p1))) (o0 + 11) (ix p1))) (o0 + 5) (ix p1))) o0 14)) 94 (ix (5 : Int32)) ((u2 (u2 (u2 (u2 (u2 s1.1 94 (ix (0 : Int32)) (s1.1 (o0 + 3) (ix p1))) 94 (ix (1 : Int32)) ((u2 s1.1 94 (ix (0 : Int32)) (s1.1 (o0 + 3) (ix p1))) (o0 + 10) (ix p1))) 94 (ix (2 : Int32)) ((u2 (u2 s1.1 94 (ix (0 : Int32)) (s1.1 (o0 + 3) (ix p1))) 94 (ix (1 : Int32)) ((u2 s1.1 94 (ix (0 : Int32)) (s1.1 (o0 + 3) (ix p1))) (o0 + 10) (ix p1))) (o0 + 11) (ix p1))) 94 (ix (3 : Int32)) ((u2 (u2 (u2 s1.1 94 (ix (0 : Int32)) (s1.1 (o0 + 3) (ix p1))) 94 (ix (1 : Int32)) ((u2 s1.1 94 (ix (0 : Int32)) (s1.1 (o0 + 3) (ix p1))) (o0 + 10) (ix p1))) 94 (ix (2 : Int32)) ((u2 (u2 s1.1 94 (ix (0 : Int32)) (s1.1 (o0 + 3) (ix p1))) 94 (ix (1 : Int32)) ((u2 s1.1 94 (ix (0 : Int32)) (s1.1 (o0 + 3) (ix p1))) (o0 + 10) (ix p1))) (o0 + 11) (ix p1))) (o0 + 5) (ix p1))) 94 (ix (4 : Int32)) ((u2 (u2 (u2 (u2 s1.1 94 (ix (0 : Int32)) (s1.1 (o0 + 3) (ix p1))) 94 (ix (1 : Int32)) ((u2 s1.1 94 (ix (0 : Int32)) (s1.1 (o0 + 3) (ix p1))) (o0 + 10) (ix p1))) 94 (ix (2 : Int32)) ((u2 (u2 s1.1 94 (ix (0 : Int32)) (s1.1 (o0 + 3) (ix p1))) 94 (ix (1 : Int32)) ((u2 s1.1 94 (ix (0 : Int32)) (s1.1 (o0 + 3) (ix p1))) (o0 + 10) (ix p1))) (o0 + 11) (ix p1))) 94 (ix (3 : Int32)) ((u2 (u2 (u2 s1.1 94 (ix (0 : Int32)) (s1.1 (o0 + 3) (ix p1))) 94 (ix (1 : Int32)) ((u2 s1.1 94 (ix (0 : Int32)) (s1.1 (o0 + 3) (ix p1))) (o0 + 10) (ix p1))) 94 (ix (2 : Int32)) ((u2 (u2 s1.1 94 (ix (0 : Int32)) (s1.1 (o0 + 3) (ix p1))) 94 (ix (1 : Int32)) ((u2 s1.1 94 (ix (0 : Int32)) (s1.1 (o0 + 3) (ix p1))) (o0 + 10) (ix p1))) (o0 + 11) (ix p1))) (o0 + 5) (ix p1))) o0 14)) (o0 + 4) (ix p1))), s1.2)) fun r3 s3 => (bI (C E d 147 [vI r3, vI (20 : Int32)] s3) fun r4 s4 => some (some (vI r4), s4))) else none) else none) else none) else none) else none) else none) else none) else none) else none) else none) else none)))) := by
  rw [C_of (q := me36) rfl rfl rfl rfl, X_go E d me36 [] 400]
  rfl
set_option maxRecDepth 100000 in
theorem x37 (E : Nat × (Nat → Int32)) (d : Nat)  (M : Nat → Nat → Int32) (L : Nat → Nat → Int64) : C E (d + 1) 37 [vR 1 3 90] (M, L) = X E d me37 6 [some (vR 1 3 90), some (vI (0 : Int32)), some (vI (0 : Int32)), some (vI (0 : Int32)), none, none, none] [] (M, L) := by
  rw [C_of (q := me37) rfl rfl rfl rfl, X_go E d me37 [6, 71, 125, 155, 241] 400]
  rfl
set_option maxRecDepth 100000 in
theorem x37_6 (E : Nat × (Nat → Int32)) (d : Nat) (x1 : Int32) (x2 : Int32) (x3 : Int32) (w4 : Option PV) (w5 : Option PV) (w6 : Option PV) (M : Nat → Nat → Int32) (L : Nat → Nat → Int64) : X E d me37 6 [some (vR 1 3 90), some (vI x1), some (vI x2), some (vI x3), w4, w5, w6] [] (M, L) = (if (128 : Int32) ≤ x3 then some (some (vI (0 : Int32)), (M, L)) else (if x2 < 0 then some (some (vI (0 : Int32)), (M, L)) else (if (M 90 4) ≤ x2 then some (some (vI (0 : Int32)), (M, L)) else (if (128 : Int32) ≤ x2 then some (some (vI (0 : Int32)), (M, L)) else (if ib x2 128 then (if ib x2 128 then (if (M 91 (ix x2)) = 0 then (if x1 < (128 : Int32) then X E d me37 71 [some (vR 1 3 90), some (vI x1), some (vI (x2 + (1 : Int32))), some (vI x3), some (vI (M 91 (ix x2))), some (vI (M 92 (ix x2))), w6] [] (M, L) else some (some (vI (0 : Int32)), (M, L))) else (if (M 91 (ix x2)) = (1 : Int32) then (if x1 < (128 : Int32) then X E d me37 71 [some (vR 1 3 90), some (vI x1), some (vI (x2 + (1 : Int32))), some (vI x3), some (vI (M 91 (ix x2))), some (vI (M 92 (ix x2))), w6] [] (M, L) else some (some (vI (0 : Int32)), (M, L))) else X E d me37 125 [some (vR 1 3 90), some (vI x1), some (vI (x2 + (1 : Int32))), some (vI x3), some (vI (M 91 (ix x2))), some (vI (M 92 (ix x2))), w6] [] (M, L))) else none) else none))))) := by
  rw [X_go E d me37 [6, 71, 125, 155, 241] 400]
  rfl
set_option maxRecDepth 100000 in
theorem x37_71 (E : Nat × (Nat → Int32)) (d : Nat) (x1 : Int32) (x2 : Int32) (x3 : Int32) (x4 : Int32) (x5 : Int32) (w6 : Option PV) (M : Nat → Nat → Int32) (L : Nat → Nat → Int64) : X E d me37 71 [some (vR 1 3 90), some (vI x1), some (vI x2), some (vI x3), some (vI x4), some (vI x5), w6] [] (M, L) = (if x4 = (1 : Int32) then (if x5 < 0 then (if ib x1 128 then X E d me37 6 [some (vR 1 3 90), some (vI (x1 + (1 : Int32))), some (vI x2), some (vI (x3 + (1 : Int32))), some (vI x4), some (vI x5), some (vI (0 : Int32))] [] ((u2 M 93 (ix x1) x5), L) else none) else (if (6 : Int32) ≤ x5 then (if ib x1 128 then X E d me37 6 [some (vR 1 3 90), some (vI (x1 + (1 : Int32))), some (vI x2), some (vI (x3 + (1 : Int32))), some (vI x4), some (vI x5), some (vI (0 : Int32))] [] ((u2 M 93 (ix x1) x5), L) else none) else (if ib x5 6 then (if ib x1 128 then X E d me37 6 [some (vR 1 3 90), some (vI (x1 + (1 : Int32))), some (vI x2), some (vI (x3 + (1 : Int32))), some (vI x4), some (vI x5), some (vI (1 : Int32))] [] ((u2 M 93 (ix x1) (M 94 (ix x5))), L) else none) else none))) else (if ib x1 128 then X E d me37 6 [some (vR 1 3 90), some (vI (x1 + (1 : Int32))), some (vI x2), some (vI (x3 + (1 : Int32))), some (vI x4), some (vI x5), some (vI (0 : Int32))] [] ((u2 M 93 (ix x1) x5), L) else none)) := by
  rw [X_go E d me37 [6, 71, 125, 155, 241] 400]
  rfl
set_option maxRecDepth 100000 in
theorem x37_125 (E : Nat × (Nat → Int32)) (d : Nat) (x1 : Int32) (x2 : Int32) (x3 : Int32) (x4 : Int32) (x5 : Int32) (w6 : Option PV) (M : Nat → Nat → Int32) (L : Nat → Nat → Int64) : X E d me37 125 [some (vR 1 3 90), some (vI x1), some (vI x2), some (vI x3), some (vI x4), some (vI x5), w6] [] (M, L) = (if 0 < x1 then (if x4 = (2 : Int32) then (if ib (x1 - (1 : Int32)) 128 then some (some (vI (M 93 (ix (x1 - (1 : Int32))))), (M, L)) else none) else (if x4 = (3 : Int32) then X E d me37 155 [some (vR 1 3 90), some (vI (x1 + (Int32.ofInt (-1)))), some (vI x2), some (vI x3), some (vI x4), some (vI x5), w6] [] (M, L) else (if x4 = (4 : Int32) then (if ib (x1 - (1 : Int32)) 128 then (if ib (x1 - (1 : Int32)) 128 then X E d me37 6 [some (vR 1 3 90), some (vI x1), some (vI x2), some (vI (x3 + (1 : Int32))), some (vI x4), some (vI x5), w6] [] ((u2 M 93 (ix (x1 - (1 : Int32))) (-(M 93 (ix (x1 - (1 : Int32)))))), L) else none) else none) else (if x4 = (5 : Int32) then (if ib (x1 - (1 : Int32)) 128 then (if (M 93 (ix (x1 - (1 : Int32)))) = 0 then (if ib (x1 - (1 : Int32)) 128 then X E d me37 6 [some (vR 1 3 90), some (vI x1), some (vI x2), some (vI (x3 + (1 : Int32))), some (vI x4), some (vI x5), w6] [] ((u2 M 93 (ix (x1 - (1 : Int32))) (1 : Int32)), L) else none) else (if ib (x1 - (1 : Int32)) 128 then X E d me37 6 [some (vR 1 3 90), some (vI x1), some (vI x2), some (vI (x3 + (1 : Int32))), some (vI x4), some (vI x5), w6] [] ((u2 M 93 (ix (x1 - (1 : Int32))) (0 : Int32)), L) else none)) else none) else (if x1 < (2 : Int32) then X E d me37 6 [some (vR 1 3 90), some (vI x1), some (vI x2), some (vI (x3 + (1 : Int32))), some (vI x4), some (vI x5), w6] [] (M, L) else X E d me37 241 [some (vR 1 3 90), some (vI (x1 + (Int32.ofInt (-1)))), some (vI x2), some (vI x3), some (vI x4), some (vI x5), w6] [] (M, L)))))) else some (some (vI (0 : Int32)), (M, L))) := by
  rw [X_go E d me37 [6, 71, 125, 155, 241] 400]
  rfl
set_option maxRecDepth 100000 in
theorem x37_155 (E : Nat × (Nat → Int32)) (d : Nat) (x1 : Int32) (x2 : Int32) (x3 : Int32) (x4 : Int32) (x5 : Int32) (w6 : Option PV) (M : Nat → Nat → Int32) (L : Nat → Nat → Int64) : X E d me37 155 [some (vR 1 3 90), some (vI x1), some (vI x2), some (vI x3), some (vI x4), some (vI x5), w6] [] (M, L) = (if ib x1 128 then (if (M 93 (ix x1)) = 0 then X E d me37 6 [some (vR 1 3 90), some (vI x1), some (vI x5), some (vI (x3 + (1 : Int32))), some (vI x4), some (vI x5), w6] [] (M, L) else X E d me37 6 [some (vR 1 3 90), some (vI x1), some (vI x2), some (vI (x3 + (1 : Int32))), some (vI x4), some (vI x5), w6] [] (M, L)) else none) := by
  rw [X_go E d me37 [6, 71, 125, 155, 241] 400]
  rfl
set_option maxRecDepth 100000 in
theorem x37_241 (E : Nat × (Nat → Int32)) (d : Nat) (x1 : Int32) (x2 : Int32) (x3 : Int32) (x4 : Int32) (x5 : Int32) (w6 : Option PV) (M : Nat → Nat → Int32) (L : Nat → Nat → Int64) : X E d me37 241 [some (vR 1 3 90), some (vI x1), some (vI x2), some (vI x3), some (vI x4), some (vI x5), w6] [] (M, L) = (if ib (x1 - (1 : Int32)) 128 then (if ib x1 128 then (bI (C E d 38 [vI x4, vI (M 93 (ix (x1 - (1 : Int32)))), vI (M 93 (ix x1))] (M, L)) fun r1 s1 => (if ib (x1 - (1 : Int32)) 128 then X E d me37 6 [some (vR 1 3 90), some (vI x1), some (vI x2), some (vI (x3 + (1 : Int32))), some (vI x4), some (vI x5), w6] [] ((u2 s1.1 93 (ix (x1 - (1 : Int32))) r1), s1.2) else none)) else none) else none) := by
  rw [X_go E d me37 [6, 71, 125, 155, 241] 400]
  rfl
set_option maxRecDepth 100000 in
theorem x38 (E : Nat × (Nat → Int32)) (d : Nat) (p0 : Int32) (p1 : Int32) (p2 : Int32) (M : Nat → Nat → Int32) (L : Nat → Nat → Int64) : C E (d + 1) 38 [vI p0, vI p1, vI p2] (M, L) = (if p0 = (37 : Int32) then (if p2 = 0 then some (some (vI (0 : Int32)), (M, L)) else (if p2 = 0 then none else some (some (vI (rm32 p1 p2)), (M, L)))) else (if p0 = (38 : Int32) then (if p1 = 0 then some (some (vI (0 : Int32)), (M, L)) else (if p2 = 0 then some (some (vI (0 : Int32)), (M, L)) else some (some (vI (1 : Int32)), (M, L)))) else (if p0 = (42 : Int32) then some (some (vI (p1 * p2)), (M, L)) else (if p0 = (43 : Int32) then some (some (vI (p1 + p2)), (M, L)) else (if p0 = (45 : Int32) then some (some (vI (p1 - p2)), (M, L)) else (if p0 = (47 : Int32) then (if p2 = 0 then some (some (vI (0 : Int32)), (M, L)) else (if p2 = 0 then none else some (some (vI (p1 / p2)), (M, L)))) else (if p0 = (60 : Int32) then (if p2 ≤ p1 then some (some (vI (0 : Int32)), (M, L)) else some (some (vI (1 : Int32)), (M, L))) else (if p0 = (61 : Int32) then (if p1 = p2 then some (some (vI (1 : Int32)), (M, L)) else some (some (vI (0 : Int32)), (M, L))) else (if p0 = (62 : Int32) then (if p1 ≤ p2 then some (some (vI (0 : Int32)), (M, L)) else some (some (vI (1 : Int32)), (M, L))) else (if p0 = (124 : Int32) then (if p1 = 0 then (if p2 = 0 then some (some (vI (0 : Int32)), (M, L)) else some (some (vI (1 : Int32)), (M, L))) else some (some (vI (1 : Int32)), (M, L))) else some (some (vI (0 : Int32)), (M, L)))))))))))) := by
  rw [C_of (q := me38) rfl rfl rfl rfl, X_go E d me38 [] 400]
  rfl
set_option maxRecDepth 100000 in
theorem x39 (E : Nat × (Nat → Int32)) (d : Nat) (p0 : Int32) (M : Nat → Nat → Int32) (L : Nat → Nat → Int64) : C E (d + 1) 39 [vR 1 4 280, vI p0] (M, L) = (if p0 < 0 then some (some (vI (-1 : Int32)), (M, L)) else (if (5 : Int32) ≤ p0 then some (some (vI (-1 : Int32)), (M, L)) else (if ib p0 5 then some (some (vI (M 281 (ix p0))), (M, L)) else none))) := by
  rw [C_of (q := me39) rfl rfl rfl rfl, X_go E d me39 [] 400]
  rfl
set_option maxRecDepth 100000 in
theorem x40 (E : Nat × (Nat → Int32)) (d : Nat) (p0 : Int32) (p1 : Int32) (M : Nat → Nat → Int32) (L : Nat → Nat → Int64) : C E (d + 1) 40 [vR 1 4 280, vI p0, vI p1] (M, L) = (if p0 < 0 then some (none, (M, L)) else (if (5 : Int32) ≤ p0 then some (none, (M, L)) else (if ib p0 5 then (if ib p0 5 then some (none, ((u2 M 281 (ix p0) ((M 281 (ix p0)) + p1)), L)) else none) else none))) := by
  rw [C_of (q := me40) rfl rfl rfl rfl, X_go E d me40 [] 400]
  rfl
set_option maxRecDepth 100000 in
theorem x41 (E : Nat × (Nat → Int32)) (d : Nat) (o0 : Nat) (M : Nat → Nat → Int32) (L : Nat → Nat → Int64) : C E (d + 1) 41 [vR 1 4 280, vR 1 2 o0] (M, L) = (bV (C E d 25 [vR 1 2 290, vR 1 2 o0] (M, L)) fun s1 => (bV (C E d 999 [vR 2 5 281, vI (0 : Int32), vR 2 5 282, vI (0 : Int32), vI (5 : Int32)] s1) fun s2 => some (none, ((u2 s2.1 280 3 (1 : Int32)), s2.2)))) := by
  rw [C_of (q := me41) rfl rfl rfl rfl, X_go E d me41 [] 400]
  rfl
set_option maxRecDepth 100000 in
theorem x42 (E : Nat × (Nat → Int32)) (d : Nat) (o0 : Nat) (M : Nat → Nat → Int32) (L : Nat → Nat → Int64) : C E (d + 1) 42 [vR 1 4 280, vR 1 2 o0] (M, L) = X E d me42 2 [some (vR 1 4 280), some (vR 1 2 o0), some (vI (0 : Int32))] [] (M, L) := by
  rw [C_of (q := me42) rfl rfl rfl rfl, X_go E d me42 [2, 36] 400]
  rfl
set_option maxRecDepth 100000 in
theorem x42_2 (E : Nat × (Nat → Int32)) (d : Nat) (o0 : Nat) (x2 : Int32) (M : Nat → Nat → Int32) (L : Nat → Nat → Int64) : X E d me42 2 [some (vR 1 4 280), some (vR 1 2 o0), some (vI x2)] [] (M, L) = (if (M 290 11) ≤ x2 then X E d me42 36 [some (vR 1 4 280), some (vR 1 2 o0), some (vI (0 : Int32))] [] (M, L) else (bI (C E d 22 [vR 1 2 290, vI x2, vI (1 : Int32)] (M, L)) fun r1 s1 => (bV (C E d 23 [vR 1 2 o0, vI x2, vI (1 : Int32), vI r1] s1) fun s2 => X E d me42 2 [some (vR 1 4 280), some (vR 1 2 o0), some (vI (x2 + (1 : Int32)))] [] s2))) := by
  rw [X_go E d me42 [2, 36] 400]
  rfl
set_option maxRecDepth 100000 in
theorem x42_36 (E : Nat × (Nat → Int32)) (d : Nat) (o0 : Nat) (x2 : Int32) (M : Nat → Nat → Int32) (L : Nat → Nat → Int64) : X E d me42 36 [some (vR 1 4 280), some (vR 1 2 o0), some (vI x2)] [] (M, L) = (if (M 290 12) ≤ x2 then (bI (C E d 22 [vR 1 2 290, vI (0 : Int32), vI (8 : Int32)] (M, L)) fun r3 s3 => (bV (C E d 23 [vR 1 2 o0, vI (0 : Int32), vI (8 : Int32), vI r3] s3) fun s4 => (bV (C E d 999 [vR 2 5 282, vI (0 : Int32), vR 2 5 281, vI (0 : Int32), vI (5 : Int32)] s4) fun s5 => some (none, s5)))) else (bI (C E d 22 [vR 1 2 290, vI x2, vI (3 : Int32)] (M, L)) fun r6 s6 => (bV (C E d 23 [vR 1 2 o0, vI x2, vI (3 : Int32), vI r6] s6) fun s7 => (bI (C E d 22 [vR 1 2 290, vI x2, vI (6 : Int32)] s7) fun r8 s8 => (bV (C E d 23 [vR 1 2 o0, vI x2, vI (6 : Int32), vI r8] s8) fun s9 => X E d me42 36 [some (vR 1 4 280), some (vR 1 2 o0), some (vI (x2 + (1 : Int32)))] [] s9))))) := by
  rw [X_go E d me42 [2, 36] 400]
  rfl
set_option maxRecDepth 100000 in
theorem x43 (E : Nat × (Nat → Int32)) (d : Nat)  (M : Nat → Nat → Int32) (L : Nat → Nat → Int64) : C E (d + 1) 43 [vR 1 5 240] (M, L) = X E d me43 2 [some (vR 1 5 240), some (vI (0 : Int32)), none, none] [] (M, L) := by
  rw [C_of (q := me43) rfl rfl rfl rfl, X_go E d me43 [2, 28] 400]
  rfl
set_option maxRecDepth 100000 in
theorem x43_2 (E : Nat × (Nat → Int32)) (d : Nat) (x1 : Int32) (w2 : Option PV) (w3 : Option PV) (M : Nat → Nat → Int32) (L : Nat → Nat → Int64) : X E d me43 2 [some (vR 1 5 240), some (vI x1), w2, w3] [] (M, L) = (if (M 40 11) ≤ x1 then some (none, (M, L)) else (if (8 : Int32) ≤ x1 then some (none, (M, L)) else (if ib x1 8 then X E d me43 28 [some (vR 1 5 240), some (vI x1), some (vI (0 : Int32)), w3] [] ((u2 M 242 (ix x1) (0 : Int32)), L) else none))) := by
  rw [X_go E d me43 [2, 28] 400]
  rfl
set_option maxRecDepth 100000 in
theorem x43_28 (E : Nat × (Nat → Int32)) (d : Nat) (x1 : Int32) (x2 : Int32) (w3 : Option PV) (M : Nat → Nat → Int32) (L : Nat → Nat → Int64) : X E d me43 28 [some (vR 1 5 240), some (vI x1), some (vI x2), w3] [] (M, L) = (if (M 40 12) ≤ x2 then X E d me43 2 [some (vR 1 5 240), some (vI (x1 + (1 : Int32))), some (vI x2), w3] [] (M, L) else (bI (C E d 22 [vR 1 2 40, vI x2, vI (4 : Int32)] (M, L)) fun r1 s1 => (bI (C E d 22 [vR 1 2 40, vI x1, vI (2 : Int32)] s1) fun r2 s2 => (bI (C E d 997 [vI r1, vI r2] s2) fun r3 s3 => (bI (C E d 33 [vR 1 2 40, vI x2] s3) fun r4 s4 => (if r4 = 0 then (bI (C E d 22 [vR 1 2 40, vI x2, vI (5 : Int32)] s4) fun r5 s5 => (if r5 < r3 then X E d me43 28 [some (vR 1 5 240), some (vI x1), some (vI (x2 + (1 : Int32))), some (vI r3)] [] s5 else (if ib x1 8 then (if ib x1 8 then X E d me43 28 [some (vR 1 5 240), some (vI x1), some (vI (x2 + (1 : Int32))), some (vI r3)] [] ((u2 s5.1 242 (ix x1) ((s5.1 242 (ix x1)) ||| ((1 : Int32) <<< (x2 &&& 31)))), s5.2) else none) else none))) else X E d me43 28 [some (vR 1 5 240), some (vI x1), some (vI (x2 + (1 : Int32))), some (vI r3)] [] s4)))))) := by
  rw [X_go E d me43 [2, 28] 400]
  rfl
set_option maxRecDepth 100000 in
theorem x44 (E : Nat × (Nat → Int32)) (d : Nat) (p0 : Int32) (p1 : Int32) (M : Nat → Nat → Int32) (L : Nat → Nat → Int64) : C E (d + 1) 44 [vR 1 5 240, vI p0, vI p1] (M, L) = (bV (C E d 252 [vR 2 9 243, vI (-1 : Int32)] (M, L)) fun s1 => (bI (C E d 998 [vI p0, vI (0 : Int32)] s1) fun r2 s2 => X E d me44 17 [some (vR 1 5 240), some (vI p0), some (vI p1), some (vI (0 : Int32)), some (vI r2)] [] s2)) := by
  rw [C_of (q := me44) rfl rfl rfl rfl, X_go E d me44 [17] 400]
  rfl
set_option maxRecDepth 100000 in
theorem x44_17 (E : Nat × (Nat → Int32)) (d : Nat) (x1 : Int32) (x2 : Int32) (x3 : Int32) (x4 : Int32) (M : Nat → Nat → Int32) (L : Nat → Nat → Int64) : X E d me44 17 [some (vR 1 5 240), some (vI x1), some (vI x2), some (vI x3), some (vI x4)] [] (M, L) = (if (M 40 11) ≤ x4 then some (some (vI x3), (M, L)) else (bI (C E d 45 [vR 1 5 240, vI x4, vI (0 : Int32)] ((u2 M 240 3 x2), L)) fun r3 s3 => (if r3 = 0 then X E d me44 17 [some (vR 1 5 240), some (vI x1), some (vI x2), some (vI x3), some (vI (x4 + (1 : Int32)))] [] s3 else X E d me44 17 [some (vR 1 5 240), some (vI x1), some (vI x2), some (vI (x3 + (1 : Int32))), some (vI (x4 + (1 : Int32)))] [] s3))) := by
  rw [X_go E d me44 [17] 400]
  rfl
set_option maxRecDepth 100000 in
theorem x45 (E : Nat × (Nat → Int32)) (d : Nat) (p0 : Int32) (p1 : Int32) (M : Nat → Nat → Int32) (L : Nat → Nat → Int64) : C E (d + 1) 45 [vR 1 5 240, vI p0, vI p1] (M, L) = (if (9 : Int32) < p1 then some (some (vI (0 : Int32)), (M, L)) else (if p0 < 0 then some (some (vI (0 : Int32)), (M, L)) else (if p0 < (8 : Int32) then X E d me45 20 [some (vR 1 5 240), some (vI p0), some (vI p1), some (vI (0 : Int32))] [] (M, L) else some (some (vI (0 : Int32)), (M, L))))) := by
  rw [C_of (q := me45) rfl rfl rfl rfl, X_go E d me45 [20] 400]
  rfl
set_option maxRecDepth 100000 in
theorem x45_20 (E : Nat × (Nat → Int32)) (d : Nat) (x1 : Int32) (x2 : Int32) (x3 : Int32) (M : Nat → Nat → Int32) (L : Nat → Nat → Int64) : X E d me45 20 [some (vR 1 5 240), some (vI x1), some (vI x2), some (vI x3)] [] (M, L) = (if (9 : Int32) ≤ x3 then some (some (vI (0 : Int32)), (M, L)) else (if ib x1 8 then (if (((M 242 (ix x1)) &&& ((M 240 3) ^^^ (-1 : Int32))) &&& ((1 : Int32) <<< (x3 &&& 31))) = 0 then X E d me45 20 [some (vR 1 5 240), some (vI x1), some (vI x2), some (vI (x3 + (1 : Int32)))] [] (M, L) else (if ib x3 9 then (if ((u2 M 240 3 ((M 240 3) ||| ((1 : Int32) <<< (x3 &&& 31)))) 243 (ix x3)) = (-1 : Int32) then (if ib x3 9 then some (some (vI (1 : Int32)), ((u2 (u2 M 240 3 ((M 240 3) ||| ((1 : Int32) <<< (x3 &&& 31)))) 243 (ix x3) x1), L)) else none) else (if ib x3 9 then (bI (C E d 45 [vR 1 5 240, vI ((u2 M 240 3 ((M 240 3) ||| ((1 : Int32) <<< (x3 &&& 31)))) 243 (ix x3)), vI (x2 + (1 : Int32))] ((u2 M 240 3 ((M 240 3) ||| ((1 : Int32) <<< (x3 &&& 31)))), L)) fun r1 s1 => (if r1 = 0 then X E d me45 20 [some (vR 1 5 240), some (vI x1), some (vI x2), some (vI (x3 + (1 : Int32)))] [] s1 else (if ib x3 9 then some (some (vI (1 : Int32)), ((u2 s1.1 243 (ix x3) x1), s1.2)) else none))) else none)) else none)) else none)) := by
  rw [X_go E d me45 [20] 400]
  rfl
set_option maxRecDepth 100000 in
theorem x46 (E : Nat × (Nat → Int32)) (d : Nat) (p0 : Int32) (M : Nat → Nat → Int32) (L : Nat → Nat → Int64) : C E (d + 1) 46 [vR 1 5 240, vI p0] (M, L) = (bI (C E d 44 [vR 1 5 240, vI (0 : Int32), vI (0 : Int32)] (M, L)) fun r1 s1 => X E d me46 16 [some (vR 1 5 240), some (vI p0), some (vI r1), some (vI (0 : Int32)), some (vI (9 : Int32)), some (vI (0 : Int32))] [] s1) := by
  rw [C_of (q := me46) rfl rfl rfl rfl, X_go E d me46 [16] 400]
  rfl
set_option maxRecDepth 100000 in
theorem x46_16 (E : Nat × (Nat → Int32)) (d : Nat) (x1 : Int32) (x2 : Int32) (x3 : Int32) (x4 : Int32) (x5 : Int32) (M : Nat → Nat → Int32) (L : Nat → Nat → Int64) : X E d me46 16 [some (vR 1 5 240), some (vI x1), some (vI x2), some (vI x3), some (vI x4), some (vI x5)] [] (M, L) = (if x1 < x5 then some (some (vI x4), (M, L)) else (if (8 : Int32) ≤ x5 then some (some (vI x4), (M, L)) else (bI (C E d 47 [vR 1 5 240, vI x5, vI x3, vI x2] (M, L)) fun r2 s2 => (if r2 = (9 : Int32) then X E d me46 16 [some (vR 1 5 240), some (vI x1), some (vI x2), some (vI x3), some (vI r2), some (vI (x5 + (1 : Int32)))] [] s2 else X E d me46 16 [some (vR 1 5 240), some (vI x1), some (vI (x2 + (Int32.ofInt (-1)))), some (vI (x3 ||| ((1 : Int32) <<< (r2 &&& 31)))), some (vI r2), some (vI (x5 + (1 : Int32)))] [] s2)))) := by
  rw [X_go E d me46 [16] 400]
  rfl
set_option maxRecDepth 100000 in
theorem x47 (E : Nat × (Nat → Int32)) (d : Nat) (p0 : Int32) (p1 : Int32) (p2 : Int32) (M : Nat → Nat → Int32) (L : Nat → Nat → Int64) : C E (d + 1) 47 [vR 1 5 240, vI p0, vI p1, vI p2] (M, L) = (if p0 < 0 then X E d me47 29 [some (vR 1 5 240), some (vI p0), some (vI p1), some (vI p2), some (vI (0 : Int32)), some (vI (0 : Int32))] [] (M, L) else (if (8 : Int32) ≤ p0 then X E d me47 29 [some (vR 1 5 240), some (vI p0), some (vI p1), some (vI p2), some (vI (0 : Int32)), some (vI (0 : Int32))] [] (M, L) else (if ib p0 8 then X E d me47 29 [some (vR 1 5 240), some (vI p0), some (vI p1), some (vI p2), some (vI ((M 242 (ix p0)) &&& (p1 ^^^ (-1 : Int32)))), some (vI (0 : Int32))] [] (M, L) else none))) := by
  rw [C_of (q := me47) rfl rfl rfl rfl, X_go E d me47 [29] 400]
  rfl
set_option maxRecDepth 100000 in
theorem x47_29 (E : Nat × (Nat → Int32)) (d : Nat) (x1 : Int32) (x2 : Int32) (x3 : Int32) (x4 : Int32) (x5 : Int32) (M : Nat → Nat → Int32) (L : Nat → Nat → Int64) : X E d me47 29 [some (vR 1 5 240), some (vI x1), some (vI x2), some (vI x3), some (vI x4), some (vI x5)] [] (M, L) = (if (9 : Int32) ≤ x5 then some (some (vI (9 : Int32)), (M, L)) else (if ((x4 >>> (x5 &&& 31)) &&& (1 : Int32)) = 0 then X E d me47 29 [some (vR 1 5 240), some (vI x1), some (vI x2), some (vI x3), some (vI x4), some (vI (x5 + (1 : Int32)))] [] (M, L) else (bI (C E d 44 [vR 1 5 240, vI (x1 + (1 : Int32)), vI (x2 ||| ((1 : Int32) <<< (x5 &&& 31)))] (M, L)) fun r1 s1 => (if r1 = (x3 - (1 : Int32)) then some (some (vI x5), s1) else X E d me47 29 [some (vR 1 5 240), some (vI x1), some (vI x2), some (vI x3), some (vI x4), some (vI (x5 + (1 : Int32)))] [] s1)))) := by
  rw [X_go E d me47 [29] 400]
  rfl
set_option maxRecDepth 100000 in
theorem x48 (E : Nat × (Nat → Int32)) (d : Nat) (p0 : Int32) (M : Nat → Nat → Int32) (L : Nat → Nat → Int64) : C E (d + 1) 48 [vR 1 6 330, vI p0] (M, L) = (if p0 < 0 then some (some (vI (0 : Int32)), (M, L)) else (if (6 : Int32) ≤ p0 then some (some (vI (0 : Int32)), (M, L)) else some (some (vI (1 : Int32)), (M, L)))) := by
  rw [C_of (q := me48) rfl rfl rfl rfl, X_go E d me48 [] 400]
  rfl
set_option maxRecDepth 100000 in
theorem x49 (E : Nat × (Nat → Int32)) (d : Nat) (p0 : Int32) (M : Nat → Nat → Int32) (L : Nat → Nat → Int64) : C E (d + 1) 49 [vR 1 6 330, vI p0] (M, L) = (bI (C E d 48 [vR 1 6 330, vI p0] (M, L)) fun r1 s1 => (if r1 = 0 then some (some (vI (1 : Int32)), s1) else (if ib p0 6 then (if (s1.1 331 (ix p0)) = (-1 : Int32) then some (some (vI (1 : Int32)), s1) else some (some (vI (0 : Int32)), s1)) else none))) := by
  rw [C_of (q := me49) rfl rfl rfl rfl, X_go E d me49 [] 400]
  rfl
set_option maxRecDepth 100000 in
theorem x50 (E : Nat × (Nat → Int32)) (d : Nat) (p0 : Int32) (M : Nat → Nat → Int32) (L : Nat → Nat → Int64) : C E (d + 1) 50 [vR 1 6 330, vI p0] (M, L) = (bI (C E d 48 [vR 1 6 330, vI p0] (M, L)) fun r1 s1 => (if r1 = 0 then some (some (vI (0 : Int32)), s1) else (if ib p0 6 then (if (s1.1 331 (ix p0)) < 0 then some (some (vI (0 : Int32)), s1) else (if ib p0 6 then (if (4 : Int32) < (s1.1 331 (ix p0)) then some (some (vI (0 : Int32)), s1) else some (some (vI (1 : Int32)), s1)) else none)) else none))) := by
  rw [C_of (q := me50) rfl rfl rfl rfl, X_go E d me50 [] 400]
  rfl
set_option maxRecDepth 100000 in
theorem x51 (E : Nat × (Nat → Int32)) (d : Nat) (p0 : Int32) (M : Nat → Nat → Int32) (L : Nat → Nat → Int64) : C E (d + 1) 51 [vR 1 6 330, vI p0] (M, L) = (bI (C E d 50 [vR 1 6 330, vI p0] (M, L)) fun r1 s1 => (if r1 = 0 then some (some (vI (0 : Int32)), s1) else (if ib p0 6 then some (some (vI (s1.1 332 (ix p0))), s1) else none))) := by
  rw [C_of (q := me51) rfl rfl rfl rfl, X_go E d me51 [] 400]
  rfl
set_option maxRecDepth 100000 in
theorem x52 (E : Nat × (Nat → Int32)) (d : Nat) (p0 : Int32) (M : Nat → Nat → Int32) (L : Nat → Nat → Int64) : C E (d + 1) 52 [vR 1 6 330, vI p0] (M, L) = (bI (C E d 48 [vR 1 6 330, vI p0] (M, L)) fun r1 s1 => (if r1 = 0 then some (some (vI (-1 : Int32)), s1) else (if ib p0 6 then (if (s1.1 331 (ix p0)) = (5 : Int32) then (if ib p0 6 then some (some (vI (s1.1 332 (ix p0))), s1) else none) else some (some (vI (-1 : Int32)), s1)) else none))) := by
  rw [C_of (q := me52) rfl rfl rfl rfl, X_go E d me52 [] 400]
  rfl
set_option maxRecDepth 100000 in
theorem x53 (E : Nat × (Nat → Int32)) (d : Nat) (p0 : Int32) (M : Nat → Nat → Int32) (L : Nat → Nat → Int64) : C E (d + 1) 53 [vR 1 6 330, vI p0] (M, L) = (bI (C E d 48 [vR 1 6 330, vI p0] (M, L)) fun r1 s1 => (if r1 = 0 then some (none, s1) else (if ib p0 6 then some (none, ((u2 s1.1 331 (ix p0) (-1 : Int32)), s1.2)) else none))) := by
  rw [C_of (q := me53) rfl rfl rfl rfl, X_go E d me53 [] 400]
  rfl
set_option maxRecDepth 100000 in
theorem x54 (E : Nat × (Nat → Int32)) (d : Nat) (p0 : Int32) (p1 : Int32) (M : Nat → Nat → Int32) (L : Nat → Nat → Int64) : C E (d + 1) 54 [vR 1 6 330, vI p0, vI p1] (M, L) = (bI (C E d 48 [vR 1 6 330, vI p0] (M, L)) fun r1 s1 => (if r1 = 0 then some (none, s1) else (if ib p0 6 then (if ib p0 6 then some (none, ((u2 (u2 s1.1 331 (ix p0) (5 : Int32)) 332 (ix p0) p1), s1.2)) else none) else none))) := by
  rw [C_of (q := me54) rfl rfl rfl rfl, X_go E d me54 [] 400]
  rfl
set_option maxRecDepth 100000 in
theorem x55 (E : Nat × (Nat → Int32)) (d : Nat) (p0 : Int32) (p1 : Int32) (p2 : Int32) (M : Nat → Nat → Int32) (L : Nat → Nat → Int64) : C E (d + 1) 55 [vR 1 6 330, vI p0, vI p1, vI p2] (M, L) = (bI (C E d 48 [vR 1 6 330, vI p0] (M, L)) fun r1 s1 => (if r1 = 0 then some (none, s1) else (if p2 < 0 then some (none, s1) else (if (60 : Int32) < p2 then some (none, s1) else (if ib p0 6 then (if ib p0 6 then (if ib p0 6 then (bV (C E d 251 [vR 3 60 (334 + ix p0), vL (0 : Int64)] ((u2 (u2 s1.1 331 (ix p0) p1) 332 (ix p0) p2), s1.2)) fun s2 => some (none, s2)) else none) else none) else none))))) := by
  rw [C_of (q := me55) rfl rfl rfl rfl, X_go E d me55 [] 400]
  rfl
set_option maxRecDepth 100000 in
theorem x56 (E : Nat × (Nat → Int32)) (d : Nat) (p0 : Int32) (M : Nat → Nat → Int32) (L : Nat → Nat → Int64) : C E (d + 1) 56 [vR 1 6 330, vI p0] (M, L) = (bI (C E d 48 [vR 1 6 330, vI p0] (M, L)) fun r1 s1 => (if r1 = 0 then some (some (vI (-1 : Int32)), s1) else (bI (C E d 49 [vR 1 6 330, vI p0] s1) fun r2 s2 => (if r2 = 0 then (bI (C E d 50 [vR 1 6 330, vI p0] s2) fun r3 s3 => (if r3 = 0 then some (some (vI (-12 : Int32)), s3) else some (some (vI (0 : Int32)), s3))) else some (some (vI (-11 : Int32)), s2))))) := by
  rw [C_of (q := me56) rfl rfl rfl rfl, X_go E d me56 [] 400]
  rfl
set_option maxRecDepth 100000 in
theorem x57 (E : Nat × (Nat → Int32)) (d : Nat) (p0 : Int32) (M : Nat → Nat → Int32) (L : Nat → Nat → Int64) : C E (d + 1) 57 [vR 1 6 330, vI p0] (M, L) = (bI (C E d 56 [vR 1 6 330, vI p0] (M, L)) fun r1 s1 => (if r1 = 0 then (if ib p0 6 then (if (s1.1 331 (ix p0)) = 0 then some (some (vI r1), s1) else some (some (vI (-12 : Int32)), s1)) else none) else some (some (vI r1), s1))) := by
  rw [C_of (q := me57) rfl rfl rfl rfl, X_go E d me57 [] 400]
  rfl
set_option maxRecDepth 100000 in
theorem x58 (E : Nat × (Nat → Int32)) (d : Nat) (p0 : Int32) (p1 : Int32) (M : Nat → Nat → Int32) (L : Nat → Nat → Int64) : C E (d + 1) 58 [vR 1 6 330, vI p0, vI p1] (M, L) = (bI (C E d 56 [vR 1 6 330, vI p0] (M, L)) fun r1 s1 => (if r1 = 0 then (if p1 < 0 then some (some (vI (-13 : Int32)), s1) else (bI (C E d 51 [vR 1 6 330, vI p0] s1) fun r2 s2 => (if p1 < r2 then some (some (vI r1), s2) else some (some (vI (-13 : Int32)), s2)))) else some (some (vI r1), s1))) := by
  rw [C_of (q := me58) rfl rfl rfl rfl, X_go E d me58 [] 400]
  rfl
set_option maxRecDepth 100000 in
theorem x59 (E : Nat × (Nat → Int32)) (d : Nat) (p0 : Int32) (p1 : Int32) (M : Nat → Nat → Int32) (L : Nat → Nat → Int64) : C E (d + 1) 59 [vR 1 6 330, vI p0, vI p1] (M, L) = (bI (C E d 48 [vR 1 6 330, vI p0] (M, L)) fun r1 s1 => (if r1 = 0 then some (some (vI (-1 : Int32)), s1) else (bI (C E d 48 [vR 1 6 330, vI p1] s1) fun r2 s2 => (if r2 = 0 then some (some (vI (-1 : Int32)), s2) else (bI (C E d 49 [vR 1 6 330, vI p0] s2) fun r3 s3 => (if r3 = 0 then (bI (C E d 49 [vR 1 6 330, vI p1] s3) fun r4 s4 => (if r4 = 0 then (bI (C E d 50 [vR 1 6 330, vI p0] s4) fun r5 s5 => (if r5 = 0 then some (some (vI (-12 : Int32)), s5) else (if ib p0 6 then (if ib p1 6 then (if (s5.1 331 (ix p0)) = (s5.1 331 (ix p1)) then some (some (vI (0 : Int32)), s5) else some (some (vI (-12 : Int32)), s5)) else none) else none))) else some (some (vI (-11 : Int32)), s4))) else some (some (vI (-11 : Int32)), s3))))))) := by
  rw [C_of (q := me59) rfl rfl rfl rfl, X_go E d me59 [] 400]
  rfl
set_option maxRecDepth 100000 in
theorem x60 (E : Nat × (Nat → Int32)) (d : Nat) (p0 : Int32) (p1 : Int32) (p2 : Int32) (M : Nat → Nat → Int32) (L : Nat → Nat → Int64) : C E (d + 1) 60 [vR 1 6 330, vI p0, vI p1, vI p2] (M, L) = (bI (C E d 50 [vR 1 6 330, vI p0] (M, L)) fun r1 s1 => (if r1 = 0 then some (some (vI (0 : Int32)), s1) else (if p1 < 0 then some (some (vI (0 : Int32)), s1) else (if p2 < 0 then some (some (vI (0 : Int32)), s1) else (bI (C E d 51 [vR 1 6 330, vI p0] s1) fun r2 s2 => (if r2 < p1 then some (some (vI (0 : Int32)), s2) else (bI (C E d 51 [vR 1 6 330, vI p0] s2) fun r3 s3 => (if (r3 - p1) < p2 then some (some (vI (0 : Int32)), s3) else some (some (vI (1 : Int32)), s3))))))))) := by
  rw [C_of (q := me60) rfl rfl rfl rfl, X_go E d me60 [] 400]
  rfl
set_option maxRecDepth 100000 in
theorem x61 (E : Nat × (Nat → Int32)) (d : Nat) (p0 : Int32) (p1 : Int32) (M : Nat → Nat → Int32) (L : Nat → Nat → Int64) : C E (d + 1) 61 [vR 1 6 330, vI p0, vI p1] (M, L) = (if p1 < 0 then some (some (vL (0 : Int64)), (M, L)) else (bI (C E d 51 [vR 1 6 330, vI p0] (M, L)) fun r1 s1 => (if r1 ≤ p1 then some (some (vL (0 : Int64)), s1) else (if (60 : Int32) ≤ p1 then some (some (vL (0 : Int64)), s1) else (if ib p0 6 then (if ib p1 60 then some (some (vL (s1.2 (334 + ix p0) (ix p1))), s1) else none) else none))))) := by
  rw [C_of (q := me61) rfl rfl rfl rfl, X_go E d me61 [] 400]
  rfl
set_option maxRecDepth 100000 in
theorem x62 (E : Nat × (Nat → Int32)) (d : Nat) (p0 : Int32) (p1 : Int32) (p2 : Int64) (M : Nat → Nat → Int32) (L : Nat → Nat → Int64) : C E (d + 1) 62 [vR 1 6 330, vI p0, vI p1, vL p2] (M, L) = (if p1 < 0 then some (none, (M, L)) else (bI (C E d 51 [vR 1 6 330, vI p0] (M, L)) fun r1 s1 => (if r1 ≤ p1 then some (none, s1) else (if (60 : Int32) ≤ p1 then some (none, s1) else (if ib p0 6 then (if ib p0 6 then (bL (C E d 63 [vI (s1.1 331 (ix p0)), vL p2] s1) fun r2 s2 => (if ib p1 60 then some (none, (s2.1, (u2L s2.2 (334 + ix p0) (ix p1) r2))) else none)) else none) else none))))) := by
  rw [C_of (q := me62) rfl rfl rfl rfl, X_go E d me62 [] 400]
  rfl
set_option maxRecDepth 100000 in
theorem x63 (E : Nat × (Nat → Int32)) (d : Nat) (p0 : Int32) (p1 : Int64) (M : Nat → Nat → Int32) (L : Nat → Nat → Int64) : C E (d + 1) 63 [vI p0, vL p1] (M, L) = (if p0 = (0 : Int32) then some (some (vL (Int32.toInt64 (Int8.toInt32 (Int32.toInt8 (Int64.toInt32 p1))))), (M, L)) else (if p0 = (1 : Int32) then some (some (vL (Int32.toInt64 (Int16.toInt32 (Int32.toInt16 (Int64.toInt32 p1))))), (M, L)) else (if p0 = (2 : Int32) then some (some (vL (Int32.toInt64 (Int64.toInt32 p1))), (M, L)) else (if p0 = (3 : Int32) then some (some (vL p1), (M, L)) else (if p0 = (4 : Int32) then (if (lg_cmp p1 (0 : Int64)) = 0 then some (some (vL (0 : Int64)), (M, L)) else some (some (vL (1 : Int64)), (M, L))) else some (some (vL p1), (M, L))))))) := by
  rw [C_of (q := me63) rfl rfl rfl rfl, X_go E d me63 [] 400]
  rfl
set_option maxRecDepth 100000 in
theorem x64 (E : Nat × (Nat → Int32)) (d : Nat) (p0 : Int32) (p1 : Int32) (p2 : Int32) (p3 : Int32) (p4 : Int32) (M : Nat → Nat → Int32) (L : Nat → Nat → Int64) : C E (d + 1) 64 [vR 1 6 330, vI p0, vI p1, vI p2, vI p3, vI p4] (M, L) = (bI (C E d 60 [vR 1 6 330, vI p0, vI p1, vI p4] (M, L)) fun r1 s1 => (if r1 = 0 then some (none, s1) else (bI (C E d 60 [vR 1 6 330, vI p2, vI p3, vI p4] s1) fun r2 s2 => (if r2 = 0 then some (none, s2) else (if ib p0 6 then (if ib p2 6 then (bV (C E d 999 [vR 3 60 (334 + ix p0), vI p1, vR 3 60 (334 + ix p2), vI p3, vI p4] s2) fun s3 => some (none, s3)) else none) else none))))) := by
  rw [C_of (q := me64) rfl rfl rfl rfl, X_go E d me64 [] 400]
  rfl
set_option maxRecDepth 100000 in
theorem x65 (E : Nat × (Nat → Int32)) (d : Nat) (p0 : Int32) (M : Nat → Nat → Int32) (L : Nat → Nat → Int64) : C E (d + 1) 65 [vR 1 7 70, vI p0] (M, L) = (if (M 70 3) < (120 : Int32) then (if ib (M 70 3) 120 then some (some (vI ((u2 (u2 M 70 3 ((M 70 3) + (1 : Int32))) 71 (ix (M 70 3)) p0) 70 3)), ((u2 (u2 M 70 3 ((M 70 3) + (1 : Int32))) 71 (ix (M 70 3)) p0), L)) else none) else some (some (vI (-3 : Int32)), (M, L))) := by
  rw [C_of (q := me65) rfl rfl rfl rfl, X_go E d me65 [] 400]
  rfl
set_option maxRecDepth 100000 in
theorem x66 (E : Nat × (Nat → Int32)) (d : Nat)  (M : Nat → Nat → Int32) (L : Nat → Nat → Int64) : C E (d + 1) 66 [vR 1 7 70] (M, L) = some (none, ((u2 M 70 3 (0 : Int32)), L)) := by
  rw [C_of (q := me66) rfl rfl rfl rfl, X_go E d me66 [] 400]
  rfl
set_option maxRecDepth 100000 in
theorem x67 (E : Nat × (Nat → Int32)) (d : Nat)  (M : Nat → Nat → Int32) (L : Nat → Nat → Int64) : C E (d + 1) 67 [vR 1 7 70] (M, L) = (bV (C E d 70 [vR 1 7 70] ((u2 (u2 (u2 M 70 5 (0 : Int32)) 70 4 (0 : Int32)) 70 6 (-1 : Int32)), L)) fun s1 => X E d me67 21 [some (vR 1 7 70), some (vI (0 : Int32))] [] s1) := by
  rw [C_of (q := me67) rfl rfl rfl rfl, X_go E d me67 [21] 400]
  rfl
set_option maxRecDepth 100000 in
theorem x67_21 (E : Nat × (Nat → Int32)) (d : Nat) (x1 : Int32) (M : Nat → Nat → Int32) (L : Nat → Nat → Int64) : X E d me67 21 [some (vR 1 7 70), some (vI x1)] [] (M, L) = (if (120 : Int32) ≤ x1 then (if 0 ≤ (M 70 6) then some (some (vI (M 70 6)), (M, L)) else (if (M 70 3) ≤ (M 70 5) then some (some (vI (M 70 6)), (M, L)) else some (some (vI ((u2 M 70 6 (M 70 5)) 70 6)), ((u2 M 70 6 (M 70 5)), L)))) else (if 0 ≤ (M 70 6) then (if 0 ≤ (M 70 6) then some (some (vI (M 70 6)), (M, L)) else (if (M 70 3) ≤ (M 70 5) then some (some (vI (M 70 6)), (M, L)) else some (some (vI ((u2 M 70 6 (M 70 5)) 70 6)), ((u2 M 70 6 (M 70 5)), L)))) else (bI (C E d 68 [vR 1 7 70] (M, L)) fun r2 s2 => (if r2 = (59 : Int32) then (bV (C E d 70 [vR 1 7 70] ((u2 s2.1 70 5 ((s2.1 70 5) + (1 : Int32))), s2.2)) fun s3 => X E d me67 21 [some (vR 1 7 70), some (vI (x1 + (1 : Int32)))] [] s3) else (if 0 ≤ (s2.1 70 6) then some (some (vI (s2.1 70 6)), s2) else (if (s2.1 70 3) ≤ (s2.1 70 5) then some (some (vI (s2.1 70 6)), s2) else some (some (vI ((u2 s2.1 70 6 (s2.1 70 5)) 70 6)), ((u2 s2.1 70 6 (s2.1 70 5)), s2.2)))))))) := by
  rw [X_go E d me67 [21] 400]
  rfl
set_option maxRecDepth 100000 in
theorem x68 (E : Nat × (Nat → Int32)) (d : Nat)  (M : Nat → Nat → Int32) (L : Nat → Nat → Int64) : C E (d + 1) 68 [vR 1 7 70] (M, L) = (if (M 70 5) < 0 then some (some (vI (-1 : Int32)), (M, L)) else (if (M 70 3) ≤ (M 70 5) then some (some (vI (-1 : Int32)), (M, L)) else (if (120 : Int32) ≤ (M 70 5) then some (some (vI (-1 : Int32)), (M, L)) else (if ib (M 70 5) 120 then some (some (vI (M 71 (ix (M 70 5)))), (M, L)) else none)))) := by
  rw [C_of (q := me68) rfl rfl rfl rfl, X_go E d me68 [] 400]
  rfl
set_option maxRecDepth 100000 in
theorem x69 (E : Nat × (Nat → Int32)) (d : Nat) (p0 : Int32) (p1 : Int32) (M : Nat → Nat → Int32) (L : Nat → Nat → Int64) : C E (d + 1) 69 [vR 1 7 70, vI p0, vI p1] (M, L) = (if (128 : Int32) ≤ (M 70 4) then some (none, (M, L)) else (if ib (M 70 4) 128 then (if ib ((u2 M 72 (ix (M 70 4)) p0) 70 4) 128 then some (none, ((u2 (u2 (u2 M 72 (ix (M 70 4)) p0) 73 (ix ((u2 M 72 (ix (M 70 4)) p0) 70 4)) p1) 70 4 (((u2 (u2 M 72 (ix (M 70 4)) p0) 73 (ix ((u2 M 72 (ix (M 70 4)) p0) 70 4)) p1) 70 4) + (1 : Int32))), L)) else none) else none)) := by
  rw [C_of (q := me69) rfl rfl rfl rfl, X_go E d me69 [] 400]
  rfl
