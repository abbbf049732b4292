/-! printed by wip/whole/sym.py: what each method does, as a tree; closed by rfl -/
set_option maxRecDepth 100000 in
theorem x102 (E : Nat × (Nat → Int32)) (d : Nat) (p0 : Int32) (p1 : Int32) (M : Nat → Nat → Int32) (L : Nat → Nat → Int64) : C E (d + 1) 102 [vR 1 11 10, vI p0, vI p1] (M, L) = (bI (C E d 146 [vI p0] (M, L)) fun r1 s1 => (if r1 = 0 then some (some (vI (-1 : Int32)), s1) else (bI (C E d 20 [vR 1 2 40, vI (0 : Int32), vI p1] s1) fun r2 s2 => (if r2 = 0 then some (some (vI (-1 : Int32)), s2) else (bI (C E d 17 [vR 1 2 40, vI (p0 / (10 : Int32)), vI (rm32 p0 (10 : Int32)), vI p1] s2) fun r3 s3 => some (some (vI r3), s3)))))) := by
  rw [C_of (q := me102) rfl rfl rfl rfl, X_go E d me102 [] 400]
  rfl
set_option maxRecDepth 100000 in
theorem x103 (E : Nat × (Nat → Int32)) (d : Nat) (p0 : Int32) (p1 : Int32) (M : Nat → Nat → Int32) (L : Nat → Nat → Int64) : C E (d + 1) 103 [vR 1 11 10, vI p0, vI p1] (M, L) = (bI (C E d 20 [vR 1 2 40, vI (4 : Int32), vI p0] (M, L)) fun r1 s1 => (if r1 = 0 then some (some (vI (-1 : Int32)), s1) else (bI (C E d 20 [vR 1 2 40, vI (5 : Int32), vI p1] s1) fun r2 s2 => (if r2 = 0 then some (some (vI (-1 : Int32)), s2) else (bI (C E d 18 [vR 1 2 40, vI (0 : Int32), vI p0, vI p1, vI (-1 : Int32)] s2) fun r3 s3 => some (some (vI r3), s3)))))) := by
  rw [C_of (q := me103) rfl rfl rfl rfl, X_go E d me103 [] 400]
  rfl
set_option maxRecDepth 100000 in
theorem x104 (E : Nat × (Nat → Int32)) (d : Nat) (p0 : Int32) (p1 : Int32) (p2 : Int32) (M : Nat → Nat → Int32) (L : Nat → Nat → Int64) : C E (d + 1) 104 [vR 1 11 10, vI p0, vI p1, vI p2] (M, L) = (bI (C E d 48 [vR 1 6 330, vI p0] (M, L)) fun r1 s1 => (if r1 = 0 then some (some (vI (-1 : Int32)), s1) else (bI (C E d 145 [vI p2, vI (1 : Int32), vI (9 : Int32)] s1) fun r2 s2 => (if r2 = 0 then some (some (vI (-1 : Int32)), s2) else (bI (C E d 57 [vR 1 6 330, vI p0] s2) fun r3 s3 => (if r3 = 0 then X E d me104 59 [some (vR 1 11 10), some (vI p0), some (vI p1), some (vI p2), some (vI r3), some (vI (0 : Int32)), some (vL (Int32.toInt64 p1)), none] [] s3 else (if r3 = (-11 : Int32) then some (some (vI (0 : Int32)), s3) else some (some (vI r3), s3)))))))) := by
  rw [C_of (q := me104) rfl rfl rfl rfl, X_go E d me104 [59] 400]
  rfl
set_option maxRecDepth 100000 in
theorem x104_59 (E : Nat × (Nat → Int32)) (d : Nat) (x1 : Int32) (x2 : Int32) (x3 : Int32) (x4 : Int32) (x5 : Int32) (x6 : Int64) (M : Nat → Nat → Int32) (L : Nat → Nat → Int64) : X E d me104 59 [some (vR 1 11 10), some (vI x1), some (vI x2), some (vI x3), some (vI x4), some (vI x5), some (vL x6), none] [] (M, L) = (if x3 ≤ x5 then some (some (vI x5), (M, L)) else (if (lg_cmp x6 (0 : Int64)) < 0 then some (some (vI x5), (M, L)) else (bI (C E d 51 [vR 1 6 330, vI x1] (M, L)) fun r4 s4 => (if 0 < (lg_cmp (x6 + (4 : Int64)) (Int32.toInt64 r4)) then some (some (vI x5), s4) else (bI (C E d 105 [vR 1 11 10, vI x1, vI (Int64.toInt32 x6)] s4) fun r5 s5 => (if r5 = 0 then some (some (vI x5), s5) else X E d me104 59 [some (vR 1 11 10), some (vI x1), some (vI x2), some (vI x3), some (vI x4), some (vI (x5 + (1 : Int32))), some (vL (x6 + (4 : Int64))), none] [] s5)))))) := by
  rw [X_go E d me104 [59] 400]
  rfl
set_option maxRecDepth 100000 in
theorem x105 (E : Nat × (Nat → Int32)) (d : Nat) (p0 : Int32) (p1 : Int32) (M : Nat → Nat → Int32) (L : Nat → Nat → Int64) : C E (d + 1) 105 [vR 1 11 10, vI p0, vI p1] (M, L) = (bL (C E d 61 [vR 1 6 330, vI p0, vI p1] (M, L)) fun r1 s1 => (bL (C E d 61 [vR 1 6 330, vI p0, vI (p1 + (1 : Int32))] s1) fun r2 s2 => (bL (C E d 61 [vR 1 6 330, vI p0, vI (p1 + (2 : Int32))] s2) fun r3 s3 => (bL (C E d 61 [vR 1 6 330, vI p0, vI (p1 + (3 : Int32))] s3) fun r4 s4 => (bI (C E d 20 [vR 1 2 40, vI (3 : Int32), vI (Int64.toInt32 r1)] s4) fun r5 s5 => (if r5 = 0 then some (some (vI (0 : Int32)), s5) else (bI (C E d 20 [vR 1 2 40, vI (4 : Int32), vI (Int64.toInt32 r2)] s5) fun r6 s6 => (if r6 = 0 then some (some (vI (0 : Int32)), s6) else (bI (C E d 20 [vR 1 2 40, vI (5 : Int32), vI (Int64.toInt32 r3)] s6) fun r7 s7 => (if r7 = 0 then some (some (vI (0 : Int32)), s7) else (bI (C E d 20 [vR 1 2 40, vI (6 : Int32), vI (Int64.toInt32 r4)] s7) fun r8 s8 => (if r8 = 0 then some (some (vI (0 : Int32)), s8) else (bI (C E d 18 [vR 1 2 40, vI (Int64.toInt32 r1), vI (Int64.toInt32 r2), vI (Int64.toInt32 r3), vI (Int64.toInt32 r4)] s8) fun r9 s9 => (if r9 < 0 then some (some (vI (0 : Int32)), s9) else some (some (vI (1 : Int32)), s9))))))))))))))) := by
  rw [C_of (q := me105) rfl rfl rfl rfl, X_go E d me105 [] 400]
  rfl
set_option maxRecDepth 100000 in
theorem x106 (E : Nat × (Nat → Int32)) (d : Nat) (p0 : Int32) (p1 : Int32) (p2 : Int32) (M : Nat → Nat → Int32) (L : Nat → Nat → Int64) : C E (d + 1) 106 [vR 1 11 10, vI p0, vI p1, vI p2] (M, L) = (bI (C E d 145 [vI p1, vI (0 : Int32), vI (8 : Int32)] (M, L)) fun r1 s1 => (if r1 = 0 then some (some (vI (-2000000000 : Int32)), s1) else (bI (C E d 19 [vR 1 2 40, vI p0, vI p1] s1) fun r2 s2 => (if r2 = 0 then some (some (vI (-2000000000 : Int32)), s2) else (bI (C E d 20 [vR 1 2 40, vI p1, vI p2] s2) fun r3 s3 => (if r3 = 0 then some (some (vI (-2000000000 : Int32)), s3) else (bI (C E d 22 [vR 1 2 40, vI p0, vI p1] s3) fun r4 s4 => (if r4 = p2 then some (some (vI r4), s4) else (bV (C E d 11 [vR 1 1 260, vI p0, vI p1, vI r4, vI p2] s4) fun s5 => (bV (C E d 23 [vR 1 2 40, vI p0, vI p1, vI p2] s5) fun s6 => some (some (vI r4), s6))))))))))) := by
  rw [C_of (q := me106) rfl rfl rfl rfl, X_go E d me106 [] 400]
  rfl
set_option maxRecDepth 100000 in
theorem x107 (E : Nat × (Nat → Int32)) (d : Nat) (p0 : Int32) (p1 : Int32) (M : Nat → Nat → Int32) (L : Nat → Nat → Int64) : C E (d + 1) 107 [vR 1 11 10, vI p0, vI p1] (M, L) = (bI (C E d 19 [vR 1 2 40, vI p0, vI p1] (M, L)) fun r1 s1 => (if r1 = 0 then some (some (vI (-2000000000 : Int32)), s1) else (bI (C E d 22 [vR 1 2 40, vI p0, vI p1] s1) fun r2 s2 => some (some (vI r2), s2)))) := by
  rw [C_of (q := me107) rfl rfl rfl rfl, X_go E d me107 [] 400]
  rfl
set_option maxRecDepth 100000 in
theorem x108 (E : Nat × (Nat → Int32)) (d : Nat) (p0 : Int32) (M : Nat → Nat → Int32) (L : Nat → Nat → Int64) : C E (d + 1) 108 [vR 1 11 10, vI p0] (M, L) = (bI (C E d 145 [vI p0, vI (0 : Int32), vI (255 : Int32)] (M, L)) fun r1 s1 => (if r1 = 0 then some (some (vI (-1 : Int32)), s1) else (bI (C E d 65 [vR 1 7 70, vI p0] s1) fun r2 s2 => some (some (vI r2), s2)))) := by
  rw [C_of (q := me108) rfl rfl rfl rfl, X_go E d me108 [] 400]
  rfl
set_option maxRecDepth 100000 in
theorem x109 (E : Nat × (Nat → Int32)) (d : Nat)  (M : Nat → Nat → Int32) (L : Nat → Nat → Int64) : C E (d + 1) 109 [vR 1 11 10] (M, L) = (bI (C E d 67 [vR 1 7 70] (M, L)) fun r1 s1 => (if 0 ≤ r1 then (bV (C E d 66 [vR 1 7 70] s1) fun s2 => (if 0 ≤ r1 then some (some (vI ((-100 : Int32) - r1)), s2) else some (some (vI (1 : Int32)), s2))) else (bV (C E d 35 [vR 1 3 90, vR 1 7 70] s1) fun s3 => (bV (C E d 66 [vR 1 7 70] s3) fun s4 => (if 0 ≤ r1 then some (some (vI ((-100 : Int32) - r1)), s4) else some (some (vI (1 : Int32)), s4)))))) := by
  rw [C_of (q := me109) rfl rfl rfl rfl, X_go E d me109 [] 400]
  rfl
set_option maxRecDepth 100000 in
theorem x110 (E : Nat × (Nat → Int32)) (d : Nat) (p0 : Int32) (M : Nat → Nat → Int32) (L : Nat → Nat → Int64) : C E (d + 1) 110 [vR 1 11 10, vI p0] (M, L) = (bI (C E d 15 [vR 1 2 40, vI p0] (M, L)) fun r1 s1 => (if r1 = 0 then some (some (vI (-1 : Int32)), s1) else (bV (C E d 26 [vR 1 2 40] s1) fun s2 => (bI (C E d 36 [vR 1 3 90, vR 1 2 40, vI p0] s2) fun r3 s3 => some (some (vI r3), s3))))) := by
  rw [C_of (q := me110) rfl rfl rfl rfl, X_go E d me110 [] 400]
  rfl
set_option maxRecDepth 100000 in
theorem x111 (E : Nat × (Nat → Int32)) (d : Nat) (p0 : Int32) (p1 : Int32) (p2 : Int32) (M : Nat → Nat → Int32) (L : Nat → Nat → Int64) : C E (d + 1) 111 [vR 1 11 10, vI p0, vI p1, vI p2] (M, L) = (bI (C E d 145 [vI p0, vI (0 : Int32), vI (60 : Int32)] (M, L)) fun r1 s1 => (if r1 = 0 then some (some (vI (-1 : Int32)), s1) else (if p2 = 0 then (bI (C E d 15 [vR 1 2 40, vI p1] s1) fun r2 s2 => (if r2 = 0 then (if p2 = (1 : Int32) then (bI (C E d 16 [vR 1 2 40, vI p1] s2) fun r3 s3 => (if r3 = 0 then some (some (vI (-1 : Int32)), s3) else (bI (C E d 83 [vR 1 8 110, vI p1, vI p0] s3) fun r4 s4 => some (some (vI r4), s4)))) else some (some (vI (-1 : Int32)), s2)) else (bI (C E d 79 [vR 1 8 110, vR 1 2 40, vI p1, vI p0] s2) fun r5 s5 => some (some (vI r5), s5)))) else (if p2 = (1 : Int32) then (bI (C E d 16 [vR 1 2 40, vI p1] s1) fun r6 s6 => (if r6 = 0 then some (some (vI (-1 : Int32)), s6) else (bI (C E d 83 [vR 1 8 110, vI p1, vI p0] s6) fun r7 s7 => some (some (vI r7), s7)))) else some (some (vI (-1 : Int32)), s1))))) := by
  rw [C_of (q := me111) rfl rfl rfl rfl, X_go E d me111 [] 400]
  rfl
set_option maxRecDepth 100000 in
theorem x112 (E : Nat × (Nat → Int32)) (d : Nat) (p0 : Int32) (p1 : Int32) (M : Nat → Nat → Int32) (L : Nat → Nat → Int64) : C E (d + 1) 112 [vR 1 11 10, vI p0, vI p1] (M, L) = (bI (C E d 145 [vI p0, vI (0 : Int32), vI (60 : Int32)] (M, L)) fun r1 s1 => (if r1 = 0 then some (some (vI (-1 : Int32)), s1) else (bI (C E d 145 [vI p1, vI (0 : Int32), vI (2 : Int32)] s1) fun r2 s2 => (if r2 = 0 then some (some (vI (-1 : Int32)), s2) else (bR (C E d 78 [vR 1 8 110, vI p0] s2) fun k1 n1 a1 s3 => X E d me112 29 [some (vR 1 11 10), some (vI p0), some (vI p1), none] [vR k1 n1 a1] s3))))) := by
  rw [C_of (q := me112) rfl rfl rfl rfl, X_go E d me112 [29] 400]
  rfl
set_option maxRecDepth 100000 in
theorem x112_29c (E : Nat × (Nat → Int32)) (d : Nat) (p0 : Int32) (p1 : Int32) (o1 : Nat) (M : Nat → Nat → Int32) (L : Nat → Nat → Int64) : X E d me112 29 [some (vR 1 11 10), some (vI p0), some (vI p1), none] [vR 1 2 o1] (M, L) = (if p1 = 0 then (bI (C E d 30 [vR 1 2 o1] (M, L)) fun r4 s4 => some (some (vI r4), s4)) else (if p1 = (1 : Int32) then (bI (C E d 31 [vR 1 2 o1] (M, L)) fun r5 s5 => some (some (vI r5), s5)) else (bI (C E d 32 [vR 1 2 o1] (M, L)) fun r6 s6 => some (some (vI r6), s6)))) := by
  rw [X_go E d me112 [29] 400]
  rfl
set_option maxRecDepth 100000 in
theorem x113 (E : Nat × (Nat → Int32)) (d : Nat) (p0 : Int32) (M : Nat → Nat → Int32) (L : Nat → Nat → Int64) : C E (d + 1) 113 [vR 1 11 10, vI p0] (M, L) = (if p0 = (-1 : Int32) then (bI (C E d 82 [vR 1 8 110] (M, L)) fun r1 s1 => some (some (vI r1), s1)) else (bI (C E d 15 [vR 1 2 40, vI p0] (M, L)) fun r2 s2 => (if r2 = 0 then some (some (vI (-1 : Int32)), s2) else (bI (C E d 80 [vR 1 8 110, vR 1 2 40, vI p0] s2) fun r3 s3 => some (some (vI r3), s3))))) := by
  rw [C_of (q := me113) rfl rfl rfl rfl, X_go E d me113 [] 400]
  rfl
set_option maxRecDepth 100000 in
theorem x114 (E : Nat × (Nat → Int32)) (d : Nat) (p0 : Int32) (M : Nat → Nat → Int32) (L : Nat → Nat → Int64) : C E (d + 1) 114 [vR 1 11 10, vI p0] (M, L) = (bI (C E d 16 [vR 1 2 40, vI p0] (M, L)) fun r1 s1 => (if r1 = 0 then some (some (vI (-1 : Int32)), s1) else (bI (C E d 84 [vR 1 8 110, vI p0] s1) fun r2 s2 => some (some (vI r2), s2)))) := by
  rw [C_of (q := me114) rfl rfl rfl rfl, X_go E d me114 [] 400]
  rfl
set_option maxRecDepth 100000 in
theorem x115 (E : Nat × (Nat → Int32)) (d : Nat) (p0 : Int32) (M : Nat → Nat → Int32) (L : Nat → Nat → Int64) : C E (d + 1) 115 [vR 1 11 10, vI p0] (M, L) = (bI (C E d 15 [vR 1 2 40, vI p0] (M, L)) fun r1 s1 => (if r1 = 0 then some (some (vI (-1 : Int32)), s1) else (bI (C E d 85 [vR 1 8 110, vI p0] s1) fun r2 s2 => some (some (vI r2), s2)))) := by
  rw [C_of (q := me115) rfl rfl rfl rfl, X_go E d me115 [] 400]
  rfl
set_option maxRecDepth 100000 in
theorem x116 (E : Nat × (Nat → Int32)) (d : Nat) (p0 : Int32) (p1 : Int32) (M : Nat → Nat → Int32) (L : Nat → Nat → Int64) : C E (d + 1) 116 [vR 1 11 10, vI p0, vI p1] (M, L) = (bI (C E d 145 [vI p0, vI (0 : Int32), vI (20 : Int32)] (M, L)) fun r1 s1 => (if r1 = 0 then some (some (vI (-1 : Int32)), s1) else (bI (C E d 145 [vI p1, vI (0 : Int32), vI (2 : Int32)] s1) fun r2 s2 => (if r2 = 0 then some (some (vI (-1 : Int32)), s2) else (bV (C E d 86 [vR 1 8 110, vI p0] s2) fun s3 => X E d me116 31 [some (vR 1 11 10), some (vI p0), some (vI p1), some (vI (0 : Int32))] [] s3))))) := by
  rw [C_of (q := me116) rfl rfl rfl rfl, X_go E d me116 [31] 400]
  rfl
set_option maxRecDepth 100000 in
theorem x116_31 (E : Nat × (Nat → Int32)) (d : Nat) (x1 : Int32) (x2 : Int32) (x3 : Int32) (M : Nat → Nat → Int32) (L : Nat → Nat → Int64) : X E d me116 31 [some (vR 1 11 10), some (vI x1), some (vI x2), some (vI x3)] [] (M, L) = (if (M 40 12) ≤ x3 then (if x2 = (2 : Int32) then some (some (vI (M 110 7)), (M, L)) else (if x2 = 0 then some (some (vI ((M 110 6) / (1000 : Int32))), (M, L)) else some (some (vI (rm32 (M 110 6) (1000 : Int32))), (M, L)))) else (bV (C E d 87 [vR 1 8 110, vI x3, vI x1] (M, L)) fun s4 => X E d me116 31 [some (vR 1 11 10), some (vI x1), some (vI x2), some (vI (x3 + (1 : Int32)))] [] s4)) := by
  rw [X_go E d me116 [31] 400]
  rfl
set_option maxRecDepth 100000 in
theorem x117 (E : Nat × (Nat → Int32)) (d : Nat) (p0 : Int32) (M : Nat → Nat → Int32) (L : Nat → Nat → Int64) : C E (d + 1) 117 [vR 1 11 10, vI p0] (M, L) = (if p0 = (-1 : Int32) then (bV (C E d 43 [vR 1 5 240] (M, L)) fun s1 => (if p0 = (-1 : Int32) then (bI (C E d 44 [vR 1 5 240, vI (0 : Int32), vI (0 : Int32)] s1) fun r2 s2 => some (some (vI r2), s2)) else (bI (C E d 46 [vR 1 5 240, vI p0] s1) fun r3 s3 => some (some (vI r3), s3)))) else (bI (C E d 15 [vR 1 2 40, vI p0] (M, L)) fun r4 s4 => (if r4 = 0 then some (some (vI (-1 : Int32)), s4) else (bV (C E d 43 [vR 1 5 240] s4) fun s5 => (if p0 = (-1 : Int32) then (bI (C E d 44 [vR 1 5 240, vI (0 : Int32), vI (0 : Int32)] s5) fun r6 s6 => some (some (vI r6), s6)) else (bI (C E d 46 [vR 1 5 240, vI p0] s5) fun r7 s7 => some (some (vI r7), s7))))))) := by
  rw [C_of (q := me117) rfl rfl rfl rfl, X_go E d me117 [] 400]
  rfl
set_option maxRecDepth 100000 in
theorem x118 (E : Nat × (Nat → Int32)) (d : Nat) (p0 : Int32) (p1 : Int32) (M : Nat → Nat → Int32) (L : Nat → Nat → Int64) : C E (d + 1) 118 [vR 1 11 10, vI p0, vI p1] (M, L) = (bI (C E d 146 [vI p0] (M, L)) fun r1 s1 => (if r1 = 0 then some (some (vI (-1 : Int32)), s1) else (bI (C E d 145 [vI p1, vI (0 : Int32), vI (3 : Int32)] s1) fun r2 s2 => (if r2 = 0 then some (some (vI (-1 : Int32)), s2) else (if (2 : Int32) ≤ p1 then (bI (C E d 100 [vR 1 10 250, vI (p0 / (10 : Int32)), vI (rm32 p0 (10 : Int32))] s2) fun r3 s3 => (if p1 = (2 : Int32) then (bI (C E d 250 [vI r3] s3) fun r4 s4 => some (some (vI r4), s4)) else some (some (vI r3), s3))) else (bI (C E d 97 [vR 1 10 250, vI (p0 / (10 : Int32)), vI (rm32 p0 (10 : Int32))] s2) fun r5 s5 => (if 0 ≤ r5 then (if p1 = 0 then some (some (vI (r5 / (100 : Int32))), s5) else some (some (vI (rm32 r5 (100 : Int32))), s5)) else some (some (vI (-2 : Int32)), s5)))))))) := by
  rw [C_of (q := me118) rfl rfl rfl rfl, X_go E d me118 [] 400]
  rfl
set_option maxRecDepth 100000 in
theorem x119 (E : Nat × (Nat → Int32)) (d : Nat)  (M : Nat → Nat → Int32) (L : Nat → Nat → Int64) : C E (d + 1) 119 [vR 1 11 10] (M, L) = (bI (C E d 101 [vR 1 10 250] (M, L)) fun r1 s1 => some (some (vI r1), s1)) := by
  rw [C_of (q := me119) rfl rfl rfl rfl, X_go E d me119 [] 400]
  rfl
set_option maxRecDepth 100000 in
theorem x120 (E : Nat × (Nat → Int32)) (d : Nat) (p0 : Int32) (p1 : Int32) (M : Nat → Nat → Int32) (L : Nat → Nat → Int64) : C E (d + 1) 120 [vR 1 11 10, vI p0, vI p1] (M, L) = (bI (C E d 48 [vR 1 6 330, vI p0] (M, L)) fun r1 s1 => (if r1 = 0 then some (some (vI (-1 : Int32)), s1) else (bI (C E d 15 [vR 1 2 40, vI p1] s1) fun r2 s2 => (if r2 = 0 then some (some (vI (-1 : Int32)), s2) else (bI (C E d 57 [vR 1 6 330, vI p0] s2) fun r3 s3 => (if r3 = 0 then (bI (C E d 90 [vR 1 8 110, vR 1 2 40, vI p1, vR 1 6 330, vI p0] s3) fun r4 s4 => some (some (vI r4), s4)) else some (some (vI r3), s3))))))) := by
  rw [C_of (q := me120) rfl rfl rfl rfl, X_go E d me120 [] 400]
  rfl
set_option maxRecDepth 100000 in
theorem x121 (E : Nat × (Nat → Int32)) (d : Nat) (p0 : Int32) (p1 : Int32) (p2 : Int32) (p3 : Int32) (M : Nat → Nat → Int32) (L : Nat → Nat → Int64) : C E (d + 1) 121 [vR 1 11 10, vI p0, vI p1, vI p2, vI p3] (M, L) = (bI (C E d 48 [vR 1 6 330, vI p0] (M, L)) fun r1 s1 => (if r1 = 0 then some (some (vI (-1 : Int32)), s1) else (bI (C E d 15 [vR 1 2 40, vI p1] s1) fun r2 s2 => (if r2 = 0 then some (some (vI (-1 : Int32)), s2) else (bI (C E d 145 [vI p3, vI (0 : Int32), vI (3 : Int32)] s2) fun r3 s3 => (if r3 = 0 then some (some (vI (-1 : Int32)), s3) else (if (2 : Int32) ≤ p3 then (bI (C E d 15 [vR 1 2 40, vI p2] s3) fun r4 s4 => (if r4 = 0 then some (some (vI (-1 : Int32)), s4) else (bI (C E d 57 [vR 1 6 330, vI p0] s4) fun r5 s5 => (if r5 = 0 then (bV (C E d 91 [vR 1 8 110, vI p2, vI (2 : Int32), vI p1, vR 1 6 330, vI p0] s5) fun s6 => (if (rm32 p3 (2 : Int32)) = 0 then some (some (vI (s6.1 110 8)), s6) else some (some (vI (s6.1 110 9)), s6))) else some (some (vI r5), s5))))) else (bI (C E d 16 [vR 1 2 40, vI p2] s3) fun r7 s7 => (if r7 = 0 then some (some (vI (-1 : Int32)), s7) else (bI (C E d 57 [vR 1 6 330, vI p0] s7) fun r8 s8 => (if r8 = 0 then (bV (C E d 91 [vR 1 8 110, vI p2, vI (3 : Int32), vI p1, vR 1 6 330, vI p0] s8) fun s9 => (if (rm32 p3 (2 : Int32)) = 0 then some (some (vI (s9.1 110 8)), s9) else some (some (vI (s9.1 110 9)), s9))) else some (some (vI r8), s8)))))))))))) := by
  rw [C_of (q := me121) rfl rfl rfl rfl, X_go E d me121 [] 400]
  rfl
set_option maxRecDepth 100000 in
theorem x122 (E : Nat × (Nat → Int32)) (d : Nat) (p0 : Int32) (p1 : Int32) (M : Nat → Nat → Int32) (L : Nat → Nat → Int64) : C E (d + 1) 122 [vR 1 11 10, vI p0, vI p1] (M, L) = (bI (C E d 16 [vR 1 2 40, vI p0] (M, L)) fun r1 s1 => (if r1 = 0 then some (some (vI (-1 : Int32)), s1) else (bI (C E d 145 [vI p1, vI (0 : Int32), vI (9999 : Int32)] s1) fun r2 s2 => (if r2 = 0 then some (some (vI (-1 : Int32)), s2) else X E d me122 29 [some (vR 1 11 10), some (vI p0), some (vI p1), some (vI (0 : Int32)), some (vI (0 : Int32))] [] s2)))) := by
  rw [C_of (q := me122) rfl rfl rfl rfl, X_go E d me122 [29] 400]
  rfl
set_option maxRecDepth 100000 in
theorem x122_29 (E : Nat × (Nat → Int32)) (d : Nat) (x1 : Int32) (x2 : Int32) (x3 : Int32) (x4 : Int32) (M : Nat → Nat → Int32) (L : Nat → Nat → Int64) : X E d me122 29 [some (vR 1 11 10), some (vI x1), some (vI x2), some (vI x3), some (vI x4)] [] (M, L) = (if (M 40 12) ≤ x4 then (if 0 < x3 then (bI (C E d 33 [vR 1 2 40, vI x1] (M, L)) fun r3 s3 => (if x3 = 0 then none else some (some (vI ((x2 * r3) / x3)), s3))) else some (some (vI (0 : Int32)), (M, L))) else (bI (C E d 33 [vR 1 2 40, vI x4] (M, L)) fun r4 s4 => X E d me122 29 [some (vR 1 11 10), some (vI x1), some (vI x2), some (vI (x3 + r4)), some (vI (x4 + (1 : Int32)))] [] s4)) := by
  rw [X_go E d me122 [29] 400]
  rfl
set_option maxRecDepth 100000 in
theorem x123 (E : Nat × (Nat → Int32)) (d : Nat) (p0 : Int32) (M : Nat → Nat → Int32) (L : Nat → Nat → Int64) : C E (d + 1) 123 [vR 1 11 10, vI p0] (M, L) = (bI (C E d 145 [vI p0, vI (0 : Int32), vI (7 : Int32)] (M, L)) fun r1 s1 => (if r1 = 0 then some (some (vI (-1 : Int32)), s1) else (bI (C E d 34 [vR 1 2 40, vI p0] s1) fun r2 s2 => some (some (vI r2), s2)))) := by
  rw [C_of (q := me123) rfl rfl rfl rfl, X_go E d me123 [] 400]
  rfl
set_option maxRecDepth 100000 in
theorem x124 (E : Nat × (Nat → Int32)) (d : Nat) (p0 : Int32) (p1 : Int32) (p2 : Int32) (M : Nat → Nat → Int32) (L : Nat → Nat → Int64) : C E (d + 1) 124 [vR 1 11 10, vI p0, vI p1, vI p2] (M, L) = (bI (C E d 145 [vI (p1 / (100 : Int32)), vI (1 : Int32), vI (3 : Int32)] (M, L)) fun r1 s1 => (if r1 = 0 then some (some (vI (-1 : Int32)), s1) else (bI (C E d 145 [vI (rm32 p1 (100 : Int32)), vI (0 : Int32), vI (20 : Int32)] s1) fun r2 s2 => (if r2 = 0 then some (some (vI (-1 : Int32)), s2) else (bI (C E d 145 [vI p2, vI (0 : Int32), vI (1 : Int32)] s2) fun r3 s3 => (if r3 = 0 then some (some (vI (-1 : Int32)), s3) else (bI (C E d 15 [vR 1 2 40, vI p0] s3) fun r4 s4 => (if r4 = 0 then some (some (vI (-1 : Int32)), s4) else (bV (C E d 93 [vR 1 9 200, vR 1 2 40, vI p0, vI (p1 / (100 : Int32)), vI (rm32 p1 (100 : Int32))] s4) fun s5 => (bI (C E d 22 [vR 1 2 40, vI p0, vI (1 : Int32)] s5) fun r6 s6 => (bI (C E d 94 [vR 1 9 200, vI (p1 / (100 : Int32)), vI (0 : Int32), vI r6] s6) fun r7 s7 => (if p2 = 0 then some (some (vI r7), s7) else some (some (vI (s7.1 200 5)), s7))))))))))))) := by
  rw [C_of (q := me124) rfl rfl rfl rfl, X_go E d me124 [] 400]
  rfl
set_option maxRecDepth 100000 in
theorem x125 (E : Nat × (Nat → Int32)) (d : Nat) (p0 : Int32) (p1 : Int32) (p2 : Int32) (M : Nat → Nat → Int32) (L : Nat → Nat → Int64) : C E (d + 1) 125 [vR 1 11 10, vI p0, vI p1, vI p2] (M, L) = (bI (C E d 145 [vI (p1 / (10000 : Int32)), vI (1 : Int32), vI (30 : Int32)] (M, L)) fun r1 s1 => (if r1 = 0 then some (some (vI (-1 : Int32)), s1) else (bI (C E d 145 [vI (rm32 (p1 / (100 : Int32)) (100 : Int32)), vI (1 : Int32), vI (60 : Int32)] s1) fun r2 s2 => (if r2 = 0 then some (some (vI (-1 : Int32)), s2) else (bI (C E d 145 [vI (rm32 p1 (100 : Int32)), vI (0 : Int32), vI (12 : Int32)] s2) fun r3 s3 => (if r3 = 0 then some (some (vI (-1 : Int32)), s3) else (if p2 = (-1 : Int32) then (bI (C E d 92 [vR 1 8 110, vI p0, vI (p1 / (10000 : Int32)), vI (rm32 (p1 / (100 : Int32)) (100 : Int32)), vI (rm32 p1 (100 : Int32)), vI p2] s3) fun r4 s4 => some (some (vI r4), s4)) else (bI (C E d 15 [vR 1 2 40, vI p2] s3) fun r5 s5 => (if r5 = 0 then some (some (vI (-1 : Int32)), s5) else (bI (C E d 92 [vR 1 8 110, vI p0, vI (p1 / (10000 : Int32)), vI (rm32 (p1 / (100 : Int32)) (100 : Int32)), vI (rm32 p1 (100 : Int32)), vI p2] s5) fun r6 s6 => some (some (vI r6), s6))))))))))) := by
  rw [C_of (q := me125) rfl rfl rfl rfl, X_go E d me125 [] 400]
  rfl
set_option maxRecDepth 100000 in
theorem x126 (E : Nat × (Nat → Int32)) (d : Nat)  (M : Nat → Nat → Int32) (L : Nat → Nat → Int64) : C E (d + 1) 126 [vR 1 11 10] (M, L) = (bI (C E d 30 [vR 1 2 40] (M, L)) fun r1 s1 => (bV (C E d 28 [vR 1 2 40, vR 1 3 90] s1) fun s2 => (bI (C E d 30 [vR 1 2 40] s2) fun r3 s3 => (bV (C E d 40 [vR 1 4 280, vI (0 : Int32), vI (1 : Int32)] s3) fun s4 => (bI (C E d 250 [vI (r1 &&& (r3 ^^^ (-1 : Int32)))] s4) fun r5 s5 => (bV (C E d 40 [vR 1 4 280, vI (4 : Int32), vI r5] s5) fun s6 => (bI (C E d 250 [vI r3] s6) fun r7 s7 => some (some (vI r7), s7)))))))) := by
  rw [C_of (q := me126) rfl rfl rfl rfl, X_go E d me126 [] 400]
  rfl
set_option maxRecDepth 100000 in
theorem x127 (E : Nat × (Nat → Int32)) (d : Nat) (p0 : Int32) (p1 : Int32) (M : Nat → Nat → Int32) (L : Nat → Nat → Int64) : C E (d + 1) 127 [vR 1 11 10, vI p0, vI p1] (M, L) = (bI (C E d 16 [vR 1 2 40, vI p0] (M, L)) fun r1 s1 => (if r1 = 0 then some (some (vI (-2000000000 : Int32)), s1) else (bI (C E d 20 [vR 1 2 40, vI (6 : Int32), vI p1] s1) fun r2 s2 => (if r2 = 0 then some (some (vI (-2000000000 : Int32)), s2) else (bI (C E d 22 [vR 1 2 40, vI p0, vI (6 : Int32)] s2) fun r3 s3 => (bV (C E d 23 [vR 1 2 40, vI p0, vI (6 : Int32), vI p1] s3) fun s4 => (bV (C E d 40 [vR 1 4 280, vI (1 : Int32), vI (1 : Int32)] s4) fun s5 => some (some (vI r3), s5)))))))) := by
  rw [C_of (q := me127) rfl rfl rfl rfl, X_go E d me127 [] 400]
  rfl
set_option maxRecDepth 100000 in
theorem x128 (E : Nat × (Nat → Int32)) (d : Nat) (p0 : Int32) (p1 : Int32) (M : Nat → Nat → Int32) (L : Nat → Nat → Int64) : C E (d + 1) 128 [vR 1 11 10, vI p0, vI p1] (M, L) = (bI (C E d 16 [vR 1 2 40, vI p0] (M, L)) fun r1 s1 => (if r1 = 0 then some (some (vI (-1 : Int32)), s1) else (bI (C E d 145 [vI p1, vI (1 : Int32), vI (99 : Int32)] s1) fun r2 s2 => (if r2 = 0 then some (some (vI (-1 : Int32)), s2) else (bV (C E d 40 [vR 1 4 280, vI (2 : Int32), vI p1] s2) fun s3 => (bI (C E d 24 [vR 1 2 40, vI p0, vI (3 : Int32), vI p1] s3) fun r4 s4 => some (some (vI r4), s4))))))) := by
  rw [C_of (q := me128) rfl rfl rfl rfl, X_go E d me128 [] 400]
  rfl
set_option maxRecDepth 100000 in
theorem x129 (E : Nat × (Nat → Int32)) (d : Nat) (p0 : Int32) (p1 : Int32) (M : Nat → Nat → Int32) (L : Nat → Nat → Int64) : C E (d + 1) 129 [vR 1 11 10, vI p0, vI p1] (M, L) = (bI (C E d 15 [vR 1 2 40, vI p0] (M, L)) fun r1 s1 => (if r1 = 0 then some (some (vI (-1 : Int32)), s1) else (bI (C E d 145 [vI p1, vI (1 : Int32), vI (99 : Int32)] s1) fun r2 s2 => (if r2 = 0 then some (some (vI (-1 : Int32)), s2) else (bV (C E d 40 [vR 1 4 280, vI (3 : Int32), vI p1] s2) fun s3 => (bI (C E d 24 [vR 1 2 40, vI p0, vI (1 : Int32), vI p1] s3) fun r4 s4 => some (some (vI r4), s4))))))) := by
  rw [C_of (q := me129) rfl rfl rfl rfl, X_go E d me129 [] 400]
  rfl
set_option maxRecDepth 100000 in
theorem x130 (E : Nat × (Nat → Int32)) (d : Nat) (p0 : Int32) (M : Nat → Nat → Int32) (L : Nat → Nat → Int64) : C E (d + 1) 130 [vR 1 11 10, vI p0] (M, L) = (bI (C E d 145 [vI p0, vI (0 : Int32), vI (4 : Int32)] (M, L)) fun r1 s1 => (if r1 = 0 then some (some (vI (-1 : Int32)), s1) else (bI (C E d 39 [vR 1 4 280, vI p0] s1) fun r2 s2 => some (some (vI r2), s2)))) := by
  rw [C_of (q := me130) rfl rfl rfl rfl, X_go E d me130 [] 400]
  rfl
set_option maxRecDepth 100000 in
theorem x131 (E : Nat × (Nat → Int32)) (d : Nat)  (M : Nat → Nat → Int32) (L : Nat → Nat → Int64) : C E (d + 1) 131 [vR 1 11 10] (M, L) = (bV (C E d 41 [vR 1 4 280, vR 1 2 40] (M, L)) fun s1 => (bI (C E d 39 [vR 1 4 280, vI (0 : Int32)] s1) fun r2 s2 => some (some (vI r2), s2))) := by
  rw [C_of (q := me131) rfl rfl rfl rfl, X_go E d me131 [] 400]
  rfl
set_option maxRecDepth 100000 in
theorem x132 (E : Nat × (Nat → Int32)) (d : Nat)  (M : Nat → Nat → Int32) (L : Nat → Nat → Int64) : C E (d + 1) 132 [vR 1 11 10] (M, L) = (if (M 280 3) = 0 then some (some (vI (-5 : Int32)), (M, L)) else (bV (C E d 42 [vR 1 4 280, vR 1 2 40] (M, L)) fun s1 => (bI (C E d 39 [vR 1 4 280, vI (0 : Int32)] s1) fun r2 s2 => some (some (vI r2), s2)))) := by
  rw [C_of (q := me132) rfl rfl rfl rfl, X_go E d me132 [] 400]
  rfl
set_option maxRecDepth 100000 in
theorem x133 (E : Nat × (Nat → Int32)) (d : Nat)  (M : Nat → Nat → Int32) (L : Nat → Nat → Int64) : C E (d + 1) 133 [vR 1 11 10] (M, L) = (bI (C E d 13 [vR 1 1 260, vR 1 2 40] (M, L)) fun r1 s1 => some (some (vI r1), s1)) := by
  rw [C_of (q := me133) rfl rfl rfl rfl, X_go E d me133 [] 400]
  rfl
set_option maxRecDepth 100000 in
theorem x134 (E : Nat × (Nat → Int32)) (d : Nat)  (M : Nat → Nat → Int32) (L : Nat → Nat → Int64) : C E (d + 1) 134 [vR 1 11 10] (M, L) = (bI (C E d 14 [vR 1 1 260, vR 1 2 40] (M, L)) fun r1 s1 => some (some (vI r1), s1)) := by
  rw [C_of (q := me134) rfl rfl rfl rfl, X_go E d me134 [] 400]
  rfl
set_option maxRecDepth 100000 in
theorem x135 (E : Nat × (Nat → Int32)) (d : Nat) (p0 : Int32) (M : Nat → Nat → Int32) (L : Nat → Nat → Int64) : C E (d + 1) 135 [vR 1 11 10, vI p0] (M, L) = (bI (C E d 145 [vI p0, vI (0 : Int32), vI (7 : Int32)] (M, L)) fun r1 s1 => (if r1 = 0 then some (some (vI (-1 : Int32)), s1) else (bI (C E d 1 [vR 1 0 320, vI p0] s1) fun r2 s2 => some (some (vI r2), s2)))) := by
  rw [C_of (q := me135) rfl rfl rfl rfl, X_go E d me135 [] 400]
  rfl
set_option maxRecDepth 100000 in
theorem x136 (E : Nat × (Nat → Int32)) (d : Nat) (p0 : Int32) (p1 : Int32) (p2 : Int32) (M : Nat → Nat → Int32) (L : Nat → Nat → Int64) : C E (d + 1) 136 [vR 1 11 10, vI p0, vI p1, vI p2] (M, L) = (bI (C E d 7 [vR 1 0 320, vI p0, vI p1, vI p2] (M, L)) fun r1 s1 => some (some (vI r1), s1)) := by
  rw [C_of (q := me136) rfl rfl rfl rfl, X_go E d me136 [] 400]
  rfl
set_option maxRecDepth 100000 in
theorem x137 (E : Nat × (Nat → Int32)) (d : Nat) (p0 : Int32) (M : Nat → Nat → Int32) (L : Nat → Nat → Int64) : C E (d + 1) 137 [vR 1 11 10, vI p0] (M, L) = (bI (C E d 6 [vR 1 0 320, vI p0] (M, L)) fun r1 s1 => some (some (vI r1), s1)) := by
  rw [C_of (q := me137) rfl rfl rfl rfl, X_go E d me137 [] 400]
  rfl
set_option maxRecDepth 100000 in
theorem x138 (E : Nat × (Nat → Int32)) (d : Nat) (p0 : Int32) (p1 : Int32) (M : Nat → Nat → Int32) (L : Nat → Nat → Int64) : C E (d + 1) 138 [vR 1 11 10, vI p0, vI p1] (M, L) = (bI (C E d 48 [vR 1 6 330, vI p0] (M, L)) fun r1 s1 => (if r1 = 0 then some (some (vI (-1 : Int32)), s1) else (if p1 = (-1 : Int32) then (if p1 = (-1 : Int32) then (bV (C E d 53 [vR 1 6 330, vI p0] s1) fun s2 => some (some (vI (1 : Int32)), s2)) else (bV (C E d 54 [vR 1 6 330, vI p0, vI p1] s1) fun s3 => some (some (vI (1 : Int32)), s3))) else (bI (C E d 0 [vR 1 0 320, vI p1] s1) fun r4 s4 => (if r4 = 0 then some (some (vI (-1 : Int32)), s4) else (if p1 = (-1 : Int32) then (bV (C E d 53 [vR 1 6 330, vI p0] s4) fun s5 => some (some (vI (1 : Int32)), s5)) else (bV (C E d 54 [vR 1 6 330, vI p0, vI p1] s4) fun s6 => some (some (vI (1 : Int32)), s6)))))))) := by
  rw [C_of (q := me138) rfl rfl rfl rfl, X_go E d me138 [] 400]
  rfl
set_option maxRecDepth 100000 in
theorem x139 (E : Nat × (Nat → Int32)) (d : Nat) (p0 : Int32) (p1 : Int32) (p2 : Int32) (M : Nat → Nat → Int32) (L : Nat → Nat → Int64) : C E (d + 1) 139 [vR 1 11 10, vI p0, vI p1, vI p2] (M, L) = (bI (C E d 48 [vR 1 6 330, vI p0] (M, L)) fun r1 s1 => (if r1 = 0 then some (some (vI (-1 : Int32)), s1) else (bI (C E d 145 [vI p1, vI (0 : Int32), vI (4 : Int32)] s1) fun r2 s2 => (if r2 = 0 then some (some (vI (-1 : Int32)), s2) else (if p2 ≤ (60 : Int32) then (if 0 ≤ p2 then (bV (C E d 55 [vR 1 6 330, vI p0, vI p1, vI p2] s2) fun s3 => some (some (vI (1 : Int32)), s3)) else some (some (vI (-14 : Int32)), s2)) else some (some (vI (-1 : Int32)), s2)))))) := by
  rw [C_of (q := me139) rfl rfl rfl rfl, X_go E d me139 [] 400]
  rfl
set_option maxRecDepth 100000 in
theorem x140 (E : Nat × (Nat → Int32)) (d : Nat) (p0 : Int32) (p1 : Int32) (p2 : Int64) (M : Nat → Nat → Int32) (L : Nat → Nat → Int64) : C E (d + 1) 140 [vR 1 11 10, vI p0, vI p1, vL p2] (M, L) = (bI (C E d 58 [vR 1 6 330, vI p0, vI p1] (M, L)) fun r1 s1 => (if r1 = 0 then (bV (C E d 62 [vR 1 6 330, vI p0, vI p1, vL p2] s1) fun s2 => some (some (vI (1 : Int32)), s2)) else some (some (vI r1), s1))) := by
  rw [C_of (q := me140) rfl rfl rfl rfl, X_go E d me140 [] 400]
  rfl
set_option maxRecDepth 100000 in
theorem x141 (E : Nat × (Nat → Int32)) (d : Nat) (p0 : Int32) (p1 : Int32) (M : Nat → Nat → Int32) (L : Nat → Nat → Int64) : C E (d + 1) 141 [vR 1 11 10, vI p0, vI p1] (M, L) = (bI (C E d 58 [vR 1 6 330, vI p0, vI p1] (M, L)) fun r1 s1 => (if r1 = 0 then (bL (C E d 61 [vR 1 6 330, vI p0, vI p1] s1) fun r2 s2 => some (some (vL r2), s2)) else some (some (vL (-9223372036854775808 : Int64)), s1))) := by
  rw [C_of (q := me141) rfl rfl rfl rfl, X_go E d me141 [] 400]
  rfl
set_option maxRecDepth 100000 in
theorem x142 (E : Nat × (Nat → Int32)) (d : Nat) (p0 : Int32) (p1 : Int32) (p2 : Int32) (p3 : Int32) (p4 : Int32) (M : Nat → Nat → Int32) (L : Nat → Nat → Int64) : C E (d + 1) 142 [vR 1 11 10, vI p0, vI p1, vI p2, vI p3, vI p4] (M, L) = (bI (C E d 59 [vR 1 6 330, vI p0, vI p2] (M, L)) fun r1 s1 => (if r1 = 0 then (bI (C E d 60 [vR 1 6 330, vI p0, vI p1, vI p4] s1) fun r2 s2 => (if r2 = 0 then some (some (vI (-13 : Int32)), s2) else (bI (C E d 60 [vR 1 6 330, vI p2, vI p3, vI p4] s2) fun r3 s3 => (if r3 = 0 then some (some (vI (-13 : Int32)), s3) else (bV (C E d 64 [vR 1 6 330, vI p0, vI p1, vI p2, vI p3, vI p4] s3) fun s4 => some (some (vI p4), s4)))))) else some (some (vI r1), s1))) := by
  rw [C_of (q := me142) rfl rfl rfl rfl, X_go E d me142 [] 400]
  rfl
set_option maxRecDepth 100000 in
theorem x143 (E : Nat × (Nat → Int32)) (d : Nat) (p0 : Int32) (p1 : Int32) (M : Nat → Nat → Int32) (L : Nat → Nat → Int64) : C E (d + 1) 143 [vR 1 11 10, vI p0, vI p1] (M, L) = (bI (C E d 48 [vR 1 6 330, vI p0] (M, L)) fun r1 s1 => (if r1 = 0 then some (some (vI (-1 : Int32)), s1) else (bI (C E d 145 [vI p1, vI (0 : Int32), vI (7 : Int32)] s1) fun r2 s2 => (if r2 = 0 then some (some (vI (-1 : Int32)), s2) else (bI (C E d 49 [vR 1 6 330, vI p0] s2) fun r3 s3 => (if r3 = 0 then (bI (C E d 52 [vR 1 6 330, vI p0] s3) fun r4 s4 => (bI (C E d 0 [vR 1 0 320, vI r4] s4) fun r5 s5 => (if r5 = 0 then some (some (vI (-12 : Int32)), s5) else (bI (C E d 5 [vR 1 0 320, vI r4, vI p1] s5) fun r6 s6 => (if r6 = 0 then some (some (vI (-12 : Int32)), s6) else (bI (C E d 2 [vR 1 0 320, vI r4] s6) fun r7 s7 => some (some (vI r7), s7))))))) else some (some (vI (-11 : Int32)), s3))))))) := by
  rw [C_of (q := me143) rfl rfl rfl rfl, X_go E d me143 [] 400]
  rfl
set_option maxRecDepth 100000 in
theorem x144 (E : Nat × (Nat → Int32)) (d : Nat) (p0 : Int32) (M : Nat → Nat → Int32) (L : Nat → Nat → Int64) : C E (d + 1) 144 [vR 1 11 10, vI p0] (M, L) = (if p0 = (0 : Int32) then some (some (vI (M 40 11)), (M, L)) else (if p0 = (1 : Int32) then some (some (vI (M 40 12)), (M, L)) else (if p0 = (2 : Int32) then some (some (vI (M 70 3)), (M, L)) else (if p0 = (3 : Int32) then some (some (vI (M 260 4)), (M, L)) else (if p0 = (4 : Int32) then some (some (vI (M 320 2)), (M, L)) else (if p0 = (5 : Int32) then some (some (vI (M 320 3)), (M, L)) else some (some (vI (-1 : Int32)), (M, L)))))))) := by
  rw [C_of (q := me144) rfl rfl rfl rfl, X_go E d me144 [] 400]
  rfl
