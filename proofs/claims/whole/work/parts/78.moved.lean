/-! a beggar moves: the call -/
section MOVED6
variable (E : Nat × (Nat → Int32)) (d : Nat) (L : Nat → Nat → Int64)
theorem op_moved (p0 p1 : Int32) : Opk E d 116 205 [vI p0, vI p1] := by
  intro M L h
  have hR := h
  obtain ⟨P, T, hc, hrc, hP, hT⟩ := RR.cx E h
  obtain ⟨c1, c2, c3, ⟨c4, c5⟩, c6, c7, c8, c9, c10⟩ := id hc
  by_cases h0 : 0 ≤ p0.toInt ∧ p0.toInt ≤ 20
  · by_cases h1 : 0 ≤ p1.toInt ∧ p1.toInt ≤ 2
    · obtain ⟨n, hn, en⟩ := nI_ex (x := p0) (n := 21) (by omega) (by omega)
      subst en
      obtain ⟨M1, e1, f1, C1, a5, a6, a7, a8⟩ := g86 E (d + 92) L M c1 c4 c5 c6 c9 (n := n) (by omega)
      have hI : IvC M M1 P n T (sc P n T, 900) := ⟨f1, a5, a8, by rw [a6]; exact a5, a7, Int.le_refl _⟩
      obtain ⟨M2, e2, hI2⟩ := l116 E (d + 92) L M c1 c4 c5 c6 c9 c8 (n := n) (by omega) p1 (pG P) 0 M1 _ (by omega) hI C1
      have G1 : C E (d + 100) 116 [vR 1 11 10, vI (nI n), vI p1] (M, L) = some (some (vI (if p1 = 2 then (fb P n T (pG P) 0 (sc P n T, 900)).2 else if p1 = 0 then (M2 110 6) / 1000 else rm32 (M2 110 6) 1000)), (M2, L)) := by
        rw [x116, e145, bI_s, if_neg (b1_ne (by rw [t_0, t_20]; exact h0)), e145, bI_s, if_neg (b1_ne (by rw [t_0, t_2]; exact h1)), e1, bV_s]
        exact e2
      have k1 := Kp.ofQ hI2.1
      have rx := Ctx.rx E hc k1
      obtain ⟨M3, e3', f3, t3⟩ := e188 E (d + 98) L M2 rx.1 rx.2.1 c4 c5
      have rx3 := rx.fr E f3
      obtain ⟨M4, e4, f4, t4⟩ := e193 E (d + 93) L M3 rx3.1 t3 c4 c5 rx3.2.2 c8 c9 (n := n) (by omega)
      have f34 := f3.tr f4
      have hn6 : M4 400 6 = nI (pN P) := by rw [f34.2 6 (by omega)]; exact rx.1.1
      obtain ⟨mm, m1, m2, m3⟩ := pop_cnt (Sd P n T) c4
      obtain ⟨z1, z2, z3⟩ := smW_split (Sd_rng c9 n) c4
      have hcn := cnt_8 (f := fun b => decide (0 < (Sd P n T b).toInt)) (n := pN P)
      have hsc : sc P n T = 1000 * ((cnt (pN P) (fun b => decide (0 < (Sd P n T b).toInt)) : Nat) : Int) + (smB (Sd P n T) (pN P)).toInt := z3
      rw [← m3] at hcn hsc
      have hA : RefA (sc P n T, 900) 900 (nI (popN mm)) (smB (Sd P n T) (pN P)) := ⟨popN mm, by omega, rfl, z2, by omega, hsc, rfl⟩
      obtain ⟨M5, x3', x4', x5', e5, f5, hA5⟩ := l205o E (d + 91) L M2 rx c4 c5 c8 c9 (n := n) (by omega) p1 (pG P) 0 900 _ _ none none none M4 _ (by omega) f34 hA
      have G2 : C E (d + 100) 205 [vR 1 12 400, vI (nI n), vI p1] (M2, L) = some (some (vI (if p1 = 0 then x4' else if p1 = 1 then x5' else x3')), (M5, L)) := by
        rw [x205, e148, bI_s, if_neg (b1_ne (by rw [tl_i, l_0, l_20]; exact h0)), e148, bI_s, if_neg (b1_ne (by rw [tl_i, l_0, l_2]; exact h1)), e3', bV_s, e4, bV_s, e194 E _ L M4 hn6 c4, bI_s, sdB_congr (S' := Sd P n T) (fun k hk => t4.1 k hk), m2, e150 E _ M4 L m1, bI_s, e195 E _ L M4 hn6 c4, bI_s, smB_congr (S' := Sd P n T) (fun k hk => t4.1 k hk)]
        exact e5
      obtain ⟨c, c8', rfl, s0, s1, ha1, ha2⟩ := hA5
      have hb : (M2 110 6).toInt = 1000 * (c : Int) + x5'.toInt := hI2.2.2.2.1.trans ha1
      have hres : (if p1 = 2 then (fb P n T (pG P) 0 (sc P n T, 900)).2 else if p1 = 0 then (M2 110 6) / 1000 else rm32 (M2 110 6) 1000) = (if p1 = 0 then nI c else if p1 = 1 then x5' else x3') := by
        rcases (show p1.toInt = 0 ∨ p1.toInt = 1 ∨ p1.toInt = 2 by omega) with q | q | q
        · have e : p1 = 0 := by rw [t_eq, t_0]; exact q
          subst e
          rw [if_neg (by decide), if_pos rfl, if_pos rfl, t_eq, t_div (by omega) (by decide), t_1000, hb, t_nI (by omega)]
          omega
        · have e : p1 = 1 := by rw [t_eq, t_1]; exact q
          subst e
          rw [if_neg (by decide), if_neg (by decide), if_neg (by decide), if_pos rfl, t_eq, t_rem (by omega) (by decide), t_1000, hb]
          omega
        · have e : p1 = 2 := by rw [t_eq, t_2]; exact q
          subst e
          rw [if_pos rfl, if_neg (by decide), if_neg (by decide)]
          exact ha2
      rw [hres] at G1
      exact opq E d hR G1 k1 G2 (Kp.ofR f5)
    · refine opq E d hR (r := -1) (M1 := M) (M2 := M) ?_ (Kp.re M) ?_ (Kp.re M)
      · rw [x116, e145, bI_s, if_neg (b1_ne (by rw [t_0, t_20]; exact h0)), e145, bI_s, if_pos (b1_e (by rw [t_0, t_2]; exact h1))]
      · rw [x205, e148, bI_s, if_neg (b1_ne (by rw [tl_i, l_0, l_20]; exact h0)), e148, bI_s, if_pos (b1_e (by rw [tl_i, l_0, l_2]; exact h1))]
  · refine opq E d hR (r := -1) (M1 := M) (M2 := M) ?_ (Kp.re M) ?_ (Kp.re M)
    · rw [x116, e145, bI_s, if_pos (b1_e (by rw [t_0, t_20]; exact h0))]
    · rw [x205, e148, bI_s, if_pos (b1_e (by rw [tl_i, l_0, l_20]; exact h0))]
end MOVED6
