/-! fits: both sides -/
section FITS3
variable (E : Nat × (Nat → Int32)) (d : Nat) (L : Nat → Nat → Int64)
theorem op_fits (p0 p1 p2 p3 : Int32) : Opk E d 121 215 [vI p0, vI p1, vI p2, vI p3] := by
  intro M L h
  have hR := h
  obtain ⟨P, T, hc, hrc, hP, hT⟩ := RR.cx E h
  obtain ⟨c1, c2, c3, ⟨c4, c5⟩, c6, c7, c8, c9, c10⟩ := id hc
  have hs : Rsh M L := by obtain ⟨n, g, kf, -, -, -, -, -, -, -, hs⟩ := h; exact hs
  have lo : ∀ {r : Int32}, C E (d + 100) 121 [vR 1 11 10, vI p0, vI p1, vI p2, vI p3] (M, L) = some (some (vI r), (M, L)) → C E (d + 100) 215 [vR 1 12 400, vI p0, vI p1, vI p2, vI p3] (M, L) = some (some (vI r), (M, L)) → ∃ r M1 L1 M2 L2, C E (d + 100) 121 [vR 1 11 10, vI p0, vI p1, vI p2, vI p3] (M, L) = some (some (vI r), (M1, L1)) ∧ C E (d + 100) 215 [vR 1 12 400, vI p0, vI p1, vI p2, vI p3] (M1, L1) = some (some (vI r), (M2, L2)) ∧ RR E M2 L2 := fun a b => opq E d hR a (Kp.re M) b (Kp.re M)
  rcases shN E (d + 98) L M p0 with ⟨s, hs6, es, e48', -⟩ | ⟨hns, e48'⟩
  · subst es
    have h212 : ∃ r : Int32, r ≠ -1 ∧ (∀ M1 : Nat → Nat → Int32, M1 447 = M 447 → C E (d + 99) 212 [vR 1 12 400, vI (nI s)] (M1, L) = some (some (vI r), (M1, L))) := by
      rcases refBy E (d + 95) L (hs s hs6) hs6 with ⟨m, m60, z1, z2, z3, z4, z5, z6, z7⟩ | ⟨r, hr, z6, z7⟩
      · exact ⟨1, by decide, z7⟩
      · exact ⟨r, by rcases hr with rfl | rfl <;> decide, z7⟩
    obtain ⟨r0, hr0, z0⟩ := h212
    rcases brn E c1 c4 p1 (d + 98) L with ⟨b, hb, e1, eb⟩ | ⟨h1, eb⟩
    · subst e1
      by_cases h3 : 0 ≤ p3.toInt ∧ p3.toInt ≤ 3
      · by_cases h2 : (2 : Int32) ≤ p3
        · rcases brn E c1 c4 p2 (d + 98) L with ⟨k, hk, e2, eb2⟩ | ⟨hk, eb2⟩
          · subst e2
            have pre2 : ∀ M1 : Nat → Nat → Int32, M1 447 = M 447 → M1 400 6 = nI (pN P) → C E (d + 100) 215 [vR 1 12 400, vI (nI s), vI (nI b), vI (nI k), vI p3] (M1, L) = if 0 ≤ r0 then X E (d + 99) me215 110 [some (vR 1 12 400), some (vI (nI s)), some (vI (nI b)), some (vI (nI k)), some (vI p3), some (vI (nI (16 + k))), some (vI (M1 401 (16 + k))), some (vI (0 : Int32)), some (vI (-2 : Int32)), some (vI (0 : Int32))] [] (M1, L) else some (some (vI r0), (M1, L)) := by
              intro M1 q1 q2
              rw [x215, z0 M1 q1, bI_s, if_neg hr0, e156 E _ L M1 _ q2 c4, bI_s, if_neg (b1_ne (by rw [tl_i]; exact inN (by omega) hb)), e148, bI_s, if_neg (b1_ne (by rw [tl_i, l_0, l_3]; exact h3)), if_pos h2, e156 E _ L M1 _ q2 c4, bI_s, if_neg (b1_ne (by rw [tl_i]; exact inN (by omega) hk)), z0 M1 q1, bI_s]
              by_cases q : 0 ≤ r0
              · rw [if_pos q, if_pos q, if_pos h2, show (16 : Int32) + nI k = nI (16 + k) from nI_add 16 k, if_pos (by rw [ib_nI (by omega)]; omega), ix_nI (by omega)]
              · rw [if_neg q, if_neg q, z0 M1 q1, bI_s]
            rcases refBy E (d + 95) L (hs s hs6) hs6 with ⟨m, m60, z1, z2, z3, z4, z5, z6, z7⟩ | ⟨r, hr, z6, z7⟩
            · have hr1 : r0 = 1 := by
                have := (z0 M rfl).symm.trans (z7 M rfl)
                injection this with this
                injection this with this
                injection this with this
                injection this
              obtain ⟨M1, g1, f1, g8, g9⟩ := g91A E (d + 91) L M c1 c4 c5 c6 hb hk hs6 z1 z2 m60
              have k1 := Kp.ofQ f1
              have rx := Ctx.rx E hc k1
              obtain ⟨M2, g2, f2⟩ := l215 E (d + 92) L M1 (fun x => (altA P k x, T)) (n := pN P) (g := pG P) (kf := pK P) (fun _ => ⟨rfl, rfl, rfl⟩) c4 c5 (b := b) (s := s) (m := m) (most := 9) (num := k) (pi := 16 + k) (p3 := p3) hb hs6 (by rw [f1 448 (by unfold fQ; omega)]; exact z4) m60 (by omega) z5 (Or.inl ⟨h2, rfl⟩)
                (fun v hv => ⟨rxA E rx c4 hk (nI v), c8, c9⟩) 10 0 0 (-2) M1 (by omega) (Nat.le_refl _) ⟨M1 401 (16 + k), by
                  have e : u2 M1 401 (16 + k) (M1 401 (16 + k)) = M1 := by
                    funext c i
                    rw [u2_ap]
                    by_cases q : c = 401
                    · rw [if_pos q]
                      by_cases q2 : i = 16 + k
                      · rw [if_pos q2, q, q2]
                      · rw [if_neg q2]
                    · rw [if_neg q]
                  rw [e]; exact frR.refl M1⟩ (fun _ => rfl)
              refine opq E d hR (r := if rm32 p3 2 = 0 then nI (cu (gdF L (fun x => (altA P k x, T)) b s m) 10 0) else ftr (gdF L (fun x => (altA P k x, T)) b s m) 10 0) (M1 := M1) (M2 := M2) ?_ k1 ?_ (Kp.ofR f2)
              · rw [x121, e48', bI_s, if_neg (by decide), eb, bI_s, if_neg (by decide), e145, bI_s, if_neg (b1_ne (by rw [t_0, t_3]; exact h3)), if_pos h2, eb2, bI_s, if_neg (by decide), z6, bI_s, if_pos rfl, g1, bV_s]
                show (if rm32 p3 2 = 0 then some (some (vI (M1 110 8)), (M1, L)) else some (some (vI (M1 110 9)), (M1, L))) = _
                rw [g8, g9]
                by_cases q : rm32 p3 2 = 0
                · rw [if_pos q, if_pos q]
                · rw [if_neg q, if_neg q]
              · rw [pre2 M1 (f1 447 (by unfold fQ; omega)) rx.1.1, hr1, if_pos (by decide)]
                have := g2
                rw [if_pos rfl, Nat.zero_add] at this
                exact this
            · have hr1 : r0 = r := by
                have := (z0 M rfl).symm.trans (z7 M rfl)
                injection this with this
                injection this with this
                injection this with this
                injection this
              refine lo (r := r) ?_ ?_
              · rw [x121, e48', bI_s, if_neg (by decide), eb, bI_s, if_neg (by decide), e145, bI_s, if_neg (b1_ne (by rw [t_0, t_3]; exact h3)), if_pos h2, eb2, bI_s, if_neg (by decide), z6, bI_s, if_neg (by rcases hr with rfl | rfl <;> decide)]
              · rw [pre2 M rfl c2.1, hr1, if_neg (by rcases hr with rfl | rfl <;> decide)]
          · refine lo (r := -1) ?_ ?_
            · rw [x121, e48', bI_s, if_neg (by decide), eb, bI_s, if_neg (by decide), e145, bI_s, if_neg (b1_ne (by rw [t_0, t_3]; exact h3)), if_pos h2, eb2, bI_s, if_pos rfl]
            · rw [x215, z0 M rfl, bI_s, if_neg hr0, e156 E _ L M _ c2.1 c4, bI_s, if_neg (b1_ne (by rw [tl_i]; exact inN (by omega) hb)), e148, bI_s, if_neg (b1_ne (by rw [tl_i, l_0, l_3]; exact h3)), if_pos h2, e156 E _ L M _ c2.1 c4, bI_s, if_pos (b1_e (by rw [tl_i]; exact hk))]
        · rcases bgn E c1 c5 p2 (d + 98) L with ⟨k, hk, e2, eb2⟩ | ⟨hk, eb2⟩
          · subst e2
            have pre2 : ∀ M1 : Nat → Nat → Int32, M1 447 = M 447 → M1 400 6 = nI (pN P) → M1 400 7 = nI (pG P) → C E (d + 100) 215 [vR 1 12 400, vI (nI s), vI (nI b), vI (nI k), vI p3] (M1, L) = if 0 ≤ r0 then X E (d + 99) me215 110 [some (vR 1 12 400), some (vI (nI s)), some (vI (nI b)), some (vI (nI k)), some (vI p3), some (vI (nI (24 + k))), some (vI (M1 401 (24 + k))), some (vI (0 : Int32)), some (vI (-2 : Int32)), some (vI (0 : Int32))] [] (M1, L) else some (some (vI r0), (M1, L)) := by
              intro M1 q1 q2 q3
              rw [x215, z0 M1 q1, bI_s, if_neg hr0, e156 E _ L M1 _ q2 c4, bI_s, if_neg (b1_ne (by rw [tl_i]; exact inN (by omega) hb)), e148, bI_s, if_neg (b1_ne (by rw [tl_i, l_0, l_3]; exact h3)), if_neg h2, e157 E _ L M1 _ q3 c5, bI_s, if_neg (b1_ne (by rw [tl_i]; exact inN (by omega) hk)), z0 M1 q1, bI_s]
              by_cases q : 0 ≤ r0
              · rw [if_pos q, if_pos q, if_neg h2, show (24 : Int32) + nI k = nI (24 + k) from nI_add 24 k, if_pos (by rw [ib_nI (by omega)]; omega), ix_nI (by omega)]
              · rw [if_neg q, if_neg q, z0 M1 q1, bI_s]
            rcases refBy E (d + 95) L (hs s hs6) hs6 with ⟨m, m60, z1, z2, z3, z4, z5, z6, z7⟩ | ⟨r, hr, z6, z7⟩
            · have hr1 : r0 = 1 := by
                have := (z0 M rfl).symm.trans (z7 M rfl)
                injection this with this
                injection this with this
                injection this with this
                injection this
              obtain ⟨M1, g1, f1, g8, g9⟩ := g91M E (d + 91) L M c1 c4 c5 c6 hb hk hs6 z1 z2 m60
              have k1 := Kp.ofQ f1
              have rx := Ctx.rx E hc k1
              obtain ⟨M2, g2, f2⟩ := l215 E (d + 92) L M1 (fun x => (P, altM T k x)) (n := pN P) (g := pG P) (kf := pK P) (fun _ => ⟨rfl, rfl, rfl⟩) c4 c5 (b := b) (s := s) (m := m) (most := 99) (num := k) (pi := 24 + k) (p3 := p3) hb hs6 (by rw [f1 448 (by unfold fQ; omega)]; exact z4) m60 (by omega) z5 (Or.inr ⟨h2, rfl⟩)
                (fun v hv => ⟨rxM E rx c4 c5 hk (nI v), c8, c9.1, fun q hq => by
                  show 0 ≤ (if q = k then nI v else tM T q).toInt ∧ (if q = k then nI v else tM T q).toInt ≤ 99
                  by_cases e : q = k
                  · rw [if_pos e, t_nI (by omega)]; omega
                  · rw [if_neg e]; exact c9.2.1 q hq, c9.2.2⟩) 100 0 0 (-2) M1 (by omega) (Nat.le_refl _) ⟨M1 401 (24 + k), by
                  have e : u2 M1 401 (24 + k) (M1 401 (24 + k)) = M1 := by
                    funext c i
                    rw [u2_ap]
                    by_cases q : c = 401
                    · rw [if_pos q]
                      by_cases q2 : i = 24 + k
                      · rw [if_pos q2, q, q2]
                      · rw [if_neg q2]
                    · rw [if_neg q]
                  rw [e]; exact frR.refl M1⟩ (fun _ => rfl)
              refine opq E d hR (r := if rm32 p3 2 = 0 then nI (cu (gdF L (fun x => (P, altM T k x)) b s m) 100 0) else ftr (gdF L (fun x => (P, altM T k x)) b s m) 100 0) (M1 := M1) (M2 := M2) ?_ k1 ?_ (Kp.ofR f2)
              · rw [x121, e48', bI_s, if_neg (by decide), eb, bI_s, if_neg (by decide), e145, bI_s, if_neg (b1_ne (by rw [t_0, t_3]; exact h3)), if_neg h2, eb2, bI_s, if_neg (by decide), z6, bI_s, if_pos rfl, g1, bV_s]
                show (if rm32 p3 2 = 0 then some (some (vI (M1 110 8)), (M1, L)) else some (some (vI (M1 110 9)), (M1, L))) = _
                rw [g8, g9]
                by_cases q : rm32 p3 2 = 0
                · rw [if_pos q, if_pos q]
                · rw [if_neg q, if_neg q]
              · rw [pre2 M1 (f1 447 (by unfold fQ; omega)) rx.1.1 rx.1.2.1, hr1, if_pos (by decide)]
                have := g2
                rw [if_pos rfl, Nat.zero_add] at this
                exact this
            · have hr1 : r0 = r := by
                have := (z0 M rfl).symm.trans (z7 M rfl)
                injection this with this
                injection this with this
                injection this with this
                injection this
              refine lo (r := r) ?_ ?_
              · rw [x121, e48', bI_s, if_neg (by decide), eb, bI_s, if_neg (by decide), e145, bI_s, if_neg (b1_ne (by rw [t_0, t_3]; exact h3)), if_neg h2, eb2, bI_s, if_neg (by decide), z6, bI_s, if_neg (by rcases hr with rfl | rfl <;> decide)]
              · rw [pre2 M rfl c2.1 c2.2.1, hr1, if_neg (by rcases hr with rfl | rfl <;> decide)]
          · refine lo (r := -1) ?_ ?_
            · rw [x121, e48', bI_s, if_neg (by decide), eb, bI_s, if_neg (by decide), e145, bI_s, if_neg (b1_ne (by rw [t_0, t_3]; exact h3)), if_neg h2, eb2, bI_s, if_pos rfl]
            · rw [x215, z0 M rfl, bI_s, if_neg hr0, e156 E _ L M _ c2.1 c4, bI_s, if_neg (b1_ne (by rw [tl_i]; exact inN (by omega) hb)), e148, bI_s, if_neg (b1_ne (by rw [tl_i, l_0, l_3]; exact h3)), if_neg h2, e157 E _ L M _ c2.2.1 c5, bI_s, if_pos (b1_e (by rw [tl_i]; exact hk))]
      · refine lo (r := -1) ?_ ?_
        · rw [x121, e48', bI_s, if_neg (by decide), eb, bI_s, if_neg (by decide), e145, bI_s, if_pos (b1_e (by rw [t_0, t_3]; exact h3))]
        · rw [x215, z0 M rfl, bI_s, if_neg hr0, e156 E _ L M _ c2.1 c4, bI_s, if_neg (b1_ne (by rw [tl_i]; exact inN (by omega) hb)), e148, bI_s, if_pos (b1_e (by rw [tl_i, l_0, l_3]; exact h3))]
    · refine lo (r := -1) ?_ ?_
      · rw [x121, e48', bI_s, if_neg (by decide), eb, bI_s, if_pos rfl]
      · rw [x215, z0 M rfl, bI_s, if_neg hr0, e156 E _ L M _ c2.1 c4, bI_s, if_pos (b1_e (by rw [tl_i]; exact h1))]
  · refine lo (r := -1) ?_ ?_
    · rw [x121, e48', bI_s, if_pos rfl]
    · rw [x215, e212x E _ L M hns, bI_s, if_pos rfl]
end FITS3
