/-! a beggar moves: the class's call; the reference -/
theorem CH.k9 {M M' : Nat → Nat → Int32} {o : Nat} {P : TP} {T : TS} (h : CH M o P T) (q : ∀ c, o ≤ c → c ≤ o + 9 → M' c = M c) : CH M' o P T := by
  obtain ⟨h1, h2, h3, h4, h5, h6⟩ := h
  have e0 := q o (by omega) (by omega)
  refine ⟨by rw [e0]; exact h1, by rw [e0]; exact h2, by rw [e0]; exact h3, by rw [e0]; exact h4, fun j hj => ?_, fun j hj => ?_⟩
  · rw [q (o + 3) (by omega) (by omega), q (o + 4) (by omega) (by omega), q (o + 5) (by omega) (by omega)]
    exact h5 j hj
  · rw [q (o + 6) (by omega) (by omega), q (o + 7) (by omega) (by omega), q (o + 8) (by omega) (by omega), q (o + 9) (by omega) (by omega)]
    exact h6 j hj
section MOVED3
variable (E : Nat × (Nat → Int32)) (d : Nat) (L : Nat → Nat → Int64)
theorem g87 (M : Nat → Nat → Int32) {P : TP} {T : TS} (hC : CH M 40 P T) (hn8 : pN P ≤ 8) (hg9 : pG P ≤ 9) (hl : LW E (pK P) M) (hr : rngT P T) (hse : seatsOk P T) {n p : Nat} (hn : n ≤ 20) (hp : p < pG P) (M1 : Nat → Nat → Int32) (a : Int × Int32) (hI : IvC M M1 P n T a) (hC1 : CH M1 170 P T) :
    ∃ M2, C E (d + 7) 87 [vR 1 8 110, vI (nI p), vI (nI n)] (M1, L) = some (none, (M2, L)) ∧ IvC M M2 P n T (fo P n T p (pN P) 0 a) ∧ CH M2 170 P T := by
  have hseat : M1 (40 + 9) p = tE T p := by rw [hI.1 (40 + 9) (by unfold fQ; omega)]; exact (hC.2.2.2.2.2 p hp).2.2.2
  have hC2 := chE (p := p) (v := -1) (M' := u2 M1 (170 + 9) p (-1)) hC1 (fun c _ _ h3 => u2_o h3) (fun j _ => by rw [u2_ap, if_pos rfl])
  have hI2 : IvC M (u2 M1 (170 + 9) p (-1)) P n T a := hI.kp (fun c hc => u2_o (by unfold fQ at hc; omega)) (u2_o (by omega)) (u2_o (by omega))
  have hC40 : CH (u2 M1 (170 + 9) p (-1)) 40 P T := hC.k9 (fun c h1 h2 => hI2.1 c (by unfold fQ; omega))
  have hs0 := sc_rng hn8 hr n
  rw [x87, e22_6 E _ M1 L 40 (by omega), bI_s, hseat, e23_6 E _ M1 L 170 _ (by omega), bV_s]
  rcases brn E hC40 hn8 (tE T p) (d + 5) L with ⟨j, hj, ej, eb⟩ | ⟨hnj, eb⟩
  · rw [eb, bI_s, if_neg (by decide)]
    have hk1 := Sd_rng hr n j hj
    have hk2 := Sd_rng (rngE hr p (-1)) n j hj
    obtain ⟨M2, e2, f2⟩ := e79 E (d + 1) L (u2 M1 (170 + 9) p (-1)) 170 (by omega) hC2 hn8 hg9 (hl.keep (hI2.1 90 (by unfold fQ; omega)) (hI2.1 91 (by unfold fQ; omega)) (hI2.1 92 (by unfold fQ; omega))) (b := j) (n := n) hj (by omega)
    have hI3 : IvC M M2 P n T a := hI2.kp (fun c hc => f2 c (fun q => hc (by unfold fT at q; unfold fQ; omega))) (f2 110 (by unfold fT; omega)) (f2 115 (by unfold fT; omega))
    have hib : ib (nI j) 8 := by rw [ib_nI (by omega)]; omega
    have hoff := sc_off hn8 hj ej n
    have w1 := f32_t hk1
    have w2 : (f32 (tS (itd (dayA P) n (setE T p (-1))) j)).toInt = fW (Sd P n (setE T p (-1)) j) := f32_t hk2
    have g1 := fW_rng hk1
    have g2 := fW_rng hk2
    have z : (f32 (tS (itd (dayA P) n (setE T p (-1))) j) - f32 (Sd P n T j)).toInt = fW (Sd P n (setE T p (-1)) j) - fW (Sd P n T j) := by
      rw [t_sub (by rw [w1, w2]; omega) (by rw [w1, w2]; omega), w1, w2]
    have hx4 : (M1 110 5 + (f32 (tS (itd (dayA P) n (setE T p (-1))) j) - f32 (Sd P n T j))).toInt = sc P n (setE T p (-1)) := by
      rw [t_add (by rw [z, hI.2.1]; omega) (by rw [z, hI.2.1]; omega), z, hI.2.1, hoff]
      omega
    have := l87 E d L M hC hn8 hg9 hl hr (p := p) hn hp hx4 (pN P) 0 M2 a (by omega) hI3 ⟨-1, hC2.keep (fun c h1 h2 => f2 c (by unfold fT; omega))⟩
    rw [ej] at this
    rw [ej, e2, bI_s, e89 E _ L, bI_s, if_pos hib, ix_nI (by omega)]
    show ∃ M3, bI (C E (d + 6) 89 [vI (M2 115 j)] (M2, L)) _ = _ ∧ _
    rw [hI3.2.2.1 j hj, e89 E _ L, bI_s]
    exact this
  · rw [eb, bI_s, if_pos rfl]
    have hsp := hse p hp
    have e : tE T p = -1 := by rw [t_eq, t_m1]; omega
    exact l87 E d L M hC hn8 hg9 hl hr (p := p) (x4 := M1 110 5) hn hp (by rw [sc_same hn8 e]; exact hI.2.1) (pN P) 0 _ a (by omega) hI2 ⟨-1, hC2⟩
theorem l116 (M : Nat → Nat → Int32) {P : TP} {T : TS} (hC : CH M 40 P T) (hn8 : pN P ≤ 8) (hg9 : pG P ≤ 9) (hl : LW E (pK P) M) (hr : rngT P T) (hse : seatsOk P T) {n : Nat} (hn : n ≤ 20) (what : Int32) :
    ∀ r p (M1 : Nat → Nat → Int32) a, p + r = pG P → IvC M M1 P n T a → CH M1 170 P T → ∃ M2, X E (d + 7) me116 31 [some (vR 1 11 10), some (vI (nI n)), some (vI what), some (vI (nI p))] [] (M1, L) = some (some (vI (if what = 2 then (fb P n T r p a).2 else if what = 0 then (M2 110 6) / 1000 else rm32 (M2 110 6) 1000)), (M2, L)) ∧ IvC M M2 P n T (fb P n T r p a) := by
  intro r
  induction r with
  | zero =>
    intro p M1 a hp hI hC1
    refine ⟨M1, ?_, hI⟩
    rw [x116_31, hI.1 40 (by unfold fQ; omega), hC.2.1, if_pos (nI_le (by omega) (by omega)), hI.2.2.2.2.1]
    show _ = some (some (vI (if what = 2 then a.2 else _)), _)
    by_cases q : what = 2
    · rw [if_pos q, if_pos q]
    · rw [if_neg q, if_neg q]
      by_cases q2 : what = 0
      · rw [if_pos q2, if_pos q2]
      · rw [if_neg q2, if_neg q2]
  | succ r ih =>
    intro p M1 a hp hI hC1
    obtain ⟨M2, e2, i2, c2'⟩ := g87 E d L M hC hn8 hg9 hl hr hse hn (p := p) (by omega) M1 a hI hC1
    rw [x116_31, hI.1 40 (by unfold fQ; omega), hC.2.1, if_neg (nI_ge (by omega) (by omega)), e2, bV_s, nI_1]
    exact ih (p + 1) M2 _ (by omega) i2 c2'
end MOVED3
/-- the reference's best, as count and sum -/
def RefA (a : Int × Int32) (x3 x4 x5 : Int32) : Prop := ∃ c : Nat, c ≤ 8 ∧ x4 = nI c ∧ 0 ≤ x5.toInt ∧ x5.toInt ≤ 792 ∧ a.1 = 1000 * (c : Int) + x5.toInt ∧ a.2 = x3
theorem cnt_8 {f : Nat → Bool} : ∀ {n : Nat}, cnt n f ≤ n
  | 0 => Nat.le_refl _
  | n + 1 => by
    have := cnt_8 (f := f) (n := n)
    show cnt n f + _ ≤ _
    split <;> omega
section MOVED4
variable (E : Nat × (Nat → Int32)) (d : Nat) (L : Nat → Nat → Int64)
theorem tl205 (M3 : Nat → Nat → Int32) {P : TP} {T' : TS} (hn8 : pN P ≤ 8) (hn : M3 400 6 = nI (pN P)) (hr : rngT P T') {n : Nat} (ht : RT M3 P (itd (dayA P) n T')) {a : Int × Int32} {x3 x4 x5 : Int32} (hA : RefA a x3 x4 x5) (code : Int32) (F : Int32 → Int32 → Int32 → Option PV → PS → PR) :
    ∃ x3' x4' x5' w, (bI (C E (d + 2) 194 [vR 1 12 400] (M3, L)) fun r11 s11 => (bI (C E (d + 2) 150 [vI r11] s11) fun r12 s12 => (if x4 < r12 then (bI (C E (d + 2) 195 [vR 1 12 400] s12) fun r13 s13 => F code r12 r13 (some (vI r12)) s13) else (if r12 = x4 then (bI (C E (d + 2) 195 [vR 1 12 400] s12) fun r14 s14 => (if r14 ≤ x5 then F x3 x4 x5 (some (vI r12)) s14 else (bI (C E (d + 2) 195 [vR 1 12 400] s14) fun r15 s15 => F code r12 r15 (some (vI r12)) s15))) else F x3 x4 x5 (some (vI r12)) s12)))) = F x3' x4' x5' w (M3, L) ∧ RefA (bst a (sc P n T') code) x3' x4' x5' := by
  obtain ⟨c, c8, rfl, s0, s1, ha1, ha2⟩ := hA
  have hsr := Sd_rng hr n
  obtain ⟨mm, m1, m2, m3⟩ := pop_cnt (Sd P n T') hn8
  obtain ⟨z1, z2, z3⟩ := smW_split hsr hn8
  have hcn := cnt_8 (f := fun b => decide (0 < (Sd P n T' b).toInt)) (n := pN P)
  have hsc : sc P n T' = 1000 * ((cnt (pN P) (fun b => decide (0 < (Sd P n T' b).toInt)) : Nat) : Int) + (smB (Sd P n T') (pN P)).toInt := z3
  rw [← m3] at hcn hsc
  have e194' : C E (d + 2) 194 [vR 1 12 400] (M3, L) = some (some (vI (nI mm)), (M3, L)) := by
    rw [e194 E _ L M3 hn hn8, sdB_congr (S' := Sd P n T') (fun k hk => ht.1 k hk), m2]
  have e195' : C E (d + 2) 195 [vR 1 12 400] (M3, L) = some (some (vI (smB (Sd P n T') (pN P))), (M3, L)) := by
    rw [e195 E _ L M3 hn hn8, smB_congr (S' := Sd P n T') (fun k hk => ht.1 k hk)]
  rw [e194', bI_s, e150 E _ M3 L m1, bI_s]
  unfold bst
  by_cases q1 : c < popN mm
  · rw [if_pos (show nI c < nI (popN mm) from nI_lt q1 (by omega)), e195', bI_s, if_neg (by omega)]
    exact ⟨_, _, _, _, rfl, popN mm, by omega, rfl, z2, by omega, hsc, rfl⟩
  · rw [if_neg (show ¬ nI c < nI (popN mm) from nI_nlt (by omega) (by omega))]
    by_cases q2 : popN mm = c
    · rw [if_pos (show nI (popN mm) = nI c by rw [q2]), e195', bI_s]
      by_cases q3 : (smB (Sd P n T') (pN P)).toInt ≤ x5.toInt
      · rw [if_pos (show smB (Sd P n T') (pN P) ≤ x5 by rw [t_le]; exact q3), if_pos (by omega)]
        exact ⟨_, _, _, _, rfl, c, c8, rfl, s0, s1, ha1, ha2⟩
      · rw [if_neg (show ¬ smB (Sd P n T') (pN P) ≤ x5 by rw [t_le]; exact q3), e195', bI_s, if_neg (by omega)]
        exact ⟨_, _, _, _, rfl, popN mm, by omega, rfl, z2, by omega, hsc, rfl⟩
    · rw [if_neg (show ¬ nI (popN mm) = nI c from fun q => q2 (nI_inj (by omega) (by omega) q)), if_pos (by omega)]
      exact ⟨_, _, _, _, rfl, c, c8, rfl, s0, s1, ha1, ha2⟩
end MOVED4
