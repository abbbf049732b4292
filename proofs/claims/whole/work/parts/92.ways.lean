/-! ways by bridges: both alike -/
theorem wy_of {M : Nat → Nat → Int32} {n g : Nat} (hc : Rc M n g) : ∃ A B W, wyC M n A B W := by
  refine ⟨fun k => (M 41 k).toInt.toNat, fun k => (M 42 k).toInt.toNat, fun k => (M 43 k).toInt.toNat, hc.2.2.1.1, hc.1, fun k hk => ?_⟩
  obtain ⟨-, h3, -, -, h1, h2, -⟩ := hc.2.2.2.2.2.1 k hk
  unfold btw at h1 h2 h3
  exact ⟨toN_nI (by omega), toN_nI (by omega), toN_nI (by omega), by show (M 41 k).toInt.toNat < 8; omega, by show (M 42 k).toInt.toNat < 8; omega, by show 1 ≤ (M 43 k).toInt.toNat; omega, by show (M 43 k).toInt.toNat ≤ 9; omega⟩
theorem wyR_of {M : Nat → Nat → Int32} {n g : Nat} {A B W : Nat → Nat} (hc : Rc M n g) (hw : wyC M n A B W) : wyR M n A B W := by
  refine ⟨hc.2.2.1.2.1, fun k hk => ?_⟩
  obtain ⟨⟨q1, q2, q3, q4, q5⟩, -⟩ := hc.2.2.2.2.2.1 k hk
  obtain ⟨h1, h2, h3, -⟩ := hw.2.2 k hk
  exact ⟨q4.trans h1, q5.trans h2, q1.trans h3⟩
theorem wyR.kp {M M' : Nat → Nat → Int32} {n : Nat} {A B W : Nat → Nat} (h : wyR M n A B W) (k : Kp M M') : wyR M' n A B W :=
  ⟨by rw [k.2.2.2 6 (by unfold perS; omega)]; exact h.1, fun j hj => by rw [k.1 409 (by unfold perC; omega), k.1 410 (by unfold perC; omega), k.1 401 (by unfold perC; omega)]; exact h.2 j hj⟩
theorem Kp.o433 {M M' : Nat → Nat → Int32} (h : ∀ c, c ≠ 433 → M' c = M c) : Kp M M' :=
  ⟨fun c hc => h c (by unfold perC at hc; omega), by rw [h 70 (by omega)], by rw [h 90 (by omega)], fun j _ => by rw [h 400 (by omega)]⟩
section OPWAY
variable (E : Nat × (Nat → Int32)) (d : Nat) (L : Nat → Nat → Int64)
theorem l210 (M : Nat → Nat → Int32) {n : Nat} {A B W : Nat → Nat} (hr : wyR M n A B W) (hn8 : n ≤ 8) (hf : ∀ k, k < n → A k < 8 ∧ B k < 8 ∧ 1 ≤ W k ∧ W k ≤ 9) {sb : Nat} (hsb : sb < 256) {s e : Nat} (hs : s < 8) (he : e < 8) {p0 p1 : Int32} (es : p0 / (10 : Int32) = nI s) (ee : rm32 p0 (10 : Int32) = nI e) {b : Nat} (hb : b < 256) (hpb : pst (prQ A B W n sb s e) (2 ^ n) = some b) :
    ∀ r N (M1 : Nat → Nat → Int32) w6, N + r = 2 ^ n → (∀ c, c ≠ 433 → M1 c = M c) → ∃ M2, X E (d + 3) me210 87 [some (vR 1 12 400), some (vI p0), some (vI p1), some (vI (nI sb)), some (vI (rbO (pst (prQ A B W n sb s e) N))), some (vI (nI N)), w6] [] (M1, L) = some (some (vI (if p1 = 2 then nI (popN b) else nI b)), (M2, L)) ∧ ∀ c, c ≠ 433 → M2 c = M c := by
  have h2n : 2 ^ n ≤ 2 ^ 8 := Nat.pow_le_pow_right (by omega) hn8
  intro r
  induction r with
  | zero =>
    intro N M1 w6 hN hfr
    have e0 : N = 2 ^ n := by omega
    refine ⟨M1, ?_, hfr⟩
    rw [x210_87, hfr 400 (by omega), hr.1, bt_g n (by omega), e0, if_pos (nI_le (Nat.le_refl _) (by omega)), hpb]
    show (if p1 = (2 : Int32) then (bI (C E (d + 3) 150 [vI (nI b)] (M1, L)) fun r6 s6 => some (some (vI r6), s6)) else some (some (vI (nI b)), (M1, L))) = _
    by_cases q : p1 = 2
    · rw [if_pos q, if_pos q, e150 E _ M1 L (m := b) (by omega), bI_s]
    · rw [if_neg q, if_neg q]
  | succ r ih =>
    intro N M1 w6 hN hfr
    have ih' := fun M2 w hf2 => ih (N + 1) M2 w (by omega) hf2
    have st : ∀ b : Bool, (prQ A B W n sb s e N && popB (pst (prQ A B W n sb s e) N) N) = b → pst (prQ A B W n sb s e) (N + 1) = if b = true then some N else pst (prQ A B W n sb s e) N := fun b hb => by rw [pst, hb]
    have skip : ∀ M2 w, (∀ c, c ≠ 433 → M2 c = M c) → (prQ A B W n sb s e N && popB (pst (prQ A B W n sb s e) N) N) = false → ∃ M3, X E (d + 3) me210 87 [some (vR 1 12 400), some (vI p0), some (vI p1), some (vI (nI sb)), some (vI (rbO (pst (prQ A B W n sb s e) N))), some (vI (nI (N + 1))), w] [] (M2, L) = some (some (vI (if p1 = 2 then nI (popN b) else nI b)), (M3, L)) ∧ ∀ c, c ≠ 433 → M3 c = M c := fun M2 w hf2 hb => by
      have := ih' M2 w hf2
      rw [st false hb, if_neg (by decide)] at this
      exact this
    have take : ∀ M2 w, (∀ c, c ≠ 433 → M2 c = M c) → (prQ A B W n sb s e N && popB (pst (prQ A B W n sb s e) N) N) = true → ∃ M3, X E (d + 3) me210 87 [some (vR 1 12 400), some (vI p0), some (vI p1), some (vI (nI sb)), some (vI (nI N)), some (vI (nI (N + 1))), w] [] (M2, L) = some (some (vI (if p1 = 2 then nI (popN b) else nI b)), (M3, L)) ∧ ∀ c, c ≠ 433 → M3 c = M c := fun M2 w hf2 hb => by
      have := ih' M2 w hf2
      rw [st true hb, if_pos rfl] at this
      exact this
    have hpr : prQ A B W n sb s e N = (subQ sb N && !decide (rnds (edl (wyE A B W) (lessF' sb N) n 0) 7 (wd0 s) e < 1000000)) := rfl
    rw [x210_87, hfr 400 (by omega), hr.1, bt_g n (by omega), if_neg (nI_ge (by omega) (by omega)), nI_1]
    by_cases q1 : subQ sb N = true
    · have q1' : (nI N &&& (nI sb ^^^ (-1 : Int32))) = 0 := of_decide_eq_true q1
      rw [if_pos q1', es, ee]
      obtain ⟨m, m1, m2, m3⟩ := free_b (a := sb) (u := N) (by omega)
      have hr1 : wyR M1 n A B W := hr.kp (Kp.o433 hfr)
      obtain ⟨M2, e2, f2⟩ := e209 E d L M1 hr1 hn8 hf m1 (S := lessF' sb N) m3 hs he
      have f2' : ∀ c, c ≠ 433 → M2 c = M c := fun c hc => (f2 c hc).trans (hfr c hc)
      have hv := rnds_b (es := edl (wyE A B W) (lessF' sb N) n 0) (s := s) 7 e
      have e6 : (nI (rnds (edl (wyE A B W) (lessF' sb N) n 0) 7 (wd0 s) e) < (1000000 : Int32)) = (rnds (edl (wyE A B W) (lessF' sb N) n 0) 7 (wd0 s) e < 1000000) := nI_ltB (b := 1000000) (by omega) (by omega)
      have fin : popB (pst (prQ A B W n sb s e) N) N = true → ∀ w w', ∃ M3, (if nI (rnds (edl (wyE A B W) (lessF' sb N) n 0) 7 (wd0 s) e) < (1000000 : Int32) then X E (d + 3) me210 87 [some (vR 1 12 400), some (vI p0), some (vI p1), some (vI (nI sb)), some (vI (rbO (pst (prQ A B W n sb s e) N))), some (vI (nI (N + 1))), w] [] (M2, L) else X E (d + 3) me210 87 [some (vR 1 12 400), some (vI p0), some (vI p1), some (vI (nI sb)), some (vI (nI N)), some (vI (nI (N + 1))), w'] [] (M2, L)) = some (some (vI (if p1 = 2 then nI (popN b) else nI b)), (M3, L)) ∧ ∀ c, c ≠ 433 → M3 c = M c := fun q2 w w' => by
        by_cases q3 : rnds (edl (wyE A B W) (lessF' sb N) n 0) 7 (wd0 s) e < 1000000
        · rw [if_pos (by rw [e6]; exact q3)]
          exact skip M2 w f2' (by rw [hpr, decide_eq_true q3]; simp)
        · rw [if_neg (by rw [e6]; exact q3)]
          exact take M2 w' f2' (by rw [q2, hpr, decide_eq_false q3, q1]; rfl)
      have hlt := fun b' => pst_lt (q := prQ A B W n sb s e) (b := b') (N := N)
      generalize hO : pst (prQ A B W n sb s e) N = O at *
      cases O with
      | none =>
        show ∃ M3, (if (-1 : Int32) < 0 then _ else _) = _ ∧ _
        rw [if_pos (by decide), m2, e2, bI_s]
        exact fin rfl _ _
      | some b' =>
        have hb' := hlt b' rfl
        show ∃ M3, (if nI b' < 0 then _ else _) = _ ∧ _
        rw [if_neg (nI_pos (by omega)), e150 E _ M1 L (m := N) (by omega), bI_s]
        show ∃ M3, (bI (C E (d + 3) 150 [vI (nI b')] (M1, L)) _) = _ ∧ _
        rw [e150 E _ M1 L (m := b') (by omega), bI_s]
        have p1' := popN_lt (m := N)
        have p2' := popN_lt (m := b')
        by_cases q2 : popN N < popN b'
        · rw [if_neg (nI_ge (by omega) (by omega)), m2, e2, bI_s]
          exact fin (decide_eq_true q2) _ _
        · rw [if_pos (nI_le (by omega) (by omega))]
          exact skip M1 _ hfr (by show (_ && decide (popN N < popN b')) = false; rw [decide_eq_false q2, Bool.and_false])
    · have q1' : ¬ (nI N &&& (nI sb ^^^ (-1 : Int32))) = 0 := of_decide_eq_false (f_of q1)
      rw [if_neg q1']
      exact skip M1 _ hfr (by rw [hpr, f_of q1]; rfl)
theorem op_way (p0 p1 : Int32) : Opk E d 118 210 [vI p0, vI p1] := by
  intro M L h
  obtain ⟨P, T, hc, hR, hP, hT⟩ := RR.cx E h
  obtain ⟨c1, c2, c3, ⟨c4, c5⟩, c6, c7, c8, c9, c10⟩ := id hc
  obtain ⟨A, B, W, hw⟩ := wy_of hR
  have hwr := wyR_of hR hw
  have hwf := hw.f
  by_cases hk : okft p0
  · by_cases h1 : 0 ≤ p1.toInt ∧ p1.toInt ≤ 3
    · have hk' := hk
      unfold okft at hk'
      obtain ⟨k0, k1, k2, k3⟩ := hk'
      have d1 := t_div (b := 10) k0 (by decide)
      have d2 := t_rem (b := 10) k0 (by decide)
      rw [t_10] at d1 d2
      obtain ⟨s, hs, es⟩ := nI_ex (x := p0 / 10) (n := 8) (by rw [d1]; omega) (by rw [d1]; omega)
      obtain ⟨e, he, ee⟩ := nI_ex (x := rm32 p0 10) (n := 8) (by rw [d2]; omega) (by rw [d2]; omega)
      have hse : s ≠ e := fun q => by
        rw [es, t_nI (by omega)] at d1
        rw [ee, t_nI (by omega)] at d2
        omega
      obtain ⟨sb, s1, s2, s3⟩ := sd_tb (M 44) (pN P) c4
      have h2n : 2 ^ pN P ≤ 2 ^ 8 := Nat.pow_le_pow_right (by omega) c4
      have hS : tS T = M 44 := by rw [hT]; rfl
      by_cases h2 : 2 ≤ p1.toInt
      · have g1 := e100 E (d + 95) L M hw (by omega) s2 hs he
        obtain ⟨b, hb⟩ := pst_at (prQ_s (A := A) (B := B) (W := W) (n := pN P) (sb := sb) (s := s) (e := e) (by omega) hse)
        have hbl := pst_lt hb
        rw [hb] at g1
        have g1 : C E (d + 99) 100 [vR 1 10 250, vI (nI s), vI (nI e)] (M, L) = some (some (vI (nI b)), (M, L)) := g1
        have hpb : pst (prQ A B W (pN P) sb s e) (2 ^ pN P) = some b := by
          have := pst_tail (q := prQ A B W (pN P) sb s e) (K := sb + 1) (2 ^ pN P - (sb + 1)) (fun N hN1 hN2 => by
            unfold prQ
            rw [subQ_gt (by omega) (by omega)]
            rfl)
          rw [show sb + 1 + (2 ^ pN P - (sb + 1)) = 2 ^ pN P by omega, hb] at this
          exact this
        obtain ⟨M2, g2, f2, t2⟩ := e188 E (d + 98) L M c2 c3 c4 c5
        have k2 := Kp.ofR f2
        obtain ⟨M3, g3, f3⟩ := l210 E (d + 96) L M2 (hwr.kp k2) c4 hwf (sb := sb) (by omega) hs he es ee (p1 := p1) (b := b) (by omega) hpb (2 ^ pN P) 0 M2 none (by omega) (fun _ _ => rfl)
        refine opq E d h (r := if p1 = 2 then nI (popN b) else nI b) (M1 := M) (M2 := M3) ?_ (Kp.re M) ?_ (k2.tra (Kp.o433 f3))
        · rw [x118, e146, bI_s, if_neg (b1_ne hk), e145, bI_s, if_neg (b1_ne (by rw [t_0, t_3]; exact h1)), if_pos (by rw [t_le, t_2]; exact h2), es, ee, g1, bI_s]
          by_cases q : p1 = 2
          · rw [if_pos q, if_pos q, e250 E _ M L (m := b) (by omega), bI_s]
          · rw [if_neg q, if_neg q]
        · rw [x210, e159, bI_s, if_neg (b1_ne hk), e148, bI_s, if_neg (b1_ne (by rw [tl_i, l_0, l_3]; exact h1)), g2, bV_s, e194 E _ L M2 (hwr.kp k2).1 c4, bI_s, if_pos (by rw [t_le, t_2]; exact h2), sdB_congr (fun k hk => t2.1 k hk), hS, s2]
          exact g3
      · obtain ⟨M1, g1, f1⟩ := e97 E (d + 95) L M hw (sb := sb) (by omega) s2 hs he
        have k1 : Kp M M1 := Kp.ofQ (fun c hcc => f1 c (by unfold fQ at hcc; omega))
        have rx := Ctx.rx E hc k1
        obtain ⟨M2, g2, f2, t2⟩ := e188 E (d + 98) L M1 rx.1 rx.2.1 c4 c5
        have k2 := Kp.ofR f2
        obtain ⟨M3, g3, f3⟩ := e209 E (d + 96) L M2 ((hwr.kp k1).kp k2) c4 hwf (m := sb) (by omega) (S := fun k => sb.testBit k) (fun _ _ => rfl) hs he
        have hv := rnds_b (es := edl (wyE A B W) (fun k => sb.testBit k) (pN P) 0) (s := s) 7 e
        have e6 : (nI (rnds (edl (wyE A B W) (fun k => sb.testBit k) (pN P) 0) 7 (wd0 s) e) < (1000000 : Int32)) = (rnds (edl (wyE A B W) (fun k => sb.testBit k) (pN P) 0) 7 (wd0 s) e < 1000000) := nI_ltB (b := 1000000) (by omega) (by omega)
        generalize hV : rnds (edl (wyE A B W) (fun k => sb.testBit k) (pN P) 0) 7 (wd0 s) e = V at *
        have hB : wyB (edl (wyE A B W) (fun k => sb.testBit k) (pN P) 0) s e = decide (V < 1000000) := by unfold wyB; rw [hV]
        rw [hB] at g1
        refine opq E d h (r := if V < 1000000 then (if p1 = 0 then nI V / 100 else rm32 (nI V) 100) else -2) (M1 := M1) (M2 := M3) ?_ k1 ?_ (k2.tra (Kp.o433 f3))
        · rw [x118, e146, bI_s, if_neg (b1_ne hk), e145, bI_s, if_neg (b1_ne (by rw [t_0, t_3]; exact h1)), if_neg (by rw [t_le, t_2]; exact h2), es, ee, g1, bI_s]
          by_cases q : V < 1000000
          · rw [if_pos (decide_eq_true q), if_pos q, if_pos (show (0 : Int32) ≤ nI V by rw [t_le, t_0, t_nI (by omega)]; omega)]
            by_cases z : p1 = 0
            · rw [if_pos z, if_pos z]
            · rw [if_neg z, if_neg z]
          · rw [if_neg (c := decide (V < 1000000) = true) (by rw [decide_eq_false q]; decide), if_neg q, if_neg (by decide)]
        · rw [x210, e159, bI_s, if_neg (b1_ne hk), e148, bI_s, if_neg (b1_ne (by rw [tl_i, l_0, l_3]; exact h1)), g2, bV_s, e194 E _ L M2 ((hwr.kp k1).kp k2).1 c4, bI_s, if_neg (by rw [t_le, t_2]; exact h2), sdB_congr (fun k hk => t2.1 k hk), hS, s2, es, ee, g3, bI_s]
          by_cases q : V < 1000000
          · rw [if_pos (by rw [e6]; exact q), if_pos q]
            by_cases z : p1 = 0
            · rw [if_pos z, if_pos z]
            · rw [if_neg z, if_neg z]
          · rw [if_neg (by rw [e6]; exact q), if_neg q]
    · refine opq E d h (r := -1) (M1 := M) (M2 := M) ?_ (Kp.re M) ?_ (Kp.re M)
      · rw [x118, e146, bI_s, if_neg (b1_ne hk), e145, bI_s, if_pos (b1_e (by rw [t_0, t_3]; exact h1))]
      · rw [x210, e159, bI_s, if_neg (b1_ne hk), e148, bI_s, if_pos (b1_e (by rw [tl_i, l_0, l_3]; exact h1))]
  · refine opq E d h (r := -1) (M1 := M) (M2 := M) ?_ (Kp.re M) ?_ (Kp.re M)
    · rw [x118, e146, bI_s, if_pos (b1_e hk)]
    · rw [x210, e159, bI_s, if_pos (b1_e hk)]
theorem op_needed : Opk E d 119 211 [] := by
  intro M L h
  obtain ⟨P, T, hc, hR, hP, hT⟩ := RR.cx E h
  obtain ⟨c1, c2, c3, ⟨c4, c5⟩, c6, c7, c8, c9, c10⟩ := id hc
  obtain ⟨A, B, W, hw⟩ := wy_of hR
  have hwr := wyR_of hR hw
  have hwf := hw.f
  obtain ⟨sb, s1, s2, s3⟩ := sd_tb (M 44) (pN P) c4
  have h2n : 2 ^ pN P ≤ 2 ^ 8 := Nat.pow_le_pow_right (by omega) c4
  have hS : tS T = M 44 := by rw [hT]; rfl
  have g1 := e101 E (d + 95) L M hw (sb := sb) (by omega) s2
  obtain ⟨M2, g2, f2, t2⟩ := e188 E (d + 98) L M c2 c3 c4 c5
  have k2 := Kp.ofR f2
  have hw2 := hwr.kp k2
  have hl : ∀ r k (M1 : Nat → Nat → Int32), k + r = pN P → (∀ c, c ≠ 433 → M1 c = M2 c) → ∃ M3, X E (d + 99) me211 13 [some (vR 1 12 400), some (vI (nI sb)), some (vI (ndI (ndQ A B W (pN P) sb) k)), some (vI (nI k))] [] (M1, L) = some (some (vI (ndI (ndQ A B W (pN P) sb) (pN P))), (M3, L)) ∧ ∀ c, c ≠ 433 → M3 c = M2 c := by
    intro r
    induction r with
    | zero =>
      intro k M1 hk hfr
      have e0 : k = pN P := by omega
      refine ⟨M1, ?_, hfr⟩
      rw [x211_13, hfr 400 (by omega), hw2.1, e0, if_pos (nI_le (Nat.le_refl _) (by omega))]
    | succ r ih =>
      intro k M1 hk hfr
      obtain ⟨hA, hB, -⟩ := hwf k (by omega)
      have st : ∀ b : Bool, ndQ A B W (pN P) sb k = b → ndI (ndQ A B W (pN P) sb) (k + 1) = if b = true then ndI (ndQ A B W (pN P) sb) k ||| bitI k else ndI (ndQ A B W (pN P) sb) k := fun b hb => by rw [ndI, hb]
      have hw1 : wyR M1 (pN P) A B W := hw2.kp (Kp.o433 hfr)
      obtain ⟨v1, v2, -⟩ := hw1.2 k (by omega)
      rw [x211_13, hw1.1, if_neg (nI_ge (by omega) (by omega)), e149b E _ L M1 (p := k) (x := sb) (by omega) (by omega), bI_s, nI_1]
      cases hb : sb.testBit k with
      | false =>
        rw [if_pos (show (if false = true then (1 : Int32) else 0) = 0 by decide), or0]
        have := ih (k + 1) M1 (by omega) hfr
        rw [st false (by unfold ndQ; rw [hb]; rfl), if_neg (by decide)] at this
        exact this
      | true =>
        have hk2 : 2 ^ k < 512 := Nat.pow_lt_pow_right (a := 2) (m := k) (n := 9) (by omega) (by omega)
        obtain ⟨m, m1, m2, m3⟩ := free_b (a := sb) (u := 2 ^ k) (by omega)
        obtain ⟨M3, e3, f3⟩ := e209 E (d + 96) L M1 hw1 c4 hwf m1 (S := lessF' sb (2 ^ k)) m3 hA hB
        have f3' : ∀ c, c ≠ 433 → M3 c = M2 c := fun c hcc => (f3 c hcc).trans (hfr c hcc)
        have hv := rnds_b (es := edl (wyE A B W) (lessF' sb (2 ^ k)) (pN P) 0) (s := A k) 7 (B k)
        have e6 : (nI (rnds (edl (wyE A B W) (lessF' sb (2 ^ k)) (pN P) 0) 7 (wd0 (A k)) (B k)) < (1000000 : Int32)) = (rnds (edl (wyE A B W) (lessF' sb (2 ^ k)) (pN P) 0) 7 (wd0 (A k)) (B k) < 1000000) := nI_ltB (b := 1000000) (by omega) (by omega)
        have ibk8 : ib (nI k) 8 := by rw [ib_nI (by omega)]; omega
        rw [if_neg (show ¬ (if true = true then (1 : Int32) else 0) = 0 by decide), if_pos ibk8, if_pos ibk8, ix_nI (by omega)]
        dsimp only
        rw [v1, v2, bt_g k (by omega), m2, e3, bI_s]
        by_cases q3 : rnds (edl (wyE A B W) (lessF' sb (2 ^ k)) (pN P) 0) 7 (wd0 (A k)) (B k) < 1000000
        · rw [if_pos (by rw [e6]; exact q3), or0]
          have := ih (k + 1) M3 (by omega) f3'
          rw [st false (by unfold ndQ wyB; rw [hb, decide_eq_true q3]; rfl), if_neg (by decide)] at this
          exact this
        · rw [if_neg (by rw [e6]; exact q3)]
          have := ih (k + 1) M3 (by omega) f3'
          rw [st true (by unfold ndQ wyB; rw [hb, decide_eq_false q3]; rfl), if_pos rfl] at this
          unfold bitI at this
          rw [bt_g k (by omega)] at this
          exact this
  obtain ⟨M3, g3, f3⟩ := hl (pN P) 0 M2 (by omega) (fun _ _ => rfl)
  refine opq E d h (r := ndI (ndQ A B W (pN P) sb) (pN P)) (M1 := M) (M2 := M3) ?_ (Kp.re M) ?_ (k2.tra (Kp.o433 f3))
  · rw [x119, g1, bI_s]
  · rw [x211, g2, bV_s, e194 E _ L M2 hw2.1 c4, bI_s, sdB_congr (fun k hk => t2.1 k hk), hS, s2]
    exact g3
end OPWAY
