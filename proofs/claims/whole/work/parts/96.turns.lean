/-! by turns: both alike -/
theorem t_div1 {a : Int32} (ha : a.toInt < 0) : (a / 100).toInt ≤ 0 := by
  rw [Int32.toInt_div_of_ne_right a 100 (by decide), t_100]
  have e : (-a.toInt).tdiv 100 = (-a.toInt) / 100 := Int.tdiv_eq_ediv_of_nonneg (by omega)
  have e2 : a.toInt.tdiv 100 = -((-a.toInt) / 100) := by
    rw [← e, Int.neg_tdiv, Int.neg_neg]
  rw [e2]
  omega
section TURNS3
variable (E : Nat × (Nat → Int32)) (d : Nat) (L : Nat → Nat → Int64)
theorem l220 (M0 : Nat → Nat → Int32) {P : TP} {T0 : TS} (hx : RX E M0 P T0) (hn8 : pN P ≤ 8) (hg9 : pG P ≤ 9) {b t n r : Nat} {S0 : Int} (hb : b < pN P) (ht : t < 1000) (hn3 : n ≤ 3) (hr : 1 + r = n) (hT : okB P b S0 T0) (x1 x2 : Int32) {wh : Int32} (hwh : wh.toInt = fE (fun p => VT P b t r 1 (setE T0 p (nI b))) (VT P b t r 1 T0) (pG P)) :
    ∀ m k (M3 : Nat → Nat → Int32) (x7 : Int32), k + m = pG P + 1 → Kp M0 M3 → ((x7 = -1 ∧ (0 < k → VT P b t r 1 T0 < wh.toInt) ∧ ∀ q, q + 1 < k → VT P b t r 1 (setE T0 q (nI b)) < wh.toInt) ∨ x7 = nI (cE (fun p => VT P b t r 1 (setE T0 p (nI b))) (VT P b t r 1 T0) (pG P))) →
      ∃ M4, X E (d + 7 + r) me220 92 [some (vR 1 12 400), some (vI (nI b)), some (vI x1), some (vI x2), some (vI (nI n)), some (vI (nI t)), some (vI wh), some (vI x7), some (vI (nI k))] [] (M3, L) = some (some (vI (nI (cE (fun p => VT P b t r 1 (setE T0 p (nI b))) (VT P b t r 1 T0) (pG P)))), (M4, L)) ∧ Kp M0 M4 := by
  have hpf := pf_all E d L M0 hx hn8 hg9 hb ht hn3 hT r 1 hr
  generalize hv : (fun p => VT P b t r 1 (setE T0 p (nI b))) = v at hwh
  generalize hv0 : VT P b t r 1 T0 = v0 at hwh
  have hsp := cE_spec (v := v) (i := v0) (pG P)
  have hcl : cE v v0 (pG P) ≤ 9 := by
    rcases hsp with ⟨-, q⟩ | ⟨-, p, h1, h2, -⟩ <;> omega
  -- one try
  have try0 : ∀ (M3 : Nat → Nat → Int32) p, p ≤ 9 → Kp M0 M3 → ∃ M4 res, C E (d + 7 + r) 219 [vR 1 12 400, vI (nI b), vI (1 : Int32), vI (nI n), vI (nI t)] (u2 M3 434 0 (nI p), L) = some (some (vI res), (M4, L)) ∧ Kp M0 M4 ∧ res.toInt = if p < pG P then v p else v0 := by
    intro M3 p hp k3
    obtain ⟨M4, res, e4, k4, d4, v4⟩ := hpf (u2 M3 434 0 (nI p)) (fun _ => p) (k3.tra Kp.o434) (fun i hi => by
      rw [show i = 0 by omega, u2_s]; exact ⟨rfl, hp⟩)
    refine ⟨M4, res, e4, k4, ?_⟩
    rw [v4]
    show VT P b t r 1 (if p < pG P then (if 0 % 2 = 0 then setE T0 p (nI b) else gft T0 p) else T0) = _
    by_cases q : p < pG P
    · rw [if_pos q, if_pos rfl, if_pos q, ← hv]
    · rw [if_neg q, if_neg q, ← hv0]
  have done : ∀ m k (M3 : Nat → Nat → Int32), k + m = pG P + 1 → Kp M0 M3 → ∃ M4, X E (d + 7 + r) me220 92 [some (vR 1 12 400), some (vI (nI b)), some (vI x1), some (vI x2), some (vI (nI n)), some (vI (nI t)), some (vI wh), some (vI (nI (cE v v0 (pG P)))), some (vI (nI k))] [] (M3, L) = some (some (vI (nI (cE v v0 (pG P)))), (M4, L)) ∧ Kp M0 M4 := by
    intro m k M3 hk k3
    refine ⟨M3, ?_, k3⟩
    rw [x220_92]
    by_cases q : M3 400 7 < nI k
    · rw [if_pos q]
    · rw [if_neg q, if_pos (show (0 : Int32) ≤ nI (cE v v0 (pG P)) by rw [t_le, t_0, t_nI (by omega)]; omega)]
  intro m
  induction m with
  | zero =>
    intro k M3 x7 hk k3 hx7
    rcases hx7 with ⟨h7, h0, hq⟩ | h7
    · exfalso
      have h0 := h0 (by omega)
      rcases hsp with ⟨q1, q2⟩ | ⟨q0, p, q1, q2, q3, q4⟩
      · omega
      · have := hq p (by omega)
        have hvp : VT P b t r 1 (setE T0 p (nI b)) = v p := by rw [← hv]
        omega
    · rw [h7]; exact done 0 k M3 hk k3
  | succ m ih =>
    intro k M3 x7 hk k3 hx7
    rcases hx7 with ⟨h7, h0, hq⟩ | h7
    · rw [x220_92, (hx.kp E k3).1.2.1, if_neg (show ¬ nI (pG P) < nI k from nI_nlt (by omega) (by omega)), h7, if_neg (show ¬ (0 : Int32) ≤ -1 by decide), nI_1]
      have ib0 : ib (0 : Int32) 3 := by decide
      have i0 : ix (0 : Int32) = 0 := by decide
      by_cases z : k = 0
      · subst z
        rw [if_pos (show nI 0 = 0 from rfl), if_pos ib0, i0]
        obtain ⟨M4, res, e4, k4, v4⟩ := try0 M3 9 (by omega) k3
        rw [if_neg (by omega)] at v4
        have e4 : C E (d + 7 + r) 219 [vR 1 12 400, vI (nI b), vI (1 : Int32), vI (nI n), vI (nI t)] (u2 M3 434 0 (9 : Int32), L) = _ := e4
        rw [e4, bI_s]
        have er : (res = wh) = (v0 = wh.toInt) := by rw [t_eq, v4]
        by_cases q : v0 = wh.toInt
        · have hc : cE v v0 (pG P) = 9 := by
            rcases hsp with ⟨q1, q2⟩ | ⟨q0, -⟩
            · exact q2
            · omega
          rw [if_pos (by rw [er]; exact q), if_pos (show nI 0 = 0 from rfl)]
          exact ih 1 M4 9 (by omega) k4 (Or.inr (by rw [hc]; rfl))
        · have hlt : v0 < wh.toInt := by
            rcases hsp with ⟨q1, q2⟩ | ⟨q0, -⟩ <;> omega
          rw [if_neg (by rw [er]; exact q)]
          exact ih 1 M4 (-1) (by omega) k4 (Or.inl ⟨rfl, fun _ => hlt, fun q hq => by omega⟩)
      · have hz : ¬ nI k = 0 := fun q => z (nI_inj (b := 0) (by omega) (by omega) q)
        have kp : nI k - 1 = nI (k - 1) := by
          have := nI_pred (k - 1)
          rw [show k - 1 + 1 = k by omega] at this
          exact this
        rw [if_neg hz, if_pos ib0, i0, kp]
        obtain ⟨M4, res, e4, k4, v4⟩ := try0 M3 (k - 1) (by omega) k3
        rw [if_pos (by omega)] at v4
        rw [e4, bI_s]
        have er : (res = wh) = (v (k - 1) = wh.toInt) := by rw [t_eq, v4]
        have hvk : VT P b t r 1 (setE T0 (k - 1) (nI b)) = v (k - 1) := by rw [← hv]
        have h0 := h0 (by omega)
        by_cases q : v (k - 1) = wh.toInt
        · have hc : cE v v0 (pG P) = k - 1 := by
            rcases hsp with ⟨q1, q2⟩ | ⟨q0, p, q1, q2, q3, q4⟩
            · omega
            · rw [q2]
              by_cases a : p < k - 1
              · have := hq p (by omega)
                have hvp : VT P b t r 1 (setE T0 p (nI b)) = v p := by rw [← hv]
                omega
              · by_cases a2 : k - 1 < p
                · have := q4 (k - 1) a2; omega
                · omega
          rw [if_pos (by rw [er]; exact q), if_neg hz]
          exact ih (k + 1) M4 _ (by omega) k4 (Or.inr (by rw [hc]))
        · have hlt : v (k - 1) < wh.toInt := by
            have ub : v (k - 1) ≤ fE v v0 (pG P) := by
              have a := fE_up (v := v) (i := v0) (n := k - 1 + 1) (pG P - k)
              rw [show k - 1 + 1 + (pG P - k) = pG P by omega] at a
              have b' : v (k - 1) ≤ fE v v0 (k - 1 + 1) := by unfold fE; split <;> omega
              omega
            omega
          rw [if_neg (by rw [er]; exact q)]
          refine ih (k + 1) M4 (-1) (by omega) k4 (Or.inl ⟨rfl, fun _ => h0, fun q hq2 => ?_⟩)
          by_cases a : q = k - 1
          · rw [a, hvk]; exact hlt
          · exact hq q (by omega)
    · rw [h7]; exact done (m + 1) k M3 hk k3
theorem op_byTurns (p0 p1 p2 : Int32) : Opk E d 124 220 [vI p0, vI p1, vI p2] := by
  intro M L h
  have hR := h
  obtain ⟨P, T, hc, hrc, hP, hT⟩ := RR.cx E h
  obtain ⟨c1, c2, c3, ⟨c4, c5⟩, c6, c7, c8, c9, c10⟩ := id hc
  have t100 : ∀ x : Int32, x / 100 = x / (100 : Int32) := fun _ => rfl
  rcases brn E c1 c4 p0 (d + 98) L with ⟨b, hb, e0, eb⟩ | ⟨hb, eb⟩
  · by_cases hneg : p1 < 0
    · have := t_div1 (a := p1) (by rw [t_lt, t_0] at hneg; exact hneg)
      refine opq E d h (r := -1) (M1 := M) (M2 := M) ?_ (Kp.re M) ?_ (Kp.re M)
      · rw [x124, e145, bI_s, if_pos (b1_e (by rw [t_1]; omega))]
      · rw [x220, e156 E _ L M _ c2.1 c4, bI_s, if_neg (b1_ne (by rw [tl_i, e0]; exact inN (by omega) hb)), if_pos hneg]
    · by_cases h1 : 1 ≤ (p1 / 100).toInt ∧ (p1 / 100).toInt ≤ 3
      · by_cases h2 : 0 ≤ (rm32 p1 100).toInt ∧ (rm32 p1 100).toInt ≤ 20
        · by_cases h3 : 0 ≤ p2.toInt ∧ p2.toInt ≤ 1
          · obtain ⟨n, hn, en⟩ := nI_ex (x := p1 / 100) (n := 4) (by omega) (by omega)
            obtain ⟨t, ht, et⟩ := nI_ex (x := rm32 p1 100) (n := 21) (by omega) (by omega)
            have hn1 : 1 ≤ n := by rw [en, t_nI (by omega)] at h1; omega
            obtain ⟨r, hr⟩ : ∃ r, 1 + r = n := ⟨n - 1, by omega⟩
            have hok : okB P b (tS T b).toInt T := ⟨rfl, c9, c8⟩
            -- the class
            obtain ⟨Ma, ga, fa, ca⟩ := e25 E (d + 96) L M 210 40 (by omega)
            have ca' := ca P T c1 c4 c5
            have hM1 : tbT M (u2 (u2 (u2 (u2 Ma 200 2 (nI b)) 200 3 (nI t)) 200 4 (nI n)) 200 5 (9 : Int32)) P T b t n := by
              refine ⟨ca'.keep (fun c h1 h2 => by rw [u2_o (by omega), u2_o (by omega), u2_o (by omega), u2_o (by omega)]), ⟨?_, ?_, ?_⟩, fun c hcc => ?_⟩
              · rw [u2_n (by omega), u2_n (by omega), u2_n (by omega), u2_s]
              · rw [u2_n (by omega), u2_n (by omega), u2_s]
              · rw [u2_n (by omega), u2_s]
              · have q1 : c ≠ 200 := fun q => hcc (Or.inr (Or.inl q))
                rw [u2_o q1, u2_o q1, u2_o q1, u2_o q1, fa c (fun q => hcc (Or.inr (Or.inr q)))]
            have g93 : C E (d + 99) 93 [vR 1 9 200, vR 1 2 40, vI (nI b), vI (nI n), vI (nI t)] (M, L) = some (none, (u2 (u2 (u2 (u2 Ma 200 2 (nI b)) 200 3 (nI t)) 200 4 (nI n)) 200 5 (9 : Int32), L)) := by
              rw [x93, ga, bV_s]
            generalize u2 (u2 (u2 (u2 Ma 200 2 (nI b)) 200 3 (nI t)) 200 4 (nI n)) 200 5 (9 : Int32) = Mb at hM1 g93
            have ho := out_all E (d + (93 - 2 * n)) L (M0 := M) (S0 := (tS T b).toInt) c4 c5 hb (t := t) (n := n) (by omega) (by omega) c6 n (Nat.le_refl n)
            rw [Nat.sub_self] at ho
            obtain ⟨M1, res, e1, hM2, hA, hC⟩ := ho Mb T 0 (tS T b) hM1 hok
            rw [show d + (93 - 2 * n) + 6 + 2 * n = d + 99 by omega] at e1
            have k1 : Kp M M1 := Kp.ofQ (fun c hcc => hM2.2.2 c (fun q => hcc (by unfold fB9 fT at q; unfold fQ; omega)))
            have rx := Ctx.rx E hc k1
            have hVin := VT_in (t := t) c4 hb n 0 T hok
            have hres : res.toInt = VT P b t n 0 T := by
              obtain ⟨a1, a2, a3, a4⟩ := hA
              rw [t_0] at a4
              by_cases z : res.toInt < (tS T b).toInt
              · have := a3 z
                by_cases z2 : 0 < res.toInt
                · have := a4 z2; omega
                · omega
              · by_cases z2 : 0 < res.toInt
                · have := a4 z2; omega
                · omega
            have eV : VT P b t n 0 T = fE (fun p => VT P b t r 1 (setE T p (nI b))) (VT P b t r 1 T) (pG P) := by
              rw [show n = r + 1 by omega, VT, if_pos rfl]
            have hC := hC rfl (by omega) rfl t_0 rfl
            rw [show n - 1 = r by omega] at hC
            have hC : M1 200 5 = nI (cE (fun p => VT P b t r 1 (setE T p (nI b))) (VT P b t r 1 T) (pG P)) := hC
            obtain ⟨M2, r2, e2, k2, -, v2⟩ := pf_all E (d + (92 - n)) L M1 rx c4 c5 hb (t := t) (n := n) (by omega) (by omega) hok n 0 (by omega) M1 (fun _ => 0) (Kp.re M1) (fun i hi => absurd hi (by omega))
            rw [show d + (92 - n) + 7 + n = d + 99 by omega] at e2
            have er : r2 = res := by
              apply Int32.toInt_inj.mp
              rw [v2, hres]
              rfl
            rw [er] at e2
            have e2 : C E (d + 99) 219 [vR 1 12 400, vI (nI b), vI (0 : Int32), vI (nI n), vI (nI t)] (M1, L) = _ := e2
            have h40 : Mb (40 + 4) b = tS T b := by
              rw [hM1.2.2 (40 + 4) (by unfold fB9 fT; omega)]
              exact (c1.2.2.2.2.1 b hb).2.1
            have e1 : C E (d + 99) 94 [vR 1 9 200, vI (nI n), vI (0 : Int32), vI (tS T b)] (Mb, L) = _ := e1
            have hcl : C E (d + 100) 124 [vR 1 11 10, vI p0, vI p1, vI p2] (M, L) = if p2 = 0 then some (some (vI res), (M1, L)) else some (some (vI (M1 200 5)), (M1, L)) := by
              rw [x124, e145, bI_s, if_neg (b1_ne (by rw [t_1, t_3]; exact h1)), e145, bI_s, if_neg (b1_ne (by rw [t_0, t_20]; exact h2)), e145, bI_s, if_neg (b1_ne (by rw [t_0, t_1]; exact h3)), eb, bI_s, if_neg (by decide), e0, en, et, g93, bV_s, e22_1 E _ Mb L 40 (by omega), bI_s, h40, e1, bI_s]
            have hrf : C E (d + 100) 220 [vR 1 12 400, vI p0, vI p1, vI p2] (M1, L) = if p2 = 0 then some (some (vI res), (M2, L)) else X E (d + 99) me220 92 [some (vR 1 12 400), some (vI (nI b)), some (vI p1), some (vI p2), some (vI (nI n)), some (vI (nI t)), some (vI res), some (vI (-1 : Int32)), some (vI (nI 0))] [] (M2, L) := by
              rw [x220, e156 E _ L M1 _ rx.1.1 c4, bI_s, if_neg (b1_ne (by rw [tl_i, e0]; exact inN (by omega) hb)), if_neg hneg, e148, bI_s, if_neg (b1_ne (by rw [tl_i, l_1, l_3]; exact h1)), e148, bI_s, if_neg (b1_ne (by rw [tl_i, l_0, l_20]; exact h2)), e148, bI_s, if_neg (b1_ne (by rw [tl_i, l_0, l_1]; exact h3)), e0, en, et, e2, bI_s]
              rfl
            by_cases hz : p2 = 0
            · rw [if_pos hz] at hcl hrf
              exact opq E d h hcl k1 hrf k2
            · rw [if_neg hz] at hcl hrf
              obtain ⟨M3, e3, k3⟩ := l220 E (d + (92 - r)) L M1 rx c4 c5 hb (t := t) (n := n) (r := r) (by omega) (by omega) hr hok p1 p2 (wh := res) (by rw [hres, eV]) (pG P + 1) 0 M2 (-1) (by omega) k2 (Or.inl ⟨rfl, fun q => absurd q (by omega), fun q hq => absurd hq (by omega)⟩)
              rw [show d + (92 - r) + 7 + r = d + 99 by omega] at e3
              rw [e3] at hrf
              rw [hC] at hcl
              exact opq E d h hcl k1 hrf k3
          · refine opq E d h (r := -1) (M1 := M) (M2 := M) ?_ (Kp.re M) ?_ (Kp.re M)
            · rw [x124, e145, bI_s, if_neg (b1_ne (by rw [t_1, t_3]; exact h1)), e145, bI_s, if_neg (b1_ne (by rw [t_0, t_20]; exact h2)), e145, bI_s, if_pos (b1_e (by rw [t_0, t_1]; exact h3))]
            · rw [x220, e156 E _ L M _ c2.1 c4, bI_s, if_neg (b1_ne (by rw [tl_i, e0]; exact inN (by omega) hb)), if_neg hneg, e148, bI_s, if_neg (b1_ne (by rw [tl_i, l_1, l_3]; exact h1)), e148, bI_s, if_neg (b1_ne (by rw [tl_i, l_0, l_20]; exact h2)), e148, bI_s, if_pos (b1_e (by rw [tl_i, l_0, l_1]; exact h3))]
        · refine opq E d h (r := -1) (M1 := M) (M2 := M) ?_ (Kp.re M) ?_ (Kp.re M)
          · rw [x124, e145, bI_s, if_neg (b1_ne (by rw [t_1, t_3]; exact h1)), e145, bI_s, if_pos (b1_e (by rw [t_0, t_20]; exact h2))]
          · rw [x220, e156 E _ L M _ c2.1 c4, bI_s, if_neg (b1_ne (by rw [tl_i, e0]; exact inN (by omega) hb)), if_neg hneg, e148, bI_s, if_neg (b1_ne (by rw [tl_i, l_1, l_3]; exact h1)), e148, bI_s, if_pos (b1_e (by rw [tl_i, l_0, l_20]; exact h2))]
      · refine opq E d h (r := -1) (M1 := M) (M2 := M) ?_ (Kp.re M) ?_ (Kp.re M)
        · rw [x124, e145, bI_s, if_pos (b1_e (by rw [t_1, t_3]; exact h1))]
        · rw [x220, e156 E _ L M _ c2.1 c4, bI_s, if_neg (b1_ne (by rw [tl_i, e0]; exact inN (by omega) hb)), if_neg hneg, e148, bI_s, if_pos (b1_e (by rw [tl_i, l_1, l_3]; exact h1))]
  · refine opq E d h (r := -1) (M1 := M) (M2 := M) ?_ (Kp.re M) ?_ (Kp.re M)
    · rw [x124, e145, bI_s]
      by_cases h1 : (1 : Int32).toInt ≤ (p1 / 100).toInt ∧ (p1 / 100).toInt ≤ (3 : Int32).toInt
      · rw [if_neg (b1_ne h1), e145, bI_s]
        by_cases h2 : (0 : Int32).toInt ≤ (rm32 p1 100).toInt ∧ (rm32 p1 100).toInt ≤ (20 : Int32).toInt
        · rw [if_neg (b1_ne h2), e145, bI_s]
          by_cases h3 : (0 : Int32).toInt ≤ p2.toInt ∧ p2.toInt ≤ (1 : Int32).toInt
          · rw [if_neg (b1_ne h3), eb, bI_s, if_pos rfl]
          · rw [if_pos (b1_e h3)]
        · rw [if_pos (b1_e h2)]
      · rw [if_pos (b1_e h1)]
    · rw [x220, e156 E _ L M _ c2.1 c4, bI_s, if_pos (b1_e (by rw [tl_i]; exact hb))]
end TURNS3
