/-! by turns: the reference -/
def appT (P : TP) (b : Nat) (dd : Nat → Nat) (T : TS) : Nat → TS
  | 0 => T
  | i + 1 => if dd i < pG P then (if i % 2 = 0 then setE (appT P b dd T i) (dd i) (nI b) else gft (appT P b dd T i) (dd i)) else appT P b dd T i
theorem appT_congr {P : TP} {b : Nat} {dd dd' : Nat → Nat} {T : TS} : ∀ {k : Nat}, (∀ i, i < k → dd i = dd' i) → appT P b dd T k = appT P b dd' T k
  | 0, _ => rfl
  | k + 1, h => by
    unfold appT
    rw [h k (by omega), appT_congr (k := k) (fun i hi => h i (by omega))]
theorem appT_ok {P : TP} {b : Nat} {S0 : Int} {dd : Nat → Nat} {T : TS} (h : okB P b S0 T) (hn8 : pN P ≤ 8) (hb : b < pN P) : ∀ k, okB P b S0 (appT P b dd T k)
  | 0 => h
  | k + 1 => by
    have := appT_ok (dd := dd) h hn8 hb k
    unfold appT
    split
    · split
      · exact this.e hn8 hb _
      · exact this.g _
    · exact this
def stD (dd : Nat → Nat) (k p : Nat) : Nat → Nat := fun i => if i = k then p else dd i
theorem appT_st {P : TP} {b : Nat} {dd : Nat → Nat} {T : TS} {k p : Nat} : appT P b (stD dd k p) T (k + 1) = if p < pG P then (if k % 2 = 0 then setE (appT P b dd T k) p (nI b) else gft (appT P b dd T k) p) else appT P b dd T k := by
  have e : appT P b (stD dd k p) T k = appT P b dd T k := appT_congr (fun i hi => by unfold stD; rw [if_neg (by omega)])
  have e2 : stD dd k p k = p := by unfold stD; rw [if_pos rfl]
  show (if stD dd k p k < pG P then (if k % 2 = 0 then setE (appT P b (stD dd k p) T k) (stD dd k p k) (nI b) else gft (appT P b (stD dd k p) T k) (stD dd k p k)) else appT P b (stD dd k p) T k) = _
  rw [e, e2]
theorem par3 : ∀ k, k < 3 → rm32 (nI k) 2 = if k % 2 = 0 then 0 else 1 := by decide +kernel
theorem Kp.o434 {M : Nat → Nat → Int32} {j : Nat} {x : Int32} : Kp M (u2 M 434 j x) :=
  ⟨fun c hc => u2_o (by unfold perC at hc; omega), by rw [u2_o (by omega)], by rw [u2_o (by omega)], fun j _ => by rw [u2_o (by omega)]⟩
theorem Kp.o428 {M : Nat → Nat → Int32} {j : Nat} {x : Int32} : Kp M (u2 M 428 j x) :=
  ⟨fun c hc => u2_o (by unfold perC at hc; omega), by rw [u2_o (by omega)], by rw [u2_o (by omega)], fun j _ => by rw [u2_o (by omega)]⟩
theorem Kp.o429 {M : Nat → Nat → Int32} {j : Nat} {x : Int32} : Kp M (u2 M 429 j x) :=
  ⟨fun c hc => u2_o (by unfold perC at hc; omega), by rw [u2_o (by omega)], by rw [u2_o (by omega)], fun j _ => by rw [u2_o (by omega)]⟩
theorem RT_e {M : Nat → Nat → Int32} {P : TP} {T : TS} (h : RT M P T) {j : Nat} {x : Int32} : RT (u2 M 429 j x) P (setE T j x) := by
  refine ⟨fun k hk => by rw [u2_o (by omega)]; exact h.1 k hk, fun q hq => ⟨by rw [u2_o (by omega)]; exact (h.2.1 q hq).1, ?_⟩, by rw [u2_o (by omega)]; exact h.2.2⟩
  show u2 M 429 j x 429 q = if q = j then x else tE T q
  rw [u2_ap, if_pos rfl]
  split
  · rfl
  · exact (h.2.1 q hq).2
theorem RT_q {M : Nat → Nat → Int32} {P : TP} {T : TS} (h : RT M P T) {j : Nat} {x : Int32} : RT (u2 M 428 j x) P (setQ T j x) := by
  refine ⟨fun k hk => by rw [u2_o (by omega)]; exact h.1 k hk, fun q hq => ⟨?_, by rw [u2_o (by omega)]; exact (h.2.1 q hq).2⟩, by rw [u2_o (by omega)]; exact h.2.2⟩
  show u2 M 428 j x 428 q = if q = j then x else tM T q
  rw [u2_ap, if_pos rfl]
  split
  · rfl
  · exact (h.2.1 q hq).1
section TURNS2
variable (E : Nat × (Nat → Int32)) (d : Nat) (L : Nat → Nat → Int64)
def PFS (M0 : Nat → Nat → Int32) (P : TP) (T0 : TS) (b t n r k : Nat) : Prop := ∀ (M1 : Nat → Nat → Int32) (dd : Nat → Nat), Kp M0 M1 → (∀ i, i < k → M1 434 i = nI (dd i) ∧ dd i ≤ 9) → ∃ M2 res, C E (d + 7 + r) 219 [vR 1 12 400, vI (nI b), vI (nI k), vI (nI n), vI (nI t)] (M1, L) = some (some (vI res), (M2, L)) ∧ Kp M0 M2 ∧ (∀ i, i < k → M2 434 i = nI (dd i)) ∧ res.toInt = VT P b t r k (appT P b dd T0 k)
theorem l219 (M0 : Nat → Nat → Int32) {P : TP} {T0 : TS} (hx : RX E M0 P T0) (hn8 : pN P ≤ 8) (hg9 : pG P ≤ 9) {b t n : Nat} {S0 : Int} (hb : b < pN P) (ht : t < 1000) (hn3 : n ≤ 3) (hT : okB P b S0 T0) (dd : Nat → Nat) (x2 : Int32) :
    ∀ m i (M3 : Nat → Nat → Int32) w6 w7, i + m = n → Kp M0 M3 → (∀ i, i < n → M3 434 i = nI (dd i) ∧ dd i ≤ 9) → RT M3 P (appT P b dd T0 i) → ∃ M4, X E (d + 6) me219 12 [some (vR 1 12 400), some (vI (nI b)), some (vI x2), some (vI (nI n)), some (vI (nI t)), some (vI (nI i)), w6, w7] [] (M3, L) = some (some (vI (tS (itd (dayA P) t (appT P b dd T0 n)) b)), (M4, L)) ∧ Kp M0 M4 ∧ (∀ i, i < n → M4 434 i = nI (dd i)) := by
  intro m
  induction m with
  | zero =>
    intro i M3 w6 w7 hi hk hd hrt
    have e : i = n := by omega
    subst e
    have hx3 : RX E M3 P T0 := hx.kp E hk
    have hok := appT_ok (dd := dd) hT hn8 hb i
    obtain ⟨M4, e4, f4, t4⟩ := e193 E d L M3 hx3.1 hrt hn8 hg9 hx3.2.2 hok.2.2 hok.2.1 ht
    refine ⟨M4, ?_, hk.tra (Kp.ofR f4), fun j hj => by rw [f4.1 434 (by omega) (by omega) (by omega) (by omega) (by omega) (by omega) (by omega)]; exact (hd j hj).1⟩
    rw [x219_12, if_pos (nI_le (Nat.le_refl _) (by omega)), e4, bV_s, if_pos (by rw [ib_nI (by omega)]; omega), ix_nI (by omega)]
    show some (some (vI (M4 427 b)), (M4, L)) = _
    rw [t4.1 b hb]
  | succ m ih =>
    intro i M3 w6 w7 hi hk hd hrt
    have hx3 : RX E M3 P T0 := hx.kp E hk
    have ibi : ib (nI i) 3 := by rw [ib_nI (by omega)]; omega
    have ixi := ix_nI (n := i) (by omega)
    obtain ⟨hdi, hd9⟩ := hd i (by omega)
    rw [x219_12, if_neg (nI_ge (by omega) (by omega)), if_pos ibi, ixi, hx3.1.2.1, hdi, nI_1]
    by_cases q : dd i < pG P
    · rw [if_neg (nI_ge (by omega) (by omega)), if_pos ibi]
      have ibj : ib (nI (dd i)) 9 := by rw [ib_nI (by omega)]; omega
      have ixj := ix_nI (n := dd i) (by omega)
      have h434 : ∀ x, u2 M3 429 (dd i) x 434 i = nI (dd i) := fun x => by rw [u2_o (by omega)]; exact hdi
      have h428 : ∀ x, u2 M3 429 (dd i) x 428 = M3 428 := fun x => u2_o (by omega)
      have hpar := par3 i (by omega)
      by_cases ev : i % 2 = 0
      · rw [if_pos ev] at hpar
        have ea : appT P b dd T0 (i + 1) = setE (appT P b dd T0 i) (dd i) (nI b) := by
          rw [appT, if_pos q, if_pos ev]
        have h01 : ((0 : Int32) = 1) = False := by decide
        simp only [hpar, ixj, h434, if_pos ibj, h01, if_true, if_false, if_pos ibi]
        refine ih (i + 1) _ w6 w7 (by omega) ((hk.tra Kp.o429).tra Kp.o428) (fun j hj => by rw [u2_o (by omega), u2_o (by omega)]; exact hd j hj) ?_
        rw [ea]
        have r1 := RT_q (RT_e hrt (j := dd i) (x := nI b)) (j := dd i) (x := tM (appT P b dd T0 i) (dd i))
        have e1 : u2 M3 429 (dd i) (nI b) 428 (dd i) = tM (appT P b dd T0 i) (dd i) := by rw [h428]; exact (hrt.2.1 (dd i) q).1
        have e2 : setQ (setE (appT P b dd T0 i) (dd i) (nI b)) (dd i) (tM (appT P b dd T0 i) (dd i)) = setE (appT P b dd T0 i) (dd i) (nI b) := setQ_id (T := setE (appT P b dd T0 i) (dd i) (nI b))
        rw [e2] at r1
        rw [e1]
        exact r1
      · rw [if_neg ev] at hpar
        have ea : appT P b dd T0 (i + 1) = gft (appT P b dd T0 i) (dd i) := by
          rw [appT, if_pos q, if_neg ev]
        have h10 : ((1 : Int32) = 0) = False := by decide
        simp only [hpar, ixj, h434, if_pos ibj, h10, if_true, if_false, if_pos ibi]
        rw [e152, bI_s]
        dsimp only
        refine ih (i + 1) _ w6 w7 (by omega) ((hk.tra Kp.o429).tra Kp.o428) (fun j hj => by rw [u2_o (by omega), u2_o (by omega)]; exact hd j hj) ?_
        rw [ea]
        have hm429 : M3 429 (dd i) = tE (appT P b dd T0 i) (dd i) := (hrt.2.1 (dd i) q).2
        have r1 := RT_q (RT_e hrt (j := dd i) (x := tE (appT P b dd T0 i) (dd i))) (j := dd i) (x := hel (tM (appT P b dd T0 i) (dd i) + 20) 99)
        rw [setE_id] at r1
        have e1 : u2 M3 429 (dd i) (M3 429 (dd i)) 428 (dd i) = tM (appT P b dd T0 i) (dd i) := by rw [h428]; exact (hrt.2.1 (dd i) q).1
        rw [e1, hm429]
        exact r1
    · rw [if_pos (nI_le (by omega) (by omega))]
      refine ih (i + 1) M3 w6 w7 (by omega) hk hd ?_
      rw [appT, if_neg q]
      exact hrt
theorem pf_all (M0 : Nat → Nat → Int32) {P : TP} {T0 : TS} (hx : RX E M0 P T0) (hn8 : pN P ≤ 8) (hg9 : pG P ≤ 9) {b t n : Nat} {S0 : Int} (hb : b < pN P) (ht : t < 1000) (hn3 : n ≤ 3) (hT : okB P b S0 T0) : ∀ r k, k + r = n → PFS E d L M0 P T0 b t n r k := by
  intro r
  induction r with
  | zero =>
    intro k hkn M1 dd hk hd
    have e : k = n := by omega
    subst e
    have hx1 : RX E M1 P T0 := hx.kp E hk
    obtain ⟨M2, e2, f2, t2⟩ := e188 E (d + 5) L M1 hx1.1 hx1.2.1 hn8 hg9
    obtain ⟨M4, e4, k4, d4⟩ := l219 E d L M0 hx hn8 hg9 hb ht hn3 hT dd (nI k) k 0 M2 none none (by omega) (hk.tra (Kp.ofR f2)) (fun j hj => by rw [f2.1 434 (by omega) (by omega) (by omega) (by omega) (by omega) (by omega) (by omega)]; exact hd j hj) t2
    refine ⟨M4, _, ?_, k4, d4, rfl⟩
    show C E (d + 6 + 1) 219 [vR 1 12 400, vI (nI b), vI (nI k), vI (nI k), vI (nI t)] (M1, L) = _
    rw [x219, if_pos rfl, e2, bV_s]
    exact e4
  | succ r ih =>
    intro k hkn M1 dd hk hd
    have ih := ih (k + 1) (by omega)
    have hx1 : RX E M1 P T0 := hx.kp E hk
    have ibk : ib (nI k) 3 := by rw [ib_nI (by omega)]; omega
    have ixk := ix_nI (n := k) (by omega)
    have hpar := par3 k (by omega)
    -- one of the tries
    have try1 : ∀ (M3 : Nat → Nat → Int32) p, p ≤ 9 → Kp M0 M3 → (∀ i, i < k → M3 434 i = nI (dd i)) → ∃ M4 res, C E (d + 7 + r) 219 [vR 1 12 400, vI (nI b), vI (nI (k + 1)), vI (nI n), vI (nI t)] (u2 M3 434 k (nI p), L) = some (some (vI res), (M4, L)) ∧ Kp M0 M4 ∧ (∀ i, i < k → M4 434 i = nI (dd i)) ∧ res.toInt = VT P b t r (k + 1) (if p < pG P then (if k % 2 = 0 then setE (appT P b dd T0 k) p (nI b) else gft (appT P b dd T0 k) p) else appT P b dd T0 k) := by
      intro M3 p hp k3 d3
      obtain ⟨M4, res, e4, k4, d4, v4⟩ := ih (u2 M3 434 k (nI p)) (stD dd k p) (k3.tra Kp.o434) (fun i hi => by
        unfold stD
        by_cases q : i = k
        · rw [q, u2_s, if_pos rfl]; exact ⟨rfl, hp⟩
        · rw [u2_n q, if_neg q]; exact ⟨d3 i (by omega), (hd i (by omega)).2⟩)
      refine ⟨M4, res, e4, k4, fun i hi => ?_, ?_⟩
      · have := d4 i (by omega)
        unfold stD at this
        rw [if_neg (by omega)] at this
        exact this
      · rw [v4, appT_st]
    obtain ⟨M3, r0, e3, k3, d3, v3⟩ := try1 M1 9 (by omega) hk (fun i hi => (hd i hi).1)
    rw [if_neg (by omega)] at v3
    have hgo : ∃ vf : Nat → Int, (∀ p, p < pG P → vf p = VT P b t r (k + 1) (if p < pG P then (if k % 2 = 0 then setE (appT P b dd T0 k) p (nI b) else gft (appT P b dd T0 k) p) else appT P b dd T0 k)) ∧ VT P b t (r + 1) k (appT P b dd T0 k) = if k % 2 = 0 then fE vf r0.toInt (pG P) else fB vf r0.toInt (pG P) := by
      by_cases ev : k % 2 = 0
      · refine ⟨fun p => VT P b t r (k + 1) (setE (appT P b dd T0 k) p (nI b)), fun p hp => by rw [if_pos hp, if_pos ev], ?_⟩
        rw [VT, if_pos ev, if_pos ev, v3]
      · refine ⟨fun p => VT P b t r (k + 1) (gft (appT P b dd T0 k) p), fun p hp => by rw [if_pos hp, if_neg ev], ?_⟩
        rw [VT, if_neg ev, if_neg ev, v3]
    obtain ⟨vf, hvf, hV⟩ := hgo
    have loop : ∀ m p (M5 : Nat → Nat → Int32) (cur : Int32) w7, p + m = pG P → Kp M0 M5 → (∀ i, i < k → M5 434 i = nI (dd i)) → cur.toInt = (if k % 2 = 0 then fE vf r0.toInt p else fB vf r0.toInt p) → ∃ M6 res, X E (d + 7 + r) me219 163 [some (vR 1 12 400), some (vI (nI b)), some (vI (nI k)), some (vI (nI n)), some (vI (nI t)), some (vI cur), some (vI (nI p)), w7] [] (M5, L) = some (some (vI res), (M6, L)) ∧ Kp M0 M6 ∧ (∀ i, i < k → M6 434 i = nI (dd i)) ∧ res.toInt = VT P b t (r + 1) k (appT P b dd T0 k) := by
      intro m
      induction m with
      | zero =>
        intro p M5 cur w7 hp k5 d5 hc
        have e : p = pG P := by omega
        subst e
        refine ⟨M5, cur, ?_, k5, d5, by rw [hc, hV]⟩
        rw [x219_163, (hx.kp E k5).1.2.1, if_pos (nI_le (Nat.le_refl _) (by omega))]
      | succ m ihm =>
        intro p M5 cur w7 hp k5 d5 hc
        obtain ⟨M6, res, e6, k6, d6, v6⟩ := try1 M5 p (by omega) k5 d5
        rw [← hvf p (by omega)] at v6
        rw [x219_163, (hx.kp E k5).1.2.1, if_neg (nI_ge (by omega) (by omega)), if_pos ibk, ixk, nI_1, e6, bI_s, hpar, nI_1]
        have t1 : (res ≤ cur) = (vf p ≤ cur.toInt) := by rw [t_le, v6]
        have t2 : (cur ≤ res) = (cur.toInt ≤ vf p) := by rw [t_le, v6]
        by_cases ev : k % 2 = 0
        · rw [if_pos ev] at hc
          have st : fE vf r0.toInt (p + 1) = if fE vf r0.toInt p < vf p then vf p else fE vf r0.toInt p := rfl
          rw [if_pos (show (if k % 2 = 0 then (0 : Int32) else 1) = 0 by rw [if_pos ev])]
          by_cases q : vf p ≤ cur.toInt
          · rw [if_pos (by rw [t1]; exact q)]
            exact ihm (p + 1) M6 cur _ (by omega) k6 d6 (by rw [if_pos ev, st, if_neg (by omega)]; exact hc)
          · rw [if_neg (by rw [t1]; exact q)]
            exact ihm (p + 1) M6 res _ (by omega) k6 d6 (by rw [if_pos ev, st, if_pos (by omega)]; exact v6)
        · rw [if_neg ev] at hc
          have st : fB vf r0.toInt (p + 1) = if vf p < fB vf r0.toInt p then vf p else fB vf r0.toInt p := rfl
          rw [if_neg (show ¬ (if k % 2 = 0 then (0 : Int32) else 1) = 0 by rw [if_neg ev]; decide)]
          by_cases q : cur.toInt ≤ vf p
          · rw [if_pos (by rw [t2]; exact q)]
            exact ihm (p + 1) M6 cur _ (by omega) k6 d6 (by rw [if_neg ev, st, if_neg (by omega)]; exact hc)
          · rw [if_neg (by rw [t2]; exact q)]
            exact ihm (p + 1) M6 res _ (by omega) k6 d6 (by rw [if_neg ev, st, if_pos (by omega)]; exact v6)
    obtain ⟨M6, res, e6, k6, d6, v6⟩ := loop (pG P) 0 M3 r0 none (by omega) k3 d3 (by split <;> rfl)
    refine ⟨M6, res, ?_, k6, d6, v6⟩
    show C E (d + 7 + r + 1) 219 [vR 1 12 400, vI (nI b), vI (nI k), vI (nI n), vI (nI t)] (M1, L) = _
    rw [x219, if_neg (fun z => by have := nI_inj (by omega) (by omega) z; omega), if_pos ibk, ixk, nI_1]
    have e3 : C E (d + 7 + r) 219 [vR 1 12 400, vI (nI b), vI (nI (k + 1)), vI (nI n), vI (nI t)] (u2 M1 434 k (9 : Int32), L) = _ := e3
    rw [e3, bI_s]
    exact e6
end TURNS2
