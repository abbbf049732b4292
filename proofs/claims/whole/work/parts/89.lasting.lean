/-! who sits on a told bridge: both alike -/
def whoS (P : TP) (T : TS) : Nat → Nat × Nat
  | 0 => (0, 9)
  | k + 1 => (if fst9 (fitQ P T k (whoS P T k).1) (pG P) 0 = 9 then (whoS P T k).1 else (whoS P T k).1 ||| 2 ^ fst9 (fitQ P T k (whoS P T k).1) (pG P) 0, fst9 (fitQ P T k (whoS P T k).1) (pG P) 0)
theorem fst9_rng {f : Nat → Bool} : ∀ m i, fst9 f m i = 9 ∨ (i ≤ fst9 f m i ∧ fst9 f m i < i + m ∧ f (fst9 f m i) = true)
  | 0, _ => Or.inl rfl
  | m + 1, i => by
    unfold fst9
    by_cases h : f i = true
    · rw [if_pos h]; exact Or.inr ⟨Nat.le_refl _, by omega, h⟩
    · rw [if_neg h]
      rcases fst9_rng (f := f) m (i + 1) with q | ⟨q1, q2, q3⟩
      · exact Or.inl q
      · exact Or.inr ⟨by omega, by omega, q3⟩
theorem fst9_no {f : Nat → Bool} : ∀ m i, i + m ≤ 9 → fst9 f m i = 9 → ∀ p, i ≤ p → p < i + m → f p = false
  | 0, _, _, _, _, h1, h2 => absurd h2 (by omega)
  | m + 1, i, hm, h, p, h1, h2 => by
    unfold fst9 at h
    by_cases q : f i = true
    · rw [if_pos q] at h; omega
    · rw [if_neg q] at h
      by_cases e : p = i
      · rw [e]; exact f_of q
      · exact fst9_no m (i + 1) (by omega) h p (by omega) (by omega)
theorem fst9_all {f : Nat → Bool} : ∀ m i, (∀ p, i ≤ p → f p = false) → fst9 f m i = 9
  | 0, _, _ => rfl
  | m + 1, i, h => by
    unfold fst9
    rw [h i (Nat.le_refl _), if_neg (by decide)]
    exact fst9_all m (i + 1) (fun p hp => h p (by omega))
theorem fst9_cut {f : Nat → Bool} {g s : Nat} : ∀ r i, i + r = g → fst9 (fun p => decide (p < g) && f p) (r + s) i = fst9 f r i
  | 0, i, h => by
    rw [fst9_all _ i (fun p hp => by rw [decide_eq_false (by omega), Bool.false_and])]
    rfl
  | r + 1, i, h => by
    rw [show r + 1 + s = (r + s) + 1 by omega]
    unfold fst9
    rw [decide_eq_true (by omega : i < g), Bool.true_and, fst9_cut r (i + 1) (by omega)]
theorem whoS_lt {P : TP} {T : TS} : ∀ k, (whoS P T k).1 < 2 ^ pG P
  | 0 => Nat.two_pow_pos _
  | k + 1 => by
    have ih := whoS_lt (P := P) (T := T) k
    show (if fst9 (fitQ P T k (whoS P T k).1) (pG P) 0 = 9 then (whoS P T k).1 else (whoS P T k).1 ||| 2 ^ fst9 (fitQ P T k (whoS P T k).1) (pG P) 0) < _
    by_cases q : fst9 (fitQ P T k (whoS P T k).1) (pG P) 0 = 9
    · rw [if_pos q]; exact ih
    · rw [if_neg q]
      rcases fst9_rng (f := fitQ P T k (whoS P T k).1) (pG P) 0 with z | ⟨z1, z2, z3⟩
      · exact absurd z q
      · exact Nat.or_lt_two_pow ih (Nat.pow_lt_pow_right (by omega) (by omega))
theorem ne9 {w : Nat} (hw : w < 1000) (h : ¬ w = 9) : ¬ nI w = (9 : Int32) := fun q => h (nI_inj (b := 9) (by omega) (by omega) q)
section LAST4
variable (E : Nat × (Nat → Int32)) (d : Nat) (L : Nat → Nat → Int64)
/-- the class, one bridge -/
theorem e47 (M : Nat → Nat → Int32) {P : TP} {T : TS} (hn8 : pN P ≤ 8) (hg9 : pG P ≤ 9) (hn : M 40 11 = nI (pN P)) (hm : mkd P T M (pN P)) {k u : Nat} (hk : k < pN P) (hu : u < 512) :
    ∃ M2, C E (d + 13) 47 [vR 1 5 240, vI (nI k), vI (nI u), vI (nI (dpm (wll P T) (pG P) (pN P) (pN P - k) (tbF u)))] (M, L) = some (some (vI (nI (fst9 (fitQ P T k u) (pG P) 0))), (M2, L)) ∧ ∀ c, c ≠ 240 → c ≠ 243 → M2 c = M c := by
  have h9 : mk9 (wll P T k) (pG P) < 512 := Nat.lt_of_lt_of_le (mk9_lt (pG P)) (p512 hg9)
  obtain ⟨fr, hfr, efr, hfb⟩ := free_b (u := u) h9
  obtain ⟨M2, e2, f2⟩ := l47 E d L M hn8 hg9 hn hm hk hu hfr hfb (left := nI (dpm (wll P T) (pG P) (pN P) (pN P - k) (tbF u))) rfl 9 0 M (by omega) (fun _ _ _ => rfl)
  refine ⟨M2, ?_, f2⟩
  have hc := fst9_cut (f := fitQ P T k u) (g := pG P) (s := 9 - pG P) (pG P) 0 (by omega)
  rw [show pG P + (9 - pG P) = 9 by omega] at hc
  rw [hc] at e2
  rw [x47, if_neg (nI_pos (by omega)), if_neg (show ¬ (8 : Int32) ≤ nI k from nI_ge (b := 8) (by omega) (by omega)), if_pos (by rw [ib_nI (by omega)]; omega), ix_nI (by omega), hm k hk, efr]
  exact e2
theorem e46 (M : Nat → Nat → Int32) {P : TP} {T : TS} (hn8 : pN P ≤ 8) (hg9 : pG P ≤ 9) (hn : M 40 11 = nI (pN P)) (hm : mkd P T M (pN P)) {b : Nat} (hb : b < pN P) :
    ∃ M2, C E (d + 14) 46 [vR 1 5 240, vI (nI b)] (M, L) = some (some (vI (nI (whoS P T (b + 1)).2)), (M2, L)) ∧ ∀ c, c ≠ 240 → c ≠ 243 → M2 c = M c := by
  have h512 := p512 hg9
  have h : ∀ r k (M1 : Nat → Nat → Int32), k + r = b + 1 → (∀ c, c ≠ 240 → c ≠ 243 → M1 c = M c) → ∃ M2, X E (d + 13) me46 16 [some (vR 1 5 240), some (vI (nI b)), some (vI (nI (dpm (wll P T) (pG P) (pN P) (pN P - k) (tbF (whoS P T k).1)))), some (vI (nI (whoS P T k).1)), some (vI (nI (whoS P T k).2)), some (vI (nI k))] [] (M1, L) = some (some (vI (nI (whoS P T (b + 1)).2)), (M2, L)) ∧ ∀ c, c ≠ 240 → c ≠ 243 → M2 c = M c := by
    intro r
    induction r with
    | zero =>
      intro k M1 hk hf
      have e : k = b + 1 := by omega
      refine ⟨M1, ?_, hf⟩
      rw [x46_16, e, if_pos (show nI b < nI (b + 1) from nI_lt (by omega) (by omega))]
    | succ r ih =>
      intro k M1 hk hf
      have hu := whoS_lt (P := P) (T := T) k
      rw [x46_16, if_neg (show ¬ nI b < nI k from nI_nlt (by omega) (by omega)), if_neg (show ¬ (8 : Int32) ≤ nI k from nI_ge (b := 8) (by omega) (by omega))]
      obtain ⟨M2, e2, f2⟩ := e47 E d L M1 hn8 hg9 (by rw [hf 40 (by omega) (by omega)]; exact hn) (fun j hj => by rw [hf 242 (by omega) (by omega)]; exact hm j hj) (T := T) (k := k) (u := (whoS P T k).1) (by omega) (by omega)
      rw [e2, bI_s, nI_1]
      have f2' : ∀ c, c ≠ 240 → c ≠ 243 → M2 c = M c := fun c h1 h2 => by rw [f2 c h1 h2]; exact hf c h1 h2
      have ih' := ih (k + 1) M2 (by omega) f2'
      have eu : (whoS P T (k + 1)).1 = if fst9 (fitQ P T k (whoS P T k).1) (pG P) 0 = 9 then (whoS P T k).1 else (whoS P T k).1 ||| 2 ^ fst9 (fitQ P T k (whoS P T k).1) (pG P) 0 := rfl
      have ew : (whoS P T (k + 1)).2 = fst9 (fitQ P T k (whoS P T k).1) (pG P) 0 := rfl
      rw [eu, ew] at ih'
      rcases fst9_rng (f := fitQ P T k (whoS P T k).1) (pG P) 0 with z | ⟨z1, z2, z3⟩
      · have hno := fst9_no (f := fitQ P T k (whoS P T k).1) (pG P) 0 (by omega) z
        have hd := noFit (P := P) (T := T) (k := k) (u := (whoS P T k).1) (by omega) (fun p hp => hno p (by omega) (by omega))
        rw [if_pos z, ← hd] at ih'
        rw [if_pos (by rw [z]; rfl)]
        exact ih'
      · have hq : ¬ fst9 (fitQ P T k (whoS P T k).1) (pG P) 0 = 9 := by omega
        rw [if_neg hq] at ih'
        rw [if_neg (ne9 (by omega) hq), bt_set _ (by omega) _ (by omega)]
        generalize fst9 (fitQ P T k (whoS P T k).1) (pG P) 0 = w at *
        have z4 : 1 + dpm (wll P T) (pG P) (pN P) (pN P - (k + 1)) (tbF ((whoS P T k).1 ||| 2 ^ w)) = dpm (wll P T) (pG P) (pN P) (pN P - k) (tbF (whoS P T k).1) := by
          unfold fitQ at z3
          rw [Bool.and_eq_true] at z3
          exact of_decide_eq_true z3.2
        rw [← z4, Nat.add_comm 1, nI_dn]
        exact ih'
  rw [x46]
  obtain ⟨M1, e1, f1⟩ := e44w E (d + 1) L M hn8 hg9 (T := T) (u0 := 0) (k0 := 0) (by omega) (by omega) hn hm
  have e1 : C E (d + 13) 44 [vR 1 5 240, vI (0 : Int32), vI (0 : Int32)] (M, L) = _ := e1
  rw [e1, bI_s]
  exact h (b + 1) 0 M1 (by omega) f1
/-- the reference -/
theorem r208q (M : Nat → Nat → Int32) {P : TP} {T : TS} (hq : RQ M P) (ht : RT M P T) (hn8 : pN P ≤ 8) (hg9 : pG P ≤ 9) {b : Nat} (hb : b < pN P) (htb : ∀ k', k' ≤ pN P → tbk P T M k' (2 ^ pG P)) :
    ∀ r k w5 w6, k + r = b + 1 → X E (d + 3) me208 216 [some (vR 1 12 400), some (vI (nI b)), some (vI (nI (whoS P T k).1)), some (vI (nI (whoS P T k).2)), some (vI (nI k)), w5, w6] [] (M, L) = some (some (vI (nI (whoS P T (b + 1)).2)), (M, L)) := by
  have h512 := p512 hg9
  intro r
  induction r with
  | zero =>
    intro k w5 w6 hk
    have e : k = b + 1 := by omega
    rw [x208_216, e, if_pos (show nI b < nI (b + 1) from nI_lt (by omega) (by omega))]
  | succ r ih =>
    intro k w5 w6 hk
    have hu := whoS_lt (P := P) (T := T) k
    rw [x208_216, if_neg (show ¬ nI b < nI k from nI_nlt (by omega) (by omega)), hq.2.1, nI_dn']
    obtain ⟨w6', e⟩ := l208w E d L M hq ht hn8 hg9 (k := k) (u := (whoS P T k).1) (by omega) hu htb (nI b) (pG P) w6 (Nat.le_refl _)
    rw [Nat.sub_self] at e
    have e : X E (d + 3) me208 233 [some (vR 1 12 400), some (vI (nI b)), some (vI (nI (whoS P T k).1)), some (vI (9 : Int32)), some (vI (nI k)), some (vI (nI (pG P) + Int32.ofInt (-1))), w6] [] (M, L) = _ := e
    rw [e, x208_233, if_pos (by decide), nI_1]
    have ih' := ih (k + 1) (some (vI (-1 : Int32))) w6' (by omega)
    have eu : (whoS P T (k + 1)).1 = if fst9 (fitQ P T k (whoS P T k).1) (pG P) 0 = 9 then (whoS P T k).1 else (whoS P T k).1 ||| 2 ^ fst9 (fitQ P T k (whoS P T k).1) (pG P) 0 := rfl
    have ew : (whoS P T (k + 1)).2 = fst9 (fitQ P T k (whoS P T k).1) (pG P) 0 := rfl
    rw [eu, ew] at ih'
    rcases fst9_rng (f := fitQ P T k (whoS P T k).1) (pG P) 0 with z | ⟨z1, z2, z3⟩
    · rw [if_pos z] at ih'
      rw [if_pos (by rw [z]; rfl), or0]
      exact ih'
    · have hq9 : ¬ fst9 (fitQ P T k (whoS P T k).1) (pG P) 0 = 9 := by omega
      rw [if_neg hq9] at ih'
      rw [if_neg (ne9 (by omega) hq9), bt_set _ (by omega) _ (by omega)]
      exact ih'
theorem op_lasting (p0 : Int32) : Opk E d 117 208 [vI p0] := by
  intro M L h
  obtain ⟨P, T, hc, -⟩ := RR.cx E h
  obtain ⟨c1, c2, c3, ⟨c4, c5⟩, c6, c7, c8, c9, c10⟩ := id hc
  by_cases hm1 : p0 = -1
  · obtain ⟨M1, M2, g1, g2, k1, k2⟩ := lasting_all E d L M hc
    rw [hm1]
    exact opq E d h g1 k1 g2 k2
  · rcases brn E c1 c4 p0 (d + 98) L with ⟨b, hb, e1, eb⟩ | ⟨h1, eb⟩
    · obtain ⟨Ma, ea, fa, ma⟩ := e43 E (d + 94) L M c1 c4 c5 c9 c10
      obtain ⟨M1, g1, f1⟩ := e46 E (d + 85) L Ma c4 c5 (by rw [fa 40 (by omega)]; exact c1.1) ma hb
      have hf : ∀ c, ¬ fQ c → M1 c = M c := fun c hcc => by rw [f1 c (by unfold fQ at hcc; omega) (by unfold fQ at hcc; omega), fa c (by unfold fQ at hcc; omega)]
      have k1 := Kp.ofQ hf
      have rx := Ctx.rx E hc k1
      obtain ⟨Mb, gb, fb', tb⟩ := e188 E (d + 98) L M1 rx.1 rx.2.1 c4 c5
      have rxb := rx.fr E fb'
      obtain ⟨M2, w3, w4, w5, w6, e2, f2, t2⟩ := t208all E (d + 96) L Mb rxb.1 tb c4 c5 p0
      have k2 : Kp Mb M2 := ⟨fun c hcc => f2 c (by unfold perC at hcc; omega), by rw [f2 70 (by omega)], by rw [f2 90 (by omega)], fun j _ => by rw [f2 400 (by omega)]⟩
      refine opq E d h (r := nI (whoS P T (b + 1)).2) (M1 := M1) (M2 := M2) ?_ k1 ?_ ((Kp.ofR fb').tra k2)
      · rw [x117, if_neg hm1, eb, bI_s, if_neg (by decide), ea, bV_s, if_neg hm1, e1, g1, bI_s]
      · rw [x208, if_neg hm1, e156 E _ L M1 _ rx.1.1 c4, bI_s, if_neg (b1_ne (by rw [tl_i, e1]; exact inN (by omega) hb)), gb, bV_s]
        have e2 : X E (d + 99) me208 22 [some (vR 1 12 400), some (vI p0), some (vI (0 : Int32)), none, none, none, none] [] (Mb, L) = X E (d + 99) me208 60 [some (vR 1 12 400), some (vI p0), some (vI (-1 : Int32)), w3, w4, w5, w6] [] (M2, L) := e2
        rw [e2, x208_60, if_pos (by decide), if_neg hm1, e1]
        exact r208q E (d + 96) L M2 (rxb.1.keep (f2 401 (by omega)) (fun j _ => by rw [f2 400 (by omega)])) (tb.o f2) c4 c5 hb t2 (b + 1) 0 w5 w6 (by omega)
    · refine opq E d h (r := -1) (M1 := M) (M2 := M) ?_ (Kp.re M) ?_ (Kp.re M)
      · rw [x117, if_neg hm1, eb, bI_s, if_pos rfl]
      · rw [x208, if_neg hm1, e156 E _ L M _ c2.1 c4, bI_s, if_pos (b1_e (by rw [tl_i]; exact h1))]
end LAST4
