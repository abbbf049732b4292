/-! who may sit where: the whole table -/
theorem nI_dn' (k : Nat) : nI k - 1 = nI k + Int32.ofInt (-1) := by
  rw [show Int32.ofInt (-1) = (-1 : Int32) from by decide, ← Int32.sub_eq_add_neg]
theorem RT.o {M M1 : Nat → Nat → Int32} {P : TP} {T : TS} (h : RT M P T) (hf : ∀ c, c ≠ 432 → M1 c = M c) : RT M1 P T := by
  obtain ⟨a, b, c⟩ := h
  refine ⟨fun k hk => by rw [hf 427 (by omega)]; exact a k hk, fun p hp => by rw [hf 428 (by omega), hf 429 (by omega)]; exact b p hp, by rw [hf 400 (by omega)]; exact c⟩
section TABLE2
variable (E : Nat × (Nat → Int32)) (d : Nat) (L : Nat → Nat → Int64)
theorem t208b (M : Nat → Nat → Int32) {P : TP} {T : TS} (hq : RQ M P) (ht : RT M P T) (hn8 : pN P ≤ 8) (hg9 : pG P ≤ 9) {k : Nat} (hk : k < pN P) (x1 : Int32) :
    ∀ r x w4 w5 w6 (M1 : Nat → Nat → Int32), x + r = 2 ^ pG P → (∀ c, c ≠ 432 → M1 c = M c) → (∀ k', k < k' → k' ≤ pN P → tbk P T M1 k' (2 ^ pG P)) → tbk P T M1 k x → ∃ M2 w4' w5' w6', X E (d + 3) me208 66 [some (vR 1 12 400), some (vI x1), some (vI (nI k)), some (vI (nI x)), w4, w5, w6] [] (M1, L) = X E (d + 3) me208 60 [some (vR 1 12 400), some (vI x1), some (vI (nI k + Int32.ofInt (-1))), some (vI (nI (2 ^ pG P))), w4', w5', w6'] [] (M2, L) ∧ (∀ c, c ≠ 432 → M2 c = M c) ∧ ∀ k', k ≤ k' → k' ≤ pN P → tbk P T M2 k' (2 ^ pG P) := by
  have h512 := p512 hg9
  intro r
  induction r with
  | zero =>
    intro x w4 w5 w6 M1 hx hf h1 h2
    have e : x = 2 ^ pG P := by omega
    refine ⟨M1, w4, w5, w6, ?_, hf, fun k' q1 q2 => ?_⟩
    · rw [x208_66, hf 400 (by omega), hq.2.1, bt_g _ (by omega), if_pos (nI_le (by omega) (by omega)), e]
    · by_cases q : k' = k
      · rw [q, ← e]; exact h2
      · exact h1 k' (by omega) q2
  | succ r ih =>
    intro x w4 w5 w6 M1 hx hf h1 h2
    have hq1 : RQ M1 P := hq.keep (hf 401 (by omega)) (fun j _ => by rw [hf 400 (by omega)])
    obtain ⟨w4', w5', w6', e⟩ := t208c E d L M1 hq1 (ht.o hf) hn8 hg9 hk (x := x) (by omega) (h1 (k + 1) (by omega) (by omega)) x1 (pG P) 0 w6 (by omega)
    have e0 : bzT P T k x 0 = dpm (wll P T) (pG P) (pN P) (pN P - (k + 1)) (fun q => x.testBit q) := rfl
    rw [e0] at e
    have hv := h1 (k + 1) (by omega) (by omega) x (by omega)
    have row : X E (d + 3) me208 66 [some (vR 1 12 400), some (vI x1), some (vI (nI k)), some (vI (nI x)), w4, w5, w6] [] (M1, L) = X E (d + 3) me208 66 [some (vR 1 12 400), some (vI x1), some (vI (nI k)), some (vI (nI (x + 1))), w4', w5', w6'] [] (u2 M1 432 (512 * k + x) (nI (dpm (wll P T) (pG P) (pN P) (pN P - k) (fun q => x.testBit q))), L) := by
      rw [x208_66, hq1.2.1, bt_g _ (by omega), if_neg (nI_ge (by omega) (by omega)), nI_1, e206 E _ L M1 (k := k + 1) (by omega) x, bI_s, if_pos (by rw [ib_nI (by omega)]; omega), ix_nI (n := 512 * (k + 1) + x) (by omega)]
      show X E (d + 3) me208 94 [some (vR 1 12 400), some (vI x1), some (vI (nI k)), some (vI (nI x)), some (vI (M1 432 (512 * (k + 1) + x))), some (vI (nI 0)), w6] [] (M1, L) = _
      rw [hv]
      exact e
    rw [row]
    refine ih (x + 1) w4' w5' w6' _ (by omega) (fun c hc => by rw [u2_o hc]; exact hf c hc) (fun k' q1 q2 y hy => ?_) (fun y hy => ?_)
    · rw [u2_n (by omega)]; exact h1 k' q1 q2 y hy
    · by_cases q : y = x
      · rw [q, u2_s]
      · rw [u2_n (by omega)]; exact h2 y (by omega)
theorem t208 (M : Nat → Nat → Int32) {P : TP} {T : TS} (hq : RQ M P) (ht : RT M P T) (hn8 : pN P ≤ 8) (hg9 : pG P ≤ 9) (x1 : Int32) :
    ∀ k w3 w4 w5 w6 (M1 : Nat → Nat → Int32), k ≤ pN P → (∀ c, c ≠ 432 → M1 c = M c) → (∀ k', k ≤ k' → k' ≤ pN P → tbk P T M1 k' (2 ^ pG P)) → ∃ M2 w3' w4' w5' w6', X E (d + 3) me208 60 [some (vR 1 12 400), some (vI x1), some (vI (nI k + Int32.ofInt (-1))), w3, w4, w5, w6] [] (M1, L) = X E (d + 3) me208 60 [some (vR 1 12 400), some (vI x1), some (vI (-1 : Int32)), w3', w4', w5', w6'] [] (M2, L) ∧ (∀ c, c ≠ 432 → M2 c = M c) ∧ ∀ k', k' ≤ pN P → tbk P T M2 k' (2 ^ pG P) := by
  intro k
  induction k with
  | zero =>
    intro w3 w4 w5 w6 M1 hk hf h1
    exact ⟨M1, w3, w4, w5, w6, rfl, hf, fun k' q => h1 k' (by omega) q⟩
  | succ k ih =>
    intro w3 w4 w5 w6 M1 hk hf h1
    obtain ⟨M2, w4', w5', w6', e2, f2, t2⟩ := t208b E d L M hq ht hn8 hg9 (k := k) (by omega) x1 (2 ^ pG P) 0 w4 w5 w6 M1 (by omega) hf (fun k' q1 q2 => h1 k' (by omega) q2) (fun y hy => absurd hy (by omega))
    rw [nI_dn, x208_60, if_neg (nI_pos (by omega)), n_0, e2]
    exact ih _ w4' w5' w6' M2 (by omega) f2 t2
theorem t208all (M : Nat → Nat → Int32) {P : TP} {T : TS} (hq : RQ M P) (ht : RT M P T) (hn8 : pN P ≤ 8) (hg9 : pG P ≤ 9) (x1 : Int32) :
    ∃ M2 w3' w4' w5' w6', X E (d + 3) me208 22 [some (vR 1 12 400), some (vI x1), some (vI (0 : Int32)), none, none, none, none] [] (M, L) = X E (d + 3) me208 60 [some (vR 1 12 400), some (vI x1), some (vI (-1 : Int32)), w3', w4', w5', w6'] [] (M2, L) ∧ (∀ c, c ≠ 432 → M2 c = M c) ∧ ∀ k', k' ≤ pN P → tbk P T M2 k' (2 ^ pG P) := by
  obtain ⟨M1, e1, f1, t1⟩ := t208a E (d + 2) L M T hq.1 hq.2.1 hn8 hg9 x1 none none none none (2 ^ pG P) 0 M (by omega) (fun _ _ => rfl) (fun y hy => absurd hy (by omega))
  obtain ⟨M2, w3', w4', w5', w6', e2, f2⟩ := t208 E d L M hq ht hn8 hg9 x1 (pN P) none none none none M1 (Nat.le_refl _) f1 (fun k' q1 q2 => by rw [show k' = pN P by omega]; exact t1)
  refine ⟨M2, w3', w4', w5', w6', ?_, f2⟩
  rw [← e2, ← nI_dn']
  exact e1
end TABLE2
