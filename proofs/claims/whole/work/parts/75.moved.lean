/-! a beggar moves: the class, one beggar after another -/
def sc (P : TP) (n : Nat) (T : TS) : Int := smW (Sd P n T) (pN P)
def stp (P : TP) (n : Nat) (T : TS) (p k : Nat) (a : Int × Int32) : Int × Int32 := if nI k = tE T p then a else bst a (sc P n (setE T p (nI k))) (nI (100 * p + k))
def lst (P : TP) (n : Nat) (T : TS) (p : Nat) (a : Int × Int32) : Int × Int32 := if tE T p = -1 then a else bst a (sc P n (setE T p (-1))) (nI (100 * p + 8))
def fo (P : TP) (n : Nat) (T : TS) (p : Nat) : Nat → Nat → Int × Int32 → Int × Int32
  | 0, _, a => lst P n T p a
  | r + 1, k, a => fo P n T p r (k + 1) (stp P n T p k a)
def fb (P : TP) (n : Nat) (T : TS) : Nat → Nat → Int × Int32 → Int × Int32
  | 0, _, a => a
  | r + 1, p, a => fb P n T r (p + 1) (fo P n T p (pN P) 0 a)
theorem m1_ne (k : Nat) (hk : k < 1000) : ¬ (-1 : Int32) = nI k := fun q => by
  have := congrArg Int32.toInt q
  rw [t_nI (by omega), t_m1] at this
  omega
theorem sc_rng {P : TP} {T : TS} (hn : pN P ≤ 8) (h : rngT P T) (n : Nat) : 0 ≤ sc P n T ∧ sc P n T ≤ 8792 := by
  have := smW_rng (S := Sd P n T) (n := pN P) (Sd_rng h n)
  unfold sc
  omega
/-- who does not sit on k leaves it alone -/
theorem Sd_off {P : TP} {T : TS} (hn : pN P ≤ 8) {p k : Nat} (hk : k < pN P) (h : ¬ tE T p = nI k) (n : Nat) : Sd P n (setE T p (-1)) k = Sd P n T k := by
  rw [← Sd_eqT hn (setE_self (P := P) (T := T) (p := p)) hk]
  exact lwSd hn hk (lwSet (m1_ne k (by omega)) h) n
theorem sc_on {P : TP} {T : TS} (hn : pN P ≤ 8) {p k : Nat} (hk : k < pN P) (h : ¬ tE T p = nI k) (n : Nat) : sc P n (setE T p (nI k)) = sc P n (setE T p (-1)) - fW (Sd P n T k) + fW (Sd P n (setE T p (nI k)) k) := by
  unfold sc
  rw [← Sd_off hn hk h n]
  exact smW_one hk (fun j hj hjk => lwSd hn hj (lwSet (fun q => hjk (nI_inj (by omega) (by omega) q).symm) (m1_ne j (by omega))) n)
theorem sc_off {P : TP} {T : TS} (hn : pN P ≤ 8) {p j : Nat} (hj : j < pN P) (h : tE T p = nI j) (n : Nat) : sc P n (setE T p (-1)) = sc P n T - fW (Sd P n T j) + fW (Sd P n (setE T p (-1)) j) := by
  unfold sc
  exact smW_one hj (fun i hi hij => Sd_off hn hi (fun q => hij (nI_inj (by omega) (by omega) (q.symm.trans h))) n)
theorem sc_same {P : TP} {T : TS} (hn : pN P ≤ 8) {p : Nat} (h : tE T p = -1) (n : Nat) : sc P n (setE T p (-1)) = sc P n T := by
  unfold sc
  rw [← h]
  exact smW_congr (fun k hk => Sd_eqT hn setE_self hk)
section MOVED2
variable (E : Nat × (Nat → Int32)) (d : Nat) (L : Nat → Nat → Int64)
/-- what the class keeps between two moves -/
def IvC (M M1 : Nat → Nat → Int32) (P : TP) (n : Nat) (T : TS) (a : Int × Int32) : Prop := (∀ c, ¬ fQ c → M1 c = M c) ∧ (M1 110 5).toInt = sc P n T ∧ (∀ k, k < pN P → M1 115 k = Sd P n T k) ∧ (M1 110 6).toInt = a.1 ∧ M1 110 7 = a.2 ∧ sc P n T ≤ a.1
theorem IvC.kp {M M1 M2 : Nat → Nat → Int32} {P : TP} {n : Nat} {T : TS} {a : Int × Int32} (h : IvC M M1 P n T a) (h1 : ∀ c, ¬ fQ c → M2 c = M1 c) (h2 : M2 110 = M1 110) (h3 : M2 115 = M1 115) : IvC M M2 P n T a := by
  obtain ⟨a1, a2, a3, a4, a5, a6⟩ := h
  exact ⟨fun c hc => (h1 c hc).trans (a1 c hc), by rw [h2]; exact a2, by rw [h3]; exact a3, by rw [h2]; exact a4, by rw [h2]; exact a5, a6⟩
theorem IvC.b {M M1 : Nat → Nat → Int32} {P : TP} {n : Nat} {T : TS} {a : Int × Int32} (h : IvC M M1 P n T a) (v code : Int32) : IvC M (if v ≤ M1 110 6 then M1 else u2 (u2 M1 110 6 v) 110 7 code) P n T (bst a v.toInt code) := by
  obtain ⟨a1, a2, a3, a4, a5, a6⟩ := h
  unfold bst
  by_cases q : v.toInt ≤ a.1
  · rw [if_pos (show v ≤ M1 110 6 by rw [t_le, a4]; exact q), if_pos q]
    exact ⟨a1, a2, a3, a4, a5, a6⟩
  · rw [if_neg (show ¬ v ≤ M1 110 6 by rw [t_le, a4]; exact q), if_neg q]
    refine ⟨fun c hc => by rw [u2_o (by unfold fQ at hc; omega), u2_o (by unfold fQ at hc; omega)]; exact a1 c hc, by rw [u2_n (by omega), u2_n (by omega)]; exact a2, fun k hk => by rw [u2_o (by omega), u2_o (by omega)]; exact a3 k hk, by rw [u2_n (by omega), u2_s], u2_s, by show sc P n T ≤ v.toInt; omega⟩
theorem l87 (M : Nat → Nat → Int32) {P : TP} {T : TS} (hC : CH M 40 P T) (hn8 : pN P ≤ 8) (hg9 : pG P ≤ 9) (hl : LW E (pK P) M) (hr : rngT P T) {n p : Nat} {x4 : Int32} (hn : n ≤ 20) (hp : p < pG P) (hx4 : x4.toInt = sc P n (setE T p (-1))) :
    ∀ r k (M1 : Nat → Nat → Int32) a, k + r = pN P → IvC M M1 P n T a → (∃ y, CH M1 170 P (setE T p y)) → ∃ M2, X E (d + 6) me87 70 [some (vR 1 8 110), some (vI (nI p)), some (vI (nI n)), some (vI (tE T p)), some (vI x4), some (vI (nI k))] [] (M1, L) = some (none, (M2, L)) ∧ IvC M M2 P n T (fo P n T p r k a) ∧ CH M2 170 P T := by
  have hsr := Sd_rng hr n
  have hs1 := sc_rng hn8 (rngE hr p (-1)) n
  have cd : ∀ k, (100 : Int32) * nI p + nI k = nI (100 * p + k) := fun k => by
    rw [show (100 : Int32) = nI 100 from rfl]; unfold nI; rw [← Int32.ofNat_mul, ← Int32.ofNat_add]
  intro r
  induction r with
  | zero =>
    intro k M1 a hk hI hy
    obtain ⟨y, hy⟩ := hy
    have hIb := hI.b x4 (nI (100 * p + 8))
    have e40 : M1 40 = M 40 := hI.1 40 (by unfold fQ; omega)
    rw [x87_70, e40, hC.1, if_pos (nI_le (by omega) (by omega)), e88 E _ L, bV_s, show (100 : Int32) * nI p + 8 = nI (100 * p + 8) from cd 8, e23_6 E _ _ L 170 _ (by omega), bV_s]
    refine ⟨_, rfl, ?_, ?_⟩
    · have hfo : fo P n T p 0 k a = bst a x4.toInt (nI (100 * p + 8)) := by
        show lst P n T p a = _
        unfold lst
        by_cases e : tE T p = -1
        · rw [if_pos e]
          unfold bst
          rw [if_pos (by rw [hx4, sc_same hn8 e]; exact hI.2.2.2.2.2)]
        · rw [if_neg e, hx4]
      rw [hfo]
      exact hIb.kp (fun c hc => u2_o (by unfold fQ at hc; omega)) (u2_o (by omega)) (u2_o (by omega))
    · have h1 := chE (p := p) (v := tE T p) (M' := u2 (if x4 ≤ M1 110 6 then M1 else u2 (u2 M1 110 6 x4) 110 7 (nI (100 * p + 8))) (170 + 9) p (tE T p)) hy (fun c h1 h2 h3 => by
        rw [u2_o h3]
        split
        · rfl
        · rw [u2_o (by omega), u2_o (by omega)]) (fun j hj => by
        rw [u2_ap, if_pos rfl]
        split
        · rfl
        · split
          · rfl
          · rw [u2_o (by omega), u2_o (by omega)])
      rw [setE_a] at h1
      exact h1.eqT setE_self
  | succ r ih =>
    intro k M1 a hk hI hy
    have e40 : M1 40 = M 40 := hI.1 40 (by unfold fQ; omega)
    have hib : ib (nI k) 8 := by rw [ib_nI (by omega)]; omega
    rw [x87_70, e40, hC.1, if_neg (nI_ge (by omega) (by omega)), if_neg (show ¬ (8 : Int32) ≤ nI k from nI_ge (b := 8) (by omega) (by omega))]
    show ∃ M2, _ ∧ IvC M M2 P n T (fo P n T p r (k + 1) (stp P n T p k a)) ∧ _
    unfold stp
    by_cases e : nI k = tE T p
    · rw [if_pos e, if_pos e, nI_1]
      exact ih (k + 1) M1 a (by omega) hI hy
    · obtain ⟨y, hy⟩ := hy
      have hC2 := chE (p := p) (v := nI k) (M' := u2 M1 (170 + 9) p (nI k)) hy (fun c _ _ h3 => u2_o h3) (fun j _ => by rw [u2_ap, if_pos rfl])
      rw [setE_a] at hC2
      have hf2 : ∀ c, ¬ fQ c → u2 M1 (170 + 9) p (nI k) c = M c := fun c hc => by rw [u2_o (by unfold fQ at hc; omega)]; exact hI.1 c hc
      obtain ⟨M2, e2, f2⟩ := e79 E (d + 1) L (u2 M1 (170 + 9) p (nI k)) 170 (by omega) hC2 hn8 hg9 (hl.keep (hf2 90 (by unfold fQ; omega)) (hf2 91 (by unfold fQ; omega)) (hf2 92 (by unfold fQ; omega))) (b := k) (n := n) (by omega) (by omega)
      have hI2 : IvC M M2 P n T a := hI.kp (fun c hc => by rw [f2 c (fun q => hc (by unfold fT at q; unfold fQ; omega)), u2_o (by unfold fQ at hc; omega)]) (by rw [f2 110 (by unfold fT; omega), u2_o (by omega)]) (by rw [f2 115 (by unfold fT; omega), u2_o (by omega)])
      rw [if_neg e, if_neg e, e23_6 E _ M1 L 170 _ (by omega), bV_s, e2, bI_s, e89 E _ L, bI_s, if_pos hib, ix_nI (by omega)]
      show ∃ M3, bI (C E (d + 6) 89 [vI (M2 115 k)] (M2, L)) _ = _ ∧ _
      rw [hI2.2.2.1 k (by omega), e89 E _ L, bI_s, cd k, e88 E _ L, bV_s, nI_1]
      have hk1 := hsr k (by omega)
      have hk2 := Sd_rng (rngE hr p (nI k)) n k (by omega)
      have hon := sc_on hn8 (show k < pN P by omega) (fun q => e q.symm) n
      have hs2 := sc_rng hn8 (rngE hr p (nI k)) n
      have w1 := f32_t hk1
      have w2 := f32_t hk2
      have g1 := fW_rng hk1
      have g2 := fW_rng hk2
      have hv : (x4 + f32 (tS (itd (dayA P) n (setE T p (nI k))) k) - f32 (Sd P n T k)).toInt = sc P n (setE T p (nI k)) := by
        have w2' : (f32 (tS (itd (dayA P) n (setE T p (nI k))) k)).toInt = fW (Sd P n (setE T p (nI k)) k) := w2
        have z : (x4 + f32 (tS (itd (dayA P) n (setE T p (nI k))) k)).toInt = sc P n (setE T p (-1)) + fW (Sd P n (setE T p (nI k)) k) := by
          rw [t_add (by rw [hx4, w2']; omega) (by rw [hx4, w2']; omega), hx4, w2']
        rw [t_sub (by rw [z, w1]; omega) (by rw [z, w1]; omega), z, w1, hon]
        omega
      have hI3 := hI2.b (x4 + f32 (tS (itd (dayA P) n (setE T p (nI k))) k) - f32 (Sd P n T k)) (nI (100 * p + k))
      rw [hv] at hI3
      refine ih (k + 1) _ _ (by omega) hI3 ⟨nI k, hC2.keep (fun c h1 h2 => ?_)⟩
      split
      · exact f2 c (by unfold fT; omega)
      · rw [u2_o (by omega), u2_o (by omega)]; exact f2 c (by unfold fT; omega)
end MOVED2
