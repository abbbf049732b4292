/-! a beggar moves: what changes, and the score -/
/-- alike for the bridge k, whoever sits elsewhere -/
def LocW (P : TP) (k : Nat) (T T' : TS) : Prop := (∀ p, p < pG P → (tE T p = nI k ↔ tE T' p = nI k)) ∧ tD T = tD T' ∧ (∀ p, p < pG P → tE T p = nI k → tM T p = tM T' p) ∧ tS T k = tS T' k
theorem lwDay {P : TP} {k : Nat} {T T' : TS} (hn : pN P ≤ 8) (hk : k < pN P) (h : LocW P k T T') : LocW P k (dayA P T) (dayA P T') := by
  obtain ⟨h1, h2, h3, h4⟩ := h
  have e1 : hN P T k = hN P T' k := by
    apply cnt_congr
    intro p hp
    have q := h1 p hp
    by_cases e : tE T p = nI k
    · rw [h3 p hp e]
      simp [e, q.1 e]
    · have e' : ¬ tE T' p = nI k := fun z => e (q.2 z)
      simp [e, e']
  have e2 : rN P T k = rN P T' k := by
    apply cnt_congr
    intro p hp
    have q := h1 p hp
    by_cases e : tE T p = nI k
    · rw [h3 p hp e]
      simp [e, q.1 e]
    · have e' : ¬ tE T' p = nI k := fun z => e (q.2 z)
      simp [e, e']
  have e3' : crk P T k = crk P T' k := by
    unfold crk
    rw [e1, e2, h2, h4]
  refine ⟨h1, by show dayD (tD T) = dayD (tD T'); rw [h2], fun p hp hs => ?_, ?_⟩
  · have hs : tE T p = nI k := hs
    have hs' := (h1 p hp).1 hs
    show dayM P T p = dayM P T' p
    unfold dayM gts
    rw [h3 p hp hs, hs, hs', ix_nI (by omega), h4]
  · show dayS P T k = dayS P T' k
    unfold dayS
    rw [e3', h4]
/-- the sound of k after n days -/
def Sd (P : TP) (n : Nat) (T : TS) (k : Nat) : Int32 := tS (itd (dayA P) n T) k
theorem lwSd {P : TP} {k : Nat} (hn : pN P ≤ 8) (hk : k < pN P) {T T' : TS} (h : LocW P k T T') (n : Nat) : Sd P n T k = Sd P n T' k := by
  have : ∀ i, LocW P k (itd (dayA P) i T) (itd (dayA P) i T') := by
    intro i
    induction i with
    | zero => exact h
    | succ i ih =>
      rw [itd, itd]
      exact lwDay hn hk ih
  exact (this n).2.2.2
def setE (T : TS) (p : Nat) (x : Int32) : TS := (tS T, tM T, fun q => if q = p then x else tE T q, tD T)
theorem lwSet {P : TP} {T : TS} {p k : Nat} {x y : Int32} (hx : ¬ x = nI k) (hy : ¬ y = nI k) : LocW P k (setE T p x) (setE T p y) := by
  refine ⟨fun q _ => ?_, rfl, fun _ _ _ => rfl, rfl⟩
  show (if q = p then x else tE T q) = nI k ↔ (if q = p then y else tE T q) = nI k
  by_cases e : q = p
  · rw [if_pos e, if_pos e]
    exact ⟨fun z => absurd z hx, fun z => absurd z hy⟩
  · rw [if_neg e, if_neg e]
theorem setE_self {P : TP} {T : TS} {p : Nat} : EqT P (setE T p (tE T p)) T := by
  refine ⟨fun _ _ => rfl, fun q _ => ⟨rfl, ?_⟩, rfl⟩
  show (if q = p then tE T p else tE T q) = tE T q
  by_cases e : q = p
  · rw [if_pos e, e]
  · rw [if_neg e]
theorem Sd_eqT {P : TP} {T T' : TS} (hn : pN P ≤ 8) (h : EqT P T T') {n k : Nat} (hk : k < pN P) : Sd P n T k = Sd P n T' k := (h.days hn n).1 k hk
/-- what one bridge is worth -/
def fW (v : Int32) : Int := if v.toInt ≤ 0 then 0 else 1000 + v.toInt
def smW (S : Nat → Int32) : Nat → Int
  | 0 => 0
  | k + 1 => smW S k + fW (S k)
theorem smW_congr {S S' : Nat → Int32} : ∀ {n : Nat}, (∀ k, k < n → S k = S' k) → smW S n = smW S' n
  | 0, _ => rfl
  | n + 1, h => by
    unfold smW
    rw [smW_congr (n := n) (fun k hk => h k (by omega)), h n (by omega)]
theorem smW_one {S S' : Nat → Int32} {j : Nat} : ∀ {n : Nat}, j < n → (∀ k, k < n → k ≠ j → S k = S' k) → smW S n = smW S' n - fW (S' j) + fW (S j)
  | 0, h, _ => absurd h (by omega)
  | n + 1, h, hs => by
    unfold smW
    by_cases e : j = n
    · subst e
      rw [smW_congr (n := j) (S' := S') (fun k hk => hs k (by omega) (by omega))]
      omega
    · rw [smW_one (n := n) (by omega) (fun k hk hkj => hs k (by omega) hkj), hs n (by omega) (by omega)]
      omega
theorem smW_split {S : Nat → Int32} : ∀ {n : Nat}, (∀ k, k < n → 0 ≤ (S k).toInt ∧ (S k).toInt ≤ 99) → n ≤ 8 → (smB S n).toInt ≤ 99 * n ∧ 0 ≤ (smB S n).toInt ∧ smW S n = 1000 * (cnt n (fun b => decide (0 < (S b).toInt)) : Int) + (smB S n).toInt
  | 0, _, _ => ⟨by show (0 : Int32).toInt ≤ _; rw [t_0]; omega, by show 0 ≤ (0 : Int32).toInt; rw [t_0]; omega, by show (0 : Int) = 1000 * ((0 : Nat) : Int) + (0 : Int32).toInt; rw [t_0]; rfl⟩
  | n + 1, h, hn => by
    obtain ⟨a, b, c⟩ := smW_split (n := n) (fun k hk => h k (by omega)) (by omega)
    have hk := h n (by omega)
    have e : (smB S (n + 1)).toInt = (smB S n).toInt + (S n).toInt := by
      show (smB S n + S n).toInt = _
      exact t_add (a := smB S n) (b := S n) (by omega) (by omega)
    refine ⟨by omega, by omega, ?_⟩
    unfold smW
    rw [c, e]
    have : cnt (n + 1) (fun b => decide (0 < (S b).toInt)) = cnt n (fun b => decide (0 < (S b).toInt)) + (if (decide (0 < (S n).toInt)) = true then 1 else 0) := rfl
    rw [this]
    unfold fW
    by_cases q : 0 < (S n).toInt
    · rw [if_neg (by omega), if_pos (decide_eq_true q)]
      omega
    · rw [if_pos (by omega), if_neg (by simp [q])]
      omega
theorem fW_rng {v : Int32} (h : 0 ≤ v.toInt ∧ v.toInt ≤ 99) : 0 ≤ fW v ∧ fW v ≤ 1099 := by
  unfold fW
  split <;> omega
theorem smW_rng {S : Nat → Int32} : ∀ {n : Nat}, (∀ k, k < n → 0 ≤ (S k).toInt ∧ (S k).toInt ≤ 99) → 0 ≤ smW S n ∧ smW S n ≤ 1099 * n
  | 0, _ => ⟨Int.le_refl _, Int.le_refl _⟩
  | n + 1, h => by
    have a := smW_rng (n := n) (fun k hk => h k (by omega))
    have b := fW_rng (h n (by omega))
    unfold smW
    omega
theorem pop_tb : ∀ m, m < 256 → popN m = cnt 8 (fun b => m.testBit b) := by decide +kernel
theorem cnt_fals {f : Nat → Bool} {n : Nat} : ∀ {m : Nat}, n ≤ m → (∀ b, n ≤ b → b < m → f b = false) → cnt m f = cnt n f
  | 0, h, _ => by rw [show n = 0 by omega]
  | m + 1, h, hz => by
    by_cases e : n = m + 1
    · rw [e]
    · show cnt m f + _ = _
      rw [cnt_fals (m := m) (by omega) (fun b h1 h2 => hz b h1 (by omega)), hz m (by omega) (by omega)]
      rfl
theorem pop_cnt (S : Nat → Int32) {n : Nat} (hn : n ≤ 8) : ∃ mm, mm < 512 ∧ sdB S n = nI mm ∧ popN mm = cnt n (fun b => decide (0 < (S b).toInt)) := by
  obtain ⟨m, h1, h2, h3⟩ := sd_tb S n hn
  have h4 : 2 ^ n ≤ 2 ^ 8 := Nat.pow_le_pow_right (by omega) hn
  refine ⟨m, by omega, h2, ?_⟩
  rw [pop_tb m (by omega), cnt_fals hn (fun b hb1 hb2 => Nat.testBit_lt_two_pow (Nat.lt_of_lt_of_le h1 (Nat.pow_le_pow_right (by omega) hb1)))]
  exact cnt_congr (fun b hb => h3 b hb)
