/-! by turns: what is best for either, and what a cut search finds -/
def fE (v : Nat → Int) (i : Int) : Nat → Int
  | 0 => i
  | n + 1 => if fE v i n < v n then v n else fE v i n
def fB (v : Nat → Int) (i : Int) : Nat → Int
  | 0 => i
  | n + 1 => if v n < fB v i n then v n else fB v i n
def cE (v : Nat → Int) (i : Int) : Nat → Nat
  | 0 => 9
  | n + 1 => if fE v i n < v n then n else cE v i n
theorem fE_congr {v w : Nat → Int} {i : Int} : ∀ {n : Nat}, (∀ p, p < n → v p = w p) → fE v i n = fE w i n
  | 0, _ => rfl
  | n + 1, h => by
    unfold fE
    rw [h n (by omega), fE_congr (n := n) (fun p hp => h p (by omega))]
theorem fB_congr {v w : Nat → Int} {i : Int} : ∀ {n : Nat}, (∀ p, p < n → v p = w p) → fB v i n = fB w i n
  | 0, _ => rfl
  | n + 1, h => by
    unfold fB
    rw [h n (by omega), fB_congr (n := n) (fun p hp => h p (by omega))]
theorem fE_up {v : Nat → Int} {i : Int} {n : Nat} : ∀ r, fE v i n ≤ fE v i (n + r)
  | 0 => Int.le_refl _
  | r + 1 => by
    have := fE_up (v := v) (i := i) (n := n) r
    show _ ≤ (if fE v i (n + r) < v (n + r) then v (n + r) else fE v i (n + r))
    split <;> omega
theorem fB_dn {v : Nat → Int} {i : Int} {n : Nat} : ∀ r, fB v i (n + r) ≤ fB v i n
  | 0 => Int.le_refl _
  | r + 1 => by
    have := fB_dn (v := v) (i := i) (n := n) r
    show (if v (n + r) < fB v i (n + r) then v (n + r) else fB v i (n + r)) ≤ _
    split <;> omega
theorem fE_in {v : Nat → Int} {i a b : Int} : ∀ {n : Nat}, a ≤ i → i ≤ b → (∀ p, p < n → a ≤ v p ∧ v p ≤ b) → a ≤ fE v i n ∧ fE v i n ≤ b
  | 0, h1, h2, _ => ⟨h1, h2⟩
  | n + 1, h1, h2, h => by
    have := fE_in (n := n) h1 h2 (fun p hp => h p (by omega))
    have := h n (by omega)
    unfold fE
    split <;> omega
theorem fB_in {v : Nat → Int} {i a b : Int} : ∀ {n : Nat}, a ≤ i → i ≤ b → (∀ p, p < n → a ≤ v p ∧ v p ≤ b) → a ≤ fB v i n ∧ fB v i n ≤ b
  | 0, h1, h2, _ => ⟨h1, h2⟩
  | n + 1, h1, h2, h => by
    have := fB_in (n := n) h1 h2 (fun p hp => h p (by omega))
    have := h n (by omega)
    unfold fB
    split <;> omega
theorem fE_stay {v : Nat → Int} {i : Int} {n : Nat} : ∀ r, (∀ q, n ≤ q → q < n + r → v q ≤ fE v i n) → fE v i (n + r) = fE v i n ∧ cE v i (n + r) = cE v i n
  | 0, _ => ⟨rfl, rfl⟩
  | r + 1, h => by
    obtain ⟨a, b⟩ := fE_stay (v := v) (i := i) (n := n) r (fun q h1 h2 => h q h1 (by omega))
    have hv := h (n + r) (by omega) (by omega)
    show (if fE v i (n + r) < v (n + r) then v (n + r) else fE v i (n + r)) = _ ∧ (if fE v i (n + r) < v (n + r) then n + r else cE v i (n + r)) = _
    rw [if_neg (by omega), if_neg (by omega)]
    exact ⟨a, b⟩
theorem cE_spec {v : Nat → Int} {i : Int} : ∀ n, (fE v i n = i ∧ cE v i n = 9) ∨ (i < fE v i n ∧ ∃ p, p < n ∧ cE v i n = p ∧ v p = fE v i n ∧ ∀ q, q < p → v q < fE v i n)
  | 0 => Or.inl ⟨rfl, rfl⟩
  | n + 1 => by
    have ub : ∀ m q, q < m → v q ≤ fE v i m := by
      intro m
      induction m with
      | zero => intro q hq; omega
      | succ m ih =>
        intro q hq
        unfold fE
        by_cases e : q = m
        · rw [e]; split <;> omega
        · have := ih q (by omega)
          split <;> omega
    have ih := cE_spec (v := v) (i := i) n
    by_cases h : fE v i n < v n
    · right
      have e1 : fE v i (n + 1) = v n := by rw [fE, if_pos h]
      have e2 : cE v i (n + 1) = n := by rw [cE, if_pos h]
      have hi : i ≤ fE v i n := by have := fE_up (v := v) (i := i) (n := 0) n; rw [Nat.zero_add] at this; exact this
      rw [e1, e2]
      exact ⟨by omega, n, by omega, rfl, rfl, fun q hq => by have := ub n q hq; omega⟩
    · have e1 : fE v i (n + 1) = fE v i n := by rw [fE, if_neg h]
      have e2 : cE v i (n + 1) = cE v i n := by rw [cE, if_neg h]
      rw [e1, e2]
      rcases ih with ih | ⟨h1, p, h2, h3, h4, h5⟩
      · exact Or.inl ih
      · exact Or.inr ⟨h1, p, by omega, h3, h4, h5⟩
/-- what a cut search may answer: lo is sure for the one elsewhere, hi for the other -/
def abS (lo hi S0 r v : Int) : Prop := 0 ≤ r ∧ r ≤ S0 ∧ (r < hi → v ≤ r) ∧ (lo < r → r ≤ v)
def setQ (T : TS) (p : Nat) (x : Int32) : TS := (tS T, fun q => if q = p then x else tM T q, tE T, tD T)
theorem setE_id {T : TS} {p : Nat} : setE T p (tE T p) = T := by
  unfold setE
  have : (fun q => if q = p then tE T p else tE T q) = tE T := by
    funext q
    split
    · rename_i h; rw [h]
    · rfl
  rw [this]
theorem setQ_id {T : TS} {p : Nat} : setQ T p (tM T p) = T := by
  unfold setQ
  have : (fun q => if q = p then tM T p else tM T q) = tM T := by
    funext q
    split
    · rename_i h; rw [h]
    · rfl
  rw [this]
def gft (T : TS) (p : Nat) : TS := setQ T p (hel (tM T p + 20) 99)
/-- what is best for both, r times left, the k-th next -/
def VT (P : TP) (b t : Nat) : Nat → Nat → TS → Int
  | 0, _, T => (tS (itd (dayA P) t T) b).toInt
  | r + 1, k, T => if k % 2 = 0 then fE (fun p => VT P b t r (k + 1) (setE T p (nI b))) (VT P b t r (k + 1) T) (pG P) else fB (fun p => VT P b t r (k + 1) (gft T p)) (VT P b t r (k + 1) T) (pG P)
def okB (P : TP) (b : Nat) (S0 : Int) (T : TS) : Prop := (tS T b).toInt = S0 ∧ rngT P T ∧ seatsOk P T
theorem okB.e {P : TP} {b : Nat} {S0 : Int} {T : TS} (h : okB P b S0 T) (hn8 : pN P ≤ 8) (hb : b < pN P) (p : Nat) : okB P b S0 (setE T p (nI b)) := by
  refine ⟨h.1, h.2.1, fun q hq => ?_⟩
  show -1 ≤ (if q = p then nI b else tE T q).toInt ∧ (if q = p then nI b else tE T q).toInt < (pN P : Int)
  split
  · rw [t_nI (by omega)]; omega
  · exact h.2.2 q hq
theorem okB.g {P : TP} {b : Nat} {S0 : Int} {T : TS} (h : okB P b S0 T) (p : Nat) : okB P b S0 (gft T p) := by
  refine ⟨h.1, ⟨h.2.1.1, fun q hq => ?_, h.2.1.2.2⟩, h.2.2⟩
  show 0 ≤ (if q = p then hel (tM T p + 20) 99 else tM T q).toInt ∧ (if q = p then hel (tM T p + 20) 99 else tM T q).toInt ≤ 99
  split
  · have := hel_rng (tM T p + 20) 99 (by decide)
    rw [t_99] at this
    exact this
  · exact h.2.1.2.1 q hq
theorem snd_days {P : TP} {T : TS} {b : Nat} (hr : rngT P T) (hb : b < pN P) : ∀ i, 0 ≤ (tS (itd (dayA P) i T) b).toInt ∧ (tS (itd (dayA P) i T) b).toInt ≤ (tS T b).toInt
  | 0 => ⟨(hr.1 b hb).1, Int.le_refl _⟩
  | i + 1 => by
    have h1 := snd_days hr hb i
    have h2 := dayS_rng (P := P) ((rngT_days hr i).1 b hb)
    have h3 : tS (itd (dayA P) (i + 1) T) b = dayS P (itd (dayA P) i T) b := rfl
    rw [h3]
    omega
theorem VT_in {P : TP} {b t : Nat} {S0 : Int} (hn8 : pN P ≤ 8) (hb : b < pN P) : ∀ r k T, okB P b S0 T → 0 ≤ VT P b t r k T ∧ VT P b t r k T ≤ S0
  | 0, _, T, h => by
    have := snd_days h.2.1 hb t
    rw [h.1] at this
    exact this
  | r + 1, k, T, h => by
    have h0 := VT_in (t := t) hn8 hb r (k + 1) T h
    unfold VT
    split
    · exact fE_in h0.1 h0.2 (fun p _ => VT_in hn8 hb r (k + 1) _ (h.e hn8 hb p))
    · exact fB_in h0.1 h0.2 (fun p _ => VT_in hn8 hb r (k + 1) _ (h.g p))
theorem hel99 {x : Int32} (h0 : 99 ≤ x.toInt) (h1 : x.toInt ≤ 99) : hel (x + 20) 99 = x := by
  apply Int32.toInt_inj.mp
  rw [t_hel _ _ (by decide), t_add (by rw [t_20]; omega) (by rw [t_20]; omega), t_20, t_99]
  (repeat' split) <;> omega
