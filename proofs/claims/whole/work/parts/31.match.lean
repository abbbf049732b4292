/-! counting, and the most bridges that have a beggar each: what changing paths find is what trying all finds -/
def cnt : Nat → (Nat → Bool) → Nat
  | 0, _ => 0
  | n + 1, f => cnt n f + (if f n then 1 else 0)
theorem cnt_congr {f g : Nat → Bool} : ∀ {n : Nat}, (∀ p, p < n → f p = g p) → cnt n f = cnt n g
  | 0, _ => rfl
  | n + 1, h => by
    show cnt n f + _ = cnt n g + _
    rw [cnt_congr (n := n) (fun p hp => h p (by omega)), h n (by omega)]
theorem cnt_le {f g : Nat → Bool} : ∀ {n : Nat}, (∀ p, p < n → f p = true → g p = true) → cnt n f ≤ cnt n g
  | 0, _ => Nat.le_refl _
  | n + 1, h => by
    show cnt n f + _ ≤ cnt n g + _
    have h1 := cnt_le (f := f) (g := g) (n := n) (fun p hp => h p (by omega))
    have h2 := h n (by omega)
    cases hf : f n with
    | false => simp; split <;> omega
    | true => rw [h2 hf]; simp; omega
theorem cnt_n {f : Nat → Bool} : ∀ {n : Nat}, cnt n f ≤ n
  | 0 => Nat.le_refl _
  | n + 1 => by
    show cnt n f + _ ≤ n + 1
    have := cnt_n (f := f) (n := n)
    split <;> omega
/-- one place less -/
theorem cnt_del {f g : Nat → Bool} {k : Nat} : ∀ {n : Nat}, k < n → f k = true → g k = false → (∀ p, p < n → p ≠ k → f p = g p) → cnt n f = cnt n g + 1
  | 0, hk, _, _, _ => absurd hk (by omega)
  | n + 1, hk, hf, hg, h => by
    show cnt n f + _ = cnt n g + _ + 1
    by_cases e : n = k
    · subst e
      rw [cnt_congr (f := f) (g := g) (n := n) (fun p hp => h p (by omega) (by omega)), hf, hg]
      simp
    · rw [cnt_del (f := f) (g := g) (k := k) (n := n) (by omega) hf hg (fun p hp => h p (by omega)), h n (by omega) e]
      omega
theorem cnt_pos {f : Nat → Bool} : ∀ {n : Nat}, 0 < cnt n f → ∃ p, p < n ∧ f p = true
  | 0, h => absurd h (by show ¬ 0 < 0; omega)
  | n + 1, h => by
    have h : 0 < cnt n f + (if f n then 1 else 0) := h
    cases hf : f n with
    | true => exact ⟨n, by omega, hf⟩
    | false =>
      rw [hf] at h
      obtain ⟨p, hp, e⟩ := cnt_pos (f := f) (n := n) (by simpa using h)
      exact ⟨p, by omega, e⟩
theorem cnt_ge1 {f : Nat → Bool} {n p : Nat} (hp : p < n) (h : f p = true) : 1 ≤ cnt n f := by
  have := cnt_del (f := f) (g := fun q => bif Nat.beq q p then false else f q) (k := p) (n := n) hp h (by simp) (fun q _ hq => by
    have : Nat.beq q p = false := by
      cases hb : Nat.beq q p with
      | false => rfl
      | true => exact absurd (Nat.eq_of_beq_eq_true hb) hq
    simp only [this, cond_false])
  omega
theorem cnt_two {f : Nat → Bool} {n p q : Nat} (hp : p < n) (hq : q < n) (hpq : p ≠ q) (h : f p = true) (h' : f q = true) : 2 ≤ cnt n f := by
  have e := cnt_del (f := f) (g := fun r => bif Nat.beq r p then false else f r) (k := p) (n := n) hp h (by simp) (fun r _ hr => by
    have : Nat.beq r p = false := by
      cases hb : Nat.beq r p with
      | false => rfl
      | true => exact absurd (Nat.eq_of_beq_eq_true hb) hr
    simp only [this, cond_false])
  have := cnt_ge1 (f := fun r => bif Nat.beq r p then false else f r) hq (by
    have : Nat.beq q p = false := by
      cases hb : Nat.beq q p with
      | false => rfl
      | true => exact absurd (Nat.eq_of_beq_eq_true hb).symm hpq
    simp only [this, cond_false]; exact h')
  omega
/-- the most over places -/
def best : Nat → Nat → (Nat → Bool) → (Nat → Nat) → Nat
  | 0, i, _, _ => i
  | n + 1, i, ok, v => if ok n then (if best n i ok v < v n then v n else best n i ok v) else best n i ok v
theorem best_init {ok : Nat → Bool} {v : Nat → Nat} {i : Nat} : ∀ {n : Nat}, i ≤ best n i ok v
  | 0 => Nat.le_refl _
  | n + 1 => by
    have := best_init (ok := ok) (v := v) (i := i) (n := n)
    unfold best
    (repeat' split) <;> omega
theorem best_ge {ok : Nat → Bool} {v : Nat → Nat} {i p : Nat} : ∀ {n : Nat}, p < n → ok p = true → v p ≤ best n i ok v
  | 0, h, _ => absurd h (by omega)
  | n + 1, h, hp => by
    unfold best
    by_cases e : p = n
    · subst e
      rw [if_pos hp]
      split <;> omega
    · have := best_ge (ok := ok) (v := v) (i := i) (p := p) (n := n) (by omega) hp
      (repeat' split) <;> omega
theorem best_le {ok : Nat → Bool} {v : Nat → Nat} {i B : Nat} : ∀ {n : Nat}, i ≤ B → (∀ p, p < n → ok p = true → v p ≤ B) → best n i ok v ≤ B
  | 0, h, _ => h
  | n + 1, h, hv => by
    have h1 := best_le (ok := ok) (v := v) (i := i) (B := B) (n := n) h (fun p hp => hv p (by omega))
    unfold best
    split
    · rename_i q
      have := hv n (by omega) q
      split <;> omega
    · exact h1
def setB (f : Nat → Bool) (p : Nat) : Nat → Bool := fun q => bif Nat.beq q p then true else f q
theorem setB_s {f : Nat → Bool} {p : Nat} : setB f p p = true := by unfold setB; simp
theorem setB_o {f : Nat → Bool} {p q : Nat} (h : q ≠ p) : setB f p q = f q := by
  unfold setB
  have : Nat.beq q p = false := by
    cases hb : Nat.beq q p with
    | false => rfl
    | true => exact absurd (Nat.eq_of_beq_eq_true hb) h
  rw [this]
  rfl
theorem setB_m {f : Nat → Bool} {p q : Nat} (h : f q = true) : setB f p q = true := by
  by_cases e : q = p
  · rw [e]; exact setB_s
  · rw [setB_o e]; exact h
/-- trying all: r bridges are left, of n -/
def dpm (w : Nat → Nat → Bool) (g n : Nat) : Nat → (Nat → Bool) → Nat
  | 0, _ => 0
  | r + 1, gone => best g (dpm w g n r gone) (fun p => !gone p && w (n - (r + 1)) p) (fun p => 1 + dpm w g n r (setB gone p))
theorem dpm_lb {w : Nat → Nat → Bool} {g n : Nat} {h : Nat → Option Nat} (hw : ∀ p, p < g → ∀ k, h p = some k → w k p = true) (hi : ∀ p q k, p < g → q < g → h p = some k → h q = some k → p = q) : ∀ (r : Nat) (gone : Nat → Bool), r ≤ n → cnt g (fun p => !gone p && (match h p with | some k => Nat.ble (n - r) k && Nat.blt k n | none => false)) ≤ dpm w g n r gone
  | 0, gone, _ => by
    have : cnt g (fun p => !gone p && (match h p with | some k => Nat.ble (n - 0) k && Nat.blt k n | none => false)) = cnt g (fun _ => false) := by
      apply cnt_congr
      intro p _
      cases h p with
      | none => simp
      | some k =>
        have : (Nat.ble (n - 0) k && Nat.blt k n) = false := by
          cases hb : Nat.ble (n - 0) k with
          | false => rfl
          | true =>
            have := Nat.le_of_ble_eq_true hb
            cases hc : Nat.blt k n with
            | false => rfl
            | true => have := Nat.le_of_ble_eq_true hc; omega
        show (!gone p && (Nat.ble (n - 0) k && Nat.blt k n)) = false
        rw [this]
        cases gone p <;> rfl
    rw [this]
    have z : ∀ m, cnt m (fun _ => false) = 0 := by
      intro m
      induction m with
      | zero => rfl
      | succ m ih => show cnt m _ + _ = 0; rw [ih]; rfl
    rw [z]
    exact Nat.zero_le _
  | r + 1, gone, hr => by
    by_cases hx : ∃ p, p < g ∧ gone p = false ∧ h p = some (n - (r + 1))
    · obtain ⟨p, hp, hg, he⟩ := hx
      have h1 := dpm_lb (n := n) hw hi r (setB gone p) (by omega)
      have h2 : cnt g (fun q => !gone q && (match h q with | some k => Nat.ble (n - (r + 1)) k && Nat.blt k n | none => false)) = cnt g (fun q => !setB gone p q && (match h q with | some k => Nat.ble (n - r) k && Nat.blt k n | none => false)) + 1 := by
        refine cnt_del hp ?_ ?_ ?_
        · simp only [hg, he]
          have : Nat.ble (n - (r + 1)) (n - (r + 1)) = true := Nat.ble_eq_true_of_le (Nat.le_refl _)
          have : Nat.blt (n - (r + 1)) n = true := Nat.ble_eq_true_of_le (by omega)
          simp [*]
        · simp only [setB_s]; rfl
        · intro q hq hne
          rw [setB_o hne]
          cases hh : h q with
          | none => rfl
          | some k =>
            have hk : k ≠ n - (r + 1) := fun e => hne (hi q p k hq hp hh (by rw [he, e]))
            have : Nat.ble (n - (r + 1)) k = Nat.ble (n - r) k := by
              cases hb : Nat.ble (n - r) k with
              | true => have := Nat.le_of_ble_eq_true hb; exact Nat.ble_eq_true_of_le (by omega)
              | false =>
                cases hc : Nat.ble (n - (r + 1)) k with
                | false => rfl
                | true =>
                  have := Nat.le_of_ble_eq_true hc
                  have := Nat.ble_eq_true_of_le (show n - r ≤ k by omega)
                  rw [hb] at this; cases this
            simp only [this]
      rw [h2]
      show _ ≤ best g _ _ _
      have h3 := best_ge (ok := fun p => !gone p && w (n - (r + 1)) p) (v := fun p => 1 + dpm w g n r (setB gone p)) (i := dpm w g n r gone) (p := p) (n := g) hp (by simp only [hg, hw p hp _ he]; rfl)
      have h3 : 1 + dpm w g n r (setB gone p) ≤ best g (dpm w g n r gone) (fun p => !gone p && w (n - (r + 1)) p) (fun p => 1 + dpm w g n r (setB gone p)) := h3
      omega
    · have h1 := dpm_lb (n := n) hw hi r gone (by omega)
      have h2 : cnt g (fun q => !gone q && (match h q with | some k => Nat.ble (n - (r + 1)) k && Nat.blt k n | none => false)) ≤ cnt g (fun q => !gone q && (match h q with | some k => Nat.ble (n - r) k && Nat.blt k n | none => false)) := by
        apply cnt_le
        intro q hq hb
        cases hgq : gone q with
        | true => rw [hgq] at hb; cases hb
        | false =>
          rw [hgq] at hb
          cases hh : h q with
          | none => rw [hh] at hb; cases hb
          | some k =>
            rw [hh] at hb
            have hb : (Nat.ble (n - (r + 1)) k && Nat.blt k n) = true := hb
            rw [Bool.and_eq_true] at hb
            have e1 := Nat.le_of_ble_eq_true hb.1
            have e2 : k ≠ n - (r + 1) := fun e => hx ⟨q, hq, hgq, by rw [hh, e]⟩
            show (!false && (Nat.ble (n - r) k && Nat.blt k n)) = true
            rw [hb.2, Nat.ble_eq_true_of_le (show n - r ≤ k by omega)]
            rfl
      exact Nat.le_trans (Nat.le_trans h2 h1) (best_init)
theorem dpm_ub {w : Nat → Nat → Bool} {g n : Nat} {h : Nat → Option Nat} {F Z : Nat → Bool} {used : Nat → Bool} :
    ∀ (r : Nat) (gone : Nat → Bool), r ≤ n → (∀ p, used p = true → gone p = true) →
      (∀ j, n - r ≤ j → j < n → F j = true → ∀ q, q < g → w j q = true → Z q = true ∨ used q = true) →
      (∀ p, p < g → Z p = true → ∀ j, h p = some j → ∀ q, q < g → w j q = true → Z q = true ∨ used q = true) →
      (∀ j, n - r ≤ j → j < n → F j = true ∨ ∃ p, p < g ∧ h p = some j) →
      dpm w g n r gone ≤ cnt g (fun p => !gone p && Z p) + cnt g (fun p => !Z p && (match h p with | some k => Nat.ble (n - r) k | none => false))
  | 0, gone, _, _, _, _, _ => Nat.zero_le _
  | r + 1, gone, hr, hu, hF, hZ, hm => by
    have ih := fun gone' (hu' : ∀ p, used p = true → gone' p = true) => dpm_ub r gone' (by omega) hu' (fun j h1 h2 => hF j (by omega) h2) hZ (fun j h1 h2 => hm j (by omega) h2)
    have hb : cnt g (fun p => !Z p && (match h p with | some k => Nat.ble (n - r) k | none => false)) ≤ cnt g (fun p => !Z p && (match h p with | some k => Nat.ble (n - (r + 1)) k | none => false)) := by
      apply cnt_le
      intro q _ hb
      cases hh : h q with
      | none => rw [hh] at hb; simp at hb
      | some k =>
        rw [hh] at hb
        have hb : (!Z q && Nat.ble (n - r) k) = true := hb
        rw [Bool.and_eq_true] at hb
        have e1 := Nat.le_of_ble_eq_true hb.2
        show (!Z q && Nat.ble (n - (r + 1)) k) = true
        rw [hb.1, Nat.ble_eq_true_of_le (show n - (r + 1) ≤ k by omega)]
        rfl
    refine best_le (Nat.le_trans (ih gone hu) (by omega)) ?_
    intro p hp hok
    have hok : (!gone p && w (n - (r + 1)) p) = true := hok
    rw [Bool.and_eq_true] at hok
    have hgp : gone p = false := by simpa using hok.1
    have h1 := ih (setB gone p) (fun q hq => setB_m (hu q hq))
    by_cases hz : Z p = true
    · have h2 : cnt g (fun q => !gone q && Z q) = cnt g (fun q => !setB gone p q && Z q) + 1 := by
        refine cnt_del hp ?_ ?_ ?_
        · simp only [hgp, hz]; rfl
        · simp only [setB_s]; rfl
        · intro q _ hne; rw [setB_o hne]
      omega
    · have h2 : cnt g (fun q => !setB gone p q && Z q) ≤ cnt g (fun q => !gone q && Z q) := by
        apply cnt_le
        intro q _ hb
        rw [Bool.and_eq_true] at hb ⊢
        refine ⟨?_, hb.2⟩
        cases hgq : gone q with
        | false => rfl
        | true => have := setB_m (p := p) hgq; rw [this] at hb; exact absurd hb.1 (by decide)
      have hno : ¬ (Z p = true ∨ used p = true) := by
        rintro (q | q)
        · exact hz q
        · have := hu p q; rw [hgp] at this; cases this
      have hnF : ¬ F (n - (r + 1)) = true := fun q => hno (hF _ (Nat.le_refl _) (by omega) q p hp hok.2)
      obtain ⟨p0, hp0, e0⟩ := (hm (n - (r + 1)) (Nat.le_refl _) (by omega)).resolve_left hnF
      have hz0 : Z p0 = false := by
        cases hz0 : Z p0 with
        | false => rfl
        | true => exact absurd (hZ p0 hp0 hz0 _ e0 p hp hok.2) hno
      have h3 : cnt g (fun q => !Z q && (match h q with | some k => Nat.ble (n - r) k | none => false)) + 1 ≤ cnt g (fun q => !Z q && (match h q with | some k => Nat.ble (n - (r + 1)) k | none => false)) := by
        have h4 := cnt_del (f := fun q => !Z q && (match h q with | some k => Nat.ble (n - (r + 1)) k | none => false)) (g := fun q => bif Nat.beq q p0 then false else (!Z q && (match h q with | some k => Nat.ble (n - (r + 1)) k | none => false))) (k := p0) (n := g) hp0 (by
          show (!Z p0 && (match h p0 with | some k => Nat.ble (n - (r + 1)) k | none => false)) = true
          rw [hz0, e0]
          show (!false && Nat.ble (n - (r + 1)) (n - (r + 1))) = true
          rw [Nat.ble_eq_true_of_le (Nat.le_refl _)]
          rfl) (by simp) (fun q _ hq => by
            have : Nat.beq q p0 = false := by
              cases hb : Nat.beq q p0 with
              | false => rfl
              | true => exact absurd (Nat.eq_of_beq_eq_true hb) hq
            simp only [this, cond_false])
        rw [h4]
        refine Nat.add_le_add_right (cnt_le ?_) 1
        intro q _ hb
        have hb : (!Z q && (match h q with | some k => Nat.ble (n - r) k | none => false)) = true := hb
        have hq : Nat.beq q p0 = false := by
          cases hc : Nat.beq q p0 with
          | false => rfl
          | true =>
            have := Nat.eq_of_beq_eq_true hc
            subst this
            rw [e0] at hb
            rw [Bool.and_eq_true] at hb
            have := Nat.le_of_ble_eq_true hb.2
            omega
        show (bif Nat.beq q p0 then false else (!Z q && (match h q with | some k => Nat.ble (n - (r + 1)) k | none => false))) = true
        rw [hq]
        show (!Z q && (match h q with | some k => Nat.ble (n - (r + 1)) k | none => false)) = true
        cases hh : h q with
        | none => rw [hh] at hb; simp at hb
        | some k =>
          rw [hh] at hb
          have hb : (!Z q && Nat.ble (n - r) k) = true := hb
          rw [Bool.and_eq_true] at hb
          have e1 := Nat.le_of_ble_eq_true hb.2
          show (!Z q && Nat.ble (n - (r + 1)) k) = true
          rw [hb.1, Nat.ble_eq_true_of_le (show n - (r + 1) ≤ k by omega)]
          rfl
      omega
