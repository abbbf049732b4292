/-! changing paths -/
theorem cnt_split {f a : Nat → Bool} : ∀ {n : Nat}, cnt n f = cnt n (fun q => f q && !a q) + cnt n (fun q => f q && a q)
  | 0 => rfl
  | n + 1 => by
    show cnt n f + (if f n then 1 else 0) = cnt n (fun q => f q && !a q) + (if (f n && !a n) then 1 else 0) + (cnt n (fun q => f q && a q) + (if (f n && a n) then 1 else 0))
    have := cnt_split (f := f) (a := a) (n := n)
    cases hf : f n <;> cases ha : a n <;> simp <;> omega
theorem cnt_at {f g : Nat → Bool} {p n : Nat} (hp : p < n) (hg : g p = false) (h : ∀ q, q < n → q ≠ p → f q = g q) : cnt n f = cnt n g + (if f p then 1 else 0) := by
  cases hf : f p with
  | true => simpa using cnt_del hp hf hg h
  | false =>
    have : cnt n f = cnt n g := cnt_congr (fun q hq => by
      by_cases e : q = p
      · rw [e, hf, hg]
      · exact h q hq e)
    simpa using this
def isS (o : Option Nat) (j : Nat) : Bool := match o with
  | some i => Nat.beq i j
  | none => false
theorem isS_t {o : Option Nat} {j : Nat} : isS o j = true ↔ o = some j := by
  cases o with
  | none => simp [isS]
  | some i =>
    show Nat.beq i j = true ↔ _
    constructor
    · intro h; rw [Nat.eq_of_beq_eq_true h]
    · intro h; cases h; exact Nat.beq_refl _
theorem isS_k {i j : Nat} : isS (some i) j = decide (j = i) := by
  by_cases h : j = i
  · rw [h]; simp [isS]
  · have : isS (some i) j = false := by
      cases hb : isS (some i) j with
      | false => rfl
      | true => exact absurd (Option.some.inj (isS_t.mp hb)).symm h
    rw [this]
    simp [h]
abbrev KS : Type := (Nat → Option Nat) × (Nat → Bool)
def setO (h : Nat → Option Nat) (p k : Nat) : Nat → Option Nat := fun q => bif Nat.beq q p then some k else h q
theorem setO_s {h : Nat → Option Nat} {p k : Nat} : setO h p k p = some k := by unfold setO; simp
theorem setO_o {h : Nat → Option Nat} {p k q : Nat} (e : q ≠ p) : setO h p k q = h q := by
  unfold setO
  have : Nat.beq q p = false := by
    cases hb : Nat.beq q p with
    | false => rfl
    | true => exact absurd (Nat.eq_of_beq_eq_true hb) e
  rw [this]
  rfl
def fndL (w : Nat → Nat → Bool) (rc : Nat → KS → Bool × KS) (k : Nat) : Nat → KS → Bool × KS
  | 0, s => (false, s)
  | m + 1, s =>
    bif w k (8 - m) && !s.2 (8 - m) then
      match s.1 (8 - m) with
      | none => (true, (setO s.1 (8 - m) k, setB s.2 (8 - m)))
      | some j => match rc j (s.1, setB s.2 (8 - m)) with
        | (true, s') => (true, (setO s'.1 (8 - m) k, s'.2))
        | (false, s') => fndL w rc k m s'
    else fndL w rc k m s
def fnd (w : Nat → Nat → Bool) : Nat → Nat → KS → Bool × KS
  | 0, _, s => (false, s)
  | f + 1, k, s => fndL w (fnd w f) k 9 s
def KB (w : Nat → Nat → Bool) (k lo : Nat) (s s' : KS) : Prop := s'.1 = s.1 ∧ (∀ p, lo ≤ p → p < 9 → w k p = true → s'.2 p = true) ∧ ∀ p, p < 9 → s'.2 p = true → s.2 p = true ∨ ∃ j, s.1 p = some j ∧ ∀ q, q < 9 → w j q = true → s'.2 q = true
def KT (w : Nat → Nat → Bool) (k : Nat) (s s' : KS) : Prop := (∀ p, s.2 p = true → s'.1 p = s.1 p) ∧ (∀ p, s.1 p ≠ none → s'.1 p ≠ none) ∧ (∀ p j, s'.1 p = some j → s.1 p = some j ∨ (p < 9 ∧ j = j ∧ w j p = true ∧ s.2 p = false)) ∧ (∀ j, cnt 9 (fun p => !s.2 p && isS (s'.1 p) j) = cnt 9 (fun p => !s.2 p && isS (s.1 p) j) + (if j = k then 1 else 0)) ∧ cnt 9 (fun p => !s.2 p && (s'.1 p).isSome) = cnt 9 (fun p => !s.2 p && (s.1 p).isSome) + 1
def ZC (w : Nat → Nat → Bool) (Z : Nat → Bool) (s : KS) : Prop := ∀ p, p < 9 → Z p = true → ∃ j, s.1 p = some j ∧ ∀ q, q < 9 → w j q = true → Z q = true ∨ s.2 q = true
def KX (w : Nat → Nat → Bool) (k lo : Nat) (s : KS) (x : Bool × KS) : Prop := (∀ p, s.2 p = true → x.2.2 p = true) ∧ (x.1 = false → KB w k lo s x.2) ∧ (x.1 = true → KT w k s x.2) ∧ (∀ Z, ZC w Z s → (∀ q, lo ≤ q → q < 9 → w k q = true → Z q = true ∨ s.2 q = true) → x.1 = false) ∧ (∀ Z, ZC w Z s → x.1 = true → ∀ p, p < 9 → Z p = true → x.2.1 p = s.1 p)
theorem ZC_mono {w : Nat → Nat → Bool} {Z : Nat → Bool} {s s' : KS} (h : ZC w Z s) (h1 : s'.1 = s.1) (h2 : ∀ p, s.2 p = true → s'.2 p = true) : ZC w Z s' := by
  intro p hp hz
  obtain ⟨j, e, hq⟩ := h p hp hz
  exact ⟨j, by rw [h1]; exact e, fun q hq9 hw => (hq q hq9 hw).imp id (h2 q)⟩
theorem f_of {b : Bool} (h : ¬ b = true) : b = false := by cases b <;> simp_all
set_option maxHeartbeats 4000000 in
theorem fndL_spec {w : Nat → Nat → Bool} {rc : Nat → KS → Bool × KS} {k N : Nat} (hr : ∀ j s, cnt 9 (fun p => !s.2 p) < N → KX w j 0 s (rc j s)) : ∀ (m : Nat) (s : KS), m ≤ 9 → cnt 9 (fun p => !s.2 p) ≤ N → KX w k (9 - m) s (fndL w rc k m s)
  | 0, s, _, _ => ⟨fun _ h => h, fun _ => ⟨rfl, fun p h1 h2 => absurd h1 (by omega), fun p _ h => Or.inl h⟩, fun h => absurd h Bool.false_ne_true, fun _ _ _ => rfl, fun _ _ h => absurd h Bool.false_ne_true⟩
  | m + 1, s, hm, hc => by
    have ih := fun s' hs' => fndL_spec (k := k) hr m s' (by omega) hs'
    have e9 : 9 - (m + 1) = 8 - m := by omega
    rw [e9]
    unfold fndL
    generalize hp : 8 - m = p
    have hp9 : p < 9 := by omega
    have hpm : 9 - m = p + 1 := by omega
    cases hb : (w k p && !s.2 p) with
    | false =>
      simp only [cond_false]
      obtain ⟨hA, hB, hT, hD1, hD2⟩ := ih s hc
      refine ⟨hA, fun h => ?_, hT, fun Z hZ hq => hD1 Z hZ (fun q h1 => hq q (by omega)), hD2⟩
      obtain ⟨b1, b2, b3⟩ := hB h
      refine ⟨b1, fun q h1 h2 h3 => ?_, b3⟩
      by_cases e : q = p
      · subst e
        rw [h3] at hb
        have : s.2 q = true := by cases hs : s.2 q with
          | true => rfl
          | false => rw [hs] at hb; cases hb
        exact hA _ this
      · exact b2 q (by omega) h2 h3
    | true =>
      simp only [cond_true]
      rw [Bool.and_eq_true] at hb
      obtain ⟨hw, hn⟩ := hb
      have hn : s.2 p = false := by simpa using hn
      have hcs : cnt 9 (fun q => !s.2 q) = cnt 9 (fun q => !setB s.2 p q) + 1 := cnt_del hp9 (by simp [hn]) (by simp [setB_s]) (fun q _ hq => by simp only [setB_o hq])
      cases hh : s.1 p with
      | none =>
        simp only
        refine ⟨fun q hq => setB_m hq, fun h => absurd h (by simp), fun _ => ⟨fun q hq => ?_, fun q hq => ?_, fun q j hj => ?_, fun j => ?_, ?_⟩, fun Z hZ hq => ?_, fun Z hZ _ q hq9 hz => ?_⟩
        · exact setO_o (fun e => by rw [e, hn] at hq; cases hq)
        · by_cases e : q = p
          · rw [e]; show setO s.1 p k p ≠ none; rw [setO_s]; simp
          · show setO s.1 p k q ≠ none; rw [setO_o e]; exact hq
        · by_cases e : q = p
          · right
            have hj : setO s.1 p k q = some j := hj
            rw [e, setO_s] at hj
            cases hj
            exact ⟨by omega, rfl, by rw [e]; exact hw, by rw [e]; exact hn⟩
          · left
            have hj : setO s.1 p k q = some j := hj
            rw [setO_o e] at hj
            exact hj
        · have := cnt_at (f := fun q => !s.2 q && isS (setO s.1 p k q) j) (g := fun q => !s.2 q && isS (s.1 q) j) hp9 (by simp [hh, isS]) (fun q _ hq => by simp only [setO_o hq])
          rw [this]
          simp only [setO_s, hn, isS_k]
          by_cases e : j = k <;> simp [e]
        · have := cnt_at (f := fun q => !s.2 q && (setO s.1 p k q).isSome) (g := fun q => !s.2 q && (s.1 q).isSome) hp9 (by simp [hh]) (fun q _ hq => by simp only [setO_o hq])
          rw [this]
          simp [setO_s, hn]
        · exfalso
          rcases hq p (Nat.le_refl _) hp9 hw with h | h
          · obtain ⟨j, e, -⟩ := hZ p hp9 h
            rw [hh] at e; cases e
          · rw [hn] at h; cases h
        · refine setO_o (fun e => ?_)
          obtain ⟨j, e2, -⟩ := hZ q hq9 hz
          rw [e, hh] at e2; cases e2
      | some j =>
        simp only
        have hI := hr j (s.1, setB s.2 p) (by show cnt 9 (fun q => !setB s.2 p q) < N; omega)
        generalize rc j (s.1, setB s.2 p) = x at hI ⊢
        obtain ⟨b, s'⟩ := x
        obtain ⟨iA, iB, iT, iD1, iD2⟩ := hI
        simp only at iA iB iT iD1 iD2
        have hno : ∀ Z, ZC w Z s → b = true → ¬ Z p = true := by
          intro Z hZ hb hz
          obtain ⟨j', e, hq⟩ := hZ p hp9 hz
          rw [hh] at e
          cases e
          have := iD1 Z (ZC_mono (s' := (s.1, setB s.2 p)) hZ rfl (fun q h => setB_m h)) (fun q _ h9 hw' => (hq q h9 hw').imp id (fun h => setB_m h))
          rw [hb] at this; cases this
        cases b with
        | true =>
          simp only
          obtain ⟨t1, t2, t3, t4, t5⟩ := iT rfl
          refine ⟨fun q hq => iA q (setB_m hq), fun h => absurd h (by simp), fun _ => ⟨fun q hq => ?_, fun q hq => ?_, fun q i hi => ?_, fun i => ?_, ?_⟩, fun Z hZ hq => ?_, fun Z hZ _ q hq9 hz => ?_⟩
          · have e : q ≠ p := fun e => by rw [e, hn] at hq; cases hq
            show setO s'.1 p k q = s.1 q
            rw [setO_o e]
            exact t1 q (setB_m hq)
          · show setO s'.1 p k q ≠ none
            by_cases e : q = p
            · rw [e, setO_s]; simp
            · rw [setO_o e]; exact t2 q hq
          · have hi : setO s'.1 p k q = some i := hi
            by_cases e : q = p
            · right
              rw [e, setO_s] at hi
              cases hi
              exact ⟨by omega, rfl, by rw [e]; exact hw, by rw [e]; exact hn⟩
            · rw [setO_o e] at hi
              rcases t3 q i hi with h | ⟨h1, -, h2, h3⟩
              · exact Or.inl h
              · right
                have h3 : setB s.2 p q = false := h3
                rw [setB_o e] at h3
                exact ⟨h1, rfl, h2, h3⟩
          · have q1 := cnt_at (f := fun q => !s.2 q && isS (setO s'.1 p k q) i) (g := fun q => !setB s.2 p q && isS (s'.1 q) i) hp9 (by simp [setB_s]) (fun q _ hq => by simp only [setO_o hq, setB_o hq])
            have q2 := cnt_at (f := fun q => !s.2 q && isS (s.1 q) i) (g := fun q => !setB s.2 p q && isS (s.1 q) i) hp9 (by simp [setB_s]) (fun q _ hq => by simp only [setB_o hq])
            have q3 := t4 i
            simp only [setO_s, hn, isS_k, hh] at q1 q2
            have q3 : cnt 9 (fun q => !setB s.2 p q && isS (s'.1 q) i) = cnt 9 (fun q => !setB s.2 p q && isS (s.1 q) i) + (if i = j then 1 else 0) := q3
            show cnt 9 (fun q => !s.2 q && isS (setO s'.1 p k q) i) = _
            rw [q1, q2, q3]
            by_cases e1 : i = k <;> by_cases e2 : i = j <;> simp [e1, e2] <;> omega
          · have q1 := cnt_at (f := fun q => !s.2 q && (setO s'.1 p k q).isSome) (g := fun q => !setB s.2 p q && (s'.1 q).isSome) hp9 (by simp [setB_s]) (fun q _ hq => by simp only [setO_o hq, setB_o hq])
            have q2 := cnt_at (f := fun q => !s.2 q && (s.1 q).isSome) (g := fun q => !setB s.2 p q && (s.1 q).isSome) hp9 (by simp [setB_s]) (fun q _ hq => by simp only [setB_o hq])
            have q3 : cnt 9 (fun q => !setB s.2 p q && (s'.1 q).isSome) = cnt 9 (fun q => !setB s.2 p q && (s.1 q).isSome) + 1 := t5
            simp only [setO_s, hn, hh] at q1 q2
            show cnt 9 (fun q => !s.2 q && (setO s'.1 p k q).isSome) = _
            rw [q1, q2, q3]
            simp
          · exfalso
            rcases hq p (Nat.le_refl _) hp9 hw with h | h
            · exact hno Z hZ rfl h
            · rw [hn] at h; cases h
          · show setO s'.1 p k q = s.1 q
            have e : q ≠ p := fun e => hno Z hZ rfl (by rw [← e]; exact hz)
            rw [setO_o e]
            exact iD2 Z (ZC_mono (s' := (s.1, setB s.2 p)) hZ rfl (fun q h => setB_m h)) rfl q hq9 hz
        | false =>
          simp only
          obtain ⟨b1, b2, b3⟩ := iB rfl
          have b1 : s'.1 = s.1 := b1
          have hA0 : ∀ q, s.2 q = true → s'.2 q = true := fun q hq => iA q (setB_m hq)
          have hc' : cnt 9 (fun q => !s'.2 q) ≤ N := by
            refine Nat.le_trans (cnt_le (g := fun q => !s.2 q) (fun q _ h => ?_)) hc
            cases hs : s.2 q with
            | false => rfl
            | true => rw [hA0 q hs] at h; cases h
          obtain ⟨hA, hB, hT, hD1, hD2⟩ := ih s' hc'
          refine ⟨fun q hq => hA q (hA0 q hq), fun h => ?_, fun h => ?_, fun Z hZ hq => ?_, fun Z hZ h q hq9 hz => ?_⟩
          · obtain ⟨c1, c2, c3⟩ := hB h
            refine ⟨c1.trans b1, fun q h1 h2 h3 => ?_, fun q hq9 hq => ?_⟩
            · by_cases e : q = p
              · rw [e]; exact hA p (iA p setB_s)
              · exact c2 q (by omega) h2 h3
            · rcases c3 q hq9 hq with h1 | ⟨i, h1, h2⟩
              · rcases b3 q hq9 h1 with h4 | ⟨i, h4, h5⟩
                · by_cases e : q = p
                  · right
                    refine ⟨j, by rw [e]; exact hh, fun r hr9 hwr => hA r (b2 r (Nat.zero_le _) hr9 hwr)⟩
                  · left
                    have h4 : setB s.2 p q = true := h4
                    rw [setB_o e] at h4
                    exact h4
                · exact Or.inr ⟨i, h4, fun r hr9 hwr => hA r (h5 r hr9 hwr)⟩
              · exact Or.inr ⟨i, by rw [← b1]; exact h1, h2⟩
          · obtain ⟨t1, t2, t3, t4, t5⟩ := hT h
            generalize (fndL w rc k m s').2 = x at t1 t2 t3 t4 t5 hA ⊢
            have hsub : ∀ (f : Option Nat → Bool), cnt 9 (fun q => !s'.2 q && f (x.1 q)) + cnt 9 (fun q => (!s.2 q && f (s.1 q)) && s'.2 q) = cnt 9 (fun q => !s.2 q && f (x.1 q)) := by
              intro f
              rw [cnt_split (f := fun q => !s.2 q && f (x.1 q)) (a := s'.2)]
              congr 1
              · apply cnt_congr
                intro q _
                cases h1 : s.2 q with
                | false => cases s'.2 q <;> simp
                | true => rw [hA0 q h1]; simp
              · apply cnt_congr
                intro q _
                cases h1 : s'.2 q with
                | false => simp
                | true => rw [t1 q h1, b1]
            have hsub2 : ∀ (f : Option Nat → Bool), cnt 9 (fun q => !s'.2 q && f (s'.1 q)) + cnt 9 (fun q => (!s.2 q && f (s.1 q)) && s'.2 q) = cnt 9 (fun q => !s.2 q && f (s.1 q)) := by
              intro f
              rw [b1, cnt_split (f := fun q => !s.2 q && f (s.1 q)) (a := s'.2)]
              congr 1
              apply cnt_congr
              intro q _
              cases h1 : s.2 q with
              | false => cases s'.2 q <;> simp
              | true => rw [hA0 q h1]; simp
            refine ⟨fun q hq => by rw [t1 q (hA0 q hq), b1], fun q hq => t2 q (by rw [b1]; exact hq), fun q i hi => ?_, fun i => ?_, ?_⟩
            · rcases t3 q i hi with h1 | ⟨h1, -, h2, h3⟩
              · exact Or.inl (by rw [← b1]; exact h1)
              · exact Or.inr ⟨h1, rfl, h2, f_of (fun q' => by rw [hA0 q q'] at h3; cases h3)⟩
            · have q1 := hsub (fun o => isS o i)
              have q2 := hsub2 (fun o => isS o i)
              have q3 := t4 i
              omega
            · have q1 := hsub (fun o => o.isSome)
              have q2 := hsub2 (fun o => o.isSome)
              omega
          · exact hD1 Z (ZC_mono hZ b1 hA0) (fun q h1 h2 h3 => (hq q (by omega) h2 h3).imp id (hA0 q))
          · rw [hD2 Z (ZC_mono hZ b1 hA0) h q hq9 hz, b1]
theorem fnd_spec {w : Nat → Nat → Bool} : ∀ (f k : Nat) (s : KS), cnt 9 (fun p => !s.2 p) < f → KX w k 0 s (fnd w f k s)
  | 0, _, _, h => absurd h (by omega)
  | f + 1, k, s, h => fndL_spec (N := f) (fun j s hs => fnd_spec f j s hs) 9 s (Nat.le_refl _) (by omega)
/-- one bridge after the other -/
def mstL (w : Nat → Nat → Bool) (n : Nat) (used : Nat → Bool) : Nat → (Nat → Option Nat) → Nat → Nat
  | 0, _, c => c
  | r + 1, h, c => match fnd w 10 (n - (r + 1)) (h, used) with
    | (true, s) => mstL w n used r s.1 (c + 1)
    | (false, s) => mstL w n used r s.1 c
theorem mstL_eq {w : Nat → Nat → Bool} {n k0 : Nat} {used : Nat → Bool} : ∀ (r : Nat) (h : Nat → Option Nat) (c : Nat) (Z F : Nat → Bool), r ≤ n - k0 → k0 ≤ n →
    (∀ p j, h p = some j → p < 9 ∧ k0 ≤ j ∧ j < n - r ∧ w j p = true ∧ used p = false) → (∀ j, cnt 9 (fun p => isS (h p) j) ≤ 1) → c = cnt 9 (fun p => (h p).isSome) →
    (∀ p, p < 9 → Z p = true → used p = false ∧ ∃ j, h p = some j ∧ ∀ q, q < 9 → w j q = true → Z q = true ∨ used q = true) →
    (∀ j, k0 ≤ j → j < n - r → F j = true → ∀ q, q < 9 → w j q = true → Z q = true ∨ used q = true) →
    (∀ j, k0 ≤ j → j < n - r → F j = true ∨ ∃ p, p < 9 ∧ h p = some j) →
    mstL w n used r h c = dpm w 9 n (n - k0) used
  | 0, h, c, Z, F, _, hk, h1, h2, h3, h4, h5, h6 => by
    show c = _
    have hnn : n - (n - k0) = k0 := by omega
    apply Nat.le_antisymm
    · have := dpm_lb (w := w) (g := 9) (n := n) (h := h) (fun p _ k e => (h1 p k e).2.2.2.1) (fun p q k hp hq e1 e2 => by
        by_cases e : p = q
        · exact e
        · have := cnt_two (f := fun p => isS (h p) k) hp hq e (isS_t.mpr e1) (isS_t.mpr e2)
          have := h2 k
          omega) (n - k0) used (by omega)
      refine Nat.le_trans ?_ this
      rw [h3]
      apply cnt_le
      intro p _ hp
      cases hh : h p with
      | none => rw [hh] at hp; cases hp
      | some j =>
        obtain ⟨-, g1, g2, -, g3⟩ := h1 p j hh
        show (!used p && (Nat.ble (n - (n - k0)) j && Nat.blt j n)) = true
        rw [g3, hnn, Nat.ble_eq_true_of_le g1, show Nat.blt j n = true from Nat.ble_eq_true_of_le (by omega)]
        rfl
    · have := dpm_ub (w := w) (g := 9) (n := n) (h := h) (F := F) (Z := Z) (used := used) (n - k0) used (by omega) (fun _ q => q) (fun j g1 g2 => h5 j (by omega) (by omega)) (fun p hp hz j e q hq hw => by
        obtain ⟨-, j', e', h'⟩ := h4 p hp hz
        rw [e] at e'; cases e'
        exact h' q hq hw) (fun j g1 g2 => h6 j (by omega) (by omega))
      refine Nat.le_trans this ?_
      rw [h3, cnt_split (f := fun p => (h p).isSome) (a := Z), Nat.add_comm]
      refine Nat.add_le_add (cnt_le ?_) (cnt_le ?_)
      · intro p _ hp
        rw [Bool.and_eq_true] at hp ⊢
        refine ⟨?_, hp.1⟩
        cases hh : h p with
        | none => rw [hh] at hp; exact absurd hp.2 (by simp)
        | some j => rfl
      · intro p hp9 hp
        rw [Bool.and_eq_true] at hp ⊢
        obtain ⟨-, j, e, -⟩ := h4 p hp9 hp.2
        exact ⟨by rw [e]; rfl, hp.2⟩
  | r + 1, h, c, Z, F, hr, hk, h1, h2, h3, h4, h5, h6 => by
    have hX := fnd_spec (w := w) 10 (n - (r + 1)) (h, used) (by have := cnt_n (f := fun p => !used p) (n := 9); show cnt 9 (fun p => !used p) < 10; omega)
    unfold mstL
    generalize hkk : n - (r + 1) = k at hX h1 h5 h6 ⊢
    have hkr : n - r = k + 1 := by omega
    generalize fnd w 10 k (h, used) = x at hX ⊢
    obtain ⟨b, s⟩ := x
    obtain ⟨hA, hB, hT, hD1, hD2⟩ := hX
    simp only at hA hB hT hD1 hD2
    have hZC : ZC w Z (h, used) := fun p hp hz => (h4 p hp hz).2
    cases b with
    | true =>
      obtain ⟨t1, t2, t3, t4, t5⟩ := hT rfl
      simp only at t1 t2 t3 t4 t5 ⊢
      have hu : ∀ p j, s.1 p = some j → p < 9 ∧ w j p = true ∧ used p = false := by
        intro p j e
        rcases t3 p j e with g | ⟨g1, -, g2, g3⟩
        · obtain ⟨g1, -, -, g2, g3⟩ := h1 p j g
          exact ⟨g1, g2, g3⟩
        · exact ⟨g1, g2, g3⟩
      have hcu : ∀ j, cnt 9 (fun p => isS (s.1 p) j) = cnt 9 (fun p => isS (h p) j) + (if j = k then 1 else 0) := by
        intro j
        have e1 : cnt 9 (fun p => isS (s.1 p) j) = cnt 9 (fun p => !used p && isS (s.1 p) j) := by
          apply cnt_congr
          intro p _
          cases hb : isS (s.1 p) j with
          | false => simp
          | true => rw [(hu p j (isS_t.mp hb)).2.2]; rfl
        have e2 : cnt 9 (fun p => isS (h p) j) = cnt 9 (fun p => !used p && isS (h p) j) := by
          apply cnt_congr
          intro p _
          cases hb : isS (h p) j with
          | false => simp
          | true => rw [(h1 p j (isS_t.mp hb)).2.2.2.2]; rfl
        rw [e1, e2]
        exact t4 j
      have hck : cnt 9 (fun p => isS (h p) k) = 0 := by
        cases hz : cnt 9 (fun p => isS (h p) k) with
        | zero => rfl
        | succ m =>
          obtain ⟨p, -, e⟩ := cnt_pos (f := fun p => isS (h p) k) (n := 9) (by omega)
          have := (h1 p k (isS_t.mp e)).2.2.1
          omega
      refine mstL_eq r s.1 (c + 1) Z (fun j => bif Nat.beq j k then false else F j) (by omega) hk ?_ ?_ ?_ ?_ ?_ ?_
      · intro p j e
        obtain ⟨g1, g2, g3⟩ := hu p j e
        have g4 : 1 ≤ cnt 9 (fun p => isS (s.1 p) j) := cnt_ge1 g1 (isS_t.mpr e)
        rw [hcu j] at g4
        refine ⟨g1, ?_, ?_, g2, g3⟩
        · by_cases ek : j = k
          · omega
          · rw [if_neg ek] at g4
            obtain ⟨p', -, e'⟩ := cnt_pos (f := fun p => isS (h p) j) (n := 9) (by omega)
            exact (h1 p' j (isS_t.mp e')).2.1
        · by_cases ek : j = k
          · omega
          · rw [if_neg ek] at g4
            obtain ⟨p', -, e'⟩ := cnt_pos (f := fun p => isS (h p) j) (n := 9) (by omega)
            have := (h1 p' j (isS_t.mp e')).2.2.1
            omega
      · intro j
        rw [hcu j]
        by_cases ek : j = k
        · rw [ek, hck, if_pos rfl]; omega
        · rw [if_neg ek]; have := h2 j; omega
      · have e1 : cnt 9 (fun p => (s.1 p).isSome) = cnt 9 (fun p => !used p && (s.1 p).isSome) := by
          apply cnt_congr
          intro p _
          cases hb : s.1 p with
          | none => simp
          | some j => rw [(hu p j hb).2.2]; rfl
        have e2 : cnt 9 (fun p => (h p).isSome) = cnt 9 (fun p => !used p && (h p).isSome) := by
          apply cnt_congr
          intro p _
          cases hb : h p with
          | none => simp
          | some j => rw [(h1 p j hb).2.2.2.2]; rfl
        rw [e1, h3, e2]
        exact t5.symm
      · intro p hp hz
        obtain ⟨g1, j, g2, g3⟩ := h4 p hp hz
        exact ⟨g1, j, by rw [hD2 Z hZC rfl p hp hz]; exact g2, g3⟩
      · intro j g1 g2 g3
        have g3 : (bif Nat.beq j k then false else F j) = true := g3
        by_cases ek : j = k
        · rw [ek, Nat.beq_refl] at g3
          cases g3
        · have eb : Nat.beq j k = false := f_of (fun q => ek (Nat.eq_of_beq_eq_true q))
          rw [eb] at g3
          exact h5 j g1 (by omega) g3
      · intro j g1 g2
        by_cases ek : j = k
        · right
          have g4 : 0 < cnt 9 (fun p => isS (s.1 p) j) := by rw [hcu j, if_pos ek]; omega
          obtain ⟨p', e1, e'⟩ := cnt_pos g4
          exact ⟨p', e1, isS_t.mp e'⟩
        · rcases h6 j g1 (by omega) with g | ⟨p, g3, g4⟩
          · left
            show (bif Nat.beq j k then false else F j) = true
            rw [f_of (fun q => ek (Nat.eq_of_beq_eq_true q))]
            exact g
          · right
            have g5 : 0 < cnt 9 (fun p => isS (s.1 p) j) := by
              have := cnt_ge1 (f := fun p => isS (h p) j) g3 (isS_t.mpr g4)
              rw [hcu j]; omega
            obtain ⟨p', e1, e'⟩ := cnt_pos g5
            exact ⟨p', e1, isS_t.mp e'⟩
    | false =>
      obtain ⟨b1, b2, b3⟩ := hB rfl
      simp only at b1 b2 b3 ⊢
      rw [b1]
      have hz : ∀ q, s.2 q = true → (Z q || (s.2 q && !used q)) = true ∨ used q = true := by
        intro q hq
        cases hu : used q with
        | true => exact Or.inr rfl
        | false => left; rw [hq]; simp
      refine mstL_eq r h c (fun p => Z p || (s.2 p && !used p)) (setB F k) (by omega) hk ?_ h2 h3 ?_ ?_ ?_
      · intro p j e
        obtain ⟨g1, g2, g3, g4, g5⟩ := h1 p j e
        exact ⟨g1, g2, by omega, g4, g5⟩
      · intro p hp hzp
        have hzp : (Z p || (s.2 p && !used p)) = true := hzp
        rw [Bool.or_eq_true] at hzp
        rcases hzp with hzp | hzp
        · obtain ⟨g1, j, g2, g3⟩ := h4 p hp hzp
          refine ⟨g1, j, g2, fun q hq hw => (g3 q hq hw).imp (fun g => ?_) id⟩
          show (Z q || (s.2 q && !used q)) = true
          rw [g]; rfl
        · rw [Bool.and_eq_true] at hzp
          have hup : used p = false := by simpa using hzp.2
          refine ⟨hup, ?_⟩
          rcases b3 p hp hzp.1 with g | ⟨j, g2, g3⟩
          · rw [hup] at g; cases g
          · exact ⟨j, g2, fun q hq hw => hz q (g3 q hq hw)⟩
      · intro j g1 g2 g3 q hq hw
        by_cases ek : j = k
        · exact hz q (b2 q (Nat.zero_le _) hq (by rw [← ek]; exact hw))
        · have g3 : setB F k j = true := g3
          rw [setB_o ek] at g3
          refine (h5 j g1 (by omega) g3 q hq hw).imp (fun g => ?_) id
          show (Z q || (s.2 q && !used q)) = true
          rw [g]; rfl
      · intro j g1 g2
        by_cases ek : j = k
        · left; rw [ek]; exact setB_s
        · exact (h6 j g1 (by omega)).imp (fun g => setB_m g) id
theorem best_ext {ok : Nat → Bool} {v : Nat → Nat} {i g : Nat} (h : ∀ p, g ≤ p → ok p = false) : ∀ m, best (g + m) i ok v = best g i ok v
  | 0 => rfl
  | m + 1 => by
    show (if ok (g + m) then (if best (g + m) i ok v < v (g + m) then v (g + m) else best (g + m) i ok v) else best (g + m) i ok v) = _
    rw [h (g + m) (by omega), best_ext h m]
    rfl
theorem best_congr {ok ok' : Nat → Bool} {v v' : Nat → Nat} {i : Nat} : ∀ {g : Nat}, (∀ p, p < g → ok p = ok' p) → (∀ p, p < g → ok p = true → v p = v' p) → best g i ok v = best g i ok' v'
  | 0, _, _ => rfl
  | g + 1, h, hv => by
    unfold best
    rw [best_congr (g := g) (fun p hp => h p (by omega)) (fun p hp => hv p (by omega)), ← h g (by omega)]
    cases ho : ok g with
    | false => rfl
    | true => rw [hv g (by omega) ho]
theorem dpm_ext {w : Nat → Nat → Bool} {g n m : Nat} (h : ∀ k p, g ≤ p → w k p = false) : ∀ (r : Nat) (gone : Nat → Bool), dpm w (g + m) n r gone = dpm w g n r gone
  | 0, _ => rfl
  | r + 1, gone => by
    unfold dpm
    rw [best_ext (fun p hp => by rw [h _ p hp]; simp) m, dpm_ext h r gone]
    exact best_congr (fun _ _ => rfl) (fun p _ _ => by rw [dpm_ext h r])
