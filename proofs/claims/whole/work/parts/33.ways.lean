/-! the least sums along ways of eight places: seven rounds are enough; who is reached -/
abbrev WE : Type := Nat × Nat × Nat
def updN (f : Nat → Nat) (k x : Nat) : Nat → Nat := fun j => if j = k then x else f j
theorem updN_s {f : Nat → Nat} {k x : Nat} : updN f k x k = x := if_pos rfl
theorem updN_o {f : Nat → Nat} {k x j : Nat} (h : j ≠ k) : updN f k x j = f j := if_neg h
def mnN (a b : Nat) : Nat := if b < a then b else a
theorem mnN_l {a b : Nat} : mnN a b ≤ a := by unfold mnN; split <;> omega
theorem mnN_r {a b : Nat} : mnN a b ≤ b := by unfold mnN; split <;> omega
theorem mnN_c {a b : Nat} : mnN a b = a ∨ mnN a b = b := by unfold mnN; split <;> simp
def rlx (e : WE) (d : Nat → Nat) : Nat → Nat :=
  updN (updN d e.2.1 (mnN (d e.2.1) (d e.1 + e.2.2))) e.1 (mnN (updN d e.2.1 (mnN (d e.2.1) (d e.1 + e.2.2)) e.1) (updN d e.2.1 (mnN (d e.2.1) (d e.1 + e.2.2)) e.2.1 + e.2.2))
def rnd : List WE → (Nat → Nat) → Nat → Nat
  | [], d => d
  | e :: t, d => rnd t (rlx e d)
def rnds (es : List WE) : Nat → (Nat → Nat) → Nat → Nat
  | 0, d => d
  | i + 1, d => rnd es (rnds es i d)
theorem rlx_le (e : WE) (d : Nat → Nat) (v : Nat) : rlx e d v ≤ d v := by
  unfold rlx
  have h1 : ∀ v, updN d e.2.1 (mnN (d e.2.1) (d e.1 + e.2.2)) v ≤ d v := by
    intro v
    by_cases h : v = e.2.1
    · rw [h, updN_s]; exact mnN_l
    · rw [updN_o h]; exact Nat.le_refl _
  by_cases h : v = e.1
  · rw [h, updN_s]; exact Nat.le_trans mnN_l (h1 _)
  · rw [updN_o h]; exact h1 v
theorem rnd_le : ∀ (es : List WE) (d : Nat → Nat) (v : Nat), rnd es d v ≤ d v
  | [], _, _ => Nat.le_refl _
  | e :: t, d, v => Nat.le_trans (rnd_le t (rlx e d) v) (rlx_le e d v)
theorem rlx_b (e : WE) (d : Nat → Nat) : rlx e d e.2.1 ≤ d e.1 + e.2.2 := by
  unfold rlx
  by_cases h : e.2.1 = e.1
  · rw [h, updN_s, updN_s]
    refine Nat.le_trans mnN_l (Nat.le_trans mnN_l (by omega))
  · rw [updN_o h, updN_s]; exact mnN_r
theorem rlx_a (e : WE) (d : Nat → Nat) : rlx e d e.1 ≤ d e.2.1 + e.2.2 := by
  unfold rlx
  rw [updN_s, updN_s]
  refine Nat.le_trans mnN_r (Nat.add_le_add_right mnN_l _)
theorem rnd_edge : ∀ (es : List WE) (d : Nat → Nat) (e : WE), e ∈ es → rnd es d e.2.1 ≤ d e.1 + e.2.2 ∧ rnd es d e.1 ≤ d e.2.1 + e.2.2
  | [], _, _, h => by cases h
  | e0 :: t, d, e, h => by
    rcases List.mem_cons.mp h with h | h
    · subst h
      exact ⟨Nat.le_trans (rnd_le t _ _) (rlx_b e d), Nat.le_trans (rnd_le t _ _) (rlx_a e d)⟩
    · obtain ⟨h1, h2⟩ := rnd_edge t (rlx e0 d) e h
      exact ⟨Nat.le_trans h1 (Nat.add_le_add_right (rlx_le _ _ _) _), Nat.le_trans h2 (Nat.add_le_add_right (rlx_le _ _ _) _)⟩
def wit (es : List WE) (s far : Nat) (d : Nat → Nat) : Prop := ∀ v, d v = far ∨ (v = s ∧ d v = 0) ∨ ∃ e ∈ es, (e.2.1 = v ∧ d e.1 + e.2.2 ≤ d v) ∨ (e.1 = v ∧ d e.2.1 + e.2.2 ≤ d v)
theorem wit_rlx {es : List WE} {s far : Nat} {d : Nat → Nat} {e : WE} (he : e ∈ es) (h : wit es s far d) : wit es s far (rlx e d) := by
  intro v
  have keep : rlx e d v = d v → (rlx e d v = far ∨ (v = s ∧ rlx e d v = 0) ∨ ∃ e' ∈ es, (e'.2.1 = v ∧ rlx e d e'.1 + e'.2.2 ≤ rlx e d v) ∨ (e'.1 = v ∧ rlx e d e'.2.1 + e'.2.2 ≤ rlx e d v)) := by
    intro q
    rw [q]
    rcases h v with h | h | ⟨e', h1, h2⟩
    · exact Or.inl h
    · exact Or.inr (Or.inl h)
    · refine Or.inr (Or.inr ⟨e', h1, ?_⟩)
      have a1 := rlx_le e d e'.1
      have a2 := rlx_le e d e'.2.1
      rcases h2 with ⟨h2, h3⟩ | ⟨h2, h3⟩
      · exact Or.inl ⟨h2, by omega⟩
      · exact Or.inr ⟨h2, by omega⟩
  by_cases hab : e.2.1 = e.1
  · apply keep
    have e1 : mnN (d e.1) (d e.1 + e.2.2) = d e.1 := by unfold mnN; rw [if_neg (by omega)]
    unfold rlx
    rw [hab, updN_s, e1]
    by_cases hv : v = e.1
    · rw [hv, updN_s, e1]
    · rw [updN_o hv, updN_o hv]
  · have ea : rlx e d e.1 = mnN (d e.1) (mnN (d e.2.1) (d e.1 + e.2.2) + e.2.2) := by
      unfold rlx
      rw [updN_s, updN_s, updN_o (fun q => hab q.symm)]
    have eb : rlx e d e.2.1 = mnN (d e.2.1) (d e.1 + e.2.2) := by
      unfold rlx
      rw [updN_o hab, updN_s]
    by_cases hvb : v = e.2.1
    · rcases mnN_c (a := d e.2.1) (b := d e.1 + e.2.2) with q | q
      · exact keep (by rw [hvb, eb, q])
      · refine Or.inr (Or.inr ⟨e, he, Or.inl ⟨hvb.symm, ?_⟩⟩)
        rw [hvb, eb, q]
        have := rlx_le e d e.1
        omega
    · by_cases hva : v = e.1
      · rcases mnN_c (a := d e.1) (b := mnN (d e.2.1) (d e.1 + e.2.2) + e.2.2) with q | q
        · exact keep (by rw [hva, ea, q])
        · refine Or.inr (Or.inr ⟨e, he, Or.inr ⟨hva.symm, ?_⟩⟩)
          rw [hva, ea, q, eb]
          exact Nat.le_refl _
      · apply keep
        unfold rlx
        rw [updN_o hva, updN_o hvb]
theorem wit_rnd {es : List WE} {s far : Nat} : ∀ (t : List WE) (d : Nat → Nat), (∀ e ∈ t, e ∈ es) → wit es s far d → wit es s far (rnd t d)
  | [], _, _, h => h
  | e :: t, d, hs, h => wit_rnd t (rlx e d) (fun e' he' => hs e' (List.mem_cons_of_mem _ he')) (wit_rlx (hs e List.mem_cons_self) h)
theorem wit_rnds {es : List WE} {s far : Nat} {d : Nat → Nat} (h : wit es s far d) : ∀ i, wit es s far (rnds es i d)
  | 0 => h
  | i + 1 => wit_rnd es _ (fun _ h => h) (wit_rnds h i)
def sum8 : Nat → (Nat → Nat) → Nat
  | 0, _ => 0
  | n + 1, d => sum8 n d + d n
theorem sum8_le {f g : Nat → Nat} (h : ∀ v, f v ≤ g v) : ∀ n, sum8 n f ≤ sum8 n g
  | 0 => Nat.le_refl _
  | n + 1 => Nat.add_le_add (sum8_le h n) (h n)
theorem sum8_lt {f g : Nat → Nat} (h : ∀ v, f v ≤ g v) {v : Nat} : ∀ n, v < n → f v < g v → sum8 n f < sum8 n g
  | 0, hv, _ => absurd hv (by omega)
  | n + 1, hv, hl => by
    show sum8 n f + f n < sum8 n g + g n
    by_cases e : v = n
    · subst e
      have := sum8_le h v
      omega
    · have := sum8_lt h n (by omega) hl
      have := h n
      omega
theorem rlx_congr {e : WE} {d d' : Nat → Nat} (h1 : e.1 < 8) (h2 : e.2.1 < 8) (h : ∀ v, v < 8 → d v = d' v) : ∀ v, v < 8 → rlx e d v = rlx e d' v := by
  intro v hv
  unfold rlx
  have hb := h _ h2
  have ha := h _ h1
  have hh : ∀ v, v < 8 → updN d e.2.1 (mnN (d e.2.1) (d e.1 + e.2.2)) v = updN d' e.2.1 (mnN (d' e.2.1) (d' e.1 + e.2.2)) v := by
    intro v hv
    by_cases q : v = e.2.1
    · rw [q, updN_s, updN_s, ha, hb]
    · rw [updN_o q, updN_o q, h v hv]
  generalize updN d e.2.1 (mnN (d e.2.1) (d e.1 + e.2.2)) = X at hh ⊢
  generalize updN d' e.2.1 (mnN (d' e.2.1) (d' e.1 + e.2.2)) = X' at hh ⊢
  by_cases q : v = e.1
  · rw [q, updN_s, updN_s, hh _ h1, hh _ h2]
  · rw [updN_o q, updN_o q, hh v hv]
theorem rnd_congr : ∀ (es : List WE) {d d' : Nat → Nat}, (∀ e ∈ es, e.1 < 8 ∧ e.2.1 < 8) → (∀ v, v < 8 → d v = d' v) → ∀ v, v < 8 → rnd es d v = rnd es d' v
  | [], _, _, _, h => h
  | e :: t, d, d', hs, h => rnd_congr t (fun e' he' => hs e' (List.mem_cons_of_mem _ he')) (rlx_congr (hs e List.mem_cons_self).1 (hs e List.mem_cons_self).2 h)
/-- it comes to rest -/
theorem rest_ex (es : List WE) (d : Nat → Nat) : ∃ N, ∀ v, v < 8 → rnds es (N + 1) d v = rnds es N d v := by
  have key : ∀ m i, sum8 8 (rnds es i d) ≤ m → ∃ N, ∀ v, v < 8 → rnds es (N + 1) d v = rnds es N d v := by
    intro m
    induction m with
    | zero =>
      intro i hi
      refine ⟨i, fun v hv => ?_⟩
      have h1 : rnds es (i + 1) d v ≤ rnds es i d v := rnd_le es _ v
      by_cases e : rnds es (i + 1) d v = rnds es i d v
      · exact e
      · have := sum8_lt (f := rnds es (i + 1) d) (g := rnds es i d) (rnd_le es _) 8 hv (by omega)
        omega
    | succ m ih =>
      intro i hi
      by_cases h : ∀ v, v < 8 → rnds es (i + 1) d v = rnds es i d v
      · exact ⟨i, h⟩
      · obtain ⟨v, hv⟩ := Classical.not_forall.mp h
        obtain ⟨hv8, hne⟩ := Classical.not_imp.mp hv
        have h1 : rnds es (i + 1) d v ≤ rnds es i d v := rnd_le es _ v
        have := sum8_lt (f := rnds es (i + 1) d) (g := rnds es i d) (rnd_le es _) 8 hv8 (by omega)
        exact ih (i + 1) (by omega)
  exact key _ 0 (Nat.le_refl _)
theorem rnds_mono {es : List WE} {d : Nat → Nat} {i : Nat} (v : Nat) : ∀ k, rnds es (i + k) d v ≤ rnds es i d v
  | 0 => Nat.le_refl _
  | k + 1 => Nat.le_trans (rnd_le es _ v) (rnds_mono v k)
theorem rest_on {es : List WE} {d : Nat → Nat} (hs : ∀ e ∈ es, e.1 < 8 ∧ e.2.1 < 8) {N : Nat} (h : ∀ v, v < 8 → rnds es (N + 1) d v = rnds es N d v) : ∀ k v, v < 8 → rnds es (N + k) d v = rnds es N d v
  | 0, _, _ => rfl
  | k + 1, v, hv => (rnd_congr es hs (rest_on hs h k) v hv).trans (h v hv)
theorem seven {es : List WE} {s far : Nat} {d : Nat → Nat} (hs : ∀ e ∈ es, e.1 < 8 ∧ e.2.1 < 8 ∧ 0 < e.2.2) (hd : ∀ v, d v = if v = s then 0 else far) (j : Nat) : ∀ v, v < 8 → rnds es (7 + j) d v = rnds es 7 d v := by
  have hs' : ∀ e ∈ es, e.1 < 8 ∧ e.2.1 < 8 := fun e he => ⟨(hs e he).1, (hs e he).2.1⟩
  obtain ⟨N, hN⟩ := rest_ex es d
  have hw : wit es s far (rnds es N d) := wit_rnds (fun v => by
    rw [hd]
    by_cases h : v = s
    · rw [if_pos h]; exact Or.inr (Or.inl ⟨h, rfl⟩)
    · rw [if_neg h]; exact Or.inl rfl) N
  generalize hD : rnds es N d = D at hw
  have hle : ∀ (i v : Nat), rnds es i d v ≤ if v = s then 0 else far := by
    intro i v
    have := rnds_mono (es := es) (d := d) (i := 0) v i
    rw [Nat.zero_add] at this
    exact Nat.le_trans this (by show d v ≤ _; rw [hd]; exact Nat.le_refl _)
  have tight : ∀ v, v < 8 → D v = far ∨ (v = s ∧ D v = 0) ∨ ∃ u, ∃ w, u < 8 ∧ 0 < w ∧ D v = D u + w ∧ ∀ i, rnds es (i + 1) d v ≤ rnds es i d u + w := by
    intro v hv
    rcases hw v with h | h | ⟨e, he, h⟩
    · exact Or.inl h
    · exact Or.inr (Or.inl h)
    · refine Or.inr (Or.inr ?_)
      obtain ⟨s1, s2, s3⟩ := hs e he
      have hDv : rnd es D v = D v := by rw [← hD]; exact hN v hv
      rcases h with ⟨h1, h2⟩ | ⟨h1, h2⟩
      · refine ⟨e.1, e.2.2, s1, s3, ?_, fun i => by rw [← h1]; exact (rnd_edge es _ e he).1⟩
        have := (rnd_edge es D e he).1
        rw [h1, hDv] at this
        omega
      · refine ⟨e.2.1, e.2.2, s2, s3, ?_, fun i => by rw [← h1]; exact (rnd_edge es _ e he).2⟩
        have := (rnd_edge es D e he).2
        rw [h1, hDv] at this
        omega
  have rank : ∀ u v, u < 8 → v < 8 → D u < D v → cnt 8 (fun x => decide (D x < D u)) + 1 ≤ cnt 8 (fun x => decide (D x < D v)) := by
    intro u v hu hv h
    have e := cnt_del (f := fun x => decide (D x < D v)) (g := fun x => bif Nat.beq x u then false else decide (D x < D v)) (k := u) (n := 8) hu (by simpa using h) (by simp) (fun x _ hx => by
      have : Nat.beq x u = false := f_of (fun q => hx (Nat.eq_of_beq_eq_true q))
      simp only [this, cond_false])
    rw [e]
    refine Nat.add_le_add_right (cnt_le ?_) 1
    intro x _ hx
    have hx : D x < D u := by simpa using hx
    have hxu : x ≠ u := fun q => by rw [q] at hx; omega
    have : Nat.beq x u = false := f_of (fun q => hxu (Nat.eq_of_beq_eq_true q))
    simp only [this, cond_false]
    simp
    omega
  have main : ∀ i v, v < 8 → cnt 8 (fun x => decide (D x < D v)) ≤ i → rnds es i d v ≤ D v := by
    intro i
    induction i with
    | zero =>
      intro v hv hr
      rcases tight v hv with h | ⟨h1, h2⟩ | ⟨u, w, hu, hw0, h, -⟩
      · have := hle 0 v
        rw [h]
        split at this <;> omega
      · have := hle 0 v
        rw [if_pos h1] at this
        omega
      · have := rank u v hu hv (by omega)
        omega
    | succ i ih =>
      intro v hv hr
      rcases tight v hv with h | ⟨h1, h2⟩ | ⟨u, w, hu, hw0, h, he⟩
      · have := hle (i + 1) v
        rw [h]
        split at this <;> omega
      · have := hle (i + 1) v
        rw [if_pos h1] at this
        omega
      · have h1 := rank u v hu hv (by omega)
        have h2 := ih u hu (by omega)
        have h3 := he i
        omega
  have r7 : ∀ v, v < 8 → cnt 8 (fun x => decide (D x < D v)) ≤ 7 := by
    intro v hv
    have e := cnt_del (f := fun _ => true) (g := fun x => bif Nat.beq x v then false else true) (k := v) (n := 8) hv rfl (by simp) (fun x _ hx => by
      have : Nat.beq x v = false := f_of (fun q => hx (Nat.eq_of_beq_eq_true q))
      simp only [this, cond_false])
    have h8 : cnt 8 (fun _ => true) = 8 := by decide
    have : cnt 8 (fun x => decide (D x < D v)) ≤ cnt 8 (fun x => bif Nat.beq x v then false else true) := by
      apply cnt_le
      intro x _ hx
      have hx : D x < D v := by simpa using hx
      have hxu : x ≠ v := fun q => by rw [q] at hx; omega
      have : Nat.beq x v = false := f_of (fun q => hxu (Nat.eq_of_beq_eq_true q))
      simp only [this, cond_false]
    omega
  have done : ∀ i v, v < 8 → 7 ≤ i → rnds es i d v = D v := by
    intro i v hv hi
    by_cases hNi : N ≤ i
    · have := rest_on hs' hN (i - N) v hv
      rw [show N + (i - N) = i by omega] at this
      rw [this, hD]
    · have h1 := main i v hv (Nat.le_trans (r7 v hv) hi)
      have h2 := rnds_mono (es := es) (d := d) (i := i) v (N - i)
      rw [show i + (N - i) = N by omega, hD] at h2
      omega
  intro v hv
  rw [done _ v hv (by omega), done 7 v hv (by omega)]
/-- who is reached -/
def rlB (e : WE) (f : Nat → Bool) : Nat → Bool := fun v => f v || ((Nat.beq v e.1 || Nat.beq v e.2.1) && (f e.1 || f e.2.1))
def rnB : List WE → (Nat → Bool) → Nat → Bool
  | [], f => f
  | e :: t, f => rnB t (rlB e f)
def rnBs (es : List WE) : Nat → (Nat → Bool) → Nat → Bool
  | 0, f => f
  | i + 1, f => rnB es (rnBs es i f)
def bd (far B : Nat) (d : Nat → Nat) : Prop := ∀ v, d v = far ∨ d v ≤ B
theorem lt_mn {a b c : Nat} : mnN a b < c ↔ a < c ∨ b < c := by unfold mnN; split <;> omega
theorem rlB_of {e : WE} {d : Nat → Nat} {f : Nat → Bool} {far B W : Nat} (hW : e.2.2 ≤ W) (hB : B + 2 * W < far) (hd : bd far B d) (hf : ∀ v, f v = decide (d v < far)) : bd far (B + 2 * W) (rlx e d) ∧ ∀ v, rlB e f v = decide (rlx e d v < far) := by
  have h1 : bd far (B + W) (updN d e.2.1 (mnN (d e.2.1) (d e.1 + e.2.2))) ∧ ∀ v, updN d e.2.1 (mnN (d e.2.1) (d e.1 + e.2.2)) v < far ↔ (d v < far ∨ (v = e.2.1 ∧ d e.1 < far)) := by
    refine ⟨fun v => ?_, fun v => ?_⟩
    · by_cases h : v = e.2.1
      · rw [h, updN_s]
        have a1 := hd e.2.1
        have a2 := hd e.1
        unfold mnN
        split <;> omega
      · rw [updN_o h]; have := hd v; omega
    · by_cases h : v = e.2.1
      · rw [h, updN_s, lt_mn]
        have a2 := hd e.1
        constructor
        · rintro (q | q)
          · exact Or.inl q
          · exact Or.inr ⟨rfl, by omega⟩
        · rintro (q | ⟨-, q⟩)
          · exact Or.inl q
          · exact Or.inr (by omega)
      · rw [updN_o h]
        constructor
        · exact Or.inl
        · rintro (q | ⟨q, -⟩)
          · exact q
          · exact absurd q h
  unfold rlx
  generalize updN d e.2.1 (mnN (d e.2.1) (d e.1 + e.2.2)) = d1 at h1
  obtain ⟨hb1, hl1⟩ := h1
  refine ⟨fun v => ?_, fun v => ?_⟩
  · by_cases h : v = e.1
    · rw [h, updN_s]
      have a1 := hb1 e.2.1
      have a2 := hb1 e.1
      unfold mnN
      split <;> omega
    · rw [updN_o h]; have := hb1 v; omega
  · have hl : updN d1 e.1 (mnN (d1 e.1) (d1 e.2.1 + e.2.2)) v < far ↔ (d v < far ∨ ((v = e.1 ∨ v = e.2.1) ∧ (d e.1 < far ∨ d e.2.1 < far))) := by
      by_cases h : v = e.1
      · rw [h, updN_s, lt_mn]
        have a1 := hb1 e.2.1
        have q1 := hl1 e.1
        have q2 := hl1 e.2.1
        constructor
        · rintro (q | q)
          · rcases q1.mp q with g | ⟨g1, g2⟩
            · exact Or.inl g
            · exact Or.inl g2
          · rcases q2.mp (by omega) with g | ⟨g1, g2⟩
            · exact Or.inr ⟨Or.inl rfl, Or.inr g⟩
            · exact Or.inl g2
        · rintro (q | ⟨-, q | q⟩)
          · exact Or.inl (q1.mpr (Or.inl q))
          · exact Or.inl (q1.mpr (Or.inl q))
          · have := q2.mpr (Or.inl q)
            exact Or.inr (by omega)
      · rw [updN_o h, hl1 v]
        constructor
        · rintro (q | ⟨q1, q2⟩)
          · exact Or.inl q
          · exact Or.inr ⟨Or.inr q1, Or.inl q2⟩
        · rintro (q | ⟨q1 | q1, q2⟩)
          · exact Or.inl q
          · exact absurd q1 h
          · rcases q2 with q2 | q2
            · exact Or.inr ⟨q1, q2⟩
            · exact Or.inl (by rw [q1]; exact q2)
    show (f v || ((Nat.beq v e.1 || Nat.beq v e.2.1) && (f e.1 || f e.2.1))) = _
    rw [hf v, hf e.1, hf e.2.1]
    have hbq : ∀ x y : Nat, Nat.beq x y = decide (x = y) := by
      intro x y
      by_cases h : x = y
      · rw [h]; simp
      · rw [f_of (fun q => h (Nat.eq_of_beq_eq_true q))]; simp [h]
    rw [hbq, hbq]
    by_cases hh : updN d1 e.1 (mnN (d1 e.1) (d1 e.2.1 + e.2.2)) v < far
    · have := hl.mp hh
      simp only [hh, decide_true]
      simpa using this
    · have h2 : ¬ _ := fun q => hh (hl.mpr q)
      simp only [hh, decide_false]
      simpa using h2
theorem rnB_of {far W : Nat} : ∀ (es : List WE) {d : Nat → Nat} {f : Nat → Bool} {B : Nat}, (∀ e ∈ es, e.2.2 ≤ W) → B + 2 * W * es.length < far → bd far B d → (∀ v, f v = decide (d v < far)) → bd far (B + 2 * W * es.length) (rnd es d) ∧ ∀ v, rnB es f v = decide (rnd es d v < far)
  | [], _, _, _, _, _, hd, hf => ⟨hd, hf⟩
  | e :: t, d, f, B, hW, hB, hd, hf => by
    have e1 : 2 * W * (e :: t).length = 2 * W + 2 * W * t.length := by rw [List.length_cons, Nat.mul_succ, Nat.add_comm]
    rw [e1] at hB ⊢
    have h1 : 2 * W ≤ 2 * W + 2 * W * t.length := Nat.le_add_right _ _
    obtain ⟨a1, a2⟩ := rlB_of (hW e List.mem_cons_self) (by omega) hd hf
    have := rnB_of t (fun e' he' => hW e' (List.mem_cons_of_mem _ he')) (by omega) a1 a2
    rw [Nat.add_assoc] at this
    exact this
theorem rnBs_of {far W : Nat} {es : List WE} {d : Nat → Nat} {f : Nat → Bool} (hW : ∀ e ∈ es, e.2.2 ≤ W) (hd : bd far 0 d) (hf : ∀ v, f v = decide (d v < far)) : ∀ i, 2 * W * es.length * i < far → bd far (2 * W * es.length * i) (rnds es i d) ∧ ∀ v, rnBs es i f v = decide (rnds es i d v < far)
  | 0, _ => ⟨hd, hf⟩
  | i + 1, hB => by
    have e1 : 2 * W * es.length * (i + 1) = 2 * W * es.length * i + 2 * W * es.length := Nat.mul_succ _ _
    rw [e1] at hB ⊢
    obtain ⟨a1, a2⟩ := rnBs_of hW hd hf i (by omega)
    exact rnB_of es hW hB a1 a2
