/-! by turns: the class -/
def fB9 (c : Nat) : Prop := fT c ∨ c = 200 ∨ (210 ≤ c ∧ c ≤ 221)
/-- what the table holds -/
def tbT (M0 M : Nat → Nat → Int32) (P : TP) (T : TS) (b t n : Nat) : Prop := CH M 210 P T ∧ (M 200 2 = nI b ∧ M 200 3 = nI t ∧ M 200 4 = nI n) ∧ ∀ c, ¬ fB9 c → M c = M0 c
theorem CH_e {M : Nat → Nat → Int32} {P : TP} {T : TS} (h : CH M 210 P T) {p : Nat} {x : Int32} : CH (u2 M 219 p x) 210 P (setE T p x) := by
  obtain ⟨h1, h2, h3, h4, h5, h6⟩ := h
  refine ⟨by rw [u2_o (by omega)]; exact h1, by rw [u2_o (by omega)]; exact h2, by rw [u2_o (by omega)]; exact h3, by rw [u2_o (by omega)]; exact h4, fun k hk => by rw [u2_o (by omega), u2_o (by omega), u2_o (by omega)]; exact h5 k hk, fun q hq => ?_⟩
  rw [u2_o (c := 210 + 6) (by omega), u2_o (c := 210 + 7) (by omega), u2_o (c := 210 + 8) (by omega)]
  obtain ⟨a, b, c, e⟩ := h6 q hq
  refine ⟨a, b, c, ?_⟩
  show u2 M 219 p x 219 q = if q = p then x else tE T q
  rw [u2_ap, if_pos rfl]
  split
  · rfl
  · exact e
theorem CH_q {M : Nat → Nat → Int32} {P : TP} {T : TS} (h : CH M 210 P T) {p : Nat} {x : Int32} : CH (u2 M 216 p x) 210 P (setQ T p x) := by
  obtain ⟨h1, h2, h3, h4, h5, h6⟩ := h
  refine ⟨by rw [u2_o (by omega)]; exact h1, by rw [u2_o (by omega)]; exact h2, by rw [u2_o (by omega)]; exact h3, by rw [u2_o (by omega)]; exact h4, fun k hk => by rw [u2_o (by omega), u2_o (by omega), u2_o (by omega)]; exact h5 k hk, fun q hq => ?_⟩
  rw [u2_o (c := 210 + 9) (by omega), u2_o (c := 210 + 7) (by omega), u2_o (c := 210 + 8) (by omega)]
  obtain ⟨a, b, c, e⟩ := h6 q hq
  refine ⟨?_, b, c, e⟩
  show u2 M 216 p x 216 q = if q = p then x else tM T q
  rw [u2_ap, if_pos rfl]
  split
  · rfl
  · exact a
theorem tbT.e {M0 M : Nat → Nat → Int32} {P : TP} {T : TS} {b t n : Nat} (h : tbT M0 M P T b t n) (p : Nat) (x : Int32) : tbT M0 (u2 M 219 p x) P (setE T p x) b t n :=
  ⟨CH_e h.1, by rw [u2_o (by omega)]; exact h.2.1, fun c hc => by rw [u2_o (fun q => hc (Or.inr (Or.inr (by omega))))]; exact h.2.2 c hc⟩
theorem tbT.q {M0 M : Nat → Nat → Int32} {P : TP} {T : TS} {b t n : Nat} (h : tbT M0 M P T b t n) (p : Nat) (x : Int32) : tbT M0 (u2 M 216 p x) P (setQ T p x) b t n :=
  ⟨CH_q h.1, by rw [u2_o (by omega)]; exact h.2.1, fun c hc => by rw [u2_o (fun q => hc (Or.inr (Or.inr (by omega))))]; exact h.2.2 c hc⟩
theorem setE_bk {T : TS} {p : Nat} {x : Int32} : setE (setE T p x) p (tE T p) = T := by
  have : setE (setE T p x) p (tE T p) = setE T p (tE T p) := by
    unfold setE
    have : (fun q => if q = p then tE T p else (if q = p then x else tE T q)) = (fun q => if q = p then tE T p else tE T q) := by
      funext q
      split <;> rfl
    show (tS T, tM T, (fun q => if q = p then tE T p else (if q = p then x else tE T q)), tD T) = _
    rw [this]
  rw [this, setE_id]
theorem setQ_bk {T : TS} {p : Nat} {x : Int32} : setQ (setQ T p x) p (tM T p) = T := by
  have : setQ (setQ T p x) p (tM T p) = setQ T p (tM T p) := by
    unfold setQ
    have : (fun q => if q = p then tM T p else (if q = p then x else tM T q)) = (fun q => if q = p then tM T p else tM T q) := by
      funext q
      split <;> rfl
    show (tS T, (fun q => if q = p then tM T p else (if q = p then x else tM T q)), tE T, tD T) = _
    rw [this]
  rw [this, setQ_id]
section TURNS
variable (E : Nat × (Nat → Int32)) (d : Nat) (L : Nat → Nat → Int64)
def OUT (M0 : Nat → Nat → Int32) (P : TP) (b t n : Nat) (S0 : Int) (r k : Nat) : Prop := ∀ (M1 : Nat → Nat → Int32) (T : TS) (lo hi : Int32), tbT M0 M1 P T b t n → okB P b S0 T → ∃ M2 res, C E (d + 6 + 2 * r) 94 [vR 1 9 200, vI (nI r), vI lo, vI hi] (M1, L) = some (some (vI res), (M2, L)) ∧ tbT M0 M2 P T b t n ∧ abS lo.toInt hi.toInt S0 res.toInt (VT P b t r k T) ∧ (r = n → 0 < r → k = 0 → lo.toInt = 0 → hi.toInt = S0 → M2 200 5 = nI (cE (fun p => VT P b t (r - 1) (k + 1) (setE T p (nI b))) (VT P b t (r - 1) (k + 1) T) (pG P)))
theorem leaf94 {M0 : Nat → Nat → Int32} {P : TP} {b t n : Nat} {S0 : Int} (hn8 : pN P ≤ 8) (hg9 : pG P ≤ 9) (hb : b < pN P) (ht : t < 1000) (hl : LW E (pK P) M0) (k : Nat) : OUT E d L M0 P b t n S0 0 k := by
  intro M1 T lo hi hM hT
  have hl1 : LW E (pK P) M1 := hl.keep (hM.2.2 90 (by unfold fB9 fT; omega)) (hM.2.2 91 (by unfold fB9 fT; omega)) (hM.2.2 92 (by unfold fB9 fT; omega))
  obtain ⟨M2, e2, f2⟩ := e79 E d L M1 210 (by omega) hM.1 hn8 hg9 hl1 hb ht
  have hv := snd_days hT.2.1 hb t
  rw [hT.1] at hv
  refine ⟨M2, tS (itd (dayA P) t T) b, ?_, ⟨hM.1.keep (fun c h1 h2 => f2 c (by unfold fT; omega)), by rw [f2 200 (by unfold fT; omega)]; exact hM.2.1, fun c hc => by rw [f2 c (fun q => hc (Or.inl q))]; exact hM.2.2 c hc⟩, ⟨hv.1, hv.2, fun _ => Int.le_refl _, fun _ => Int.le_refl _⟩, fun _ h => absurd h (by omega)⟩
  show C E (d + 5 + 1) 94 [vR 1 9 200, vI (nI 0), vI lo, vI hi] (M1, L) = _
  rw [x94, if_neg (show ¬ (0 : Int32) < nI 0 by decide), hM.2.1.1, hM.2.1.2.1, e2, bI_s]
theorem engn {M0 : Nat → Nat → Int32} {P : TP} {b t n : Nat} {S0 : Int} (hn8 : pN P ≤ 8) (hg9 : pG P ≤ 9) (hb : b < pN P) (hn3 : n < 1000) {r k : Nat} (hr : r + 1 ≤ n) (hk : k % 2 = 0) (ih : OUT E d L M0 P b t n S0 r (k + 1)) {T : TS} (hT : okB P b S0 T) (lo hi : Int32) :
    ∀ m p (M1 : Nat → Nat → Int32) (bst : Int32) (ch : Int32) w7 w8, p + m = pG P → tbT M0 M1 P T b t n → abS lo.toInt hi.toInt S0 bst.toInt (fE (fun p => VT P b t r (k + 1) (setE T p (nI b))) (VT P b t r (k + 1) T) p) → (lo.toInt = 0 → hi.toInt = S0 → ch = nI (cE (fun p => VT P b t r (k + 1) (setE T p (nI b))) (VT P b t r (k + 1) T) p)) →
      ∃ M2 res, X E (d + 6 + 2 * r) me95 18 [some (vR 1 9 200), some (vI (nI (r + 1))), some (vI lo), some (vI hi), some (vI bst), some (vI ch), some (vI (nI p)), w7, w8] [] (M1, L) = some (some (vI res), (M2, L)) ∧ tbT M0 M2 P T b t n ∧ abS lo.toInt hi.toInt S0 res.toInt (fE (fun p => VT P b t r (k + 1) (setE T p (nI b))) (VT P b t r (k + 1) T) (pG P)) ∧ (r + 1 = n → lo.toInt = 0 → hi.toInt = S0 → M2 200 5 = nI (cE (fun p => VT P b t r (k + 1) (setE T p (nI b))) (VT P b t r (k + 1) T) (pG P))) := by
  obtain ⟨D, hD⟩ : ∃ D, d + 6 + 2 * r = D + 3 := ⟨d + 3 + 2 * r, by omega⟩
  unfold OUT at ih
  rw [hD] at ih ⊢
  generalize hv : (fun p => VT P b t r (k + 1) (setE T p (nI b))) = v
  generalize hv0 : VT P b t r (k + 1) T = v0
  have vin : ∀ p, 0 ≤ v p ∧ v p ≤ S0 := fun p => by rw [← hv]; exact VT_in hn8 hb r (k + 1) _ (hT.e hn8 hb p)
  have v0in : 0 ≤ v0 ∧ v0 ≤ S0 := by rw [← hv0]; exact VT_in hn8 hb r (k + 1) _ hT
  -- the end of the loop
  have fin : ∀ (M1 : Nat → Nat → Int32) (bst ch : Int32), tbT M0 M1 P T b t n → abS lo.toInt hi.toInt S0 bst.toInt (fE v v0 (pG P)) → (lo.toInt = 0 → hi.toInt = S0 → ch = nI (cE v v0 (pG P))) → ∃ M2 res, (if nI (r + 1) = (M1 200 4) then some (some (vI bst), ((u2 M1 200 5 ch), L)) else some (some (vI bst), (M1, L))) = some (some (vI res), (M2, L)) ∧ tbT M0 M2 P T b t n ∧ abS lo.toInt hi.toInt S0 res.toInt (fE v v0 (pG P)) ∧ (r + 1 = n → lo.toInt = 0 → hi.toInt = S0 → M2 200 5 = nI (cE v v0 (pG P))) := by
    intro M1 bst ch hM hA hC
    rw [hM.2.1.2.2]
    by_cases q : r + 1 = n
    · rw [if_pos (by rw [q])]
      refine ⟨_, _, rfl, ⟨hM.1.keep (fun c h1 h2 => u2_o (by omega)), by rw [u2_n (by omega), u2_n (by omega), u2_n (by omega)]; exact hM.2.1, fun c hc => by rw [u2_o (fun q => hc (Or.inr (Or.inl q)))]; exact hM.2.2 c hc⟩, hA, fun _ h1 h2 => by rw [u2_s]; exact hC h1 h2⟩
    · rw [if_neg (fun z => q (nI_inj (by omega) (by omega) z))]
      exact ⟨_, _, rfl, hM, hA, fun z => absurd z q⟩
  intro m
  induction m with
  | zero =>
    intro p M1 bst ch w7 w8 hp hM hA hC
    have e : p = pG P := by omega
    subst e
    rw [x95_18, hM.1.2.1, if_pos (nI_le (Nat.le_refl _) (by omega))]
    exact fin M1 bst ch hM hA hC
  | succ m ihm =>
    intro p M1 bst ch w7 w8 hp hM hA hC
    have hpG : p < pG P := by omega
    have hroot : lo.toInt = 0 → hi.toInt = S0 → bst.toInt = fE v v0 p := fun h1 h2 => by
      have := fE_in (v := v) (i := v0) (n := p) v0in.1 v0in.2 (fun q _ => vin q)
      obtain ⟨a1, a2, a3, a4⟩ := hA
      by_cases z : bst.toInt < hi.toInt
      · have := a3 z
        by_cases z2 : lo.toInt < bst.toInt
        · have := a4 z2; omega
        · omega
      · by_cases z2 : lo.toInt < bst.toInt
        · have := a4 z2; omega
        · omega
    rw [x95_18, hM.1.2.1, if_neg (nI_ge (by omega) (by omega))]
    by_cases hh : hi ≤ bst
    · rw [if_pos hh]
      rw [t_le] at hh
      have up := fE_up (v := v) (i := v0) (n := p) (pG P - p)
      rw [show p + (pG P - p) = pG P by omega] at up
      refine fin M1 bst ch hM ⟨hA.1, hA.2.1, fun z => by omega, fun z => by have := hA.2.2.2 z; omega⟩ (fun h1 h2 => ?_)
      have := fE_stay (v := v) (i := v0) (n := p) (pG P - p) (fun q _ _ => by have := hroot h1 h2; have := vin q; omega)
      rw [show p + (pG P - p) = pG P by omega] at this
      rw [this.2]
      exact hC h1 h2
    · rw [if_neg hh]
      rw [t_le] at hh
      have hseat : M1 (210 + 9) p = tE T p := (hM.1.2.2.2.2.2 p hpG).2.2.2
      rw [e22_6 E _ M1 L 210 (by omega), bI_s, hseat, nI_1]
      simp only [hM.2.1.1]
      have fEs : fE v v0 (p + 1) = if fE v v0 p < v p then v p else fE v v0 p := rfl
      have cEs : cE v v0 (p + 1) = if fE v v0 p < v p then p else cE v v0 p := rfl
      have v0p : v0 ≤ fE v v0 p := by have := fE_up (v := v) (i := v0) (n := 0) p; rw [Nat.zero_add] at this; exact this
      by_cases hs : tE T p = nI b
      · rw [if_pos hs]
        have hvp : v p = v0 := by
          rw [← hv, ← hv0]
          show VT P b t r (k + 1) (setE T p (nI b)) = _
          rw [← hs, setE_id]
        refine ihm (p + 1) M1 bst ch _ w8 (by omega) hM ?_ ?_
        · rw [fEs, if_neg (by omega)]; exact hA
        · rw [cEs, if_neg (by omega)]; exact hC
      · rw [if_neg hs]
        rw [e23_6 E _ M1 L 210 (k := p) (nI b) (by omega), bV_s]
        have hM1 : tbT M0 (u2 M1 219 p (nI b)) P (setE T p (nI b)) b t n := hM.e p (nI b)
        have e998' : C E (D + 3) 998 [vI lo, vI bst] (u2 M1 (210 + 9) p (nI b), L) = some (some (vI (mx lo bst)), (u2 M1 (210 + 9) p (nI b), L)) := e998 E _ _ L lo bst
        rw [e998', bI_s, nI_pred]
        obtain ⟨M2, got, e2, hM2, hA2, -⟩ := ih (u2 M1 219 p (nI b)) (setE T p (nI b)) (mx lo bst) hi hM1 (hT.e hn8 hb p)
        have e2 : C E (D + 3) 94 [vR 1 9 200, vI (nI r), vI (mx lo bst), vI hi] (u2 M1 (210 + 9) p (nI b), L) = some (some (vI got), (M2, L)) := e2
        rw [e2, bI_s, e23_6 E _ M2 L 210 (k := p) (tE T p) (by omega), bV_s]
        have hM3 : tbT M0 (u2 M2 219 p (tE T p)) P T b t n := by
          have := hM2.e p (tE T p)
          rw [setE_bk] at this
          exact this
        have hvp : VT P b t r (k + 1) (setE T p (nI b)) = v p := by rw [← hv]
        rw [hvp] at hA2
        have hmx := t_mx lo bst
        obtain ⟨b1', b2', b3', b4'⟩ := hA2
        rw [hmx] at b4'
        obtain ⟨a1, a2, a3, a4⟩ := hA
        by_cases hg : got ≤ bst
        · rw [if_pos hg]
          rw [t_le] at hg
          have hvb := b3' (by omega)
          refine ihm (p + 1) _ bst ch _ _ (by omega) hM3 ?_ ?_
          · rw [fEs]
            refine ⟨a1, a2, fun z => ?_, fun z => ?_⟩
            · have := a3 z
              split <;> omega
            · have := a4 z
              split <;> omega
          · intro h1 h2
            have := hroot h1 h2
            rw [cEs, if_neg (by omega)]
            exact hC h1 h2
        · rw [if_neg hg]
          rw [t_le] at hg
          refine ihm (p + 1) _ got (nI p) _ _ (by omega) hM3 ?_ ?_
          · rw [fEs]
            refine ⟨b1', b2', fun z => ?_, fun z => ?_⟩
            · have := b3' z
              have := a3 (by omega)
              split <;> omega
            · have := b4' (by split <;> omega)
              split <;> omega
          · intro h1 h2
            have := hroot h1 h2
            have hvp2 := b4' (by split <;> omega)
            rw [cEs, if_pos (by omega)]
theorem bnkr {M0 : Nat → Nat → Int32} {P : TP} {b t n : Nat} {S0 : Int} (hn8 : pN P ≤ 8) (hg9 : pG P ≤ 9) (hb : b < pN P) (hn3 : n < 1000) {r k : Nat} (hr : r + 1 ≤ n) (ih : OUT E d L M0 P b t n S0 r (k + 1)) {T : TS} (hT : okB P b S0 T) (lo hi : Int32) :
    ∀ m p (M1 : Nat → Nat → Int32) (bst : Int32) w6, p + m = pG P → tbT M0 M1 P T b t n → abS lo.toInt hi.toInt S0 bst.toInt (fB (fun p => VT P b t r (k + 1) (gft T p)) (VT P b t r (k + 1) T) p) →
      ∃ M2 res, X E (d + 6 + 2 * r) me96 14 [some (vR 1 9 200), some (vI (nI (r + 1))), some (vI lo), some (vI hi), some (vI bst), some (vI (nI p)), w6] [] (M1, L) = some (some (vI res), (M2, L)) ∧ tbT M0 M2 P T b t n ∧ abS lo.toInt hi.toInt S0 res.toInt (fB (fun p => VT P b t r (k + 1) (gft T p)) (VT P b t r (k + 1) T) (pG P)) := by
  obtain ⟨D, hD⟩ : ∃ D, d + 6 + 2 * r = D + 3 := ⟨d + 3 + 2 * r, by omega⟩
  unfold OUT at ih
  rw [hD] at ih ⊢
  generalize hv : (fun p => VT P b t r (k + 1) (gft T p)) = v
  generalize hv0 : VT P b t r (k + 1) T = v0
  intro m
  induction m with
  | zero =>
    intro p M1 bst w6 hp hM hA
    have e : p = pG P := by omega
    subst e
    refine ⟨M1, bst, ?_, hM, hA⟩
    rw [x96_14, hM.1.2.1, if_pos (nI_le (Nat.le_refl _) (by omega))]
  | succ m ihm =>
    intro p M1 bst w6 hp hM hA
    have hpG : p < pG P := by omega
    rw [x96_14, hM.1.2.1, if_neg (nI_ge (by omega) (by omega))]
    by_cases hh : bst ≤ lo
    · rw [if_pos hh]
      rw [t_le] at hh
      have dn := fB_dn (v := v) (i := v0) (n := p) (pG P - p)
      rw [show p + (pG P - p) = pG P by omega] at dn
      exact ⟨M1, bst, rfl, hM, hA.1, hA.2.1, fun z => by have := hA.2.2.1 z; omega, fun z => by omega⟩
    · rw [if_neg hh]
      rw [t_le] at hh
      have hmean : M1 (210 + 6) p = tM T p := (hM.1.2.2.2.2.2 p hpG).1
      have hrg := hT.2.1.2.1 p hpG
      have fBs : fB v v0 (p + 1) = if v p < fB v v0 p then v p else fB v v0 p := rfl
      have v0p : fB v v0 p ≤ v0 := by have := fB_dn (v := v) (i := v0) (n := 0) p; rw [Nat.zero_add] at this; exact this
      rw [e22_3 E _ M1 L 210 (by omega), bI_s, hmean, nI_1]
      by_cases hs : (99 : Int32) ≤ tM T p
      · rw [if_pos hs]
        rw [t_le, t_99] at hs
        have hvp : v p = v0 := by
          rw [← hv, ← hv0]
          show VT P b t r (k + 1) (setQ T p (hel (tM T p + 20) 99)) = _
          rw [hel99 hs hrg.2, setQ_id]
        refine ihm (p + 1) M1 bst _ (by omega) hM ?_
        rw [fBs, if_neg (by omega)]; exact hA
      · rw [if_neg hs]
        have f24 := e24_3 E D M1 L 210 (k := p) 20 (by omega)
        rw [hmean] at f24
        have f24 : C E (D + 3) 24 [vR 1 2 210, vI (nI p), vI (3 : Int32), vI (20 : Int32)] (M1, L) = some (some (vI (hel (tM T p + 20) 99)), (u2 M1 216 p (hel (tM T p + 20) 99), L)) := f24
        rw [f24, bI_s]
        have hM1 : tbT M0 (u2 M1 216 p (hel (tM T p + 20) 99)) P (gft T p) b t n := hM.q p _
        have e997' : C E (D + 3) 997 [vI hi, vI bst] (u2 M1 216 p (hel (tM T p + 20) 99), L) = some (some (vI (mn hi bst)), (u2 M1 216 p (hel (tM T p + 20) 99), L)) := e997 E _ _ L hi bst
        rw [e997', bI_s, nI_pred]
        obtain ⟨M2, got, e2, hM2, hA2, -⟩ := ih (u2 M1 216 p (hel (tM T p + 20) 99)) (gft T p) lo (mn hi bst) hM1 (hT.g p)
        have e2 : C E (D + 3) 94 [vR 1 9 200, vI (nI r), vI lo, vI (mn hi bst)] (u2 M1 216 p (hel (tM T p + 20) 99), L) = some (some (vI got), (M2, L)) := e2
        have e997'' : C E (D + 3) 997 [vI bst, vI got] (M2, L) = some (some (vI (mn bst got)), (M2, L)) := e997 E _ _ L bst got
        rw [e2, bI_s, e997'', bI_s, e23_3 E _ M2 L 210 (k := p) (tM T p) (by omega), bV_s]
        have hM3 : tbT M0 (u2 M2 216 p (tM T p)) P T b t n := by
          have := hM2.q p (tM T p)
          unfold gft at this
          rw [setQ_bk] at this
          exact this
        have hvp : VT P b t r (k + 1) (gft T p) = v p := by rw [← hv]
        rw [hvp] at hA2
        have hmn := t_mn hi bst
        have hmn2 := t_mn bst got
        obtain ⟨b1', b2', b3', b4'⟩ := hA2
        rw [hmn] at b3'
        obtain ⟨a1, a2, a3, a4⟩ := hA
        refine ihm (p + 1) _ (mn bst got) _ (by omega) hM3 ?_
        rw [fBs]
        have a4' := a4 (by omega)
        by_cases hg : got.toInt < bst.toInt
        · rw [if_pos hg] at hmn2
          unfold abS
          rw [hmn2]
          refine ⟨b1', b2', fun z => ?_, fun z => ?_⟩
          · have := b3' (by split <;> omega)
            split <;> omega
          · have := b4' z
            split <;> omega
        · rw [if_neg hg] at hmn2
          unfold abS
          rw [hmn2]
          have := b4' (by omega)
          refine ⟨a1, a2, fun z => ?_, fun z => ?_⟩
          · have := a3 z
            split <;> omega
          · split <;> omega
theorem odd_n : ∀ n, n < 4 → ∀ r, r < 4 → r ≤ n → rm32 (nI n - nI r) 2 = if (n - r) % 2 = 0 then 0 else 1 := by decide +kernel
theorem out_all {M0 : Nat → Nat → Int32} {P : TP} {b t n : Nat} {S0 : Int} (hn8 : pN P ≤ 8) (hg9 : pG P ≤ 9) (hb : b < pN P) (ht : t < 1000) (hn3 : n ≤ 3) (hl : LW E (pK P) M0) : ∀ r, r ≤ n → OUT E d L M0 P b t n S0 r (n - r) := by
  intro r
  induction r with
  | zero => intro _; exact leaf94 E d L hn8 hg9 hb ht hl _
  | succ r ih =>
    intro hr M1 T lo hi hM hT
    have ih := ih (by omega)
    have hk : n - r = n - (r + 1) + 1 := by omega
    rw [hk] at ih
    obtain ⟨Ma, r0, e0, hMa, hA0, -⟩ := ih M1 T lo hi hM hT
    have ho := odd_n n (by omega) (r + 1) (by omega) hr
    have hx94 : C E (d + 6 + 2 * (r + 1)) 94 [vR 1 9 200, vI (nI (r + 1)), vI lo, vI hi] (M1, L) = (if (n - (r + 1)) % 2 = 0 then (bI (C E (d + 6 + 2 * r + 1) 95 [vR 1 9 200, vI (nI (r + 1)), vI lo, vI hi] (M1, L)) fun r1 s1 => some (some (vI r1), s1)) else (bI (C E (d + 6 + 2 * r + 1) 96 [vR 1 9 200, vI (nI (r + 1)), vI lo, vI hi] (M1, L)) fun r2 s2 => some (some (vI r2), s2))) := by
      rw [show d + 6 + 2 * (r + 1) = (d + 6 + 2 * r + 1) + 1 by omega, x94, if_pos (show (0 : Int32) < nI (r + 1) from nI_lt (a := 0) (by omega) (by omega)), hM.2.1.2.2, ho]
      by_cases q : (n - (r + 1)) % 2 = 0
      · rw [if_pos q, if_pos rfl, if_pos q]
      · rw [if_neg q, if_neg (by decide), if_neg q]
    rw [hx94]
    by_cases q : (n - (r + 1)) % 2 = 0
    · rw [if_pos q, x95, nI_pred, e0, bI_s]
      have eV : VT P b t (r + 1) (n - (r + 1)) T = fE (fun p => VT P b t r (n - (r + 1) + 1) (setE T p (nI b))) (VT P b t r (n - (r + 1) + 1) T) (pG P) := by rw [VT, if_pos q]
      obtain ⟨M2, res, e2, hM2, hA2, hC2⟩ := engn E d L hn8 hg9 hb (by omega) (by omega) q ih hT lo hi (pG P) 0 Ma r0 9 none none (by omega) hMa hA0 (fun _ _ => rfl)
      have e2 : X E (d + 6 + 2 * r) me95 18 [some (vR 1 9 200), some (vI (nI (r + 1))), some (vI lo), some (vI hi), some (vI r0), some (vI (9 : Int32)), some (vI (0 : Int32)), none, none] [] (Ma, L) = _ := e2
      rw [e2, bI_s, eV]
      refine ⟨M2, res, rfl, hM2, hA2, fun h1 _ _ h3 h4 => ?_⟩
      exact hC2 h1 h3 h4
    · rw [if_neg q, x96, nI_pred, e0, bI_s]
      have eV : VT P b t (r + 1) (n - (r + 1)) T = fB (fun p => VT P b t r (n - (r + 1) + 1) (gft T p)) (VT P b t r (n - (r + 1) + 1) T) (pG P) := by rw [VT, if_neg q]
      obtain ⟨M2, res, e2, hM2, hA2⟩ := bnkr E d L hn8 hg9 hb (by omega) (by omega) ih hT lo hi (pG P) 0 Ma r0 none (by omega) hMa hA0
      have e2 : X E (d + 6 + 2 * r) me96 14 [some (vR 1 9 200), some (vI (nI (r + 1))), some (vI lo), some (vI hi), some (vI r0), some (vI (0 : Int32)), none] [] (Ma, L) = _ := e2
      rw [e2, bI_s, eV]
      exact ⟨M2, res, rfl, hM2, hA2, fun h1 _ hk0 _ _ => absurd hk0 (by omega)⟩
end TURNS
