/-! which means or alms fit a book -/
def cu (g : Nat → Bool) : Nat → Nat → Nat
  | 0, _ => 0
  | n + 1, i => if g i then cu g n (i + 1) + 1 else cu g n (i + 1)
theorem nI_dn (k : Nat) : nI (k + 1) + Int32.ofInt (-1) = nI k := by
  rw [show Int32.ofInt (-1) = (-1 : Int32) from by decide, ← Int32.sub_eq_add_neg]
  exact nI_pred k
section FITS
variable (E : Nat × (Nat → Int32)) (d : Nat) (L : Nat → Nat → Int64)
/-- the first place where the book is wrong, with v written -/
def wrF (F : Int32 → TP × TS) (b s m : Nat) (v : Nat) : Int32 := ftr (wrP (F (nI v)).1 (F (nI v)).2 b (L (334 + s))) m 0
def gdF (F : Int32 → TP × TS) (b s m : Nat) (v : Nat) : Bool := decide (wrF L F b s m v = -2)
theorem l91 (M : Nat → Nat → Int32) (F : Int32 → TP × TS) {n g : Nat} {kf : (Nat → Int32) → Int32} (hF : ∀ x, pN (F x).1 = n ∧ pG (F x).1 = g ∧ pK (F x).1 = kf) (hn8 : n ≤ 8) (hg9 : g ≤ 9) (hl : LW E kf M) {b s m most num : Nat} {sx x7 : Int32} (hb : b < n) (hs : s < 6) (hk : M 331 s = nI 0) (hm : M 332 s = nI m) (hm60 : m ≤ 60) (hmost : most ≤ 99)
    (h23 : ∀ (M1 : Nat → Nat → Int32) x v, CH M1 170 (F x).1 (F x).2 → ∃ M2, C E (d + 6) 23 [vR 1 2 170, vI (nI num), vI sx, vI v] (M1, L) = some (none, (M2, L)) ∧ (∀ c, ¬ (170 ≤ c ∧ c ≤ 181) → M2 c = M1 c) ∧ CH M2 170 (F v).1 (F v).2)
    (hmat : x7 = 0 → ∀ v, v ≤ most → gdF L F b s m v = gdF L F b s m most) :
    ∀ k so (M1 : Nat → Nat → Int32), k ≤ most + 1 → (∀ c, ¬ fQ c → M1 c = M c) → (∃ x, CH M1 170 (F x).1 (F x).2) → M1 110 8 = nI (cu (gdF L F b s m) (most + 1 - k) k) → M1 110 9 = ftr (gdF L F b s m) (most + 1 - k) k → (x7 = 0 → k ≤ most → so = (if gdF L F b s m most then 1 else 0)) →
    ∃ M', X E (d + 6) me91 82 [some (vR 1 8 110), some (vI (nI num)), some (vI sx), some (vI (nI b)), some (vR 1 6 330), some (vI (nI s)), some (vI (nI most)), some (vI x7), some (vI so), some (vI (nI k + Int32.ofInt (-1)))] [] (M1, L) = some (none, (M', L)) ∧ (∀ c, ¬ fQ c → M' c = M c) ∧ M' 110 8 = nI (cu (gdF L F b s m) (most + 1) 0) ∧ M' 110 9 = ftr (gdF L F b s m) (most + 1) 0 := by
  intro k
  induction k with
  | zero =>
    intro so M1 _ hf _ h8 h9 _
    refine ⟨M1, ?_, hf, h8, h9⟩
    rw [x91_82, if_pos (show nI 0 + Int32.ofInt (-1) < 0 by decide)]
  | succ v ih =>
    intro so M1 hkm hf hCx h8 h9 hso
    have en : most + 1 - v = (most + 1 - (v + 1)) + 1 := by omega
    have step : ∀ Fk : Int32 → PS → PR, ∃ M3, (bV (C E (d + 6) 23 [vR 1 2 170, vI (nI num), vI sx, vI (nI v)] (M1, L)) fun s2 => bI (C E (d + 6) 90 [vR 1 8 110, vR 1 2 170, vI (nI b), vR 1 6 330, vI (nI s)] s2) Fk) = Fk (wrF L F b s m v) (M3, L) ∧ (∀ c, ¬ fQ c → M3 c = M c) ∧ (∃ x, CH M3 170 (F x).1 (F x).2) ∧ M3 110 = M1 110 := by
      intro Fk
      obtain ⟨x, hC⟩ := hCx
      obtain ⟨M2, e2, f2, c2'⟩ := h23 M1 x (nI v) hC
      have g2 : ∀ c, ¬ fQ c → M2 c = M c := fun c hc => by rw [f2 c (by unfold fQ at hc; omega)]; exact hf c hc
      obtain ⟨q1, q2, q3⟩ := hF (nI v)
      obtain ⟨M3, e3', f3⟩ := e90 E (d + 1) L M2 170 (by omega) (by omega) c2' (by rw [q1]; exact hn8) (by rw [q2]; exact hg9) (by rw [q3]; exact hl.keep (g2 90 (by unfold fQ; omega)) (g2 91 (by unfold fQ; omega)) (g2 92 (by unfold fQ; omega))) (b := b) (s := s) (m := m) (by rw [q1]; exact hb) hs (by rw [g2 331 (by unfold fQ; omega)]; exact hk) (by rw [g2 332 (by unfold fQ; omega)]; exact hm) hm60
      refine ⟨M3, ?_, fun c hc => ?_, ⟨nI v, c2'.keep (fun c h1 h2 => f3 c (by unfold fT; omega))⟩, ?_⟩
      · rw [e2, bV_s, e3', bI_s]; rfl
      · rw [f3 c (fun q => hc (by unfold fT at q; unfold fQ; omega))]; exact g2 c hc
      · rw [f3 110 (by unfold fT; omega), f2 110 (by omega)]
    have fin : ∀ so' (M3 : Nat → Nat → Int32), (∀ c, ¬ fQ c → M3 c = M c) → (∃ x, CH M3 170 (F x).1 (F x).2) → M3 110 = M1 110 → (x7 = 0 → v ≤ most → so' = (if gdF L F b s m most then 1 else 0)) →
        ∃ M', X E (d + 6) me91 82 [some (vR 1 8 110), some (vI (nI num)), some (vI sx), some (vI (nI b)), some (vR 1 6 330), some (vI (nI s)), some (vI (nI most)), some (vI x7), some (vI so'), some (vI (nI v + Int32.ofInt (-1)))] [] (if gdF L F b s m v then u2 (u2 M3 110 8 (M3 110 8 + 1)) 110 9 (nI v) else M3, L) = some (none, (M', L)) ∧ (∀ c, ¬ fQ c → M' c = M c) ∧ M' 110 8 = nI (cu (gdF L F b s m) (most + 1) 0) ∧ M' 110 9 = ftr (gdF L F b s m) (most + 1) 0 := by
      intro so' M3 g1 g2 g3 g4
      refine ih so' _ (by omega) (fun c hc => ?_) ?_ ?_ ?_ g4
      · split
        · rw [u2_o (by unfold fQ at hc; omega), u2_o (by unfold fQ at hc; omega)]; exact g1 c hc
        · exact g1 c hc
      · obtain ⟨x, g2⟩ := g2
        refine ⟨x, g2.keep (fun c h1 h2 => ?_)⟩
        split
        · rw [u2_o (by omega), u2_o (by omega)]
        · rfl
      · rw [en]
        unfold cu
        by_cases e : gdF L F b s m v
        · rw [if_pos e, if_pos e, u2_n (by omega), u2_s, g3, h8, nI_1]
        · rw [if_neg e, if_neg e, g3, h8]
      · rw [en]
        unfold ftr
        by_cases e : gdF L F b s m v
        · rw [if_pos e, if_pos e, u2_s]
        · rw [if_neg e, if_neg e, g3, h9]
    have gd : ∀ w, gdF L F b s m w = true ↔ wrF L F b s m w = -2 := fun w => by unfold gdF; exact decide_eq_true_iff
    rw [x91_82, nI_dn, if_neg (nI_pos (by omega))]
    by_cases e1 : v = most
    · rw [if_pos (show nI v = nI most by rw [e1])]
      obtain ⟨M3, e3', g1, g2, g3⟩ := step _
      rw [e3']
      by_cases e2 : wrF L F b s m v = -2
      · rw [if_pos e2]
        have := fin 1 M3 g1 g2 g3 (fun _ _ => by rw [if_pos (by rw [gd, ← e1]; exact e2)])
        rw [if_pos ((gd v).2 e2)] at this
        exact this
      · rw [if_neg e2]
        have := fin 0 M3 g1 g2 g3 (fun _ _ => by rw [if_neg (by rw [gd, ← e1]; exact e2)])
        rw [if_neg (fun q => e2 ((gd v).1 q))] at this
        exact this
    · rw [if_neg (show ¬ nI v = nI most from fun q => e1 (nI_inj (by omega) (by omega) q))]
      by_cases e0' : x7 = 0
      · rw [if_pos e0']
        have hs0 := hso e0' (by omega)
        have hgm := hmat e0' v (by omega)
        by_cases e2 : gdF L F b s m most = true
        · rw [if_pos e2] at hs0
          rw [hs0, if_neg (by decide)]
          have := fin 1 M1 hf hCx rfl (fun _ _ => by rw [if_pos e2])
          rw [if_pos (by rw [hgm]; exact e2)] at this
          exact this
        · rw [if_neg e2] at hs0
          rw [hs0, if_pos rfl]
          have := fin 0 M1 hf hCx rfl (fun _ _ => by rw [if_neg e2])
          rw [if_neg (by rw [hgm]; exact e2)] at this
          exact this
      · rw [if_neg e0']
        obtain ⟨M3, e3', g1, g2, g3⟩ := step _
        rw [e3']
        by_cases e2 : wrF L F b s m v = -2
        · rw [if_pos e2]
          have := fin 1 M3 g1 g2 g3 (fun q _ => absurd q e0')
          rw [if_pos ((gd v).2 e2)] at this
          exact this
        · rw [if_neg e2]
          have := fin 0 M3 g1 g2 g3 (fun q _ => absurd q e0')
          rw [if_neg (fun q => e2 ((gd v).1 q))] at this
          exact this
theorem frR_w {M M1 : Nat → Nat → Int32} {pi : Nat} {y : Int32} (h : frR (u2 M 401 pi y) M1) (v : Int32) : frR (u2 M 401 pi v) (u2 M1 401 pi v) := by
  refine ⟨fun c h0 h1 h2 h3 h4 h5 h6 => ?_, fun j hj => ?_⟩
  · by_cases e : c = 401
    · subst e
      have := h.1 401 h0 h1 h2 h3 h4 h5 h6
      funext i
      by_cases q : i = pi
      · rw [q, u2_s, u2_s]
      · rw [u2_n q, u2_n q, this, u2_n q]
    · rw [u2_o e, u2_o e, h.1 c h0 h1 h2 h3 h4 h5 h6, u2_o e]
  · rw [u2_o (by omega), u2_o (by omega), h.2 j hj, u2_o (by omega)]
theorem l215 (M : Nat → Nat → Int32) (F : Int32 → TP × TS) {n g : Nat} {kf : (Nat → Int32) → Int32} (hF : ∀ x, pN (F x).1 = n ∧ pG (F x).1 = g ∧ pK (F x).1 = kf) (hn8 : n ≤ 8) (hg9 : g ≤ 9) {b s m most num pi : Nat} {p3 : Int32} (hb : b < n) (hs : s < 6) (hm : M 448 s = nI m) (hm60 : m ≤ 60) (hpi : pi < 62) (hL : ∀ i, i < m → L 449 (60 * s + i) = L (334 + s) i)
    (hmost : ((2 : Int32) ≤ p3 ∧ most = 9) ∨ (¬ (2 : Int32) ≤ p3 ∧ most = 99))
    (hRX : ∀ v, v ≤ most → RX E (u2 M 401 pi (nI v)) (F (nI v)).1 (F (nI v)).2 ∧ seatsOk (F (nI v)).1 (F (nI v)).2 ∧ rngT (F (nI v)).1 (F (nI v)).2) :
    ∀ r v c x8 (M1 : Nat → Nat → Int32), v + r = most + 1 → c ≤ v → (∃ y, frR (u2 M 401 pi y) M1) → (c = 0 → x8 = -2) →
    ∃ M', X E (d + 7) me215 110 [some (vR 1 12 400), some (vI (nI s)), some (vI (nI b)), some (vI (nI num)), some (vI p3), some (vI (nI pi)), some (vI (M 401 pi)), some (vI (nI c)), some (vI x8), some (vI (nI v))] [] (M1, L) = some (some (vI (if rm32 p3 2 = 0 then nI (c + cu (gdF L F b s m) r v) else (if c = 0 then ftr (gdF L F b s m) r v else x8))), (M', L)) ∧ frR M M' := by
  have hib : ib (nI pi) 62 := by rw [ib_nI (by omega)]; exact hpi
  have hx := ix_nI (n := pi) (by omega)
  have gd : ∀ w, gdF L F b s m w = true ↔ wrF L F b s m w = -2 := fun w => by unfold gdF; exact decide_eq_true_iff
  intro r
  induction r with
  | zero =>
    intro v c x8 M1 hv hc hf h8
    obtain ⟨y, hf⟩ := hf
    have fe : frR M (u2 M1 401 pi (M 401 pi)) := by
      have := frR_w hf (M 401 pi)
      have e : u2 M 401 pi (M 401 pi) = M := by
        funext c i
        rw [u2_ap]
        by_cases q : c = 401
        · rw [if_pos q]
          by_cases q2 : i = pi
          · rw [if_pos q2, q, q2]
          · rw [if_neg q2]
        · rw [if_neg q]
      rw [e] at this
      exact this
    refine ⟨_, ?_, fe⟩
    have e9 : (if c = 0 then ftr (gdF L F b s m) 0 v else x8) = x8 := by
      by_cases q : c = 0
      · rw [if_pos q, h8 q]; rfl
      · rw [if_neg q]
    rw [e9]
    show _ = some (some (vI (if rm32 p3 2 = 0 then nI (c + 0) else x8)), _)
    rw [x215_110]
    rcases hmost with ⟨w1, w2⟩ | ⟨w1, w2⟩
    · rw [if_pos w1, if_pos (show (9 : Int32) < nI v from nI_lt (a := 9) (by omega) (by omega)), if_pos hib, hx]
      by_cases q : rm32 p3 2 = 0
      · rw [if_pos q, if_pos q]; rfl
      · rw [if_neg q, if_neg q]
    · rw [if_neg w1, if_pos (show (99 : Int32) < nI v from nI_lt (a := 99) (by omega) (by omega)), if_pos hib, hx]
      by_cases q : rm32 p3 2 = 0
      · rw [if_pos q, if_pos q]; rfl
      · rw [if_neg q, if_neg q]
  | succ r ih =>
    intro v c x8 M1 hv hc hf h8
    obtain ⟨y, hf⟩ := hf
    obtain ⟨q1, q2, q3⟩ := hF (nI v)
    obtain ⟨w1, w2, w3⟩ := hRX v (by omega)
    have f1 := frR_w hf (nI v)
    obtain ⟨M2, e2, f2⟩ := r213 E (d + 1) L (u2 M1 401 pi (nI v)) (w1.fr E f1) ⟨by rw [q1]; exact hn8, by rw [q2]; exact hg9⟩ w2 w3 (b := b) (s := s) (m := m) (by rw [q1]; exact hb) hs (by rw [f1.1 448 (by omega) (by omega) (by omega) (by omega) (by omega) (by omega) (by omega), u2_o (by omega)]; exact hm) hm60
    have eW : ftr (wrP (F (nI v)).1 (F (nI v)).2 b (fun i => L 449 (60 * s + i))) m 0 = wrF L F b s m v := ftr_congr (fun j h1 h2 => by unfold wrP; simp only [hL j (show j < m by omega)])
    rw [eW] at e2
    have row : X E (d + 7) me215 110 [some (vR 1 12 400), some (vI (nI s)), some (vI (nI b)), some (vI (nI num)), some (vI p3), some (vI (nI pi)), some (vI (M 401 pi)), some (vI (nI c)), some (vI x8), some (vI (nI v))] [] (M1, L) = (if wrF L F b s m v = -2 then (if nI c = 0 then X E (d + 7) me215 110 [some (vR 1 12 400), some (vI (nI s)), some (vI (nI b)), some (vI (nI num)), some (vI p3), some (vI (nI pi)), some (vI (M 401 pi)), some (vI (nI (c + 1))), some (vI (nI v)), some (vI (nI (v + 1)))] [] (M2, L) else X E (d + 7) me215 110 [some (vR 1 12 400), some (vI (nI s)), some (vI (nI b)), some (vI (nI num)), some (vI p3), some (vI (nI pi)), some (vI (M 401 pi)), some (vI (nI (c + 1))), some (vI x8), some (vI (nI (v + 1)))] [] (M2, L)) else X E (d + 7) me215 110 [some (vR 1 12 400), some (vI (nI s)), some (vI (nI b)), some (vI (nI num)), some (vI p3), some (vI (nI pi)), some (vI (M 401 pi)), some (vI (nI c)), some (vI x8), some (vI (nI (v + 1)))] [] (M2, L)) := by
      rw [x215_110]
      rcases hmost with ⟨z1, z2⟩ | ⟨z1, z2⟩
      · rw [if_pos z1, if_neg (show ¬ (9 : Int32) < nI v from nI_nlt (a := 9) (by omega) (by omega)), if_pos hib, hx, e2, bI_s, nI_1, nI_1]
      · rw [if_neg z1, if_neg (show ¬ (99 : Int32) < nI v from nI_nlt (a := 99) (by omega) (by omega)), if_pos hib, hx, e2, bI_s, nI_1, nI_1]
    have hf2 : ∃ y, frR (u2 M 401 pi y) M2 := ⟨nI v, f1.tr f2⟩
    rw [row]
    unfold cu ftr
    by_cases e : wrF L F b s m v = -2
    · rw [if_pos e]
      have eg := (gd v).2 e
      rw [if_pos eg, if_pos eg]
      by_cases c0 : c = 0
      · rw [if_pos (show nI c = 0 by rw [c0]; rfl), if_pos c0]
        have := ih (v + 1) (c + 1) (nI v) M2 (by omega) (by omega) hf2 (fun q => absurd q (by omega))
        rw [if_neg (show ¬ c + 1 = 0 by omega)] at this
        rw [show c + (cu (gdF L F b s m) r (v + 1) + 1) = c + 1 + cu (gdF L F b s m) r (v + 1) by omega]
        exact this
      · rw [if_neg (show ¬ nI c = 0 from fun q => c0 (nI_inj (b := 0) (by omega) (by omega) q)), if_neg c0]
        have := ih (v + 1) (c + 1) x8 M2 (by omega) (by omega) hf2 (fun q => absurd q (by omega))
        rw [if_neg (show ¬ c + 1 = 0 by omega)] at this
        rw [show c + (cu (gdF L F b s m) r (v + 1) + 1) = c + 1 + cu (gdF L F b s m) r (v + 1) by omega]
        exact this
    · rw [if_neg e]
      have eg : ¬ gdF L F b s m v = true := fun q => e ((gd v).1 q)
      rw [if_neg eg, if_neg eg]
      exact ih (v + 1) c x8 M2 (by omega) (by omega) hf2 h8
end FITS
