/-! ways by bridges: the class's and the reference's loops as rounds over the same edges -/
theorem nI_or (a b : Nat) : nI a ||| nI b = nI (a ||| b) := by
  apply Int32.toBitVec.inj
  apply BitVec.eq_of_getLsbD_eq
  intro i hi
  show ((nI a).toBitVec ||| (nI b).toBitVec).getLsbD i = _
  rw [BitVec.getLsbD_or, nI_gb a i hi, nI_gb b i hi, nI_gb (a ||| b) i hi, Nat.testBit_or]
theorem nI_and (a b : Nat) : nI a &&& nI b = nI (a &&& b) := by
  apply Int32.toBitVec.inj
  apply BitVec.eq_of_getLsbD_eq
  intro i hi
  show ((nI a).toBitVec &&& (nI b).toBitVec).getLsbD i = _
  rw [BitVec.getLsbD_and, nI_gb a i hi, nI_gb b i hi, nI_gb (a &&& b) i hi, Nat.testBit_and]
theorem and_two {x a b : Nat} : x &&& (2 ^ a ||| 2 ^ b) = 0 ↔ (x.testBit a || x.testBit b) = false := by
  constructor
  · intro h
    have ha := congrArg (fun z => z.testBit a) h
    have hb := congrArg (fun z => z.testBit b) h
    simp only [Nat.testBit_and, Nat.testBit_or, Nat.testBit_two_pow, Nat.zero_testBit] at ha hb
    have ha' : x.testBit a = false := by
      cases hx : x.testBit a with
      | false => rfl
      | true => rw [hx] at ha; simp at ha
    have hb' : x.testBit b = false := by
      cases hx : x.testBit b with
      | false => rfl
      | true => rw [hx] at hb; simp at hb
    rw [ha', hb']
    rfl
  · intro h
    rw [Bool.or_eq_false_iff] at h
    apply Nat.eq_of_testBit_eq
    intro i
    rw [Nat.testBit_and, Nat.testBit_or, Nat.testBit_two_pow, Nat.testBit_two_pow, Nat.zero_testBit]
    by_cases ha : a = i
    · rw [← ha, h.1, Bool.false_and]
    · by_cases hb : b = i
      · rw [← hb, h.2, Bool.false_and]
      · rw [decide_eq_false ha, decide_eq_false hb, Bool.or_false, Bool.and_false]
theorem bt_an : ∀ p, p < 9 → ∀ x, x < 512 → decide ((nI x &&& ((1 : Int32) <<< (nI p &&& 31))) = 0) = !x.testBit p := by decide +kernel
theorem w100 : ∀ w, w < 10 → nI w * (100 : Int32) + 1 = nI (w * 100 + 1) := by decide +kernel
theorem w100' : ∀ w, w < 10 → (100 : Int32) * nI w + 1 = nI (w * 100 + 1) := by decide +kernel
theorem mn_nI {a b : Nat} (ha : a < 2147483648) (hb : b < 2147483648) : mn (nI a) (nI b) = nI (mnN a b) := by
  unfold mn mnN
  simp only [nI_ltB hb ha]
  split <;> rfl
theorem toN_nI {x : Int32} (h : 0 ≤ x.toInt) : x = nI x.toInt.toNat := by
  have h2 := t_hi x
  apply Int32.toInt_inj.mp
  rw [t_nI (by omega)]
  omega
def edl (F : Nat → WE) (S : Nat → Bool) : Nat → Nat → List WE
  | 0, _ => []
  | r + 1, k => if S k = true then F k :: edl F S r (k + 1) else edl F S r (k + 1)
theorem edl_mem {F : Nat → WE} {S : Nat → Bool} {e : WE} : ∀ {r k : Nat}, e ∈ edl F S r k → ∃ j, k ≤ j ∧ j < k + r ∧ e = F j
  | 0, _, h => by cases h
  | r + 1, k, h => by
    unfold edl at h
    by_cases q : S k = true
    · rw [if_pos q] at h
      rcases List.mem_cons.mp h with h | h
      · exact ⟨k, Nat.le_refl _, by omega, h⟩
      · obtain ⟨j, h1, h2, h3⟩ := edl_mem h
        exact ⟨j, by omega, by omega, h3⟩
    · rw [if_neg q] at h
      obtain ⟨j, h1, h2, h3⟩ := edl_mem h
      exact ⟨j, by omega, by omega, h3⟩
theorem edl_len {F : Nat → WE} {S : Nat → Bool} : ∀ {r k : Nat}, (edl F S r k).length ≤ r
  | 0, _ => Nat.le_refl _
  | r + 1, k => by
    unfold edl
    have := edl_len (F := F) (S := S) (r := r) (k := k + 1)
    split
    · rw [List.length_cons]; omega
    · omega
theorem edl_congr {F : Nat → WE} {S S' : Nat → Bool} : ∀ {r k : Nat}, (∀ j, k ≤ j → j < k + r → S j = S' j) → edl F S r k = edl F S' r k
  | 0, _, _ => rfl
  | r + 1, k, h => by
    unfold edl
    rw [h k (Nat.le_refl _) (by omega), edl_congr (r := r) (k := k + 1) (fun j h1 h2 => h j (by omega) (by omega))]
theorem edl_none {F : Nat → WE} {S : Nat → Bool} : ∀ {r k : Nat}, (∀ j, S j = false) → edl F S r k = []
  | 0, _, _ => rfl
  | r + 1, k, h => by
    unfold edl
    rw [h k, if_neg (by decide), edl_none (r := r) (k := k + 1) h]
def wyC (M : Nat → Nat → Int32) (n : Nat) (A B W : Nat → Nat) : Prop := M 40 11 = nI n ∧ n ≤ 8 ∧ ∀ k, k < n → M 41 k = nI (A k) ∧ M 42 k = nI (B k) ∧ M 43 k = nI (W k) ∧ A k < 8 ∧ B k < 8 ∧ 1 ≤ W k ∧ W k ≤ 9
def wyR (M : Nat → Nat → Int32) (n : Nat) (A B W : Nat → Nat) : Prop := M 400 6 = nI n ∧ ∀ k, k < n → M 409 k = nI (A k) ∧ M 410 k = nI (B k) ∧ M 401 k = nI (W k)
def wyE (A B W : Nat → Nat) (k : Nat) : WE := (A k, B k, W k * 100 + 1)
def wd0 (s : Nat) : Nat → Nat := fun v => if v = s then 0 else 1000000
theorem rnds_b {es : List WE} {s : Nat} (j v : Nat) : rnds es j (wd0 s) v ≤ 1000000 := by
  have := rnds_mono (es := es) (d := wd0 s) (i := 0) v j
  rw [Nat.zero_add] at this
  refine Nat.le_trans this ?_
  show (if v = s then 0 else 1000000) ≤ 1000000
  split <;> omega
theorem set_rel {M : Nat → Nat → Int32} {c : Nat} {D : Nat → Nat} {b x : Nat} (h : ∀ v, v < 8 → M c v = nI (D v)) : ∀ v, v < 8 → u2 M c b (nI x) c v = nI (updN D b x v) := by
  intro v hv
  rw [u2_ap, if_pos rfl]
  unfold updN
  by_cases e : v = b
  · rw [if_pos e, if_pos e]
  · rw [if_neg e, if_neg e]; exact h v hv
/-- who is reached, as bits -/
def xrl (e : WE) (x : Nat) : Nat := if (x.testBit e.1 || x.testBit e.2.1) = true then x ||| (2 ^ e.1 ||| 2 ^ e.2.1) else x
def xrn : List WE → Nat → Nat
  | [], x => x
  | e :: t, x => xrn t (xrl e x)
def xrns (es : List WE) : Nat → Nat → Nat
  | 0, x => x
  | i + 1, x => xrn es (xrns es i x)
theorem xrl_tb (e : WE) (x : Nat) : (fun v => (xrl e x).testBit v) = rlB e (fun v => x.testBit v) := by
  funext v
  have hbq : ∀ x y : Nat, Nat.beq x y = decide (y = x) := by
    intro x y
    by_cases h : x = y
    · rw [h]; simp
    · rw [f_of (fun q => h (Nat.eq_of_beq_eq_true q))]; simp; exact fun q => h q.symm
  show (xrl e x).testBit v = (x.testBit v || ((Nat.beq v e.1 || Nat.beq v e.2.1) && (x.testBit e.1 || x.testBit e.2.1)))
  unfold xrl
  cases h : (x.testBit e.1 || x.testBit e.2.1) with
  | true => rw [if_pos rfl, Nat.testBit_or, Nat.testBit_or, Nat.testBit_two_pow, Nat.testBit_two_pow, hbq, hbq, Bool.and_true]
  | false => rw [if_neg (by decide), Bool.and_false, Bool.or_false]
theorem xrn_tb : ∀ (es : List WE) (x : Nat), (fun v => (xrn es x).testBit v) = rnB es (fun v => x.testBit v)
  | [], _ => rfl
  | e :: t, x => by
    show (fun v => (xrn t (xrl e x)).testBit v) = rnB t (rlB e (fun v => x.testBit v))
    rw [xrn_tb t (xrl e x), xrl_tb]
theorem xrns_tb (es : List WE) (x : Nat) : ∀ i, (fun v => (xrns es i x).testBit v) = rnBs es i (fun v => x.testBit v)
  | 0 => rfl
  | i + 1 => by
    show (fun v => (xrn es (xrns es i x)).testBit v) = rnB es (rnBs es i (fun v => x.testBit v))
    rw [xrn_tb, xrns_tb es x i]
theorem xrl_lt {e : WE} {x : Nat} (h1 : e.1 < 8) (h2 : e.2.1 < 8) (hx : x < 256) : xrl e x < 256 := by
  unfold xrl
  split
  · exact Nat.or_lt_two_pow (n := 8) hx (Nat.or_lt_two_pow (n := 8) (Nat.pow_lt_pow_right (by omega) h1) (Nat.pow_lt_pow_right (by omega) h2))
  · exact hx
theorem xrn_lt : ∀ {es : List WE} {x : Nat}, (∀ e ∈ es, e.1 < 8 ∧ e.2.1 < 8) → x < 256 → xrn es x < 256
  | [], _, _, hx => hx
  | e :: t, x, h, hx => xrn_lt (es := t) (fun e' he' => h e' (List.mem_cons_of_mem _ he')) (xrl_lt (h e List.mem_cons_self).1 (h e List.mem_cons_self).2 hx)
theorem xrns_st {es : List WE} {x : Nat} : ∀ {j : Nat}, xrn es (xrns es j x) = xrns es j x → ∀ r, xrns es (j + r) x = xrns es j x
  | _, _, 0 => rfl
  | j, h, r + 1 => by
    show xrn es (xrns es (j + r) x) = _
    rw [xrns_st h r, h]
/-- reached or not: by sums -/
def wyB (es : List WE) (s e : Nat) : Bool := decide (rnds es 7 (wd0 s) e < 1000000)
theorem xrns_wy {es : List WE} {s e : Nat} (hW : ∀ e ∈ es, e.2.2 ≤ 901) (hl : es.length ≤ 8) : (xrns es 7 (2 ^ s)).testBit e = wyB es s e := by
  have h1 := rnBs_of (far := 1000000) (W := 901) (es := es) (d := wd0 s) (f := fun v => (2 ^ s).testBit v) hW (fun v => by
    unfold wd0
    by_cases q : v = s
    · rw [if_pos q]; exact Or.inr (Nat.le_refl _)
    · rw [if_neg q]; exact Or.inl rfl) (fun v => by
    unfold wd0
    rw [Nat.testBit_two_pow]
    by_cases q : v = s
    · rw [if_pos q, decide_eq_true q.symm]; rfl
    · rw [if_neg q, decide_eq_false (fun z => q z.symm)]; rfl) 7 (by
    have : 2 * 901 * es.length ≤ 2 * 901 * 8 := Nat.mul_le_mul_left _ hl
    omega)
  have h2 := congrFun (xrns_tb es (2 ^ s) 7) e
  have h2 : (xrns es 7 (2 ^ s)).testBit e = rnBs es 7 (fun v => (2 ^ s).testBit v) e := h2
  rw [h2, h1.2 e]
  rfl
theorem wy_es {A B W : Nat → Nat} {n : Nat} {S : Nat → Bool} (hf : ∀ k, k < n → A k < 8 ∧ B k < 8 ∧ 1 ≤ W k ∧ W k ≤ 9) : ∀ e ∈ edl (wyE A B W) S n 0, e.1 < 8 ∧ e.2.1 < 8 ∧ 0 < e.2.2 ∧ e.2.2 ≤ 901 := by
  intro e he
  obtain ⟨j, -, h2, h3⟩ := edl_mem he
  obtain ⟨a, b, c, d⟩ := hf j (by omega)
  rw [h3]
  unfold wyE
  exact ⟨a, b, by show 0 < W j * 100 + 1; omega, by show W j * 100 + 1 ≤ 901; omega⟩
theorem wyC.f {M : Nat → Nat → Int32} {n : Nat} {A B W : Nat → Nat} (h : wyC M n A B W) : ∀ k, k < n → A k < 8 ∧ B k < 8 ∧ 1 ≤ W k ∧ W k ≤ 9 := fun k hk => ⟨(h.2.2 k hk).2.2.2.1, (h.2.2 k hk).2.2.2.2.1, (h.2.2 k hk).2.2.2.2.2.1, (h.2.2 k hk).2.2.2.2.2.2⟩
section WAYS
variable (E : Nat × (Nat → Int32)) (d : Nat) (L : Nat → Nat → Int64)
theorem e98 (M : Nat → Nat → Int32) {n : Nat} {A B W : Nat → Nat} (hw : wyC M n A B W) {D : Nat → Nat} (hD : ∀ v, v < 8 → M 252 v = nI (D v)) (hD6 : ∀ v, D v ≤ 1000000) {k : Nat} (hk : k < n) :
    ∃ M', C E (d + 3) 98 [vR 1 10 250, vI (nI k)] (M, L) = some (none, (M', L)) ∧ (∀ c, c ≠ 252 → M' c = M c) ∧ ∀ v, v < 8 → M' 252 v = nI (rlx (wyE A B W k) D v) := by
  obtain ⟨hn, hn8, hf⟩ := hw
  obtain ⟨h1, h2, h3, hA, hB, hW1, hW9⟩ := hf k hk
  have h1 : M (40 + 1) k = nI (A k) := h1
  have h2 : M (40 + 2) k = nI (B k) := h2
  have h3 : M (40 + 3) k = nI (W k) := h3
  have ibA : ib (nI (A k)) 8 := by rw [ib_nI (by omega)]; exact hA
  have ibB : ib (nI (B k)) 8 := by rw [ib_nI (by omega)]; exact hB
  have ixA := ix_nI (n := A k) (by omega)
  have ixB := ix_nI (n := B k) (by omega)
  have tA : (0 : Int32).toInt ≤ (nI (A k)).toInt ∧ (nI (A k)).toInt ≤ (7 : Int32).toInt := by rw [t_nI (by omega), t_0, t_7]; omega
  have tB : (0 : Int32).toInt ≤ (nI (B k)).toInt ∧ (nI (B k)).toInt ≤ (7 : Int32).toInt := by rw [t_nI (by omega), t_0, t_7]; omega
  have ew := w100 (W k) (by omega)
  have a1 := hD6 (A k)
  have a2 := hD6 (B k)
  have s1 : mn (M 252 (B k)) (M 252 (A k) + nI (W k * 100 + 1)) = nI (mnN (D (B k)) (D (A k) + (W k * 100 + 1))) := by
    rw [hD _ hA, hD _ hB, nI_add, mn_nI (by omega) (by omega)]
  have s2 := set_rel (b := B k) (x := mnN (D (B k)) (D (A k) + (W k * 100 + 1))) hD
  have q0 : mnN (D (B k)) (D (A k) + (W k * 100 + 1)) ≤ 1000000 := Nat.le_trans mnN_l a2
  have q1 : ∀ v, updN D (B k) (mnN (D (B k)) (D (A k) + (W k * 100 + 1))) v ≤ 1000000 := fun v => by
    unfold updN
    split
    · exact q0
    · exact hD6 v
  rw [x98, e22_9 E d M L 40 (by omega), bI_s, e22_10 E d M L 40 (by omega), bI_s, e22_0 E d M L 40 (by omega), bI_s, h1, h2, h3, e145, bI_s, if_neg (b1_ne tA), e145, bI_s, if_neg (b1_ne tB), if_pos ibB, if_pos ibA, ixA, ixB, ew]
  dsimp only
  rw [e997, bI_s, s1, if_pos ibB, if_pos ibA, if_pos ibB]
  dsimp only
  rw [s2 _ hA, s2 _ hB, e997, bI_s, if_pos ibA, nI_add, mn_nI (by have := q1 (A k); omega) (by have := q1 (B k); omega)]
  dsimp only
  refine ⟨_, rfl, fun c hc => by rw [u2_o hc, u2_o hc], ?_⟩
  exact set_rel s2
theorem l97in (M : Nat → Nat → Int32) {n : Nat} {A B W : Nat → Nat} (hw : wyC M n A B W) {sb : Nat} (hsb : sb < 512) (x1 x2 x4 : Int32) :
    ∀ r k (M1 : Nat → Nat → Int32) (D : Nat → Nat), k + r = n → (∀ c, c ≠ 252 → M1 c = M c) → (∀ v, v < 8 → M1 252 v = nI (D v)) → (∀ v, D v ≤ 1000000) → ∃ M2, X E (d + 3) me97 59 [some (vR 1 10 250), some (vI x1), some (vI x2), some (vI (nI sb)), some (vI x4), some (vI (nI k))] [] (M1, L) = X E (d + 3) me97 49 [some (vR 1 10 250), some (vI x1), some (vI x2), some (vI (nI sb)), some (vI (x4 + 1)), some (vI (nI n))] [] (M2, L) ∧ (∀ c, c ≠ 252 → M2 c = M c) ∧ ∀ v, v < 8 → M2 252 v = nI (rnd (edl (wyE A B W) (fun k => sb.testBit k) r k) D v) := by
  have hn8 := hw.2.1
  intro r
  induction r with
  | zero =>
    intro k M1 D hk hf hD hD6
    have e : k = n := by omega
    refine ⟨M1, ?_, hf, hD⟩
    rw [x97_59, hf 40 (by omega), hw.1, e, if_pos (nI_le (Nat.le_refl _) (by omega))]
  | succ r ih =>
    intro k M1 D hk hf hD hD6
    rw [x97_59, hf 40 (by omega), hw.1, if_neg (nI_ge (by omega) (by omega)), bt_get k (by omega) sb hsb, nI_1]
    cases hb : sb.testBit k with
    | false =>
      rw [if_pos (show (if false = true then (1 : Int32) else 0) = 0 by decide)]
      have := ih (k + 1) M1 D (by omega) hf hD hD6
      rw [edl, if_neg (by rw [hb]; decide)]
      exact this
    | true =>
      rw [if_neg (show ¬ (if true = true then (1 : Int32) else 0) = 0 by decide)]
      have hw1 : wyC M1 n A B W := ⟨by rw [hf 40 (by omega)]; exact hw.1, hn8, fun j hj => by rw [hf 41 (by omega), hf 42 (by omega), hf 43 (by omega)]; exact hw.2.2 j hj⟩
      obtain ⟨M2, e2, f2, D2⟩ := e98 E d L M1 hw1 hD hD6 (k := k) (by omega)
      rw [e2, bV_s, edl, if_pos hb]
      exact ih (k + 1) M2 _ (by omega) (fun c hc => (f2 c hc).trans (hf c hc)) D2 (fun v => Nat.le_trans (rlx_le _ _ _) (hD6 v))
theorem e97 (M : Nat → Nat → Int32) {n : Nat} {A B W : Nat → Nat} (hw : wyC M n A B W) {sb : Nat} (hsb : sb < 512) (hS : sdB (M 44) n = nI sb) {s e : Nat} (hs : s < 8) (he : e < 8) :
    ∃ M', C E (d + 4) 97 [vR 1 10 250, vI (nI s), vI (nI e)] (M, L) = some (some (vI (if wyB (edl (wyE A B W) (fun k => sb.testBit k) n 0) s e = true then nI (rnds (edl (wyE A B W) (fun k => sb.testBit k) n 0) 7 (wd0 s) e) else -1)), (M', L)) ∧ ∀ c, c ≠ 252 → M' c = M c := by
  have hn8 := hw.2.1
  have h : ∀ r j (M1 : Nat → Nat → Int32) w5, j + r = 7 → (∀ c, c ≠ 252 → M1 c = M c) → (∀ v, v < 8 → M1 252 v = nI (rnds (edl (wyE A B W) (fun k => sb.testBit k) n 0) j (wd0 s) v)) → ∃ M', X E (d + 3) me97 49 [some (vR 1 10 250), some (vI (nI s)), some (vI (nI e)), some (vI (nI sb)), some (vI (nI (j + 1))), w5] [] (M1, L) = some (some (vI (if wyB (edl (wyE A B W) (fun k => sb.testBit k) n 0) s e = true then nI (rnds (edl (wyE A B W) (fun k => sb.testBit k) n 0) 7 (wd0 s) e) else -1)), (M', L)) ∧ ∀ c, c ≠ 252 → M' c = M c := by
    intro r
    induction r with
    | zero =>
      intro j M1 w5 hj hf hD
      have ej : j = 7 := by omega
      subst ej
      have ibe : ib (nI e) 8 := by rw [ib_nI (by omega)]; exact he
      have hb := rnds_b (es := edl (wyE A B W) (fun k => sb.testBit k) n 0) (s := s) 7 e
      refine ⟨M1, ?_, hf⟩
      rw [x97_49, if_pos (show (8 : Int32) ≤ nI (7 + 1) by decide), if_pos ibe, ix_nI (by omega), hD e he, if_pos ibe]
      have e6 : (nI (rnds (edl (wyE A B W) (fun k => sb.testBit k) n 0) 7 (wd0 s) e) < (1000000 : Int32)) = (rnds (edl (wyE A B W) (fun k => sb.testBit k) n 0) 7 (wd0 s) e < 1000000) := nI_ltB (b := 1000000) (by omega) (by omega)
      unfold wyB
      by_cases q : rnds (edl (wyE A B W) (fun k => sb.testBit k) n 0) 7 (wd0 s) e < 1000000
      · rw [if_pos (by rw [e6]; exact q), if_pos (decide_eq_true q)]
      · rw [if_neg (by rw [e6]; exact q), if_neg (by rw [decide_eq_false q]; decide)]
    | succ r ih =>
      intro j M1 w5 hj hf hD
      rw [x97_49, if_neg (show ¬ (8 : Int32) ≤ nI (j + 1) from nI_ge (b := 8) (by omega) (by omega))]
      obtain ⟨M2, e2, f2, D2⟩ := l97in E d L M hw hsb (nI s) (nI e) (nI (j + 1)) n 0 M1 _ (by omega) hf hD (fun v => rnds_b j v)
      have e2 : X E (d + 3) me97 59 [some (vR 1 10 250), some (vI (nI s)), some (vI (nI e)), some (vI (nI sb)), some (vI (nI (j + 1))), some (vI (0 : Int32))] [] (M1, L) = _ := e2
      rw [e2, nI_1]
      exact ih (j + 1) M2 _ (by omega) f2 D2
  have t0 : ∀ v, v < 8 → (0 : Int32).toInt ≤ (nI v).toInt ∧ (nI v).toInt ≤ (7 : Int32).toInt := fun v hv => by rw [t_nI (by omega), t_0, t_7]; omega
  rw [x97, e145, bI_s, if_neg (b1_ne (t0 s hs)), e145, bI_s, if_neg (b1_ne (t0 e he)), e252 E _ M L 252 8 1000000 (by omega), bV_s, if_pos (by rw [ib_nI (by omega)]; exact hs), ix_nI (by omega)]
  dsimp only
  have f1 : ∀ c, c ≠ 252 → u2 (fi M 252 8 1000000) 252 s 0 c = M c := fun c hc => by rw [u2_o hc, fi_o _ hc]
  rw [e30 E _ L _ 40 (by rw [f1 40 (by omega)]; exact hw.1) hn8, bI_s]
  have e4 : u2 (fi M 252 8 1000000) 252 s 0 (40 + 4) = M 44 := f1 44 (by omega)
  rw [e4, hS]
  refine h 7 0 _ none (by omega) f1 (fun v hv => ?_)
  show u2 (fi M 252 8 1000000) 252 s 0 252 v = nI (if v = s then 0 else 1000000)
  by_cases q : v = s
  · rw [q, u2_s, if_pos rfl]; rfl
  · rw [u2_n q, fi_i _ hv, if_neg q]; rfl
/-- whether there is a way -/
theorem l99in (M : Nat → Nat → Int32) {n : Nat} {A B W : Nat → Nat} (hw : wyC M n A B W) {m : Nat} (hm : m < 512) {S : Nat → Bool} (hS : ∀ b, b < 9 → m.testBit b = S b) (x1 x2 x5 x6 : Int32) :
    ∀ r k x w8, k + r = n → x < 256 → ∃ w8', X E (d + 2) me99 22 [some (vR 1 10 250), some (vI x1), some (vI x2), some (vI (nI m)), some (vI (nI x)), some (vI x5), some (vI x6), some (vI (nI k)), w8] [] (M, L) = X E (d + 2) me99 22 [some (vR 1 10 250), some (vI x1), some (vI x2), some (vI (nI m)), some (vI (nI (xrn (edl (wyE A B W) S r k) x))), some (vI x5), some (vI x6), some (vI (nI n)), w8'] [] (M, L) := by
  have hn8 := hw.2.1
  intro r
  induction r with
  | zero =>
    intro k x w8 hk hx
    have e : k = n := by omega
    exact ⟨w8, by rw [e]; rfl⟩
  | succ r ih =>
    intro k x w8 hk hx
    obtain ⟨h1, h2, h3, hA, hB, hW1, hW9⟩ := hw.2.2 k (by omega)
    have h1 : M (40 + 1) k = nI (A k) := h1
    have h2 : M (40 + 2) k = nI (B k) := h2
    rw [x99_22, hw.1, if_neg (nI_ge (by omega) (by omega)), e22_9 E d M L 40 (by omega), bI_s, e22_10 E d M L 40 (by omega), bI_s, h1, h2, bt_get k (by omega) m hm, hS k (by omega), nI_1, bt_g _ (by omega), bt_g _ (by omega), nI_or]
    cases hb : S k with
    | false =>
      rw [if_pos (show (if false = true then (1 : Int32) else 0) = 0 by decide), edl, if_neg (by rw [hb]; decide)]
      exact ih (k + 1) x _ (by omega) hx
    | true =>
      rw [if_neg (show ¬ (if true = true then (1 : Int32) else 0) = 0 by decide), edl, if_pos hb, nI_and]
      have hlt : x &&& (2 ^ A k ||| 2 ^ B k) ≤ x := Nat.and_le_left
      have e0 : (nI (x &&& (2 ^ A k ||| 2 ^ B k)) = 0) = (x &&& (2 ^ A k ||| 2 ^ B k) = 0) := nI_eqB (b := 0) (by omega) (by omega)
      have hx2 : xrl (wyE A B W k) x < 256 := xrl_lt hA hB hx
      have ih' := ih (k + 1) (xrl (wyE A B W k) x) (some (vI (nI (2 ^ A k ||| 2 ^ B k)))) (by omega) hx2
      cases hq : (x.testBit (A k) || x.testBit (B k)) with
      | false =>
        have ex : xrl (wyE A B W k) x = x := by
          unfold xrl wyE
          show (if (x.testBit (A k) || x.testBit (B k)) = true then _ else _) = _
          rw [hq, if_neg (by decide)]
        rw [if_pos (by rw [e0]; exact and_two.mpr hq)]
        show ∃ w8', _ = X E (d + 2) me99 22 [_, _, _, _, some (vI (nI (xrn (edl (wyE A B W) S r (k + 1)) (xrl (wyE A B W k) x)))), _, _, _, w8'] [] (M, L)
        rw [ex] at ih' ⊢
        exact ih'
      | true =>
        have ex : xrl (wyE A B W k) x = x ||| (2 ^ A k ||| 2 ^ B k) := by
          unfold xrl wyE
          show (if (x.testBit (A k) || x.testBit (B k)) = true then _ else _) = _
          rw [hq, if_pos rfl]
        rw [if_neg (by rw [e0, and_two, hq]; decide), nI_or]
        show ∃ w8', _ = X E (d + 2) me99 22 [_, _, _, _, some (vI (nI (xrn (edl (wyE A B W) S r (k + 1)) (xrl (wyE A B W k) x)))), _, _, _, w8'] [] (M, L)
        rw [ex] at ih' ⊢
        exact ih'
theorem e99 (M : Nat → Nat → Int32) {n : Nat} {A B W : Nat → Nat} (hw : wyC M n A B W) {m : Nat} (hm : m < 512) {S : Nat → Bool} (hS : ∀ b, b < 9 → m.testBit b = S b) {s e : Nat} (hs : s < 8) (he : e < 8) :
    C E (d + 3) 99 [vR 1 10 250, vI (nI s), vI (nI e), vI (nI m)] (M, L) = some (some (vI (if wyB (edl (wyE A B W) S n 0) s e = true then 1 else 0)), (M, L)) := by
  have hn8 := hw.2.1
  have hes := wy_es (S := S) hw.f
  have hl : (edl (wyE A B W) S n 0).length ≤ 8 := Nat.le_trans edl_len hn8
  rw [← xrns_wy (fun e he => (hes e he).2.2.2) hl]
  have hlt : ∀ j, xrns (edl (wyE A B W) S n 0) j (2 ^ s) < 256 := by
    intro j
    induction j with
    | zero => exact Nat.pow_lt_pow_right (by omega) hs
    | succ j ih => exact xrn_lt (fun e he => ⟨(hes e he).1, (hes e he).2.1⟩) ih
  have fin : ∀ x, x < 256 → (if ((nI x >>> (nI e &&& 31)) &&& (1 : Int32)) = 0 then some (some (vI (0 : Int32)), (M, L)) else some (some (vI (1 : Int32)), (M, L))) = (some (some (vI (if x.testBit e = true then 1 else 0)), (M, L)) : PR) := fun x hx => by
    rw [bt_get e (by omega) x (by omega)]
    cases x.testBit e with
    | false => rfl
    | true => rfl
  have h : ∀ r j w6 w7 w8, j + r = 7 → X E (d + 2) me99 8 [some (vR 1 10 250), some (vI (nI s)), some (vI (nI e)), some (vI (nI m)), some (vI (nI (xrns (edl (wyE A B W) S n 0) j (2 ^ s)))), some (vI (nI (j + 1))), w6, w7, w8] [] (M, L) = some (some (vI (if (xrns (edl (wyE A B W) S n 0) 7 (2 ^ s)).testBit e = true then 1 else 0)), (M, L)) := by
    intro r
    induction r with
    | zero =>
      intro j w6 w7 w8 hj
      have ej : j = 7 := by omega
      subst ej
      rw [x99_8, if_pos (show (8 : Int32) ≤ nI (7 + 1) by decide)]
      exact fin _ (hlt 7)
    | succ r ih =>
      intro j w6 w7 w8 hj
      rw [x99_8, if_neg (show ¬ (8 : Int32) ≤ nI (j + 1) from nI_ge (b := 8) (by omega) (by omega))]
      obtain ⟨w8', e1⟩ := l99in E d L M hw hm hS (nI s) (nI e) (nI (j + 1)) (nI (xrns (edl (wyE A B W) S n 0) j (2 ^ s))) n 0 (xrns (edl (wyE A B W) S n 0) j (2 ^ s)) w8 (by omega) (hlt j)
      have e1 : X E (d + 2) me99 22 [some (vR 1 10 250), some (vI (nI s)), some (vI (nI e)), some (vI (nI m)), some (vI (nI (xrns (edl (wyE A B W) S n 0) j (2 ^ s)))), some (vI (nI (j + 1))), some (vI (nI (xrns (edl (wyE A B W) S n 0) j (2 ^ s)))), some (vI (0 : Int32)), w8] [] (M, L) = _ := e1
      rw [e1, x99_22, hw.1, if_pos (nI_le (Nat.le_refl _) (by omega))]
      have hn := hlt (j + 1)
      have hn : xrn (edl (wyE A B W) S n 0) (xrns (edl (wyE A B W) S n 0) j (2 ^ s)) < 256 := hn
      have ho := hlt j
      by_cases q : xrn (edl (wyE A B W) S n 0) (xrns (edl (wyE A B W) S n 0) j (2 ^ s)) = xrns (edl (wyE A B W) S n 0) j (2 ^ s)
      · have st := xrns_st q (7 - j)
        rw [show j + (7 - j) = 7 by omega] at st
        rw [if_pos (by rw [q]), q, st]
        exact fin _ ho
      · rw [if_neg (fun z => q (nI_inj (by omega) (by omega) z)), nI_1]
        exact ih (j + 1) _ _ _ (by omega)
  rw [x99, bt_g s (by omega)]
  exact h 7 0 none none none (by omega)
end WAYS
