/-! the constructors' words, and what the cells stand for -/
def bCb (c : Nat) (r : Nat × Nat × Bool × Nat × Nat × Nat × Nat) : Bool := match bt[r.2.1]? with
  | some y => (match r.2.2.1 with
    | true => decide (lw_tbl[r.2.2.2.2.1]? = some (.methodLinkNest (cn c) r.1 y.1.1 "BeggarBridge"))
    | false => decide (lw_tbl[r.2.2.2.2.1]? = some (.methodLink (cn c) r.1 y.1.1)) && goodWord (.methodLink (cn c) r.1 y.1.1)) && (decide (lw_tbl[r.2.2.2.2.2.1]? = some (.instanceMethod y.1.1)) && goodWord (.instanceMethod y.1.1)) && (decide (lw_tbl[r.2.2.2.2.2.2]? = some (.initialized y.1.1.cls)) && goodWord (.initialized y.1.1.cls)) && Nat.beq y.2.2.2.2 r.2.2.2.1
  | none => false
theorem bC_ok : ∀ c, c < 17 → ∀ r ∈ bC c, bCb c r = true := by decide +kernel
def bNb (c : Nat) (r : Nat × Nat × Nat × Nat × Nat) : Bool := match clsL[r.2.1]? with
  | some q => (decide (lw_tbl[r.2.2.1]? = some (.classLink (cn c) r.1 q.1)) && goodWord (.classLink (cn c) r.1 q.1)) && (decide (lw_tbl[r.2.2.2.1]? = some (.instantiable q.1 q.2.2)) && goodWord (.instantiable q.1 q.2.2)) && (decide (lw_tbl[r.2.2.2.2]? = some (.initialized q.1)) && goodWord (.initialized q.1))
  | none => false
theorem bN_ok : ∀ c, c < 17 → ∀ r ∈ bN c, bNb c r = true := by decide +kernel
theorem bO_ok : ∀ c, c < 17 → ∀ r ∈ bO c, (decide (lw_tbl[r.2]? = some (.methodLink (cn c) r.1 objectInit)) && goodWord (.methodLink (cn c) r.1 objectInit)) = true := by decide +kernel
theorem bPI_ok : Cond.instanceMethod objectInit ∈ gw := gw_of (p := bPI) (by decide +kernel) (by decide +kernel)
theorem bPC_ok : Cond.code objectInit ⟨#[0xb1]⟩ 1 none ∈ gw := gw_of (p := bPC) (by decide +kernel) (by decide +kernel)
theorem bAI_ok : Cond.arrayClass .int ∈ gw := gw_of (p := bAI) (by decide +kernel) (by decide +kernel)
theorem bAL_ok : Cond.arrayClass .long ∈ gw := gw_of (p := bAL) (by decide +kernel) (by decide +kernel)
theorem bML_ok : Cond.classLink (cn 6) 18 "[[J" ∈ lw_tbl := List.mem_of_getElem? (i := bML) (by decide +kernel)
theorem bMO_ok : Cond.arrayOver (.array .long) ∈ lw_tbl := List.mem_of_getElem? (i := bMO) (by decide +kernel)
def btb (y : BI) : Bool := decide (lw_tbl[y.2.2.2.1]? = some (Cond.code y.1.1 y.1.2.1 y.1.2.2.1 y.1.2.2.2.1)) && decide (y.1.2.2.2.1 = none) && decide (y.1.1.name = "<init>") && decide (y.1.1.cls = cn y.1.2.2.2.2.1) && plainName y.1.1.cls && decide (y.1.1.cls ≠ "java/lang/invoke/MethodHandle") && decide (y.1.1.cls ≠ "java/lang/invoke/VarHandle") && decide ((parseMethodDescriptor y.1.1.desc).map (fun d => d.parameters.length) = some y.2.2.2.2) && Nat.ble y.1.2.2.1 40 && Nat.blt y.1.2.2.2.2.1 13 && Nat.ble (y.2.2.2.2 + 1) y.1.2.2.1
theorem bt_ok : ∀ y ∈ bt, btb y = true := by decide +kernel
theorem bt_dk : ∀ q ∈ bt, ∀ r ∈ q.1.2.2.2.2.2, decode q.1.2.1 r.1 = .ok r.2 := by decide +kernel
def lenB (r : Nat × Instr × Nat) : Bool := match r.2.1 with
  | .iconst _ => Nat.beq r.2.2 1
  | .bipush _ => Nat.beq r.2.2 2
  | .sipush _ => Nat.beq r.2.2 3
  | .aload_n _ => Nat.beq r.2.2 1
  | .iload_n _ => Nat.beq r.2.2 1
  | .istore_n _ => Nat.beq r.2.2 1
  | .iinc _ _ => Nat.beq r.2.2 3
  | .dup => Nat.beq r.2.2 1
  | .goto _ => Nat.beq r.2.2 3
  | .if_icmp _ _ => Nat.beq r.2.2 3
  | .getfield _ => Nat.beq r.2.2 3
  | .putfield _ => Nat.beq r.2.2 3
  | .iastore => Nat.beq r.2.2 1
  | .newarray _ => Nat.beq r.2.2 2
  | .new _ => Nat.beq r.2.2 3
  | .invokespecial _ => Nat.beq r.2.2 3
  | .multianewarray _ _ => Nat.beq r.2.2 4
  | .return_ => Nat.beq r.2.2 1
  | _ => true
theorem bt_len : ∀ q ∈ bt, ∀ r ∈ q.1.2.2.2.2.2, lenB r = true := by decide +kernel
def cb (ad : Nat → Nat) (v : BV) : Value := match v with
  | .inl x => .int x
  | .inr none => .null
  | .inr (some c) => .ref (ad c)
def isRfT (t : FieldType) : Bool := match t with
  | .object _ => true
  | .array _ => true
  | _ => false
theorem rf_fit {t : FieldType} (h : isRfT t = true) (ad : Nat → Nat) (v : Option Nat) : narrow t (cb ad (.inr v)) = cb ad (.inr v) ∧ fits t (cb ad (.inr v)) = true := by
  cases t <;> first | (cases h; done) | (cases v <;> exact ⟨rfl, rfl⟩)
def dfo (t : FieldType) (v : Option BV) : Bool := match t, v with
  | .int, some (.inl x) => decide (x = 0)
  | .boolean, some (.inl x) => decide (x = 0)
  | .object _, some (.inr none) => true
  | .array _, some (.inr none) => true
  | _, _ => false
theorem dfo_v {t : FieldType} {fs : List BV} {k : Nat} {ad : Nat → Nat} (h : dfo t (fs[k]?) = true) : defaultValue t = vp_V (fs.map (cb ad)) k := by
  unfold vp_V
  cases hv : fs[k]? with
  | none => rw [hv] at h; cases t <;> cases h
  | some v =>
    rw [hv] at h
    simp only [List.getElem?_map, List.getD_eq_getElem?_getD, hv, Option.map_some, Option.getD_some]
    cases t <;> first
      | (cases h; done)
      | (cases v with
        | inl x => first | (cases h; done) | (have hx : x = 0 := of_decide_eq_true h; subst hx; rfl)
        | inr x => cases x <;> first | (cases h; done) | rfl)
def clsB (ci : Nat) (q : vw_C) : Prop := ∃ ty0 : Nat → FieldType, (∀ k, k < q.2.2 → parseFieldDescriptor (q.2.1 k).2.2.1 = some (ty0 k)) ∧ (∀ k, k < q.2.2 → dfo (ty0 k) ((dflt ci)[k]?) = true) ∧ (∀ k, k < q.2.2 → (fk ci k).1 = 0 → ty0 k = .int) ∧ (∀ k, k < q.2.2 → 2 ≤ (fk ci k).1 → isRfT (ty0 k) = true) ∧ (dflt ci).length = q.2.2
theorem cls_b0 : clsB 0 (clsL.getD 0 ("", ft0, 0)) := by
  refine ⟨fy0, fy0_ok, ?_, ?_, ?_, ?_⟩
  · decide +kernel
  · decide +kernel
  · decide +kernel
  · decide +kernel
theorem cls_b1 : clsB 1 (clsL.getD 1 ("", ft0, 0)) := by
  refine ⟨fy1, fy1_ok, ?_, ?_, ?_, ?_⟩
  · decide +kernel
  · decide +kernel
  · decide +kernel
  · decide +kernel
theorem cls_b2 : clsB 2 (clsL.getD 2 ("", ft0, 0)) := by
  refine ⟨fy2, fy2_ok, ?_, ?_, ?_, ?_⟩
  · decide +kernel
  · decide +kernel
  · decide +kernel
  · decide +kernel
theorem cls_b3 : clsB 3 (clsL.getD 3 ("", ft0, 0)) := by
  refine ⟨fy3, fy3_ok, ?_, ?_, ?_, ?_⟩
  · decide +kernel
  · decide +kernel
  · decide +kernel
  · decide +kernel
theorem cls_b4 : clsB 4 (clsL.getD 4 ("", ft0, 0)) := by
  refine ⟨fy4, fy4_ok, ?_, ?_, ?_, ?_⟩
  · decide +kernel
  · decide +kernel
  · decide +kernel
  · decide +kernel
theorem cls_b5 : clsB 5 (clsL.getD 5 ("", ft0, 0)) := by
  refine ⟨fy5, fy5_ok, ?_, ?_, ?_, ?_⟩
  · decide +kernel
  · decide +kernel
  · decide +kernel
  · decide +kernel
theorem cls_b6 : clsB 6 (clsL.getD 6 ("", ft0, 0)) := by
  refine ⟨fy6, fy6_ok, ?_, ?_, ?_, ?_⟩
  · decide +kernel
  · decide +kernel
  · decide +kernel
  · decide +kernel
theorem cls_b7 : clsB 7 (clsL.getD 7 ("", ft0, 0)) := by
  refine ⟨fy7, fy7_ok, ?_, ?_, ?_, ?_⟩
  · decide +kernel
  · decide +kernel
  · decide +kernel
  · decide +kernel
theorem cls_b8 : clsB 8 (clsL.getD 8 ("", ft0, 0)) := by
  refine ⟨fy8, fy8_ok, ?_, ?_, ?_, ?_⟩
  · decide +kernel
  · decide +kernel
  · decide +kernel
  · decide +kernel
theorem cls_b9 : clsB 9 (clsL.getD 9 ("", ft0, 0)) := by
  refine ⟨fy9, fy9_ok, ?_, ?_, ?_, ?_⟩
  · decide +kernel
  · decide +kernel
  · decide +kernel
  · decide +kernel
theorem cls_b10 : clsB 10 (clsL.getD 10 ("", ft0, 0)) := by
  refine ⟨fy10, fy10_ok, ?_, ?_, ?_, ?_⟩
  · decide +kernel
  · decide +kernel
  · decide +kernel
  · decide +kernel
theorem cls_b11 : clsB 11 (clsL.getD 11 ("", ft0, 0)) := by
  refine ⟨fy11, fy11_ok, ?_, ?_, ?_, ?_⟩
  · decide +kernel
  · decide +kernel
  · decide +kernel
  · decide +kernel
theorem cls_b12 : clsB 12 (clsL.getD 12 ("", ft0, 0)) := by
  refine ⟨fy12, fy12_ok, ?_, ?_, ?_, ?_⟩
  · decide +kernel
  · decide +kernel
  · decide +kernel
  · decide +kernel
theorem cls_b : ∀ (ci : Nat) (q : vw_C), clsL[ci]? = some q → clsB ci q := by
  intro ci q h
  match ci, h with
  | 0, h => cases h; exact cls_b0
  | 1, h => cases h; exact cls_b1
  | 2, h => cases h; exact cls_b2
  | 3, h => cases h; exact cls_b3
  | 4, h => cases h; exact cls_b4
  | 5, h => cases h; exact cls_b5
  | 6, h => cases h; exact cls_b6
  | 7, h => cases h; exact cls_b7
  | 8, h => cases h; exact cls_b8
  | 9, h => cases h; exact cls_b9
  | 10, h => cases h; exact cls_b10
  | 11, h => cases h; exact cls_b11
  | 12, h => cases h; exact cls_b12
  | n + 13, h => simp [clsL] at h
