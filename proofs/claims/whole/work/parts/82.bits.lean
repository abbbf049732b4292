/-! one bit of who may sit and was not asked -/
theorem tw_p : ∀ b, b < 9 → ((1 : Int32) <<< (nI b &&& 31)).toBitVec = BitVec.twoPow 32 b := by decide +kernel
theorem m1_b : ∀ b, b < 9 → (-1 : Int32).toBitVec.getLsbD b = true := by decide +kernel
theorem nI_gb (a b : Nat) (hb : b < 32) : (nI a).toBitVec.getLsbD b = a.testBit b := by
  rw [nI_bv, BitVec.getLsbD_ofNat]
  simp [hb]
theorem tw_n0 : ∀ b, b < 9 → ¬ BitVec.twoPow 32 b = 0#32 := by decide +kernel
/-- the class's test of a bit -/
theorem ask_b {a u b : Nat} (hb : b < 9) : ((nI a &&& (nI u ^^^ (-1 : Int32))) &&& ((1 : Int32) <<< (nI b &&& 31)) = 0) = ((a.testBit b && !u.testBit b) = false) := by
  have h : ((nI a &&& (nI u ^^^ (-1 : Int32))) &&& ((1 : Int32) <<< (nI b &&& 31))).toBitVec = if (a.testBit b && !u.testBit b) = true then BitVec.twoPow 32 b else 0#32 := by
    show ((nI a).toBitVec &&& ((nI u).toBitVec ^^^ (-1 : Int32).toBitVec)) &&& ((1 : Int32) <<< (nI b &&& 31)).toBitVec = _
    rw [tw_p b hb, BitVec.and_twoPow, BitVec.getLsbD_and, BitVec.getLsbD_xor, nI_gb a b (by omega), nI_gb u b (by omega), m1_b b hb]
    cases a.testBit b <;> cases u.testBit b <;> rfl
  apply propext
  constructor
  · intro q
    cases hz : (a.testBit b && !u.testBit b) with
    | false => rfl
    | true =>
      rw [hz, if_pos rfl, q] at h
      exact absurd h.symm (tw_n0 b hb)
  · intro q
    apply Int32.toBitVec.inj
    rw [h, q, if_neg (by decide)]
    rfl
