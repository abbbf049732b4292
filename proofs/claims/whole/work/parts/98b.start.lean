/-! the world right after both `new`: class and reference agree -/
def M0 : Nat → Nat → Int32 := fun c k => if (c = 40 ∨ c = 140 ∨ c = 170 ∨ c = 210 ∨ c = 290) ∧ k = 13 then 9 else if c = 401 ∧ k = 60 then 9 else if c = 331 ∨ c = 447 then -1 else 0
theorem M0_z {c k : Nat} (h1 : ¬ ((c = 40 ∨ c = 140 ∨ c = 170 ∨ c = 210 ∨ c = 290) ∧ k = 13)) (h2 : ¬ (c = 401 ∧ k = 60)) (h3 : ¬ (c = 331 ∨ c = 447)) : M0 c k = 0 := by
  unfold M0
  rw [if_neg h1, if_neg h2, if_neg h3]
theorem RR_0 (E : Nat × (Nat → Int32)) (L : Nat → Nat → Int64) : RR E M0 L := by
  have z : ∀ c k, ¬ ((c = 40 ∨ c = 140 ∨ c = 170 ∨ c = 210 ∨ c = 290) ∧ k = 13) → ¬ (c = 401 ∧ k = 60) → ¬ (c = 331 ∨ c = 447) → M0 c k = 0 := fun c k => M0_z
  have hn : nI 0 = (0 : Int32) := nI_0
  have loc : ∀ f g : Nat → Int32, (∀ i, i < 6 → f i = g i) → f 0 / 2 + 2 * f 2 - 4 * f 1 = g 0 / 2 + 2 * g 2 - 4 * g 1 := fun f g h => by rw [h 0 (by omega), h 1 (by omega), h 2 (by omega)]
  refine ⟨0, 0, fun f => f 0 / 2 + 2 * f 2 - 4 * f 1, ?_, ⟨⟨loc, Or.inl ⟨z _ _ (by omega) (by omega) (by omega), fun f => rfl⟩⟩, ⟨loc, Or.inl ⟨?_, fun f => rfl⟩⟩⟩, ?_, ?_, ?_, ?_, ?_, ?_⟩
  · refine ⟨by omega, by omega, ⟨?_, ?_, ?_, ?_⟩, ⟨by decide +kernel, by unfold btw; decide +kernel⟩, ⟨by decide +kernel, by unfold btw; decide +kernel⟩, fun k hk => absurd hk (by omega), fun p hp => absurd hp (by omega)⟩ <;> (rw [hn]; exact z _ _ (by omega) (by omega) (by omega))
  · rw [z 400 24 (by omega) (by omega) (by omega)]; decide
  · exact ⟨0, by omega, by rw [hn]; exact z _ _ (by omega) (by omega) (by omega), by rw [hn]; exact z _ _ (by omega) (by omega) (by omega), fun i hi => absurd hi (by omega)⟩
  · refine ⟨0, 0, by omega, by omega, ?_, ?_, ?_, ?_, fun i hi => absurd hi (by omega)⟩ <;> (rw [hn]; exact z _ _ (by omega) (by omega) (by omega))
  · intro i hi
    rw [z 435 i (by omega) (by omega) (by omega), z 281 i (by omega) (by omega) (by omega)]
  · exact Or.inl ⟨z _ _ (by omega) (by omega) (by omega), z _ _ (by omega) (by omega) (by omega)⟩
  · refine ⟨0, 0, by omega, by omega, ?_, ?_, ?_, ?_, fun i hi => absurd hi (by omega), fun i hi => absurd hi (by omega)⟩ <;> (rw [hn]; exact z _ _ (by omega) (by omega) (by omega))
  · intro s hs
    refine Or.inl ⟨?_, ?_⟩ <;> (unfold M0; rw [if_neg (by omega), if_neg (by omega), if_pos (by omega)])
/-- the law from the loop's first place -/
theorem law_run (E : Nat × (Nat → Int32)) (hL : E.1 ≤ 3072) (L : Nat → Nat → Int64) : ∃ s', X E 100 me253 18 [some (vR 4 E.1 0), some (vR 1 11 10), some (vR 1 12 400), some (vI 0)] [] (M0, L) = some (some (vI 1), s') := by
  have := law_loop E hL 3072 0 M0 L (by omega) (by omega) (RR_0 E L)
  exact this
