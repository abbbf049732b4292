/-! both most alike -/
theorem dpm_w {w w' : Nat → Nat → Bool} {g n : Nat} (h : ∀ k p, p < g → w k p = w' k p) : ∀ (r : Nat) (gone : Nat → Bool), dpm w g n r gone = dpm w' g n r gone
  | 0, _ => rfl
  | r + 1, gone => by
    unfold dpm
    rw [dpm_w h r gone]
    exact best_congr (fun p hp => by rw [h _ p hp]) (fun p _ _ => by rw [dpm_w h r])
theorem dpm_mk {P : TP} {T : TS} (hg9 : pG P ≤ 9) (n r : Nat) (gone : Nat → Bool) : dpm (wM (fun j => mk9 (wll P T j) (pG P))) 9 n r gone = dpm (wll P T) (pG P) n r gone := by
  have e : ∀ k p, wM (fun j => mk9 (wll P T j) (pG P)) k p = (decide (p < pG P) && wll P T k p) := fun k p => mk9_tb (pG P) p
  have h9 : 9 = pG P + (9 - pG P) := by omega
  rw [h9, dpm_ext (fun k p hp => by rw [e, decide_eq_false (by omega), Bool.false_and])]
  exact dpm_w (fun k p hp => by rw [e, decide_eq_true hp, Bool.true_and]) r gone
section LAST1
variable (E : Nat × (Nat → Int32)) (d : Nat) (L : Nat → Nat → Int64)
theorem e44w (M : Nat → Nat → Int32) {P : TP} {T : TS} (hn8 : pN P ≤ 8) (hg9 : pG P ≤ 9) {u0 k0 : Nat} (hu : u0 < 512) (hk0 : k0 ≤ pN P) (hn : M 40 11 = nI (pN P)) (hm : mkd P T M (pN P)) : ∃ M2, C E (d + 12) 44 [vR 1 5 240, vI (nI k0), vI (nI u0)] (M, L) = some (some (vI (nI (dpm (wll P T) (pG P) (pN P) (pN P - k0) (tbF u0)))), (M2, L)) ∧ ∀ c, c ≠ 240 → c ≠ 243 → M2 c = M c := by
  have := e44 E d L M (mkf := fun j => mk9 (wll P T j) (pG P)) hn8 hu hk0 hn hm
  rw [dpm_mk hg9] at this
  exact this
/-- all bridges: the class and the reference answer alike -/
theorem lasting_all (M : Nat → Nat → Int32) {P : TP} {T : TS} (hc : Ctx E M P T) : ∃ M1 M2, C E (d + 100) 117 [vR 1 11 10, vI (-1 : Int32)] (M, L) = some (some (vI (nI (dpm (wll P T) (pG P) (pN P) (pN P) (tbF 0)))), (M1, L)) ∧ C E (d + 100) 208 [vR 1 12 400, vI (-1 : Int32)] (M1, L) = some (some (vI (nI (dpm (wll P T) (pG P) (pN P) (pN P) (tbF 0)))), (M2, L)) ∧ Kp M M1 ∧ Kp M1 M2 := by
  obtain ⟨c1, c2, c3, ⟨c4, c5⟩, c6, c7, c8, c9, c10⟩ := id hc
  obtain ⟨Ma, ea, fa, ma⟩ := e43 E (d + 94) L M c1 c4 c5 c9 c10
  obtain ⟨M1, e1, f1⟩ := e44w E (d + 87) L Ma c4 c5 (u0 := 0) (k0 := 0) (by omega) (by omega) (by rw [fa 40 (by omega)]; exact c1.1) ma
  rw [Nat.sub_zero] at e1
  have hf : ∀ c, ¬ fQ c → M1 c = M c := fun c hcc => by rw [f1 c (by unfold fQ at hcc; omega) (by unfold fQ at hcc; omega), fa c (by unfold fQ at hcc; omega)]
  have k1 := Kp.ofQ hf
  have rx := Ctx.rx E hc k1
  obtain ⟨Mb, eb, fb', tb⟩ := e188 E (d + 98) L M1 rx.1 rx.2.1 c4 c5
  have rxb := rx.fr E fb'
  obtain ⟨M2, w3, w4, w5, w6, e2, f2, t2⟩ := t208all E (d + 96) L Mb rxb.1 tb c4 c5 (-1)
  have k2 : Kp Mb M2 := ⟨fun c hcc => f2 c (by unfold perC at hcc; omega), by rw [f2 70 (by omega)], by rw [f2 90 (by omega)], fun j _ => by rw [f2 400 (by omega)]⟩
  refine ⟨M1, M2, ?_, ?_, k1, (Kp.ofR fb').tra k2⟩
  · rw [x117, if_pos rfl, ea, bV_s, if_pos rfl]
    have e1 : C E (d + 99) 44 [vR 1 5 240, vI (0 : Int32), vI (0 : Int32)] (Ma, L) = _ := e1
    rw [e1, bI_s]
  · rw [x208, if_pos rfl, eb, bV_s]
    have e2 : X E (d + 99) me208 22 [some (vR 1 12 400), some (vI (-1 : Int32)), some (vI (0 : Int32)), none, none, none, none] [] (Mb, L) = X E (d + 99) me208 60 [some (vR 1 12 400), some (vI (-1 : Int32)), some (vI (-1 : Int32)), w3, w4, w5, w6] [] (M2, L) := e2
    rw [e2, x208_60, if_pos (by decide), if_pos rfl]
    have e6 : C E (d + 99) 206 [vR 1 12 400, vI (0 : Int32), vI (0 : Int32)] (M2, L) = some (some (vI (nI (512 * 0 + 0))), (M2, L)) := e206 E (d + 98) L M2 (k := 0) (by omega) 0
    rw [e6, bI_s, if_pos (by decide), ix_nI (by omega)]
    show some (some (vI (M2 432 (512 * 0 + 0))), (M2, L)) = _
    rw [t2 0 (by omega) 0 (Nat.two_pow_pos _), Nat.sub_zero]
    rfl
end LAST1
