/-! numbers of the law as a method -/
theorem qL_c : qL.1.2.1 = code := by
  show me253.2.1 = code
  unfold me253
  rfl
theorem qL_m : qL.1.2.2.1 = 4 := by decide +kernel
theorem qL_n : cn qL.1.2.2.2.2.1 = "BeggarBridgeLaw" := by decide +kernel
theorem qL_17 : qL.1.2.2.2.2.1 < 17 := by decide +kernel
theorem qL_r : qL.2.1 ≤ room_1.cells ∧ qL.2.2.1 ≤ room_1.slots ∧ 4 + 1 ≤ room_1.frames ∧ 64 * (4 + 1) ≤ room_1.locals := by decide +kernel
theorem qL_s : 131 ≤ room_1.cells ∧ 8468 ≤ room_1.slots ∧ 100 ≤ room_1.frames ∧ 64 * 100 ≤ room_1.locals := by decide +kernel
theorem qL_mem : me253 ∈ mt := List.mem_append_right _ List.mem_cons_self
theorem qL_dk {pc : Nat} {i : Instr} {n : Nat} (h : lk k253 pc = some (i, n)) : decode qL.1.2.1 pc = .ok (i, n) := mt_dk me253 qL_mem (pc, i, n) (lk_mem (l := k253) h)
theorem FB_L {p : Program} {s : State} {m : MethodId} {args : Array Value} {c : Code} (hx : p.tables.exec = Jvm.exec) (hb : c.code = code) (hml : c.maxLocals = 4) (hown : s.vm.findClass "BeggarBridgeLaw" = some m.cls) (hgw : ∀ w ∈ gw, w.before args s = true) (hnw : NwB s) : FB p room_1 s m args c (fun q : Nat => s.heap.size ≤ q) qL 4 :=
  ⟨hx, hb.trans qL_c.symm, hml.trans qL_m.symm, qL_17, by rw [qL_n]; exact hown, hgw, hnw, fun a h => h, qL_r.1, qL_r.2.1, qL_r.2.2.1, qL_r.2.2.2⟩
theorem K_B {s : State} {args : Array Value} (hts : ∀ w ∈ lw_tbl, w.before args s = true) : ∃ D : va_G, va_K D clsL [] s := by
  have hK0 := known_B hts
  exact ⟨(fun k => Classical.choose (hK0 k), fun k => Classical.choose (Classical.choose_spec (hK0 k))), fun k q hq => Classical.choose_spec (Classical.choose_spec (hK0 k)) q hq, fun k q h => by simp at h⟩
theorem qL_ret {pc : Nat} (h : lk me253.2.2.2.2.2 pc = some (.ireturn, 1)) : decode code pc = .ok (.ireturn, 1) := by
  rw [← qL_c]
  exact mt_dk me253 qL_mem (pc, .ireturn, 1) (lk_mem h)
theorem qL_at {pc : Nat} {r : Option PV} (hr : r = some (vI 1)) (h : retAt me253 pc r) : decode code pc = .ok (.ireturn, 1) := by
  subst hr
  rcases h with ⟨hk, -⟩ | ⟨-, x, hx, -⟩ | ⟨-, k, n, a, hx, -⟩ | ⟨-, hx, -⟩
  · exact qL_ret hk
  · cases hx
  · cases hx
  · cases hx
