/-! the constructors' machine: rows of longs -/
section BORN4
variable {p : Program} {l : Launch} {e : Env} {R : Room} {s : State} {m : MethodId} {args : Array Value} {below : List Frame} {meth : Method} {c : Code} {Q : State → Prop} {D : va_G} {A : Nat → Prop} {ad0 : Nat → Nat} {kA0 : Nat → ClassId} {nx0 : Nat}
theorem GB_ma {q : BI} {d : Nat} (hF : FB p R s m args c A q d) {pc : Nat} {x y : Int32} {ls : BL} {r : List BV} {w : BW} {nx cc ss : Nat} (hd : decode q.1.2.1 pc = .ok (.multianewarray 18 2, 4)) (hc6 : q.1.2.2.2.2.1 = 6) (hx0 : 0 < x.toInt) (hy0 : 0 ≤ y.toInt) (hbx : ix x * 8 ≤ 536870912) (hby : ix y * 8 ≤ 536870912) (hcc : cc + 1 + ix x ≤ q.2.1) (hss : ss + ix x + ix x * ix y ≤ q.2.2.1)
    (k : GB p l e R s m args below meth c Q D A ad0 kA0 nx0 q (pc + 4) ls (.inr (some nx) :: r) (w ++ (nx, .inr (5, ix x, nx + 1, [])) :: (List.range (ix x)).map (fun i => (nx + 1 + i, .inr (3, ix y, 0, [])))) (nx + 1 + ix x) (cc + 1 + ix x) (ss + ix x + ix x * ix y)) : GB p l e R s m args below meth c Q D A ad0 kA0 nx0 q pc ls (.inl y :: .inl x :: r) w nx cc ss := by
  sorry
end BORN4
