/-! beggars: both walks together -/
section BEGGARS2
variable (E : Nat × (Nat → Int32)) (d : Nat) (L : Nat → Nat → Int64)
theorem RR_addn {M : Nat → Nat → Int32} {n g : Nat} {kf : (Nat → Int32) → Int32} {V : Nat → I4} {K : Nat} (hR : Rc M n g ∧ LW E kf M ∧ RL E kf M ∧ Rt M ∧ Rch M n g ∧ Rled M ∧ Rimg M n g ∧ Rar M ∧ Rsh M L) (h1 : ∀ k, k < K → fit4 n (V k) ∧ g + k < 9) :
    ∀ k, k ≤ K → (Rc (addRn (addCn M g V k) g V k) n (g + k) ∧ LW E kf (addRn (addCn M g V k) g V k) ∧ RL E kf (addRn (addCn M g V k) g V k) ∧ Rt (addRn (addCn M g V k) g V k) ∧ Rch (addRn (addCn M g V k) g V k) n (g + k) ∧ Rled (addRn (addCn M g V k) g V k) ∧ Rimg (addRn (addCn M g V k) g V k) n (g + k) ∧ Rar (addRn (addCn M g V k) g V k) ∧ Rsh (addRn (addCn M g V k) g V k) L) := by
  intro k
  induction k with
  | zero => intro _; exact hR
  | succ k ih =>
    intro hk
    obtain ⟨a1, a2, a3, a4, a5, a6, a7, a8, a9⟩ := ih (by omega)
    obtain ⟨⟨f1, f2, f3, f4⟩, hlt⟩ := h1 k (by omega)
    refine RR_add E a1 a2 a3 a4 a5 a6 a7 a8 a9 hlt (M2 := addRn (addCn M g V (k + 1)) g V (k + 1)) (a := (V k).1) (b := (V k).2.1) (c := (V k).2.2.1) (e := (V k).2.2.2) f1 f2 f3 f4 (fun x q1 q2 => ?_) (fun x q => ?_) (fun x q => ?_)
    · rw [addRn_o (by omega)]
      show addC (addCn M g V k) _ _ _ _ _ x = _
      exact addC_cg (addRn_o (by omega) k).symm
    · show addR (addRn (addCn M g V (k + 1)) g V k) _ _ _ _ _ x = _
      exact addR_cg (addRn_cg (addC_o (by omega)) k)
    · rw [addRn_o (by omega), addCn_o (by omega), addRn_o (by omega), addCn_o (by omega)]
theorem op_beggars (p0 p1 p2 : Int32) : Opk E d 104 165 [vI p0, vI p1, vI p2] := by
  intro M L h
  have hR := h
  obtain ⟨n, g, kf, hc, ⟨hl, hrl⟩, ht, hch, hld, hi, ha, hs⟩ := h
  obtain ⟨hn, hn', hg, hg'⟩ := hc.2.2.1
  have hn8 := hc.1
  have hg9 := hc.2.1
  rcases shN E (d + 98) L M p0 with ⟨s, hs6, es, e48', -⟩ | ⟨hns, e48'⟩
  · subst es
    have ib6 : ib (nI s) 6 := by rw [ib_nI (by omega)]; exact hs6
    have hx := ix_nI (n := s) (by omega)
    by_cases hc2 : 1 ≤ p2.toInt ∧ p2.toInt ≤ 9
    · have hc64 : (1 : Int64).toInt ≤ (Int32.toInt64 p2).toInt ∧ (Int32.toInt64 p2).toInt ≤ (9 : Int64).toInt := by rw [tl_i, l_1, l_9]; exact hc2
      obtain ⟨cnt, hcn, ec⟩ := nI_ex (x := p2) (n := 10) (by omega) (by omega)
      have h104 : ∀ f, f = refB (M 331 s) → C E (d + 100) 104 [vR 1 11 10, vI (nI s), vI p1, vI p2] (M, L) = (if f = 0 then X E (d + 99) me104 59 [some (vR 1 11 10), some (vI (nI s)), some (vI p1), some (vI p2), some (vI f), some (vI (0 : Int32)), some (vL (Int32.toInt64 p1)), none] [] (M, L) else if f = (-11 : Int32) then some (some (vI (0 : Int32)), (M, L)) else some (some (vI f), (M, L))) := fun f ef => by
        rw [x104, e48', bI_s, if_neg (by decide), e145, bI_s, if_neg (b1_ne (by rw [t_1, t_9]; exact hc2)), e57 E _ L M hs6, bI_s, ← ef]
      have h165 : ∀ v, M 447 s = v → C E (d + 100) 165 [vR 1 12 400, vI (nI s), vI p1, vI p2] (M, L) = (if v < 0 then (if v = 50 then (if p1 < 0 then X E (d + 99) me165 69 [some (vR 1 12 400), some (vI (nI s)), some (vI p1), some (vI p2), some (vI (0 : Int32)), some (vI (0 : Int32)), none] [] (M, L) else X E (d + 99) me165 69 [some (vR 1 12 400), some (vI (nI s)), some (vI p1), some (vI p2), some (vI (0 : Int32)), some (vI (1 : Int32)), none] [] (M, L)) else X E (d + 99) me165 69 [some (vR 1 12 400), some (vI (nI s)), some (vI p1), some (vI p2), some (vI (0 : Int32)), some (vI (0 : Int32)), none] [] (M, L)) else (if v = 50 then (if v = 50 then (if p1 < 0 then X E (d + 99) me165 69 [some (vR 1 12 400), some (vI (nI s)), some (vI p1), some (vI p2), some (vI (0 : Int32)), some (vI (0 : Int32)), none] [] (M, L) else X E (d + 99) me165 69 [some (vR 1 12 400), some (vI (nI s)), some (vI p1), some (vI p2), some (vI (0 : Int32)), some (vI (1 : Int32)), none] [] (M, L)) else X E (d + 99) me165 69 [some (vR 1 12 400), some (vI (nI s)), some (vI p1), some (vI p2), some (vI (0 : Int32)), some (vI (0 : Int32)), none] [] (M, L)) else some (some (vI (-12 : Int32)), (M, L)))) := fun v ev => by
        rw [x165, e240n E _ L M hs6, bI_s, if_neg (by decide), e148, bI_s, if_neg (b1_ne hc64)]
        simp only [if_pos ib6, hx, ev]
      rcases hs s hs6 with ⟨z1, z2⟩ | ⟨z1, j, z2, z3, z4, z5⟩ | ⟨k, m, z1, z2, z3, z4, z5, z6, z7, z8⟩
      · refine opq E d hR (r := 0) (M1 := M) (M2 := M) ?_ (Kp.re M) ?_ (Kp.re M)
        · rw [h104 (-11) (by rw [z1]; rfl), if_neg (by decide), if_pos rfl]
        · rw [h165 (-1) z2, if_pos (by decide), if_neg (by decide), x165_69, if_pos rfl]
      · refine opq E d hR (r := -12) (M1 := M) (M2 := M) ?_ (Kp.re M) ?_ (Kp.re M)
        · rw [h104 (-12) (by rw [z1]; rfl), if_neg (by decide), if_neg (by decide)]
        · rw [h165 (nI j) z3, if_neg (nI_pos (by omega)), if_neg (show ¬ nI j = (50 : Int32) from fun q => by have := nI_inj (b := 50) (by omega) (by omega) q; omega)]
      · by_cases k0 : k = 0
        · subst k0
          have z8 := z8 rfl
          by_cases hp : p1 < 0
          · refine opq E d hR (r := 0) (M1 := M) (M2 := M) ?_ (Kp.re M) ?_ (Kp.re M)
            · rw [h104 0 (by rw [z3]; rfl), if_pos rfl, x104_59]
              by_cases q : p2 ≤ 0
              · rw [if_pos q]
              · rw [if_neg q, if_pos (show lg_cmp (Int32.toInt64 p1) 0 < 0 by rw [cmp_lt, tl_i, l_0]; rw [t_lt, t_0] at hp; exact hp)]
            · rw [h165 50 z5, if_neg (by decide), if_pos rfl, if_pos rfl, if_pos hp, x165_69, if_pos rfl]
          · have hp0 : 0 ≤ p1.toInt := by rw [t_lt, t_0] at hp; omega
            obtain ⟨f, hf, ef⟩ := nI_ex (x := p1) (n := 2147483648) hp0 (t_hi p1)
            subst ef
            subst ec
            have hV : ∀ k, (fun k => byt (L (334 + s)) (f + 4 * k)) k = byt (L (334 + s)) (f + 4 * k) := fun _ => rfl
            generalize (fun k => byt (L (334 + s)) (f + 4 * k)) = V at hV
            obtain ⟨K, hK, h1, h2⟩ := stopEx (fun k => k < cnt ∧ f + 4 * k + 4 ≤ m ∧ fit4 n (V k) ∧ g + k < 9) 9 (fun q => by omega)
            have hr : 0 ≤ (M 331 s).toInt ∧ (M 331 s).toInt ≤ 4 := by rw [z3, t_nI (by omega)]; omega
            have G1 : C E (d + 100) 104 [vR 1 11 10, vI (nI s), vI (nI f), vI (nI cnt)] (M, L) = some (some (vI (nI K)), (addCn M g V K, L)) := by
              rw [h104 0 (by rw [z3]; rfl), if_pos rfl]
              exact l104 E (d + 93) L M hs6 hr z4 z2 hf hn hn8 hg (by omega) hV hg9 hK h1 h2 K 0 (Int32.toInt64 (nI f)) (by omega) (by rw [tl_i, t_nI hf]; omega)
            have o : ∀ c, ¬ (40 ≤ c ∧ c ≤ 49) → addCn M g V K c = M c := fun c q => addCn_o q K
            have G2 : C E (d + 100) 165 [vR 1 12 400, vI (nI s), vI (nI f), vI (nI cnt)] (addCn M g V K, L) = some (some (vI (nI K)), (addRn (addCn M g V K) g V K, L)) := by
              rw [x165, e240n E _ L _ hs6, bI_s, if_neg (by decide), e148, bI_s, if_neg (b1_ne hc64)]
              simp only [if_pos ib6, hx, o 447 (by omega), z5]
              rw [if_neg (show ¬ nI (50 + 0) < 0 by decide), if_pos (show nI (50 + 0) = (50 : Int32) from rfl), if_neg hp]
              exact l165 E (d + 94) L (addCn M g V K) (n := n) (V := V) (W := L (334 + s)) hs6 (by rw [o 448 (by omega)]; exact z6) z2 hf (by rw [o 400 (by omega)]; exact hn') hn8 (by rw [o 400 (by omega)]; exact hg') (by omega) hV z7 z8 hg9 hK h1 h2 K 0 none (by omega)
            obtain ⟨w1, w2, w3, w4⟩ := RR_addn E L (V := V) (K := K) ⟨hc, hl, hrl, ht, hch, hld, hi, ha, hs⟩ (fun k hk => ⟨(h1 k hk).2.2.1, (h1 k hk).2.2.2⟩) K (Nat.le_refl _)
            exact ⟨_, _, _, _, _, G1, G2, n, g + K, kf, w1, ⟨w2, w3⟩, w4⟩
        · have e1 : refB (M 331 s) = -12 := by
            rw [z3]
            unfold refB
            rw [if_neg (show ¬ nI k = (-1 : Int32) from fun q => by have := congrArg Int32.toInt q; rw [t_nI (by omega), t_m1] at this; omega), if_pos (by rw [t_nI (by omega)]; omega), if_neg (show ¬ nI k = (0 : Int32) from fun q => k0 (nI_inj (b := 0) (by omega) (by omega) q))]
          refine opq E d hR (r := -12) (M1 := M) (M2 := M) ?_ (Kp.re M) ?_ (Kp.re M)
          · rw [h104 (-12) e1.symm, if_neg (by decide), if_neg (by decide)]
          · rw [h165 (nI (50 + k)) z5, if_neg (nI_pos (by omega)), if_neg (show ¬ nI (50 + k) = (50 : Int32) from fun q => by have := nI_inj (b := 50) (by omega) (by omega) q; omega)]
    · refine opq E d hR (r := -1) (M1 := M) (M2 := M) ?_ (Kp.re M) ?_ (Kp.re M)
      · rw [x104, e48', bI_s, if_neg (by decide), e145, bI_s, if_pos (b1_e (by rw [t_1, t_9]; exact hc2))]
      · rw [x165, e240n E _ L M hs6, bI_s, if_neg (by decide), e148, bI_s, if_pos (b1_e (by rw [tl_i, l_1, l_9]; exact hc2))]
  · refine opq E d hR (r := -1) (M1 := M) (M2 := M) ?_ (Kp.re M) ?_ (Kp.re M)
    · rw [x104, e48', bI_s, if_pos rfl]
    · rw [x165, e240x E _ L M hns, bI_s, if_pos rfl]
end BEGGARS2
