/-! THE CLASS: Mover.addStraight -/
def stPl (D : Int) (t0 t1 t2 : Nat) (t i : Int) : Int := fF D (t - (tgE t0 t1 t2 0 (t - blk D i).toNat (blk D i - lst D i).toNat (lst D i).toNat : Nat)) + (tgE t0 t1 t2 2 (t - blk D i).toNat (blk D i - lst D i).toNat (lst D i).toNat : Nat)
theorem st_g5 {R : Type} [Lean.Grind.CommRing R] (a : R) : a * 1 = a := by grind
theorem st_g6 {R : Type} [Lean.Grind.CommRing R] (f a b c : R) : f * a * b * c = f * (a * (b * (c * 1))) := by grind
section WST
variable {D : Int} {t0 t1 t2 : Nat} {k0 k1 k2 : cF} {A : cMat}
theorem tgE_inj {a b c a' b' c' : Nat} (h : stA t0 t1 t2 k0 k1 k2 A) (e0 : tgE t0 t1 t2 0 a b c = tgE t0 t1 t2 0 a' b' c') (e1 : tgE t0 t1 t2 1 a b c = tgE t0 t1 t2 1 a' b' c') (e2 : tgE t0 t1 t2 2 a b c = tgE t0 t1 t2 2 a' b' c') : a = a' ∧ b = b' ∧ c = c' := by
  obtain ⟨h0, h1, h2, n1, n2, n3, -⟩ := h
  unfold tgE at e0 e1 e2
  have x0 : t0 = 0 ∨ t0 = 1 ∨ t0 = 2 := by omega
  have x1 : t1 = 0 ∨ t1 = 1 ∨ t1 = 2 := by omega
  have x2 : t2 = 0 ∨ t2 = 1 ∨ t2 = 2 := by omega
  rcases x0 with w0 | w0 | w0 <;> rcases x1 with w1 | w1 | w1 <;> rcases x2 with w2 | w2 | w2 <;> subst w0 <;> subst w1 <;> subst w2 <;> first | (exfalso; omega) | (simp at e0 e1 e2; omega)
theorem tgE_sum {a b c : Nat} (h : stA t0 t1 t2 k0 k1 k2 A) : tgE t0 t1 t2 0 a b c + tgE t0 t1 t2 1 a b c + tgE t0 t1 t2 2 a b c = a + b + c := by
  obtain ⟨h0, h1, h2, n1, n2, n3, -⟩ := h
  unfold tgE
  have x0 : t0 = 0 ∨ t0 = 1 ∨ t0 = 2 := by omega
  have x1 : t1 = 0 ∨ t1 = 1 ∨ t1 = 2 := by omega
  have x2 : t2 = 0 ∨ t2 = 1 ∨ t2 = 2 := by omega
  rcases x0 with w0 | w0 | w0 <;> rcases x1 with w1 | w1 | w1 <;> rcases x2 with w2 | w2 | w2 <;> subst w0 <;> subst w1 <;> subst w2 <;> first | (exfalso; omega) | (simp; done) | (simp; omega)
theorem stPl_ok (hD : D = 2 ∨ D = 3) (h : stA t0 t1 t2 k0 k1 k2 A) (h2 : D = 2 → t2 = 2) {t i : Int} (i0 : 0 ≤ i) (tt0 : 0 ≤ t) (tt1 : t ≤ 15) (i1 : i < fF D (t + 1)) : 0 ≤ stPl D t0 t1 t2 t i ∧ stPl D t0 t1 t2 t i < fF D (t + 1) ∧ blk D (stPl D t0 t1 t2 t i) = t - (tgE t0 t1 t2 0 (t - blk D i).toNat (blk D i - lst D i).toNat (lst D i).toNat : Nat) ∧ lst D (stPl D t0 t1 t2 t i) = (tgE t0 t1 t2 2 (t - blk D i).toNat (blk D i - lst D i).toNat (lst D i).toNat : Nat) := by
  obtain ⟨bt, i16⟩ := blk_lt hD i0 i1 tt0 tt1
  obtain ⟨b1, b2, b3, b4, b5, b6, b7, b8⟩ := blk_ok hD i0 i16
  have sm := tgE_sum h (a := (t - blk D i).toNat) (b := (blk D i - lst D i).toNat) (c := (lst D i).toNat)
  have z2 : D = 2 → tgE t0 t1 t2 2 (t - blk D i).toNat (blk D i - lst D i).toNat (lst D i).toNat = 0 := by
    intro e
    have l0 := b5 e
    have w2 := h2 e
    have := h.2.2.2.2.1
    have := h.2.2.2.2.2.1
    unfold tgE
    rw [if_neg (by omega), if_neg (by omega), if_pos w2]
    omega
  unfold stPl
  generalize tgE t0 t1 t2 0 (t - blk D i).toNat (blk D i - lst D i).toNat (lst D i).toNat = p0 at *
  generalize tgE t0 t1 t2 1 (t - blk D i).toNat (blk D i - lst D i).toNat (lst D i).toNat = p1 at *
  generalize tgE t0 t1 t2 2 (t - blk D i).toNat (blk D i - lst D i).toNat (lst D i).toNat = p2 at *
  have fb := fF_bd hD (s := t - (p0 : Int)) (by omega) (by omega)
  have wd := (wid_eq hD (s := t - (p0 : Int)) (c := (p2 : Int)) (by omega) (by omega) (by omega)).mpr ⟨by omega, fun e => by have := z2 e; omega⟩
  have mm := fF_mono hD (s := t - (p0 : Int) + 1) (t := t + 1) (by omega) (by omega) (by omega)
  obtain ⟨e1, e2⟩ := blk_of hD (s := t - (p0 : Int)) (c := (p2 : Int)) (by omega) (by omega) (by omega) wd
  exact ⟨by omega, by omega, e1, e2⟩
/-- what one monomial adds -/
theorem st_term (hD : D = 2 ∨ D = 3) (h : stA t0 t1 t2 k0 k1 k2 A) (h2 : D = 2 → t2 = 2) {t i o : Int} (i0 : 0 ≤ i) (tt0 : 0 ≤ t) (tt1 : t ≤ 15) (i1 : i < fF D (t + 1)) (o0 : 0 ≤ o) (o1 : o < fF D (t + 1)) : atE D (monoE D A (mFrom D t + i)) (mFrom D t + o) = if o = stPl D t0 t1 t2 t i then fPow k0 (t - blk D i).toNat * (fPow k1 (blk D i - lst D i).toNat * (fPow k2 (lst D i).toNat * 1)) else 0 := by
  obtain ⟨bt, i16⟩ := blk_lt hD i0 i1 tt0 tt1
  obtain ⟨b1, b2, b3, b4, b5, b6, b7, b8⟩ := blk_ok hD i0 i16
  obtain ⟨bo, o16⟩ := blk_lt hD o0 o1 tt0 tt1
  obtain ⟨c1, c2, c3, c4, c5, c6, c7, c8⟩ := blk_ok hD o0 o16
  obtain ⟨m1, m2, m3⟩ := mE_loc hD i0 tt0 tt1 i1
  obtain ⟨q1, q2, q3⟩ := mE_loc hD o0 tt0 tt1 o1
  obtain ⟨p1, p2, p3, p4⟩ := stPl_ok hD h h2 i0 tt0 tt1 i1
  have sm := tgE_sum h (a := (t - blk D i).toNat) (b := (blk D i - lst D i).toNat) (c := (lst D i).toNat)
  unfold mEa at m1 q1
  unfold mEb at m2 q2
  unfold mEc at m3 q3
  unfold atE monoE
  rw [show (mE D (mFrom D t + i)).1 = (t - blk D i).toNat by omega, show (mE D (mFrom D t + i)).2.1 = (blk D i - lst D i).toNat by omega, show (mE D (mFrom D t + i)).2.2 = (lst D i).toNat by omega, mono_st h]
  show _ * mnP _ _ _ _ _ _ = _
  unfold mnP
  by_cases e : o = stPl D t0 t1 t2 t i
  · rw [if_pos e]
    rw [← e] at p3 p4
    rw [if_pos (by omega)]
    exact st_g5 _
  · rw [if_neg e, if_neg, gs_z3]
    intro w
    apply e
    unfold stPl
    rw [c6, show blk D o = t - (tgE t0 t1 t2 0 (t - blk D i).toNat (blk D i - lst D i).toNat (lst D i).toNat : Nat) by omega, show lst D o = (tgE t0 t1 t2 2 (t - blk D i).toNat (blk D i - lst D i).toNat (lst D i).toNat : Nat) by omega]
theorem stPl_inj (hD : D = 2 ∨ D = 3) (h : stA t0 t1 t2 k0 k1 k2 A) (h2 : D = 2 → t2 = 2) {t i j : Int} (i0 : 0 ≤ i) (j0 : 0 ≤ j) (tt0 : 0 ≤ t) (tt1 : t ≤ 15) (i1 : i < fF D (t + 1)) (j1 : j < fF D (t + 1)) (e : stPl D t0 t1 t2 t i = stPl D t0 t1 t2 t j) : i = j := by
  obtain ⟨bt, i16⟩ := blk_lt hD i0 i1 tt0 tt1
  obtain ⟨b1, b2, b3, b4, b5, b6, b7, b8⟩ := blk_ok hD i0 i16
  obtain ⟨bj, j16⟩ := blk_lt hD j0 j1 tt0 tt1
  obtain ⟨c1, c2, c3, c4, c5, c6, c7, c8⟩ := blk_ok hD j0 j16
  obtain ⟨p1, p2, p3, p4⟩ := stPl_ok hD h h2 i0 tt0 tt1 i1
  obtain ⟨q1, q2, q3, q4⟩ := stPl_ok hD h h2 j0 tt0 tt1 j1
  have s1 := tgE_sum h (a := (t - blk D i).toNat) (b := (blk D i - lst D i).toNat) (c := (lst D i).toNat)
  have s2 := tgE_sum h (a := (t - blk D j).toNat) (b := (blk D j - lst D j).toNat) (c := (lst D j).toNat)
  rw [e] at p3 p4
  obtain ⟨x1, x2, x3⟩ := tgE_inj h (a := (t - blk D i).toNat) (b := (blk D i - lst D i).toNat) (c := (lst D i).toNat) (a' := (t - blk D j).toNat) (b' := (blk D j - lst D j).toNat) (c' := (lst D j).toNat) (by omega) (by omega) (by omega)
  rw [b6, c6, show blk D i = blk D j by omega, show lst D i = lst D j by omega]
end WST
section WSU
variable {d : Nat} {z : cm_Z} {I : cm_I} {D : Int} {sh : Nat} {A : cMat} {T : Int}
/-- the straight way stands -/
def stS (D : Int) (A : cMat) (J : cm_I) : Prop := ∃ t0 t1 t2 : Nat, J 55 0 = t0 ∧ J 55 1 = t1 ∧ J 55 2 = t2 ∧ (∀ i, 0 ≤ i → i < 3 → 0 ≤ J 56 i ∧ J 56 i < 2521) ∧ stA t0 t1 t2 (toF (J 56 0)) (toF (J 56 1)) (toF (J 56 2)) A ∧ (D = 2 → t2 = 2)
theorem pw_set {t0 t1 t2 : Nat} {k0 k1 k2 : cF} {A : cMat} (h : stA t0 t1 t2 k0 k1 k2 A) (f : Int → Int) (a b c : Nat) {v : Nat} (hv : v < 3) : (fun j : Int => if j = (t2 : Int) then (c : Int) else if j = (t1 : Int) then (b : Int) else if j = (t0 : Int) then (a : Int) else f j) (v : Int) = (tgE t0 t1 t2 v a b c : Nat) := by
  obtain ⟨h0, h1, h2, n1, n2, n3, -⟩ := h
  show (if (v : Int) = (t2 : Int) then (c : Int) else if (v : Int) = (t1 : Int) then (b : Int) else if (v : Int) = (t0 : Int) then (a : Int) else f v) = _
  unfold tgE
  by_cases w2 : v = t2
  · rw [if_pos (by omega), if_neg (by omega), if_neg (by omega), if_pos w2.symm]; omega
  · rw [if_neg (by omega)]
    by_cases w1 : v = t1
    · rw [if_pos (by omega), if_neg (show ¬ t0 = v by omega), if_pos w1.symm, if_neg (show ¬ t2 = v by omega)]; omega
    · rw [if_neg (by omega), if_pos (by omega), if_pos (show t0 = v by omega), if_neg (show ¬ t1 = v by omega), if_neg (show ¬ t2 = v by omega)]; omega
theorem t_addStr (hz : wz z) (hS : shOk D sh I) (y0 : z.1 53 0 = sh) (hM : mvS D A T I) (hst : stS D A I) {a1 a2 q : Nat} (h1 : 0 < a1) (n1 : a1 ∉ [57, a2]) (y1 : z.1 a1 0 = q) (q0 : 0 < q) (nq : q ∉ [57, a2]) (h2 : 0 < a2) (n2 : a2 ∉ [sh, sh + 1, sh + 2, sh + 7, sh + 8, 53, 54, 55, 56, 57, 58, 59, 60]) {xf x t : Int} (ef : I a1 1 = xf) (et : I a1 2 = t) (tt0 : 0 ≤ t) (tt1 : t ≤ 15) (xf0 : 0 ≤ xf ∧ xf ≤ 1000000) (xfl : xf + fF D (t + 1) ≤ z.2.1 q) (of : ∀ p, 0 ≤ p → p < fF D (t + 1) → 0 ≤ I q (xf + p) ∧ I q (xf + p) < 2521) (x0 : 0 ≤ x ∧ x ≤ 1000000) (xl : x + fF D (t + 1) ≤ z.2.1 a2) (ob : ∀ k, x ≤ k → k < x + fF D (t + 1) → 0 ≤ I a2 k ∧ I a2 k ≤ 1000000000) (es : I 53 3 ≠ 0) : mU (d + 3) m_Mover_addMoved [vR 4 53, vR 5 a1, vR 20 a2, vI x] z I (amP D A a2 x t (fun p => I q (xf + p)) I) := by
  have hD := shOk_D hS
  have hs := sh_lt hS
  have fi_ := hS.2.2.2.1
  have ft := fF_bd hD (s := t + 1) (by omega) (by omega)
  have f16 := fF_mono hD (s := t + 1) (t := 16) (by omega) (by omega) (by omega)
  obtain ⟨t0, t1, t2, e0, e1, e2, osc, hA, hA2⟩ := hst
  have lt0 := hA.1
  have lt1 := hA.2.1
  have lt2 := hA.2.2.1
  have p57 : ∀ b : Nat, b ∈ [sh, sh + 1, sh + 2, sh + 7, sh + 8, 53, 54, 55, 56, 58, 59, 60] → b ∉ [57, a2] := fun b hb m => by
    rw [List.mem_cons, List.mem_singleton] at m
    rcases m with w | w
    · rw [w] at hb
      simp only [List.mem_cons, List.not_mem_nil, or_false] at hb
      omega
    · refine n2 ?_
      rw [← w]
      simp only [List.mem_cons, List.not_mem_nil, or_false] at hb ⊢
      omega
  have a57 : (57 : Nat) ∉ [a2] := nin_1 n2 (by simp)
  generalize hF : (fun p => I q (xf + p)) = F at *
  have eF : ∀ p, I q (xf + p) = F p := fun p => by rw [← hF]
  simp only [eF] at of
  have L12 : ∀ (c : Nat) (i : Nat) (J : cm_I) (z6 z7 z8 : Option cm_V), (i : Int) + c = fF D (t + 1) → fr [57, a2] I J → (∀ o, 0 ≤ o → o < fF D (t + 1) → J a2 (x + o) = I a2 (x + o) + fi (gs i fun i' => toF (F (i' : Int)) * atE D (monoE D A (mFrom D t + i')) (mFrom D t + o))) → (∀ k, ¬ (x ≤ k ∧ k < x + fF D (t + 1)) → J a2 k = I a2 k) → cw (d + 1) cd_Mover_addStraight (qU z (amP D A a2 x t F I)) 12 [some (vR 4 53), some (vR 5 a1), some (vR 20 a2), some (vI x), some (vR 20 (sh + 1)), some (vI (i : Int)), z6, z7, z8] [] (J, z) := by
    intro c
    induction c with
    | zero =>
      intro i J z6 z7 z8 ei hf hp hi
      refine wr_Mover_addStraight_12 hz h1 (by omega) y1 q0 y0 (shOk_sh hS) h2 ?_
      rw [hf a1 n1, et, hf (sh + 1) (p57 _ (by simp)), fi_ (t + 1) (by omega) (by omega), wz_shL1 hz (shOk_sh hS)]
      refine ⟨⟨by omega, by omega⟩, ⟨by omega, by omega⟩, fun _ => qU_mk ⟨fr_mono hf (by simp), fun j _ => by rw [hf 53 (p57 _ (by simp))], ⟨T, mvS_fr hM (hf 53 (p57 _ (by simp))) (hf 54 (p57 _ (by simp))) (hf 60 (p57 _ (by simp))) (by rw [hf 58 (p57 _ (by simp))]; exact hM.2.1) (by rw [hf 59 (p57 _ (by simp))]; exact hM.2.2.1)⟩, fun o o0 o1 => ?_, hi⟩, fun w => by omega⟩
      rw [hp o o0 o1, show i = (fF D (t + 1)).toNat by omega]
      rfl
    | succ c ih =>
      intro i J z6 z7 z8 ei hf hp hi
      have i0 : (0 : Int) ≤ i := by omega
      obtain ⟨bt, i16⟩ := blk_lt hD i0 (show (i : Int) < fF D (t + 1) by omega) tt0 tt1
      obtain ⟨b1, b2, b3, b4, b5, b6, b7, b8⟩ := blk_ok hD i0 i16
      obtain ⟨p1, p2, p3, p4⟩ := stPl_ok hD hA hA2 i0 tt0 tt1 (by omega)
      have oi := of (i : Int) i0 (by omega)
      have s0 := osc 0 (by decide) (by decide)
      have s1 := osc 1 (by decide) (by decide)
      have s2 := osc 2 (by decide) (by decide)
      have sm := tgE_sum hA (a := (t - blk D i).toNat) (b := (blk D i - lst D i).toNat) (c := (lst D i).toNat)
      have term := fun o (o0 : 0 ≤ o) (o1 : o < fF D (t + 1)) => st_term hD hA hA2 (i := (i : Int)) (o := o) i0 tt0 tt1 (by omega) o0 o1
      have fq : I q (xf + i) = F i := eF _
      refine wr_Mover_addStraight_12 hz h1 (by omega) y1 q0 y0 (shOk_sh hS) h2 ?_
      rw [hf a1 n1, et, ef, hf (sh + 1) (p57 _ (by simp)), hf (sh + 7) (p57 _ (by simp)), hf 55 (p57 _ (by simp)), hf q nq, fq, fi_ (t + 1) (by omega) (by omega), (shOk_blk hS i0 i16).1, fi_ (blk D i) b1 (by omega), (wz_shL7 hz hS).1, wz_shL1 hz (shOk_sh hS), e0, show (i : Int) - fF D (blk D i) = lst D i by omega]
      refine ⟨⟨by omega, by omega⟩, ⟨by omega, by omega⟩, fun w => by omega, fun _ => ⟨⟨by omega, by omega⟩, ⟨by omega, by omega⟩, fun nz => ⟨⟨by omega, by omega⟩, ⟨by omega, by omega⟩, ⟨by omega, by omega⟩, ⟨by omega, by omega⟩, ⟨by omega, by omega⟩, fun J10 e10 => ?_⟩, fun ez => ⟨⟨by omega, by omega⟩, ih (i + 1) J _ _ _ (by omega) hf (fun o o0 o1 => ?_) hi⟩⟩⟩
      · obtain ⟨f10, g10⟩ := fr_eq_iu e10
        have ff10 : fr [57, a2] I J10 := fr_trans hf (fr_mono f10 (by simp))
        rw [ff10 55 (p57 _ (by simp)), e1]
        refine ⟨⟨by omega, by omega⟩, ⟨by omega, by omega⟩, fun J13 e13 => ?_⟩
        obtain ⟨f13, g13⟩ := fr_eq_iu e13
        have ff13 : fr [57, a2] I J13 := fr_trans ff10 (fr_mono f13 (by simp))
        rw [ff13 55 (p57 _ (by simp)), e2]
        refine ⟨⟨by omega, by omega⟩, fun J15 e15 => ?_⟩
        obtain ⟨f15, g15⟩ := fr_eq_iu e15
        have ff15 : fr [57, a2] I J15 := fr_trans ff13 (fr_mono f15 (by simp))
        have pw : ∀ v : Nat, v < 3 → J15 57 (v : Int) = (tgE t0 t1 t2 v (t - blk D i).toNat (blk D i - lst D i).toNat (lst D i).toNat : Nat) := by
          intro v hv
          have := pw_set hA (J 57) (t - blk D i).toNat (blk D i - lst D i).toNat (lst D i).toNat hv
          rw [← this, g15, g13, g10, show (((t - blk D i).toNat : Nat) : Int) = t - blk D i by omega, show (((blk D i - lst D i).toNat : Nat) : Int) = blk D i - lst D i by omega, show (((lst D i).toNat : Nat) : Int) = lst D i by omega]
        rw [ff15 a1 n1, et, ff15 56 (p57 _ (by simp))]
        refine ⟨⟨by omega, by omega⟩, mI_mono (t_raise (d := d) hz s0.1 s0.2 (by omega) (by omega)) fun v18 I17 ⟨w17, ev18⟩ => ?_⟩
        subst w17
        have bb18 := fi_bd (fPow (toF (I 56 0)) (t - blk D i).toNat)
        rw [← ev18] at bb18
        have m1 := mul_bd (x := F i) (y := v18) (X := 2520) (Y := 2520) (by omega) (by omega) (by omega) (by omega)
        rw [ff15 56 (p57 _ (by simp)), tmod_pos m1.1]
        refine ⟨⟨by omega, by omega⟩, mI_mono (t_raise (d := d) hz s1.1 s1.2 (by omega) (by omega)) fun v21 I20 ⟨w20, ev21⟩ => ?_⟩
        subst w20
        have bb21 := fi_bd (fPow (toF (I 56 1)) (blk D i - lst D i).toNat)
        rw [← ev21] at bb21
        have m2 := mul_bd (x := F i * v18 % 2521) (y := v21) (X := 2520) (Y := 2520) (by omega) (by omega) (by omega) (by omega)
        rw [ff15 56 (p57 _ (by simp)), tmod_pos m2.1]
        refine ⟨⟨by omega, by omega⟩, mI_mono (t_raise (d := d) hz s2.1 s2.2 (by omega) (by omega)) fun v24 I23 ⟨w23, ev24⟩ => ?_⟩
        subst w23
        have bb24 := fi_bd (fPow (toF (I 56 2)) (lst D i).toNat)
        rw [← ev24] at bb24
        have m3 := mul_bd (x := F i * v18 % 2521 * v21 % 2521) (y := v24) (X := 2520) (Y := 2520) (by omega) (by omega) (by omega) (by omega)
        rw [tmod_pos m3.1]
        have q57 : I23 57 0 = (tgE t0 t1 t2 0 (t - blk D i).toNat (blk D i - lst D i).toNat (lst D i).toNat : Nat) := pw 0 (by decide)
        have q572 : I23 57 2 = (tgE t0 t1 t2 2 (t - blk D i).toNat (blk D i - lst D i).toNat (lst D i).toNat : Nat) := pw 2 (by decide)
        have ca2 : I23 a2 = J a2 := by
          rw [f15 a2 (fun m => a57 (by rw [List.mem_singleton] at m ⊢; exact m.symm)), f13 a2 (fun m => a57 (by rw [List.mem_singleton] at m ⊢; exact m.symm)), f10 a2 (fun m => a57 (by rw [List.mem_singleton] at m ⊢; exact m.symm))]
        have epl : x + fF D (t - (tgE t0 t1 t2 0 (t - blk D i).toNat (blk D i - lst D i).toNat (lst D i).toNat : Nat)) + (tgE t0 t1 t2 2 (t - blk D i).toNat (blk D i - lst D i).toNat (lst D i).toNat : Nat) = x + stPl D t0 t1 t2 t i := by unfold stPl; omega
        rw [ff15 a1 n1, et, q57, q572, ff15 (sh + 1) (p57 _ (by simp)), fi_ (t - (tgE t0 t1 t2 0 (t - blk D i).toNat (blk D i - lst D i).toNat (lst D i).toNat : Nat)) (by omega) (by omega), epl, ca2]
        have hpl := hp (stPl D t0 t1 t2 t i) p1 p2
        have zero : (gs i fun i' => toF (F (i' : Int)) * atE D (monoE D A (mFrom D t + i')) (mFrom D t + stPl D t0 t1 t2 t i)) = 0 := gs_zero fun i' hi' => by
          rw [st_term hD hA hA2 (i := (i' : Int)) (by omega) tt0 tt1 (by omega) p1 p2, if_neg, gs_z3]
          intro w
          have := stPl_inj hD hA hA2 (i := (i : Int)) (j := (i' : Int)) i0 (by omega) tt0 tt1 (by omega) (by omega) w
          omega
        rw [zero] at hpl
        have obp := ob (x + stPl D t0 t1 t2 t i) (by omega) (by omega)
        have fz : fi (0 : cF) = 0 := rfl
        rw [fz, Int.add_zero] at hpl
        rw [hpl]
        have fbp := fF_bd hD (s := t - (tgE t0 t1 t2 0 (t - blk D i).toNat (blk D i - lst D i).toNat (lst D i).toNat : Nat)) (by omega) (by omega)
        refine ⟨⟨by omega, by omega⟩, ⟨by omega, by omega⟩, ⟨by omega, by omega⟩, ⟨by omega, by omega⟩, ⟨by omega, by omega⟩, ⟨by omega, by omega⟩, ⟨by omega, by omega⟩, fun I32 e32 => ⟨⟨by omega, by omega⟩, ?_⟩⟩
        obtain ⟨f32, g32⟩ := fr_eq_iu e32
        refine ih (i + 1) I32 _ _ _ (by omega) (fr_trans ff15 (fr_mono f32 (by simp))) (fun o o0 o1 => ?_) fun k hk => ?_
        · rw [g32]
          show (if x + o = x + stPl D t0 t1 t2 t i then _ else I23 a2 (x + o)) = _ + fi (gs i _ + toF (F i) * atE D (monoE D A (mFrom D t + i)) (mFrom D t + o))
          rw [term o o0 o1]
          by_cases w : o = stPl D t0 t1 t2 t i
          · rw [if_pos (by omega), if_pos w, w, zero, cr_0a]
            congr 1
            rw [← fi_toF, toF_mul, toF_mod, toF_mul, toF_mod, toF_mul, ev18, ev21, ev24, toF_fi, toF_fi, toF_fi]
            congr 1
            exact st_g6 _ _ _ _
          · rw [if_neg (by omega), if_neg w, gs_z3, cr_a0, ca2]
            exact hp o o0 o1
        · rw [g32]
          show (if k = x + stPl D t0 t1 t2 t i then _ else I23 a2 k) = _
          rw [if_neg (by omega), ca2]
          exact hi k hk
      · rw [hp o o0 o1]
        show _ = _ + fi (gs i _ + toF (F i) * atE D (monoE D A (mFrom D t + i)) (mFrom D t + o))
        rw [ez, toF_zero, gs_z1, cr_a0]
  refine wr_Mover_addMoved hz ⟨fun w => absurd w es, fun _ => ?_⟩
  refine mU_mono (P := amP D A a2 x t F I) (wr_Mover_addStraight hz y0 (shOk_sh hS) ?_) fun I2 h => qU_mk h
  refine L12 (fF D (t + 1)).toNat 0 I _ _ _ (by omega) (fr_refl _ _) (fun o o0 o1 => ?_) fun k _ => rfl
  show _ = _ + fi (0 : cF)
  show _ = _ + (0 : Int)
  omega
end WSU
