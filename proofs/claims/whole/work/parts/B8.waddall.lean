/-! THE CLASS: whole polynomials are moved -/
theorem mvL_congr {D : Int} {A : cMat} {t : Int} {F G : Int → Int} (h : ∀ p, 0 ≤ p → p < fF D (t + 1) → F p = G p) (o : Int) : mvL D A t F o = mvL D A t G o := gs_congr fun i hi => by rw [h (i : Int) (by omega) (by omega)]
theorem mv_loc {D : Int} (hD : D = 2 ∨ D = 3) (A : cMat) (v : Int → Int) {t o : Int} (t0 : 0 ≤ t) (t1 : t ≤ 15) (o0 : 0 ≤ o) (o1 : o < fF D (t + 1)) : mv D A v (mFrom D t + o) = fi (mvL D A t (fun p => v (mFrom D t + p)) o) := by
  have fb := from_bds hD t0 t1
  have mn := fF_many D t
  have f16 : mFrom D (t + 1) ≤ mFrom D 16 := mFrom_mono D (by omega) (by omega)
  have dg := (sv_dg hD t0 t1 (K := mFrom D t + o) (by omega) (by omega)).1
  unfold mv
  rw [if_pos ⟨by omega, by omega⟩]
  unfold mvF mvN mvL
  rw [dg, mn]
theorem stS_fr {D : Int} {A : cMat} {I J : cm_I} (h : stS D A I) (e5 : J 55 = I 55) (e6 : J 56 = I 56) : stS D A J := by
  unfold stS
  rw [e5, e6]
  exact h
theorem mvR_fr {D : Int} {A : cMat} {I J : cm_I} (h : mvR D A I) (e : ∀ c, 53 ≤ c → c ≤ 60 → J c = I c) : mvR D A J := by
  obtain ⟨⟨T, hT⟩, h2, h3⟩ := h
  refine ⟨⟨T, mvS_fr hT (e 53 (by decide) (by decide)) (e 54 (by decide) (by decide)) (e 60 (by decide) (by decide)) (by rw [e 58 (by decide) (by decide)]; exact hT.2.1) (by rw [e 59 (by decide) (by decide)]; exact hT.2.2.1)⟩, by rw [e 53 (by decide) (by decide)]; exact h2, fun n => stS_fr (h3 (by rw [e 53 (by decide) (by decide)] at n; exact n)) (e 55 (by decide) (by decide)) (e 56 (by decide) (by decide))⟩
theorem mvR_O {D : Int} {A : cMat} {J : cm_I} (h : mvR D A J) : mvO J := by
  obtain ⟨⟨T, hT⟩, -⟩ := h
  exact ⟨hT.1, hT.2.1, hT.2.2.1, hT.2.2.2.1⟩
section WAA
variable {d : Nat} {z : cm_Z} {I : cm_I} {D : Int} {sh : Nat} {A : cMat}
def mvN8 (sh : Nat) : List Nat := [sh, sh + 1, sh + 2, sh + 7, sh + 8, 53, 54, 55, 56, 57, 58, 59, 60]
theorem t_addMoved (hz : wz z) (hS : shOk D sh I) (y0 : z.1 53 0 = sh) (hR : mvR D A I) {a1 a2 q : Nat} (h1 : 0 < a1) (n1 : a1 ∉ [53, 57, 58, 59, 60, a2]) (y1 : z.1 a1 0 = q) (q0 : 0 < q) (nq : q ∉ [53, 57, 58, 59, 60, a2]) (h2 : 0 < a2) (n2 : a2 ∉ mvN8 sh) {xf x t : Int} (ef : I a1 1 = xf) (et : I a1 2 = t) (tt0 : 0 ≤ t) (tt1 : t ≤ 15) (xf0 : 0 ≤ xf ∧ xf ≤ 1000000) (xfl : xf + fF D (t + 1) ≤ z.2.1 q) (of : ∀ p, 0 ≤ p → p < fF D (t + 1) → 0 ≤ I q (xf + p) ∧ I q (xf + p) < 2521) (x0 : 0 ≤ x ∧ x ≤ 1000000) (xl : x + fF D (t + 1) ≤ z.2.1 a2) (ob : ∀ k, x ≤ k → k < x + fF D (t + 1) → 0 ≤ I a2 k ∧ I a2 k ≤ 1000000000) : mU (d + 6) m_Mover_addMoved [vR 4 53, vR 5 a1, vR 20 a2, vI x] z I fun I1 => fr [53, 57, 58, 59, 60, a2] I I1 ∧ (∀ j, j ≠ 10 → I1 53 j = I 53 j) ∧ mvR D A I1 ∧ (∀ o, 0 ≤ o → o < fF D (t + 1) → I1 a2 (x + o) = I a2 (x + o) + fi (mvL D A t (fun p => I q (xf + p)) o)) ∧ ∀ k, ¬ (x ≤ k ∧ k < x + fF D (t + 1)) → I1 a2 k = I a2 k := by
  obtain ⟨⟨T, hT⟩, h3, h4⟩ := hR
  have key : ∀ I1, amP D A a2 x t (fun p => I q (xf + p)) I I1 → fr [53, 57, 58, 59, 60, a2] I I1 ∧ (∀ j, j ≠ 10 → I1 53 j = I 53 j) ∧ mvR D A I1 ∧ (∀ o, 0 ≤ o → o < fF D (t + 1) → I1 a2 (x + o) = I a2 (x + o) + fi (mvL D A t (fun p => I q (xf + p)) o)) ∧ ∀ k, ¬ (x ≤ k ∧ k < x + fF D (t + 1)) → I1 a2 k = I a2 k := by
    intro I1 ⟨p1, p2, p3, p4, p5⟩
    have e55 : I1 55 = I 55 := p1 55 fun m => by
      simp only [List.mem_cons, List.not_mem_nil, or_false] at m
      rcases m with w | w | w | w | w | w <;> first | omega | exact n2 (by rw [← w]; simp [mvN8])
    have e56 : I1 56 = I 56 := p1 56 fun m => by
      simp only [List.mem_cons, List.not_mem_nil, or_false] at m
      rcases m with w | w | w | w | w | w <;> first | omega | exact n2 (by rw [← w]; simp [mvN8])
    refine ⟨p1, p2, ⟨p3, by rw [p2 3 (by decide)]; exact h3, fun n => stS_fr (h4 (by rw [p2 3 (by decide)] at n; exact n)) e55 e56⟩, p4, p5⟩
  by_cases es : I 53 3 = 0
  · exact mU_mono (t_addGen hz hS y0 hT h1 n1 y1 q0 (nin_sub nq (by simp)) h2 (nin_sub n2 (by simp [mvN8])) ef et tt0 tt1 xf0 xfl of x0 xl ob es) key
  · have := t_addStr (d := d + 3) hz hS y0 hT (h4 es) h1 (nin_sub n1 (by simp)) y1 q0 (nin_sub nq (by simp)) h2 n2 ef et tt0 tt1 xf0 xfl of x0 xl ob es
    exact mU_mono this key
theorem t_addAll (hz : wz z) (hS : shOk D sh I) (y0 : z.1 53 0 = sh) (hR : mvR D A I) {f o : Nat} (f0 : 0 < f) (o0 : 0 < o) (nf : f ∉ [53, 57, 58, 59, 60, 61, o]) (no : o ∉ mvN8 sh) (no61 : o ≠ 61) (lf : mFrom D 16 ≤ z.2.1 f) (lo : mFrom D 16 ≤ z.2.1 o) {v : Int → Int} (hv : wRow D (I f) v) (ov : vOk D v) (ob : ∀ k, 0 ≤ k → k < mFrom D 16 → 0 ≤ I o k ∧ I o k ≤ 1000000000) : zcU (d + 7) m_Mover_addAllMoved [vR 4 53, vR 20 f, vR 20 o] z I fun I1 z1 => zf [61] z z1 ∧ fr [53, 57, 58, 59, 60, 61, o] I I1 ∧ (∀ j, j ≠ 10 → I1 53 j = I 53 j) ∧ mvR D A I1 ∧ (∀ k, 0 ≤ k → k < mFrom D 16 → I1 o k = I o k + mv D A v k) ∧ ∀ k, ¬ (0 ≤ k ∧ k < mFrom D 16) → I1 o k = I o k := by
  have hD := shOk_D hS
  have hs := sh_lt hS
  obtain ⟨s1, s2, s3⟩ := m16_bd hD
  have wzz : ∀ {zz : cm_Z}, zf [61] z zz → wz zz := fun h => wz_zf hz h fun a m => by rw [List.mem_singleton] at m; rw [m]; decide
  have shN : ∀ c, c ∈ [sh, sh + 1, sh + 2, sh + 7, sh + 8] → c ∉ [53, 57, 58, 59, 60, 61, o] := fun c hc m => by
    simp only [List.mem_cons, List.not_mem_nil, or_false] at m
    rcases m with w | w | w | w | w | w | w
    · subst w; simp at hc; omega
    · subst w; simp at hc; omega
    · subst w; simp at hc; omega
    · subst w; simp at hc; omega
    · subst w; simp at hc; omega
    · subst w; simp at hc; omega
    · refine no ?_
      rw [← w]
      simp only [mvN8, List.mem_cons, List.not_mem_nil, or_false] at hc ⊢
      rcases hc with q | q | q | q | q <;> simp [q]
  have Sh : ∀ {J : cm_I}, fr [53, 57, 58, 59, 60, 61, o] I J → shOk D sh J := fun h => shOk_fr hS (h _ (shN _ (by simp))) (h _ (shN _ (by simp))) (h _ (shN _ (by simp))) (h _ (shN _ (by simp))) (h _ (shN _ (by simp)))
  have f61 : f ≠ 61 := fun e => nf (by rw [e]; simp)
  have o61 : (61 : Nat) ∉ [53, 57, 58, 59, 60, o] := fun m => by
    simp only [List.mem_cons, List.not_mem_nil, or_false] at m
    rcases m with w | w | w | w | w | w <;> first | omega | exact no61 w.symm
  have L2 : ∀ (c : Nat) (t : Int) (J : cm_I) (zz : cm_Z), 0 ≤ t → t + c = 16 → zf [61] z zz → fr [53, 57, 58, 59, 60, 61, o] I J → (∀ j, j ≠ 10 → J 53 j = I 53 j) → mvR D A J → (∀ k, 0 ≤ k → k < mFrom D t → J o k = I o k + mv D A v k) → (∀ k, ¬ (0 ≤ k ∧ k < mFrom D t) → J o k = I o k) → cw (d + 6) cd_Mover_addAllMoved (kU fun I1 z1 => zf [61] z z1 ∧ fr [53, 57, 58, 59, 60, 61, o] I I1 ∧ (∀ j, j ≠ 10 → I1 53 j = I 53 j) ∧ mvR D A I1 ∧ (∀ k, 0 ≤ k → k < mFrom D 16 → I1 o k = I o k + mv D A v k) ∧ ∀ k, ¬ (0 ≤ k ∧ k < mFrom D 16) → I1 o k = I o k) 2 [some (vR 4 53), some (vR 20 f), some (vR 20 o), some (vI t)] [] (J, zz) := by
    intro c
    induction c with
    | zero =>
      intro t J zz t0 et hzf hf h53 hRJ lo_ hi_
      have e16 : t = 16 := by omega
      subst e16
      exact wr_Mover_addAllMoved_2 (wzz hzf) (by rw [hzf.1 53 (by simp)]; exact y0) (shOk_sh hS) ⟨fun _ => kU_mk ⟨hzf, hf, h53, hRJ, lo_, hi_⟩, fun w => by omega⟩
    | succ c ih =>
      intro t J zz t0 et hzf hf h53 hRJ lo_ hi_
      have t15 : t ≤ 15 := by omega
      have fb := from_bds hD t0 t15
      have mn := fF_many D t
      have f16 : mFrom D (t + 1) ≤ mFrom D 16 := mFrom_mono D (by omega) (by omega)
      have jf : J f = I f := hf f nf
      have stt := (Sh hf).2.2.2.2.1 t t0 (by omega)
      have zl : ∀ a, zz.2.1 a = z.2.1 a := fun a => by rw [hzf.2]
      have y53 : zz.1 53 0 = sh := by rw [hzf.1 53 (by simp)]; exact y0
      refine wr_Mover_addAllMoved_2 (wzz hzf) y53 (shOk_sh hS) ⟨fun w => by omega, fun _ => mI_mono (t_isZero (d := d + 5) (wzz hzf) (Sh hf) f0 (by rw [zl]; exact lf) t0 t15) fun v2 I1 ⟨e1, w1, w2⟩ => ?_⟩
      subst e1
      refine ⟨fun nz => ⟨⟨by omega, by omega⟩, ih (t + 1) I1 zz (by omega) (by omega) hzf hf h53 hRJ (fun k k0 k1 => ?_) fun k hk => hi_ k (by omega)⟩, fun ez => ⟨⟨by omega, by omega⟩, ?_⟩⟩
      · by_cases q : k < mFrom D t
        · exact lo_ k k0 q
        · rw [hi_ k (by omega)]
          have zr0 := w2.mp (by omega)
          have e : mv D A v k = 0 := by
            have := mv_loc hD A v t0 t15 (o := k - mFrom D t) (by omega) (by omega)
            rw [show mFrom D t + (k - mFrom D t) = k by omega] at this
            rw [this]
            have : mvL D A t (fun p => v (mFrom D t + p)) (k - mFrom D t) = 0 := gs_zero fun i hi => by
              show toF (v (mFrom D t + i)) * _ = 0
              rw [← hv _ (by omega) (by omega), ← jf, zr0 _ (by omega) (by omega), toF_zero, gs_z1]
            rw [this]
            rfl
          rw [e]; omega
      · rw [stt]
        refine zcU_mono (t_put (d := d + 5) (wzz hzf) (by decide) (mFrom D t) t) fun I5 Z6 ⟨b1, b2, b3, b4, b5⟩ => ?_
        have hzf6 : zf [61] z Z6 := zf_trans hzf b1
        have hf5 : fr [53, 57, 58, 59, 60, 61, o] I I5 := fr_trans hf (fr_mono b3 (by simp))
        have i5f : I5 f = I f := hf5 f nf
        have i5o : I5 o = I1 o := b3 o (by rw [List.mem_singleton]; exact no61)
        have zl6 : ∀ a, Z6.2.1 a = z.2.1 a := fun a => by rw [hzf6.2]
        have y6 : Z6.1 53 0 = sh := by rw [hzf6.1 53 (by simp)]; exact y0
        have R5 : mvR D A I5 := mvR_fr hRJ fun c c0 c1 => b3 c (by rw [List.mem_singleton]; omega)
        refine ⟨wzz hzf6, y6, ?_⟩
        rw [(Sh hf5).2.2.2.2.1 t t0 (by omega)]
        refine mU_mono (t_addMoved (d := d) (wzz hzf6) (Sh hf5) y6 R5 (a1 := 61) (q := f) (xf := mFrom D t) (t := t) (by decide) o61 b2 f0 (nin_sub nf (by simp)) o0 no b4 b5 t0 t15 (by omega) (by rw [zl6, mn]; omega) (fun p p0 p1 => by rw [i5f, hv _ (by omega) (by omega)]; exact ov.1 _) (by omega) (by rw [zl6, mn]; omega) fun k k0 k1 => by rw [i5o, hi_ k (by omega)]; exact ob k (by omega) (by omega)) fun I9 ⟨g1, g2, g3, g4, g5⟩ => ⟨⟨by omega, by omega⟩, ih (t + 1) I9 Z6 (by omega) (by omega) hzf6 (fr_trans hf5 (fr_mono g1 (by simp))) (fun j hj => ?_) g3 (fun k k0 k1 => ?_) fun k hk => ?_⟩
        · rw [g2 j hj, b3 53 (by simp)]; exact h53 j hj
        · by_cases q : k < mFrom D t
          · rw [g5 k (by omega), i5o]; exact lo_ k k0 q
          · have := g4 (k - mFrom D t) (by omega) (by omega)
            rw [show mFrom D t + (k - mFrom D t) = k by omega] at this
            rw [this, i5o, hi_ k (by omega)]
            have e := mv_loc hD A v t0 t15 (o := k - mFrom D t) (by omega) (by omega)
            rw [show mFrom D t + (k - mFrom D t) = k by omega] at e
            rw [e]
            congr 2
            exact mvL_congr (fun p p0 p1 => by rw [i5f]; exact hv _ (by omega) (by omega)) _
        · rw [g5 k (by omega), i5o]; exact hi_ k (by omega)
  refine wr_Mover_addAllMoved hz ?_
  exact L2 16 0 I z (Int.le_refl 0) (by omega) (zf_refl _ _) (fr_refl _ _) (fun _ _ => rfl) hR (fun k k0 k1 => by rw [mFrom_0 hD] at k1; omega) fun _ _ => rfl
end WAA
