/-! Rewriter.addProducts -/
theorem nin1 {a b : Nat} (h : a ≠ b) : a ∉ [b] := fun m => h (List.mem_singleton.mp m)
section WAP2
variable {d : Nat} {z : cm_Z} {I : cm_I} {D : Int} {sh mb : Nat} {T : Nat → cMat} {nt n : Nat} {L : Nat → cMat} {v : Nat → Int → Int} {dg : Nat → Int}
/-- a step that leaves grade t's own products alone -/
theorem apF_Q0 (hg : gw z) {t m : Nat} {X : Nat → tup4} (t15 : t < 16) {z1 : cm_Z} {I1 : cm_I} (hz : zf [205, 207] z z1) (hf : fr [203, 204, 205, 207] I I1) (hQ : grQ D T nt v dg t m X z I) : grQ D T nt v dg t m X z1 I1 ∧ apF t z I z1 I1 := by
  have nn : ∀ j, j < 6 → gG z t j ∉ [203, 204, 205, 207] := fun j hj => by
    have kk : 1 + 6 * t + j < 97 := by omega
    have n3 := gw_fix hg (c := 203) (by decide) (by decide) (by decide) kk
    have n4 := gw_fix hg (c := 204) (by decide) (by decide) (by decide) kk
    have n5 := gw_fix hg (c := 205) (by decide) (by decide) (by decide) kk
    have n7 := gw_fix hg (c := 207) (by decide) (by decide) (by decide) kk
    simp
    exact ⟨fun e => n3 e.symm, fun e => n4 e.symm, fun e => n5 e.symm, fun e => n7 e.symm⟩
  have ha : I1 (73 + 7 * t) = I (73 + 7 * t) := hf _ (by simp; omega)
  exact ⟨grQ_fr hQ (fun j j1 j6 => ⟨gG_zf hz gO_57 t15 j6, by rw [hz.2], hf _ (nn j j6)⟩) (by rw [ha]), hz, fr_mono hf (by simp [apL]), fun j _ => by rw [ha]⟩
theorem t_addProducts (hE : bsE D sh mb T nt n L z I) (S : sx_S D T nt n L v dg) (y : z.1 198 2 = sh) {t τ : Nat} (t15 : t < 16) (hτ : (τ : Int) < D) (le : dg τ ≤ t) (b1 : I (73 + 7 * t) 1 = 1) (hP : prA D T nt v dg I) (low : ∀ t', t' < t → grC D T nt v dg t' z I) {m : Nat} {X : Nat → tup4} (hQ : grQ D T nt v dg t m X z I) (cov : ∀ x, pxX D T nt v dg t x → 1 ≤ lastP x → lastP x ≤ τ → ∃ i, i < m ∧ X i = x) (own : ∀ i, i < m → 1 ≤ lastP (X i) ∧ lastP (X i) ≤ τ) : zcU (d + 3) m_Rewriter_addProducts [vR 8 198, vR 2 (73 + 7 * t), vI (τ : Int)] z I fun I1 z1 => apF t z I z1 I1 ∧ ∃ (m1 : Nat) (X1 : Nat → tup4), grQ D T nt v dg t m1 X1 z1 I1 ∧ (∀ x, pxX D T nt v dg t x → 1 ≤ lastP x → lastP x ≤ τ + 1 → ∃ i, i < m1 ∧ X1 i = x) ∧ ∀ i, i < m1 → 1 ≤ lastP (X1 i) ∧ lastP (X1 i) ≤ τ + 1 := by
  have hD := S.1
  have th := px_th S hτ
  obtain ⟨g, hg⟩ : ∃ g : Nat, (g : Int) = dg τ := ⟨(dg τ).toNat, by omega⟩
  obtain ⟨t', ht⟩ : ∃ t', t = g + t' := ⟨t - g, by omega⟩
  subst ht
  obtain ⟨ρ, p1, p2, p3, p4, p5⟩ := hP τ hτ
  rw [← hg] at p1 p3 p4 p5
  rw [Int.toNat_natCast] at p5
  obtain ⟨lb1, X', hQ', cov'⟩ := low t' (by omega)
  have hz := hE.1.1
  have hgw := hE.2.1
  have gg := gd_get hE (t := g) (by omega) p5
  have ga := gd_get hE (t := g + t') t15 b1
  have gl := gd_get hE (t := t') (by omega) lb1
  have mg := mMany_136 hD (t := g) (by omega)
  have mt := mMany_136 hD (t := t') (by omega)
  have mgt := mMany_136 hD (t := g + t') (by omega)
  have bx : 0 ≤ mMany D g * (ρ : Int) ∧ mMany D g * (ρ : Int) + mMany D g ≤ z.2.1 (gG z g 0) ∧ z.2.1 (gG z g 0) ≤ 23409 := by
    refine ⟨Int.mul_nonneg (by omega) (by omega), Int.le_trans ?_ gg.2.2.2.2.1, (hgw.2.1 _ (by omega)).2.2.2⟩
    rw [show mMany D g * (ρ : Int) + mMany D g = mMany D g * ((ρ : Int) + 1) by rw [Int.mul_add, Int.mul_one]]
    exact Int.mul_le_mul_of_nonneg_left (by omega) (by omega)
  obtain ⟨s, hs⟩ : ∃ s, s = bsRows D T nt ((g + t' : Nat) : Int) := ⟨_, rfl⟩
  obtain ⟨s', hs'⟩ : ∃ s', s' = bsRows D T nt (t' : Int) := ⟨_, rfl⟩
  rw [← hs'] at hQ' cov'
  have X'ok : ∀ i, i < s' → pxX D T nt v dg t' (X' i) := fun i hi => (hQ'.2.2.2.1 i hi).2
  have X'in := hQ'.2.2.2.2.1
  have e_t : (((g + t' : Nat) : Int)) = (t' : Int) + dg τ := by omega
  have up : ∀ i, i < s' → (τ < 1 → (X' i).2.2.1 ≤ 0) → (τ < 2 → (X' i).2.2.2 ≤ 0) → pxX D T nt v dg (g + t') (upT τ (X' i)) ∧ lastP (upT τ (X' i)) = τ + 1 ∧ sx_t D T nt v (pxL D T nt v dg) (upT τ (X' i)) = cMul (toP D (v τ)) (sx_t D T nt v (pxL D T nt v dg) (X' i)) := fun i hi f1 f2 => px_up S hτ e_t (by omega) (X'ok i hi) f1 f2
  obtain ⟨Q, hQQ⟩ : ∃ Q : cm_Q, Q = kU fun I1 z1 => apF (g + t') z I z1 I1 ∧ ∃ (m1 : Nat) (X1 : Nat → tup4), grQ D T nt v dg (g + t') m1 X1 z1 I1 ∧ (∀ x, pxX D T nt v dg (g + t') x → 1 ≤ lastP x → lastP x ≤ τ + 1 → ∃ i, i < m1 ∧ X1 i = x) ∧ ∀ i, i < m1 → 1 ≤ lastP (X1 i) ∧ lastP (X1 i) ≤ τ + 1 := ⟨_, rfl⟩
  -- the end
  have fin : ∀ (m : Nat) (X : Nat → tup4) (J : cm_I) (z' : cm_Z), apF (g + t') z I z' J → grQ D T nt v dg (g + t') m X z' J → (∀ x, pxX D T nt v dg (g + t') x → 1 ≤ lastP x → lastP x ≤ τ → ∃ i, i < m ∧ X i = x) → (∀ i, i < s' → (τ < 1 → (X' i).2.2.1 ≤ 0) → (τ < 2 → (X' i).2.2.2 ≤ 0) → ∃ k, k < m ∧ X k = upT τ (X' i)) → (∀ k, k < m → 1 ≤ lastP (X k) ∧ (lastP (X k) ≤ τ ∨ lastP (X k) = τ + 1)) → Q none (J, z') := by
    intro m X J z' hF hq cv i4 i5
    rw [hQQ]
    refine kU_mk ⟨hF, m, X, hq, fun x hx h1 h2 => ?_, fun i hi => ?_⟩
    · by_cases w : lastP x ≤ τ
      · exact cv x hx h1 w
      · obtain ⟨_, _, x', e, f1, f2, hx'⟩ := px_dn S (τ := τ) (by omega) hx (by omega)
        obtain ⟨i, hi, ei⟩ := cov' x' (hx' t' e_t)
        obtain ⟨k, hk, ek⟩ := i4 i hi (by rw [ei]; exact f1) (by rw [ei]; exact f2)
        exact ⟨k, hk, by rw [ek, ei]; exact e.symm⟩
    · have := i5 i hi
      omega
  have L77 : ∀ (u i m : Nat) (X : Nat → tup4) (J : cm_I) (z' : cm_Z) (x4 x6 x7 x8 x9 x10 : Option cm_V), i + u = s' → apF (g + t') z I z' J → (z'.1 205 0 = gG z g 0 ∧ J 205 1 = mMany D g * (ρ : Int) ∧ J 205 2 = (g : Int)) → grQ D T nt v dg (g + t') m X z' J → (∀ x, pxX D T nt v dg (g + t') x → 1 ≤ lastP x → lastP x ≤ τ → ∃ i, i < m ∧ X i = x) → (∀ i', i' < i → (τ < 1 → (X' i').2.2.1 ≤ 0) → (τ < 2 → (X' i').2.2.2 ≤ 0) → ∃ k, k < m ∧ X k = upT τ (X' i')) → (∀ k, k < m → 1 ≤ lastP (X k) ∧ (lastP (X k) ≤ τ ∨ (lastP (X k) = τ + 1 ∧ ∃ i', i' < i ∧ X k = upT τ (X' i')))) → cw (d + 2) cd_Rewriter_addProducts Q 77 [some (vR 8 198), some (vR 2 (73 + 7 * (g + t'))), some (vI (τ : Int)), some (vR 2 (73 + 7 * t')), x4, some (vI (i : Int)), x6, x7, x8, x9, x10] [] (J, z') := by
    intro u
    induction u with
    | zero =>
      intro i m X J z' x4 x6 x7 x8 x9 x10 ei hF hp hq cv i4 i5
      have hE' := apF_E hE t15 hF
      have hq' := apF_Q hgw t15 (by omega) (by omega) hF hQ'
      have k8 : 1 + 6 * t' + 3 < 97 := by omega
      refine wr_Rewriter_addProducts_77 hE'.1.1 (by omega) (by omega) (show z'.1 (73 + 7 * t') 8 = gG z' t' 3 by rw [gG_at (i := t') (by omega) (j := 3) (s := 8) (by decide) rfl]; rfl) (gw_pos hE'.2.1 k8) ?_
      rw [hq'.2.1]
      exact ⟨fun _ => fin m X J z' hF hq cv (fun i' h1 => i4 i' (by omega)) (fun k hk => ⟨(i5 k hk).1, by rcases (i5 k hk).2 with w | w; exact Or.inl w; exact Or.inr w.1⟩), fun w => by omega⟩
    | succ u ih =>
      intro i m X J z' x4 x6 x7 x8 x9 x10 ei hF hp hq cv i4 i5
      have hE' := apF_E hE t15 hF
      have hg' := hE'.2.1
      have hq' := apF_Q hgw t15 (by omega) (by omega) hF hQ'
      have k7 : 1 + 6 * t' + 2 < 97 := by omega
      have k8 : 1 + 6 * t' + 3 < 97 := by omega
      have k7a : 1 + 6 * (g + t') + 2 < 97 := by omega
      have k8a : 1 + 6 * (g + t') + 3 < 97 := by omega
      have y8 : z'.1 (73 + 7 * t') 8 = gG z' t' 3 := by rw [gG_at (i := t') (by omega) (j := 3) (s := 8) (by decide) rfl]; rfl
      have ja3 : J (73 + 7 * (g + t')) 3 = (s : Int) := by rw [hF.2.2 3 (by decide), ga.2.2.1, hs]
      have jt1 : J (73 + 7 * t') = I (73 + 7 * t') := hF.2.1 _ (apL_ob hgw t15 (by omega) (by omega))
      have hi' : i < s' := by omega
      have lx := (hq'.2.2.2.1 i hi').1
      have xb := px_bd S (t := t') (by omega) (X'ok i hi')
      have l1 : J (gG z' t' 3) (4 * (i : Int)) = (X' i).1 := congrArg (fun q : tup4 => q.1) lx
      have l2 : J (gG z' t' 3) (4 * (i : Int) + 1) = (X' i).2.1 := congrArg (fun q : tup4 => q.2.1) lx
      have l3 : J (gG z' t' 3) (4 * (i : Int) + 2) = (X' i).2.2.1 := congrArg (fun q : tup4 => q.2.2.1) lx
      have l4 : J (gG z' t' 3) (4 * (i : Int) + 3) = (X' i).2.2.2 := congrArg (fun q : tup4 => q.2.2.2) lx
      have s136 : s' ≤ 136 ∧ s ≤ 136 := ⟨by have := gl.2.2.2.1; omega, by have := ga.2.2.2.1; omega⟩
      have len8 : 4 * (s' : Int) ≤ z'.2.1 (gG z' t' 3) := by rw [hs']; exact hq'.2.2.1.2.1
      -- this one is left out
      have skip : ¬ ((τ < 1 → (X' i).2.2.1 ≤ 0) ∧ (τ < 2 → (X' i).2.2.2 ≤ 0)) → ∀ (x4 x6 x7 x8 x9 x10 : Option cm_V), cw (d + 2) cd_Rewriter_addProducts Q 77 [some (vR 8 198), some (vR 2 (73 + 7 * (g + t'))), some (vI (τ : Int)), some (vR 2 (73 + 7 * t')), x4, some (vI ((i : Int) + 1)), x6, x7, x8, x9, x10] [] (J, z') := by
        intro nf x4 x6 x7 x8 x9 x10
        have := ih (i + 1) m X J z' x4 x6 x7 x8 x9 x10 (by omega) hF hp hq cv (fun i' h1 f1 f2 => ?_) (fun k hk => ⟨(i5 k hk).1, by
          rcases (i5 k hk).2 with w | ⟨w, i', h1, h2⟩
          · exact Or.inl w
          · exact Or.inr ⟨w, i', by omega, h2⟩⟩)
        · rw [show ((i + 1 : Nat) : Int) = (i : Int) + 1 by omega] at this
          exact this
        · by_cases w : i' = i
          · rw [w] at f1 f2
            exact absurd ⟨f1, f2⟩ nf
          · exact i4 i' (by omega) f1 f2
      -- this one is taken
      have take : (τ < 1 → (X' i).2.2.1 ≤ 0) → (τ < 2 → (X' i).2.2.2 ≤ 0) → m < s → ∀ (x4 x9 x10 : Option cm_V), cw (d + 2) cd_Rewriter_addProducts Q 148 [some (vR 8 198), some (vR 2 (73 + 7 * (g + t'))), some (vI (τ : Int)), some (vR 2 (73 + 7 * t')), x4, some (vI (i : Int)), some (vI (4 * (i : Int))), some (vI (X' i).2.2.1), some (vI (X' i).2.2.2), x9, x10] [] (J, z') := by
        intro f1 f2 ms x4 x9 x10
        obtain ⟨u1, u2, u3⟩ := up i hi' f1 f2
        have y7 : z'.1 (73 + 7 * t') 7 = gG z' t' 2 := by rw [gG_at (i := t') (by omega) (j := 2) (s := 7) (by decide) rfl]; rfl
        have bi : 0 ≤ mMany D t' * (i : Int) ∧ mMany D t' * (i : Int) + mMany D t' ≤ z'.2.1 (gG z' t' 2) ∧ z'.2.1 (gG z' t' 2) ≤ 23409 := by
          refine ⟨Int.mul_nonneg (by omega) (by omega), Int.le_trans ?_ hq'.2.2.1.1, (hg'.2.1 _ k7).2.2.2⟩
          rw [show mMany D t' * (i : Int) + mMany D t' = mMany D t' * ((i : Int) + 1) by rw [Int.mul_add, Int.mul_one], ← hs']
          exact Int.mul_le_mul_of_nonneg_left (by omega) (by omega)
        refine wr_Rewriter_addProducts_148 hE'.1.1 (by omega) y7 (by omega) ?_
        rw [jt1, gl.2.1, gl.1]
        refine ⟨by unfold cm_i; omega, ?_⟩
        refine zcU_mono (t_put (d := d + 1) hE'.1.1 (a := 207) (by decide) (mMany D t' * (i : Int)) (t' : Int)) fun I2 Z3 ⟨r1, r2, r3, r4, r5⟩ => ?_
        have r1' : zf [205, 207] z' Z3 := zf_mono r1 (by simp)
        obtain ⟨qa, F2⟩ := apF_Q0 hg' t15 (I1 := I2) r1' (fr_mono r3 (by simp)) hq
        have E2 := apF_E hE' t15 F2
        have q2' := apF_Q hg' t15 (by omega) (by omega) F2 hq'
        have hp5 : I2 (73 + 7 * g) 1 = 1 := by
          rw [r3 _ (by simp; omega)]
          by_cases w : g = g + t'
          · have := hF.2.2 1 (by decide)
            rw [show 73 + 7 * g = 73 + 7 * (g + t') by omega, this]; exact b1
          · rw [hF.2.1 _ (apL_ob hgw t15 (by omega) w)]; exact p5
        have gg2 := gd_get E2 (t := g) (by omega) hp5
        have G3 : gG Z3 g 0 = gG z g 0 := by rw [gG_zf r1' gO_57 (by omega) (by decide), gG_zf hF.1 gO_57 (by omega) (by decide)]
        have kg : 1 + 6 * g + 0 < 97 := by omega
        have LZ : ∀ c, Z3.2.1 c = z.2.1 c := fun c => by rw [r1.2, hF.1.2]
        have y198 : Z3.1 198 2 = sh := by rw [r1.1 198 (by decide), hF.1.1 198 (by decide)]; exact y
        have G7 : gG Z3 t' 2 = gG z' t' 2 := gG_zf r1' gO_57 (by omega) (by decide)
        refine mU_mono (t_putSum (d := d) E2.1.1 E2.1.2.1 y198 (a := 73 + 7 * (g + t')) (qf := gG z g 0) (qg := gG z' t' 2) (p := g) (q := t') (xf := mMany D g * (ρ : Int)) (xg := mMany D t' * (i : Int)) (u := (bsX D T nt g).2 ρ) (w := pxV D T nt v dg t' (X' i)) (by omega) (by omega) (by rw [r1.1 205 (by decide)]; exact hp.1) r2 (gw_pos hgw kg) (gw_pos hg' k7) (Ne.symm (gw_fix hgw (by decide) (by decide) (by decide) kg)) (Ne.symm (gw_fix hg' (by decide) (by decide) (by decide) k7)) (by rw [r3 205 (by decide)]; exact hp.2.1) (by rw [r3 205 (by decide)]; exact hp.2.2) r4 r5 (by omega) ⟨bx.1, by omega⟩ (by rw [LZ]; exact bx.2.1) ⟨bi.1, by omega⟩ (by rw [r1.2]; exact bi.2.1) (fun k hk => ?_) (fun k hk => ?_) ?_) fun I4 ⟨s1, s2⟩ => ?_
        · have := gg2.2.2.2.2.2.2.2.1 ρ k p3 hk
          rw [G3] at this
          exact this
        · have := q2'.2.2.2.2.2.1 i k hi' hk
          rw [G7] at this
          exact this
        · rw [F2.2.2 2 (by decide), hF.2.2 2 (by decide), ga.2.1]
        obtain ⟨W, hW⟩ : ∃ W, W = pxV D T nt v dg (g + t') (upT τ (X' i)) := ⟨_, rfl⟩
        have sumW : ∀ k : Nat, k < (mMany D ((g + t' : Nat) : Int)).toNat → I4 204 (k : Int) = fi (W k) := by
          intro k hk
          rw [s2 k hk, hW]
          show _ = fi (sv_c D ((g + t' : Nat) : Int) (sx_t D T nt v (pxL D T nt v dg) (upT τ (X' i))) k)
          rw [u3, p4]
          show fi (sv_c D ((g + t' : Nat) : Int) (cMul (toP D (bRow D g ((bsX D T nt g).2 ρ))) (toP D (bRow D t' (sv_c D t' (sx_t D T nt v (pxL D T nt v dg) (X' i)))))) k) = _
          rw [sv_back hD (by omega) (px_z S (X'ok i hi'))]
        obtain ⟨qa4, F4⟩ := apF_Q0 E2.2.1 t15 (I1 := I4) (zf_refl _ Z3) (fr_mono s1 (by simp)) qa
        have E4 := apF_E E2 t15 F4
        have b4 : I4 (73 + 7 * (g + t')) 1 = 1 := by rw [F4.2.2 1 (by decide), F2.2.2 1 (by decide), hF.2.2 1 (by decide)]; exact b1
        have l204 : Z3.2.1 204 = 136 := wz_L E2.1.1 204 136 (by decide) (by decide)
        refine ⟨E2.1.1, mU_mono (gr_parts (d := d + 1) E4 t15 b4 qa4 (a1 := 204) (x := 0) (by decide) (by decide) (by decide) (by decide) (by rw [l204]; omega) (W := W) (fun k hk => by rw [Int.zero_add]; exact sumW k hk)) fun I6 ⟨w1, w2⟩ => ?_⟩
        obtain ⟨qa6, F6⟩ := apF_Q0 E4.2.1 t15 (I1 := I6) (zf_refl _ Z3) (fr_mono w1 (by simp)) qa4
        have E6 := apF_E E4 t15 F6
        have b6 : I6 (73 + 7 * (g + t')) 1 = 1 := by rw [F6.2.2 1 (by decide)]; exact b4
        have ne3 : ∀ j, j < 6 → gG Z3 (g + t') j ∉ [203] := fun j hj => nin1 (Ne.symm (gw_fix E2.2.1 (c := 203) (by decide) (by decide) (by decide) (k := 1 + 6 * (g + t') + j) (by omega)))
        refine mI_mono (gr_ins (d := d) E6 S t15 b6 qa6 (W := W) (by rw [hW]; exact px_iV S (by omega) u1) (fun c hc => by rw [w2 c hc, w1 _ (ne3 1 (by decide)), w1 _ (ne3 5 (by decide))])) fun r I7 alt => ?_
        have nx : ∀ k, k < m → X k ≠ upT τ (X' i) := by
          intro k hk e
          rcases (i5 k hk).2 with w | ⟨_, i', h1, h2⟩
          · rw [e, u2] at w; omega
          · have := X'in i' i (by omega) hi' (upT_inj (h2.symm.trans e))
            omega
        rcases alt with ⟨ar, af, ains⟩ | ⟨ar, af, ams, ae, _, alu⟩
        · exfalso
          -- independent ones
          have ind := px_ind S (t := g + t') (m := m + 1) (by omega) (X := fun k => if k = m then upT τ (X' i) else X k) (fun k hk => by
            show pxX D T nt v dg (g + t') (if k = m then _ else X k)
            by_cases w : k = m
            · rw [if_pos w]; exact u1
            · rw [if_neg w]; exact (hq.2.2.2.1 k (by omega)).2) (fun a b ha hb e => by
            have e' : (if a = m then upT τ (X' i) else X a) = if b = m then upT τ (X' i) else X b := e
            by_cases w : a = m
            · by_cases w' : b = m
              · omega
              · rw [if_pos w, if_neg w'] at e'
                exact absurd e'.symm (nx b (by omega))
            · by_cases w' : b = m
              · rw [if_neg w, if_pos w'] at e'
                exact absurd e' (nx a (by omega))
              · rw [if_neg w, if_neg w'] at e'
                exact hq.2.2.2.2.1 a b (by omega) (by omega) e')
          obtain ⟨cc, hcc⟩ := ains
          have q := ind (fun k => if k = m then 1 else - cc k) (fun k hk => ?_) m (by omega)
          · rw [if_pos rfl] at q
            exact f_one_ne q
          · show (gs m fun j => (if j = m then (1 : cF) else - cc j) * pxV D T nt v dg (g + t') (if j = m then upT τ (X' i) else X j) k) + (if m = m then (1 : cF) else - cc m) * pxV D T nt v dg (g + t') (if m = m then upT τ (X' i) else X m) k = 0
            have hw := hcc k hk
            unfold lc at hw
            rw [if_pos rfl, if_pos rfl, ← hW, hw, gs_congr (g := fun j => - (cc j * pxV D T nt v dg (g + t') (X j) k)) fun j hj => ?_, gs_neg]
            · generalize (gs m fun j => cc j * pxV D T nt v dg (g + t') (X j) k) = y
              have gen : ∀ {R : Type} [Lean.Grind.CommRing R] (y : R), - y + 1 * y = 0 := by intro R _ y; grind
              exact gen y
            · rw [if_neg (by omega), if_neg (by omega)]
              generalize pxV D T nt v dg (g + t') (X j) k = y
              generalize cc j = x
              have gen : ∀ {R : Type} [Lean.Grind.CommRing R] (x y : R), - x * y = - (x * y) := by intro R _ x y; grind
              exact gen x y
        · have i76 : I7 (73 + 7 * (g + t')) 6 = ((m + 1 : Nat) : Int) := by
            rw [ae]
            exact if_pos rfl
          have G8 : Z3.1 (73 + 7 * t') 8 = gG z' t' 3 := by rw [r1.1 _ (by simp; omega)]; exact y8
          have i78 : I7 (gG z' t' 3) = J (gG z' t' 3) := by
            have o1 : gG z' t' 3 ∉ [203, 204, 205, 207] := by
              have n3 := gw_fix hg' (c := 203) (by decide) (by decide) (by decide) k8
              have n4 := gw_fix hg' (c := 204) (by decide) (by decide) (by decide) k8
              have n5 := gw_fix hg' (c := 205) (by decide) (by decide) (by decide) k8
              have n7 := gw_fix hg' (c := 207) (by decide) (by decide) (by decide) k8
              simp
              exact ⟨fun e => n3 e.symm, fun e => n4 e.symm, fun e => n5 e.symm, fun e => n7 e.symm⟩
            have o2 : gG z' t' 3 ∉ apL (g + t') Z3 := by
              have := apL_gr E2.2.1 (t := g + t') (t' := t') (j' := 3) t15 (by omega) (by decide) (Or.inl (by omega))
              rw [gG_zf r1' gO_57 (by omega) (by decide)] at this
              exact this
            rw [af _ (nin_sub o2 (by simp [apL])), w1 _ (nin_sub o1 (by simp)), s1 _ (nin_sub o1 (by simp)), r3 _ (nin_sub o1 (by simp))]
          rw [i76, G8, i78, l2]
          refine ⟨fun w => by omega, fun _ => ⟨by unfold cm_i; omega, by unfold cm_i; omega, gw_pos hg' k8, ⟨by omega, by rw [r1.2]; omega⟩, ?_⟩⟩
          have em1 : ((m + 1 : Nat) : Int) - 1 = (m : Int) := by omega
          rw [em1]
          -- it is told and copied
          have last : ∀ (x4 x6 x7 x8 x10 : Option cm_V) (a' b' c s0 : Int), ((X' i).1, a', b', c + s0) = upT τ (X' i) → (0 ≤ c + s0 ∧ c + s0 ≤ 100) → cw (d + 2) cd_Rewriter_addProducts Q 265 [some (vR 8 198), some (vR 2 (73 + 7 * (g + t'))), some (vI (τ : Int)), some (vR 2 (73 + 7 * t')), x4, some (vI (i : Int)), x6, x7, x8, some (vI (m : Int)), x10] [vI s0, vI c, vI b', vI a', vI (X' i).1, vI (m : Int), vR 2 (73 + 7 * (g + t'))] (I7, Z3) := by
            intro x4 x6 x7 x8 x10 a' b' c s0 eup bc
            have ya7 : Z3.1 (73 + 7 * (g + t')) 7 = gG Z3 (g + t') 2 := by rw [gG_at t15 (j := 2) (s := 7) (by decide) rfl]; rfl
            have ya8 : Z3.1 (73 + 7 * (g + t')) 8 = gG Z3 (g + t') 3 := by rw [gG_at t15 (j := 3) (s := 8) (by decide) rfl]; rfl
            refine wr_Rewriter_addProducts_265 E2.1.1 (by omega) ya7 (gw_pos E2.2.1 k7a) ⟨by unfold cm_i; omega, ?_⟩
            refine mU_mono (t_label (d := d + 1) E2.1.1 (a := 73 + 7 * (g + t')) (q8 := gG Z3 (g + t') 3) (w := m) (j := (X' i).1) (x := a') (y := b') (c := c + s0) (by omega) (gw_pos E2.2.1 k8a) ya8 (by omega) (by have := qa.2.2.1.2.1; rw [← hs] at this; omega)) fun I8 ⟨v1, v2⟩ => ?_
            have i82 : I8 (73 + 7 * (g + t')) 2 = mMany D ((g + t' : Nat) : Int) := by
              rw [v1 _ (nin1 (Ne.symm (gw_gr E2.2.1 t15 k8a))), ae]
              show (if (2 : Int) = 6 then _ else I6 (73 + 7 * (g + t')) 2) = _
              rw [if_neg (by decide), F6.2.2 2 (by decide), F4.2.2 2 (by decide), F2.2.2 2 (by decide), hF.2.2 2 (by decide), ga.2.1]
            rw [i82]
            have bm : 0 ≤ mMany D ((g + t' : Nat) : Int) * (m : Int) ∧ mMany D ((g + t' : Nat) : Int) * (m : Int) + mMany D ((g + t' : Nat) : Int) ≤ Z3.2.1 (gG Z3 (g + t') 2) ∧ Z3.2.1 (gG Z3 (g + t') 2) ≤ 23409 := by
              refine ⟨Int.mul_nonneg (by omega) (by omega), Int.le_trans ?_ qa.2.2.1.1, (E2.2.1.2.1 _ k7a).2.2.2⟩
              rw [show mMany D ((g + t' : Nat) : Int) * (m : Int) + mMany D ((g + t' : Nat) : Int) = mMany D ((g + t' : Nat) : Int) * ((m : Int) + 1) by rw [Int.mul_add, Int.mul_one], ← hs]
              exact Int.mul_le_mul_of_nonneg_left (by omega) (by omega)
            refine ⟨by unfold cm_i; omega, ⟨by decide, by omega, by omega, by omega, by omega⟩, fun I9 e9 => ⟨by unfold cm_i; omega, ?_⟩⟩
            have n204 : (204 : Nat) ∉ [gG Z3 (g + t') 3] := nin1 (gw_fix E2.2.1 (c := 204) (by decide) (by decide) (by decide) k8a)
            have g6 := gd_get E6 (t := g + t') t15 b6
            obtain ⟨hd, hRB, hhd⟩ := g6.2.2.2.2.2.2.2.2
            obtain ⟨qn, fn, sn⟩ := gq_add (I := I6) (I1 := I7) (I2 := I8) (I3 := I9) (src := 204) (off := 0) (x := upT τ (X' i)) (W := W) E2.2.1 hD t15 qa6 (fun r hr => by rw [hhd r hr]; have := hRB.2.1 r hr; omega) af ams ae alu v1 (fun k => by rw [v2 k, eup]) e9 (fun k hk => by
              rw [Int.zero_add, v1 204 n204, af 204 (by
                have n4 := fun j (hj : j < 6) => gw_fix E2.2.1 (c := 204) (by decide) (by decide) (by decide) (k := 1 + 6 * (g + t') + j) (by omega)
                simp
                exact ⟨by omega, n4 4 (by decide), n4 5 (by decide)⟩), w1 204 (by decide)]
              exact sumW k hk) u1 (fun k hk => by rw [hW]) nx
            have F9 : apF (g + t') Z3 I6 Z3 I9 := ⟨zf_refl _ _, fr_mono fn (by simp [apL]), sn⟩
            have FA : apF (g + t') z I Z3 I9 := apF_trans t15 hF (apF_trans t15 F2 (apF_trans t15 F4 (apF_trans t15 F6 F9)))
            have i205 : I9 205 = J 205 := by
              have n5 := fun j (hj : j < 6) => gw_fix E2.2.1 (c := 205) (by decide) (by decide) (by decide) (k := 1 + 6 * (g + t') + j) (by omega)
              rw [fn 205 (by simp; exact ⟨by omega, n5 2 (by decide), n5 3 (by decide), n5 4 (by decide), n5 5 (by decide)⟩), w1 205 (by decide), s1 205 (by decide), r3 205 (by decide)]
            have := ih (i + 1) (m + 1) (fun k => if k = m then upT τ (X' i) else X k) I9 Z3 x4 x6 x7 x8 (some (vI (m : Int))) x10 (by omega) FA ⟨by rw [r1.1 205 (by decide)]; exact hp.1, by rw [i205]; exact hp.2.1, by rw [i205]; exact hp.2.2⟩ qn (fun x hx h1 h2 => ?_) (fun i' h1 g1 g2 => ?_) (fun k hk => ?_)
            · rw [show ((i + 1 : Nat) : Int) = (i : Int) + 1 by omega] at this
              exact this
            · obtain ⟨k, hk, e⟩ := cv x hx h1 h2
              exact ⟨k, by omega, by show (if k = m then _ else X k) = x; rw [if_neg (by omega)]; exact e⟩
            · by_cases w : i' = i
              · exact ⟨m, by omega, by show (if m = m then _ else X m) = _; rw [if_pos rfl, w]⟩
              · obtain ⟨k, hk, e⟩ := i4 i' (by omega) g1 g2
                exact ⟨k, by omega, by show (if k = m then _ else X k) = _; rw [if_neg (by omega)]; exact e⟩
            · show 1 ≤ lastP (if k = m then _ else X k) ∧ (lastP (if k = m then _ else X k) ≤ τ ∨ (lastP (if k = m then _ else X k) = τ + 1 ∧ ∃ i', i' < i + 1 ∧ (if k = m then _ else X k) = upT τ (X' i')))
              by_cases w : k = m
              · rw [if_pos w]
                exact ⟨by omega, Or.inr ⟨u2, i, by omega, rfl⟩⟩
              · rw [if_neg w]
                refine ⟨(i5 k (by omega)).1, ?_⟩
                rcases (i5 k (by omega)).2 with w | ⟨w, i', h1, h2⟩
                · exact Or.inl w
                · exact Or.inr ⟨w, i', by omega, h2⟩
          have z3_8 : Z3.1 (73 + 7 * t') 8 = gG z' t' 3 := G8
          have t012 : τ = 0 ∨ τ = 1 ∨ τ = 2 := by omega
          have l1' : I7 (gG z' t' 3) (4 * (i : Int)) = (X' i).1 := by rw [i78]; exact l1
          have len4 : 4 * (i : Int) < Z3.2.1 (gG z' t' 3) := by rw [r1.2]; omega
          rcases t012 with e | e | e
          · refine ⟨fun w => by omega, fun _ => wr_Rewriter_addProducts_225 E2.1.1 (by omega) z3_8 (gw_pos hg' k8) ?_⟩
            rw [l1']
            refine ⟨by unfold cm_i; omega, ⟨by omega, len4⟩, fun _ => wr_Rewriter_addProducts_252 E2.1.1 ⟨by unfold cm_i; omega, fun _ => ?_, fun w => by omega⟩, fun w => by omega⟩
            refine last _ _ _ _ _ _ _ _ _ ?_ ⟨by omega, by omega⟩
            rw [e]
            show _ = ((X' i).1, (X' i).2.1 + 1, (X' i).2.2.1, (X' i).2.2.2)
            rw [Int.add_zero, Int.add_zero]
          · refine ⟨fun _ => wr_Rewriter_addProducts_225 E2.1.1 (by omega) z3_8 (gw_pos hg' k8) ?_, fun w => by omega⟩
            rw [l1']
            refine ⟨by unfold cm_i; omega, ⟨by omega, len4⟩, fun w => by omega, fun _ => wr_Rewriter_addProducts_252 E2.1.1 ⟨by unfold cm_i; omega, fun _ => ?_, fun w => by omega⟩⟩
            refine last _ _ _ _ _ _ _ _ _ ?_ ⟨by omega, by omega⟩
            rw [e]
            show _ = ((X' i).1, (X' i).2.1, (X' i).2.2.1 + 1, (X' i).2.2.2)
            rw [Int.add_zero, Int.add_zero]
          · refine ⟨fun _ => wr_Rewriter_addProducts_225 E2.1.1 (by omega) z3_8 (gw_pos hg' k8) ?_, fun w => by omega⟩
            rw [l1']
            refine ⟨by unfold cm_i; omega, ⟨by omega, len4⟩, fun _ => wr_Rewriter_addProducts_252 E2.1.1 ⟨by unfold cm_i; omega, fun w => by omega, fun _ => ?_⟩, fun w => by omega⟩
            refine last _ _ _ _ _ _ _ _ _ ?_ ⟨by omega, by omega⟩
            rw [e]
            show _ = ((X' i).1, (X' i).2.1, (X' i).2.2.1, (X' i).2.2.2 + 1)
            rw [Int.add_zero, Int.add_zero]
      refine wr_Rewriter_addProducts_77 hE'.1.1 (by omega) (by omega) y8 (gw_pos hg' k8) ?_
      rw [hq'.2.1, ja3, hq.2.1, l3, l4]
      refine ⟨fun w => by omega, fun _ => ⟨fun full => ?_, fun ms => ⟨by unfold cm_i; omega, by unfold cm_i; omega, ⟨by omega, by omega⟩, by unfold cm_i; omega, ⟨by omega, by omega⟩, fun w1 => ?_, fun w1 => ⟨fun w2 => ⟨by unfold cm_i; omega, skip (fun h => by have := h.1 (by omega); omega) _ _ _ _ _ _⟩, fun w2 => ?_⟩⟩⟩⟩
      · refine fin m X J z' hF hq cv (fun i' h1 g1 g2 => ?_) (fun k hk => ⟨(i5 k hk).1, by rcases (i5 k hk).2 with w | w; exact Or.inl w; exact Or.inr w.1⟩)
        apply Classical.byContradiction
        intro no
        obtain ⟨u1, _, _⟩ := up i' h1 g1 g2
        have nx : ∀ k, k < m → X k ≠ upT τ (X' i') := fun k hk e => no ⟨k, hk, e⟩
        have := px_le S (t := g + t') (m := m + 1) (by omega) (X := fun k => if k = m then upT τ (X' i') else X k) (fun k hk => by
          show pxX D T nt v dg (g + t') (if k = m then _ else X k)
          by_cases w : k = m
          · rw [if_pos w]; exact u1
          · rw [if_neg w]; exact (hq.2.2.2.1 k (by omega)).2) (fun a b ha hb e => by
          have e' : (if a = m then upT τ (X' i') else X a) = if b = m then upT τ (X' i') else X b := e
          by_cases w : a = m
          · by_cases w' : b = m
            · omega
            · rw [if_pos w, if_neg w'] at e'
              exact absurd e'.symm (nx b (by omega))
          · by_cases w' : b = m
            · rw [if_neg w, if_pos w'] at e'
              exact absurd e' (nx a (by omega))
            · rw [if_neg w, if_neg w'] at e'
              exact hq.2.2.2.2.1 a b (by omega) (by omega) e')
        rw [← hs] at this
        omega
      · refine wr_Rewriter_addProducts_135 hE'.1.1 ⟨fun w2 => take (fun h => by omega) (fun h => by omega) (by omega) _ _ _, fun w2 => ⟨fun w3 => take (fun h => by omega) (fun _ => w3) (by omega) _ _ _, fun w3 => ⟨by unfold cm_i; omega, skip (fun h => by have := h.2 (by omega); omega) _ _ _ _ _ _⟩⟩⟩
      · refine wr_Rewriter_addProducts_135 hE'.1.1 ⟨fun w3 => by omega, fun _ => ⟨fun w3 => take (fun _ => w2) (fun _ => w3) (by omega) _ _ _, fun w3 => ⟨by unfold cm_i; omega, skip (fun h => by have := h.2 (by omega); omega) _ _ _ _ _ _⟩⟩⟩
  show cm_call (d + 3) m_Rewriter_addProducts _ (I, z) (kU fun I1 z1 => apF (g + t') z I z1 I1 ∧ ∃ (m1 : Nat) (X1 : Nat → tup4), grQ D T nt v dg (g + t') m1 X1 z1 I1 ∧ (∀ x, pxX D T nt v dg (g + t') x → 1 ≤ lastP x → lastP x ≤ τ + 1 → ∃ i, i < m1 ∧ X1 i = x) ∧ ∀ i, i < m1 → 1 ≤ lastP (X1 i) ∧ lastP (X1 i) ≤ τ + 1)
  rw [← hQQ]
  refine wr_Rewriter_addProducts hz (by omega) ?_
  rw [ga.1, p1, p2, Int.toNat_natCast, gg.2.1, gg.1, show Int.toNat (((g + t' : Nat) : Int) - (g : Int)) = t' by omega]
  refine ⟨⟨by omega, by omega⟩, by unfold cm_i; omega, ⟨by omega, by omega⟩, ⟨by omega, by omega⟩, by unfold cm_i; omega, ?_⟩
  refine zcU_mono (t_put (d := d + 1) hz (a := 205) (by decide) (mMany D g * (ρ : Int)) (g : Int)) fun I6 Z7 ⟨r1, r2, r3, r4, r5⟩ => ?_
  have r1' : zf [205, 207] z Z7 := zf_mono r1 (by simp)
  obtain ⟨qa, F2⟩ := apF_Q0 hgw t15 (I1 := I6) r1' (fr_mono r3 (by simp)) hQ
  exact L77 s' 0 m X I6 Z7 _ _ _ _ _ _ (by omega) F2 ⟨by rw [r2, gG_at (i := g) (by omega) (j := 0) (s := 4) (by decide) rfl]; rfl, r4, r5⟩ qa cov (fun i' h => by omega) fun k hk => ⟨(own k hk).1, Or.inl (own k hk).2⟩
end WAP2
