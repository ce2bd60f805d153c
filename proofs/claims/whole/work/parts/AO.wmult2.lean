/-! THE CLASS: Shape.multiply -/
section WMT
variable {d : Nat} {z : cm_Z} {I : cm_I} {D : Int} {sh : Nat}
theorem sh_pc (h : isSh sh) : (sh + 3) ∈ pcL ∧ (sh + 5) ∈ pcL := by rcases h with e | e <;> subst e <;> decide
theorem t_multiply (hz : wz z) (hS : shOk D sh I) {f g o : Nat} (f0 : 0 < f) (g0 : 0 < g) (o0 : 0 < o) (lf : mFrom D 16 ≤ z.2.1 f) (lg : mFrom D 16 ≤ z.2.1 g) (lo : mFrom D 16 ≤ z.2.1 o) {v w : Int → Int} (hv : wRow D (I f) v) (ov : vOk D v) (hw : wRow D (I g) w) (ow : vOk D w) (hd : mDeg D v 0 + mDeg D w 0 ≤ 15) (nf : f ∉ [sh + 3, sh + 5, o]) (ng : g ∉ [sh + 3, sh + 5, o]) (no : o ∉ [sh, sh + 1, sh + 2, sh + 3, sh + 5, sh + 7, sh + 8]) : zcU (d + 3) m_Shape_multiply [vR 9 sh, vR 20 f, vR 20 g, vR 20 o] z I fun I1 z1 => zf [sh + 3, sh + 5] z z1 ∧ fr [o, sh + 3, sh + 5] I I1 ∧ (∀ k, 0 ≤ k → k < mFrom D 16 → I1 o k = vMul D v w k) ∧ ∀ k, ¬ (0 ≤ k ∧ k < mFrom D 16) → I1 o k = I o k := by
  have hD := shOk_D hS
  obtain ⟨s1, s2, s3⟩ := m16_bd hD
  obtain ⟨c3, c5⟩ := sh_pc (shOk_sh hS)
  have dv := mDeg_bd hD v 0
  have dw := mDeg_bd hD w 0
  simp only [List.mem_cons, List.not_mem_nil, or_false, not_or] at nf ng no
  have wzz : ∀ {zz : cm_Z}, zf [sh + 3, sh + 5] z zz → wz zz := fun h => wz_zf hz h fun a q => by
    simp only [List.mem_cons, List.not_mem_nil, or_false] at q
    rcases q with e | e <;> rw [e]
    · exact c3
    · exact c5
  have shk : ∀ {J : cm_I}, fr [o, sh + 3, sh + 5] I J → shOk D sh J := fun h => shOk_fr hS (h _ (by simp; omega)) (h _ (by simp; omega)) (h _ (by simp; omega)) (h _ (by simp; omega)) (h _ (by simp; omega))
  have st := hS.2.2.2.2.1
  -- reducing
  have L126 : ∀ (c : Nat) (i : Int) (J : cm_I) (zz : cm_Z) (z1 z2 z4 z5 z7 : Option cm_V) (R : Int → Int), 0 ≤ i → i + c = mFrom D 16 → zf [sh + 3, sh + 5] z zz → fr [o, sh + 3, sh + 5] I J → (∀ k, 0 ≤ k → k < mFrom D 16 → 0 ≤ R k) → (∀ k, 0 ≤ k → k < i → J o k = R k % 2521) → (∀ k, i ≤ k → k < mFrom D 16 → J o k = R k) → (∀ k, ¬ (0 ≤ k ∧ k < mFrom D 16) → J o k = I o k) → (∀ k, 0 ≤ k → k < mFrom D 16 → R k % 2521 = vMul D v w k) → cw (d + 2) cd_Shape_multiply (kU fun I1 z1 => zf [sh + 3, sh + 5] z z1 ∧ fr [o, sh + 3, sh + 5] I I1 ∧ (∀ k, 0 ≤ k → k < mFrom D 16 → I1 o k = vMul D v w k) ∧ ∀ k, ¬ (0 ≤ k ∧ k < mFrom D 16) → I1 o k = I o k) 126 [some (vR 9 sh), z1, z2, some (vR 20 o), z4, z5, some (vI i), z7] [] (J, zz) := by
    intro c
    induction c with
    | zero =>
      intro i J zz z1 z2 z4 z5 z7 R i0 ei hzf hf r0 lo_ hi_ out fin
      refine wr_Shape_multiply_126 (wzz hzf) (shOk_sh hS) o0 ?_
      rw [(shk hf).2.2.1]
      exact ⟨fun _ => kU_mk ⟨hzf, hf, fun k k0 k1 => by rw [lo_ k k0 (by omega)]; exact fin k k0 k1, out⟩, fun q => by omega⟩
    | succ c ih =>
      intro i J zz z1 z2 z4 z5 z7 R i0 ei hzf hf r0 lo_ hi_ out fin
      refine wr_Shape_multiply_126 (wzz hzf) (shOk_sh hS) o0 ?_
      have zl : zz.2.1 o = z.2.1 o := by rw [hzf.2]
      rw [(shk hf).2.2.1, zl, hi_ i (by omega) (by omega), tmod_pos (r0 i i0 (by omega))]
      refine ⟨fun q => by omega, fun _ => ⟨⟨by omega, by omega⟩, fun J2 e2 => ⟨⟨by omega, by omega⟩, ?_⟩⟩⟩
      obtain ⟨f2, g2⟩ := fr_eq_iu e2
      refine ih (i + 1) J2 zz _ _ _ _ _ R (by omega) (by omega) hzf (fr_trans hf (fr_mono f2 (by simp))) r0 (fun k k0 k1 => ?_) (fun k k0 k1 => ?_) (fun k hk => ?_) fin
      · rw [g2]
        show (if k = i then _ else _) = _
        by_cases q : k = i
        · rw [if_pos q, q]
        · rw [if_neg q]; exact lo_ k k0 (by omega)
      · rw [g2]
        show (if k = i then _ else _) = _
        rw [if_neg (by omega)]; exact hi_ k (by omega) k1
      · rw [g2]
        show (if k = i then _ else _) = _
        rw [if_neg (by omega)]; exact out k hk
  refine wr_Shape_multiply hz (shOk_sh hS) ?_
  rw [hS.2.2.1]
  refine mU_mono (t_fill4 hz o0 (by omega) (by omega) lo (by omega)) fun I1 e1 => ?_
  obtain ⟨fa, ga⟩ := fr_eq_iw e1
  have hf1 : fr [o, sh + 3, sh + 5] I I1 := fr_mono fa (by simp)
  have i1f : I1 f = I f := fa f (by simp; omega)
  have i1g : I1 g = I g := fa g (by simp; omega)
  refine mI_mono (t_degreeOf (d := d + 1) hz (shk hf1) f0 lf (by rw [i1f]; exact hv) ov) fun v3 I2 ⟨e2, ev3⟩ => ?_
  subst e2
  refine mI_mono (t_degreeOf (d := d + 1) hz (shk hf1) g0 lg (by rw [i1g]; exact hw) ow) fun v5 I4 ⟨e4, ev5⟩ => ?_
  subst e4
  have hPQ : v3 + v5 ≤ 15 := by omega
  have bd : ∀ k, 0 ≤ k → k < mFrom D 16 → pTo D v 0 w 0 (mFrom D (v3 + 1)).toNat (mFrom D (v5 + 1)).toNat k ≤ 1371686400 := fun k k0 k1 => pTo_bd hD ov.1 ow.1 (by omega) (by omega) hPQ k0 k1
  have fin : ∀ k, 0 ≤ k → k < mFrom D 16 → pTo D v 0 w 0 (mFrom D (v3 + 1)).toNat (mFrom D (v5 + 1)).toNat k % 2521 = vMul D v w k := by
    intro k k0 k1
    unfold vMul pMul
    rw [if_pos (by have := mSz_bd D; omega)]
    congr 1
    have m3 := mFrom_mono D (s := v3 + 1) (t := 16) (by omega) (by omega)
    have m5 := mFrom_mono D (s := v5 + 1) (t := 16) (by omega) (by omega)
    refine (pTo_ext (by omega) (by omega) (fun i a b => ?_) (fun i a b => ?_) k).symm
    · refine mDeg_z hD (by omega) (by omega) ?_
      apply Classical.byContradiction
      intro h
      have := (mDg_lt hD (k := (i : Int)) (t := v3) (by omega) (by omega) (by omega)).mpr (by omega)
      omega
    · refine mDeg_z hD (by omega) (by omega) ?_
      apply Classical.byContradiction
      intro h
      have := (mDg_lt hD (k := (i : Int)) (t := v5) (by omega) (by omega) (by omega)).mpr (by omega)
      omega
  have L27 : ∀ (c : Nat) (p : Int) (J : cm_I) (zz : cm_Z) (z7 : Option cm_V), 0 ≤ p → p + c = v3 + 1 → zf [sh + 3, sh + 5] z zz → fr [o, sh + 3, sh + 5] I J → (∀ k, 0 ≤ k → k < mFrom D 16 → J o k = mW D v w v5 p 0 k) → (∀ k, ¬ (0 ≤ k ∧ k < mFrom D 16) → J o k = I o k) → cw (d + 2) cd_Shape_multiply (kU fun I1 z1 => zf [sh + 3, sh + 5] z z1 ∧ fr [o, sh + 3, sh + 5] I I1 ∧ (∀ k, 0 ≤ k → k < mFrom D 16 → I1 o k = vMul D v w k) ∧ ∀ k, ¬ (0 ≤ k ∧ k < mFrom D 16) → I1 o k = I o k) 27 [some (vR 9 sh), some (vR 20 f), some (vR 20 g), some (vR 20 o), some (vI v3), some (vI v5), some (vI p), z7] [] (J, zz) := by
    intro c
    induction c with
    | zero =>
      intro p J zz z7 p0 ep hzf hf hk out
      refine wr_Shape_multiply_27 (wzz hzf) (shOk_sh hS) ⟨fun _ => ?_, fun q => by omega⟩
      refine L126 (mFrom D 16).toNat 0 J zz _ _ _ _ _ (fun k => pTo D v 0 w 0 (mFrom D (v3 + 1)).toNat (mFrom D (v5 + 1)).toNat k) (by omega) (by omega) hzf hf (fun k k0 k1 => ?_) (fun k k0 k1 => by omega) (fun k k0 k1 => ?_) out fin
      · have := mW_le (k := k) (q := 0) (p := v3) (P := v3) (Q := v5) hD ov.1 ow.1 (by omega) (by omega) (by omega) (by omega) (by omega) (by omega)
        omega
      · rw [hk k k0 k1, show p = v3 + 1 by omega, mW_end hD]
    | succ c ih =>
      intro p J zz z7 p0 ep hzf hf hk out
      have fp := from_bds hD (t := p) p0 (by omega)
      have L54 : ∀ (u : Nat) (q : Int) (J : cm_I) (zz : cm_Z), 0 ≤ q → q + u = v5 + 1 → zf [sh + 3, sh + 5] z zz → fr [o, sh + 3, sh + 5] I J → zz.1 (sh + 3) 0 = f → J (sh + 3) 1 = mFrom D p → J (sh + 3) 2 = p → (∀ k, 0 ≤ k → k < mFrom D 16 → J o k = mW D v w v5 p q k) → (∀ k, ¬ (0 ≤ k ∧ k < mFrom D 16) → J o k = I o k) → cw (d + 2) cd_Shape_multiply (kU fun I1 z1 => zf [sh + 3, sh + 5] z z1 ∧ fr [o, sh + 3, sh + 5] I I1 ∧ (∀ k, 0 ≤ k → k < mFrom D 16 → I1 o k = vMul D v w k) ∧ ∀ k, ¬ (0 ≤ k ∧ k < mFrom D 16) → I1 o k = I o k) 54 [some (vR 9 sh), some (vR 20 f), some (vR 20 g), some (vR 20 o), some (vI v3), some (vI v5), some (vI p), some (vI q)] [] (J, zz) := by
        intro u
        induction u with
        | zero =>
          intro q J zz q0 eq hzf hf a1 a2 a3 hk out
          refine wr_Shape_multiply_54 (wzz hzf) (shOk_sh hS) ⟨fun _ => ⟨⟨by omega, by omega⟩, ih (p + 1) J zz _ (by omega) (by omega) hzf hf (fun k k0 k1 => ?_) out⟩, fun x => by omega⟩
          rw [hk k k0 k1, show q = v5 + 1 by omega, mW_row hD p0 (by omega)]
        | succ u ihu =>
          intro q J zz q0 eq hzf hf a1 a2 a3 hk out
          have fq := from_bds hD (t := q) q0 (by omega)
          have fpq := from_bds hD (t := p + q) (by omega) (by omega)
          have f16 : mFrom D (p + q + 1) ≤ mFrom D 16 := mFrom_mono D (by omega) (by omega)
          have f16p : mFrom D (p + 1) ≤ mFrom D 16 := mFrom_mono D (by omega) (by omega)
          have f16q : mFrom D (q + 1) ≤ mFrom D 16 := mFrom_mono D (by omega) (by omega)
          have m1 := fF_many D p
          have m2 := fF_many D q
          have m3 := fF_many D (p + q)
          refine wr_Shape_multiply_54 (wzz hzf) (shOk_sh hS) ⟨fun x => by omega, fun _ => ⟨⟨by omega, by omega⟩, fun x => by omega, fun _ => ⟨⟨by omega, by omega⟩, ?_⟩⟩⟩
          rw [(shk hf).2.2.2.2.1 q q0 (by omega)]
          refine zcU_mono (t_put (d := d + 1) (wzz hzf) (by omega) (mFrom D q) q) fun I5 z6 ⟨b1, b2, b3, b4, b5⟩ => ?_
          have hzf6 : zf [sh + 3, sh + 5] z z6 := zf_trans hzf (zf_mono b1 (by simp))
          have hf5 : fr [o, sh + 3, sh + 5] I I5 := fr_trans hf (fr_mono b3 (by simp))
          have i5f : I5 f = I f := hf5 f (by simp; omega)
          have i5g : I5 g = I g := hf5 g (by simp; omega)
          have i5o : I5 o = J o := b3 o (by simp; omega)
          have zl : ∀ a, z6.2.1 a = z.2.1 a := fun a => by rw [hzf6.2]
          have cg : ∀ k, apT D (fun i => I5 f (mFrom D p + i)) (fun j => I5 g (mFrom D q + j)) (mFrom D (p + q)) (fF D (q + 1)).toNat (fF D (p + 1)).toNat 0 k = apT D (fun i => v (mFrom D p + i)) (fun j => w (mFrom D q + j)) (mFrom D (p + q)) (fF D (q + 1)).toNat (fF D (p + 1)).toNat 0 k := fun k => apT_congr k (fun i hi => by
            show I5 f (mFrom D p + i) = v (mFrom D p + i)
            rw [i5f]; exact hv _ (by omega) (by omega)) fun j hj => by
            show I5 g (mFrom D q + j) = w (mFrom D q + j)
            rw [i5g]; exact hw _ (by omega) (by omega)
          refine ⟨wzz hzf6, ⟨by omega, by omega⟩, ?_⟩
          rw [(shk hf5).2.2.2.2.1 (p + q) (by omega) (by omega)]
          refine mU_mono (t_addProduct (d := d + 1) (wzz hzf6) (shk hf5) (a1 := sh + 3) (a2 := sh + 5) (qf := f) (qg := g) (p := p) (q := q) (xf := mFrom D p) (xg := mFrom D q) (by omega) (by omega) o0 (by rw [b1.1 (sh + 3) (by simp)]; exact a1) b2 f0 g0 (by rw [b3 (sh + 3) (by simp)]; exact a2) (by rw [b3 (sh + 3) (by simp)]; exact a3) b4 b5 p0 q0 (by omega) (by omega) (by rw [zl, m1]; omega) (by omega) (by rw [zl, m2]; omega) (by omega) (by rw [zl, m3]; omega) (fun i i0 i1 => by rw [i5f, hv _ (by omega) (by omega)]; exact ov.1 _) (fun i i0 i1 => by rw [i5g, hw _ (by omega) (by omega)]; exact ow.1 _) (by simp; omega) fun k k0 k1 => ?_) fun I9 ⟨h1, h2⟩ => ⟨⟨by omega, by omega⟩, ihu (q + 1) I9 z6 (by omega) (by omega) hzf6 (fr_trans hf5 (fr_mono h1 (by simp))) (by rw [b1.1 (sh + 3) (by simp)]; exact a1) (by rw [h1 (sh + 3) (by simp; omega), b3 (sh + 3) (by simp)]; exact a2) (by rw [h1 (sh + 3) (by simp; omega), b3 (sh + 3) (by simp)]; exact a3) (fun k k0 k1 => ?_) fun k hk_ => ?_⟩
          · rw [cg, i5o, hk k (by omega) (by omega), ← mW_q hD p0 q0 (by omega)]
            have x1 := mW_le (k := k) (q := q) (p := p) (P := v3) (Q := v5) hD ov.1 ow.1 (by omega) (by omega) (by omega) (by omega) (by omega) (by omega)
            have x2 := mW_le (k := k) (q := q + 1) (p := p) (P := v3) (Q := v5) hD ov.1 ow.1 (by omega) (by omega) (by omega) (by omega) (by omega) (by omega)
            have x3 := bd k (by omega) (by omega)
            exact ⟨by omega, by omega⟩
          · rw [h2 k, cg, i5o, hk k k0 k1, ← mW_q hD p0 q0 (by omega)]
          · rw [h2 k, apT_out hD p0 q0 (by omega) (by omega), i5o, out k hk_, Int.add_zero]
      refine wr_Shape_multiply_27 (wzz hzf) (shOk_sh hS) ⟨fun x => by omega, fun _ => ⟨⟨by omega, by omega⟩, ?_⟩⟩
      rw [(shk hf).2.2.2.2.1 p p0 (by omega)]
      refine zcU_mono (t_put (d := d + 1) (wzz hzf) (by omega) (mFrom D p) p) fun I5 z6 ⟨b1, b2, b3, b4, b5⟩ => ?_
      have i5o : I5 o = J o := b3 o (by simp; omega)
      exact L54 (v5 + 1).toNat 0 I5 z6 (by omega) (by omega) (zf_trans hzf (zf_mono b1 (by simp))) (fr_trans hf (fr_mono b3 (by simp))) b2 b4 b5 (by rw [i5o]; exact hk) (by rw [i5o]; exact out)
  refine L27 (v3 + 1).toNat 0 _ z none (by omega) (by omega) (zf_refl _ _) hf1 (fun k k0 k1 => ?_) fun k hk => ?_
  · rw [ga, mW_0 hD]
    unfold fillF
    rw [if_pos (by omega)]
  · rw [ga]
    unfold fillF
    rw [if_neg (by omega)]
end WMT
