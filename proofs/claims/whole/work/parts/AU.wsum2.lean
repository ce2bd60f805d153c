/-! THE CLASS: the reader of polynomials, products and powers -/
section WSQ
variable {d : Nat} {z : cm_Z} {I : cm_I} {D : Int} {sh q p o r : Nat}
theorem rws_at {z : cm_Z} {q : Nat} (h : isRws z q) (hl : z.2.1 q = 21) {i : Nat} (hi : i < 21) : z.1 q (i : Int) = q + 1 + i := by
  have := h (i : Int) ⟨by omega, by omega⟩
  rw [Int.toNat_natCast] at this
  exact this
theorem t_multiplyBy (hZ : smZ D sh q z) (hT : smT D sh q p o r I) {m : Nat} (m18 : m < 18) : zcU (d + 4) m_Sum_multiplyBy [vR 10 51, vI (m : Int)] z I fun I1 z1 => zf [sh + 3, sh + 5] z z1 ∧ smF sh q (fun i => i = m ∨ 18 ≤ i) I I1 ∧ smT D sh q p o r I1 ∧ I1 49 = I 49 ∧ ((I 51 6 ≠ 0 ∨ 15 < mDeg D (cut D (I (q + 1 + m))) 0 + mDeg D (cut D (I (q + 1 + p))) 0) → I1 51 6 = 1) ∧ (¬ (I 51 6 ≠ 0 ∨ 15 < mDeg D (cut D (I (q + 1 + m))) 0 + mDeg D (cut D (I (q + 1 + p))) 0) → I1 51 6 = 0 ∧ wRow D (I1 (q + 1 + m)) (vMul D (cut D (I (q + 1 + m))) (cut D (I (q + 1 + p))))) := by
  obtain ⟨hz, z1, z2, z3, z4, z5, z6⟩ := id hZ
  obtain ⟨a1, ⟨p1, p2, p3, p4, p5, p6, p7, p8, p9, p10, p11, p12⟩, a3, a4⟩ := id hT
  have hD := shOk_D a1
  have hs := sh_lt a1
  obtain ⟨s1, s2, s3⟩ := m16_bd hD
  obtain ⟨om, wm⟩ := cut_ok hD (a4 m (by omega))
  obtain ⟨op, wp⟩ := cut_ok hD (a4 p p5)
  have lm := z6 m (by omega)
  have lp := z6 p p5
  have lr := z6 r p9
  -- the end: too high, or a product
  have at40 : ∀ J : cm_I, fr [51] I J → smP p o r J → (J 51 6 = 0 ∨ J 51 6 = 1) → (J 51 6 = 0 ↔ ¬ (I 51 6 ≠ 0 ∨ 15 < mDeg D (cut D (I (q + 1 + m))) 0 + mDeg D (cut D (I (q + 1 + p))) 0)) → cw (d + 3) cd_Sum_multiplyBy (kU fun I1 z1 => zf [sh + 3, sh + 5] z z1 ∧ smF sh q (fun i => i = m ∨ 18 ≤ i) I I1 ∧ smT D sh q p o r I1 ∧ I1 49 = I 49 ∧ ((I 51 6 ≠ 0 ∨ 15 < mDeg D (cut D (I (q + 1 + m))) 0 + mDeg D (cut D (I (q + 1 + p))) 0) → I1 51 6 = 1) ∧ (¬ (I 51 6 ≠ 0 ∨ 15 < mDeg D (cut D (I (q + 1 + m))) 0 + mDeg D (cut D (I (q + 1 + p))) 0) → I1 51 6 = 0 ∧ wRow D (I1 (q + 1 + m)) (vMul D (cut D (I (q + 1 + m))) (cut D (I (q + 1 + p)))))) 40 [some (vR 10 51), some (vI (m : Int))] [] (J, z) := by
    intro J hf hP h6 hi
    have sJ : shOk D sh J := shOk_fr a1 (hf _ (by simp; omega)) (hf _ (by simp; omega)) (hf _ (by simp; omega)) (hf _ (by simp; omega)) (hf _ (by simp; omega))
    have tJ : smT D sh q p o r J := ⟨sJ, hP, h6, fun i hi' => by rw [hf (q + 1 + i) (by simp; omega)]; exact a4 i hi'⟩
    refine wr_Sum_multiplyBy_40 hz z1 z2 (by omega) z4 (shOk_sh a1) ?_
    rw [hP.1, hP.2.2.1, Int.toNat_natCast, Int.toNat_natCast, Int.toNat_natCast, z5]
    refine ⟨fun n6 => kU_mk ⟨zf_refl _ _, smF_51 hf, tJ, hf 49 (by simp), fun _ => by omega, fun w => absurd (hi.mpr w) n6⟩, fun e6 => ⟨⟨by omega, by omega⟩, ⟨by omega, by omega⟩, ⟨by omega, by omega⟩, ?_⟩⟩
    have nh := hi.mp e6
    refine zcU_mono (t_multiply (d := d) (v := cut D (I (q + 1 + m))) (w := cut D (I (q + 1 + p))) hz sJ (by omega) (by omega) (by omega) lm.1 lp.1 lr.1 (by rw [hf (q + 1 + m) (by simp; omega)]; exact wm) om (by rw [hf (q + 1 + p) (by simp; omega)]; exact wp) op (by omega) (by simp; omega) (by simp; omega) (by simp; omega)) fun I4 z5' ⟨b1, b2, b3, b4⟩ => ?_
    have hZ5 := smZ_zf hZ (shOk_sh a1) b1
    obtain ⟨y1, y2, y3, y4, y5, y6, y7⟩ := hZ5
    have n51 : I4 51 = J 51 := b2 51 (by simp; omega)
    have s4 : shOk D sh I4 := shOk_fr sJ (b2 _ (by simp; omega)) (b2 _ (by simp; omega)) (b2 _ (by simp; omega)) (b2 _ (by simp; omega)) (b2 _ (by simp; omega))
    have yl : ∀ a, z5'.2.1 a = z.2.1 a := fun a => by rw [b1.2]
    rw [n51, hP.2.2.1, y3, rws_at y5 y6 p9, rws_at y5 y6 (show m < 21 by omega), y6, s4.2.2.1, yl, yl]
    refine ⟨by omega, ⟨by omega, by omega⟩, ⟨by omega, by omega⟩, y2, by omega, by omega, ⟨by omega, by omega, by omega, by omega, by omega⟩, fun I13 e13 => kU_mk ?_⟩
    obtain ⟨f13, g13⟩ := fr_eq_iw e13
    have i13 : ∀ k, 0 ≤ k → k < mFrom D 16 → I13 (q + 1 + m) k = vMul D (cut D (I (q + 1 + m))) (cut D (I (q + 1 + p))) k := by
      intro k k0 k1
      rw [g13]
      unfold cpyF
      rw [if_pos (by omega), show (0 : Int) + (k - 0) = k by omega]
      exact b3 k k0 k1
    have ov := (vOk_mul hD (v := cut D (I (q + 1 + m))) (w := cut D (I (q + 1 + p))) (by omega)).1
    refine ⟨b1, ?_, ?_, ?_, fun w => absurd w nh, fun _ => ⟨?_, i13⟩⟩
    · exact smF_trans (smF_51 hf) (smF_trans (smF_mul (i := r) p9 (Or.inr p8) b2) (smF_row (i := m) (by omega) (Or.inl rfl) f13))
    · have t4 : smT D sh q p o r I4 := by
        refine ⟨s4, by unfold smP; rw [n51]; exact hP, by rw [n51]; exact h6, fun i hi' => ?_⟩
        by_cases e : i = r
        · rw [e]; exact wRow_rk b3 ov b4 (tJ.2.2.2 r p9)
        · rw [b2 (q + 1 + i) (by simp; omega)]; exact tJ.2.2.2 i hi'
      exact smT_row z3 t4 f13 fun _ => by rw [g13]; exact okR_cpyF (t4.2.2.2 r p9) (t4.2.2.2 m (by omega)) _ _ _
    · rw [f13 49 (by simp; omega), b2 49 (by simp; omega), hf 49 (by simp)]
    · rw [f13 51 (by simp; omega), n51]; exact e6
  refine wr_Sum_multiplyBy hz z1 z2 (by omega) z4 ?_
  rw [Int.toNat_natCast, z5]
  refine ⟨⟨by omega, by omega⟩, mI_mono (t_degreeOf (d := d + 2) hz a1 (by omega) lm.1 wm om) fun v3 I2 ⟨e2, ev3⟩ => ?_⟩
  subst e2
  rw [p1, Int.toNat_natCast]
  refine ⟨⟨by omega, by omega⟩, mI_mono (t_degreeOf (d := d + 2) hz a1 (by omega) lp.1 wp op) fun v6 I5 ⟨e5, ev6⟩ => ?_⟩
  subst e5
  have bm := mDeg_bd hD (cut D (I5 (q + 1 + m))) 0
  have bp := mDeg_bd hD (cut D (I5 (q + 1 + p))) 0
  refine ⟨⟨by omega, by omega⟩, fun le => at40 I5 (fr_refl _ _) ⟨p1, p2, p3, p4, p5, p6, p7, p8, p9, p10, p11, p12⟩ a3 ⟨fun w => by omega, fun w => by omega⟩, fun gt I8 e8 => ?_⟩
  obtain ⟨f8, g8⟩ := fr_eq_iu e8
  refine at40 I8 f8 ?_ ?_ ?_
  · refine ⟨?_, ?_, ?_, p4, p5, p6, p7, p8, p9, p10, p11, p12⟩ <;> rw [g8] <;> simp
    · exact p1
    · exact p2
    · exact p3
  · right; rw [g8]; simp
  · constructor
    · intro w; rw [g8] at w; simp at w
    · intro w; omega
theorem t_raisePart (hZ : smZ D sh q z) (hT : smT D sh q p o r I) {e : Int} (e0 : 0 ≤ e) (e1 : e ≤ 15) : zcU (d + 4) m_Sum_raisePart [vR 10 51, vI e] z I fun I1 z1 => zf [sh + 3, sh + 5] z z1 ∧ smF sh q (fun i => 18 ≤ i) I I1 ∧ I1 49 = I 49 ∧ ∃ p' o' r', smT D sh q p' o' r' I1 ∧ ((I 51 6 ≠ 0 ∨ 15 < mDeg D (cut D (I (q + 1 + p))) 0 * e) → I1 51 6 = 1) ∧ (¬ (I 51 6 ≠ 0 ∨ 15 < mDeg D (cut D (I (q + 1 + p))) 0 * e) → I1 51 6 = 0 ∧ wRow D (I1 (q + 1 + p')) (vPow D (cut D (I (q + 1 + p))) e.toNat)) := by
  obtain ⟨hz, z1, z2, z3, z4, z5, z6⟩ := id hZ
  obtain ⟨a1, ⟨p1, p2, p3, p4, p5, p6, p7, p8, p9, p10, p11, p12⟩, a3, a4⟩ := id hT
  have hD := shOk_D a1
  have hs := sh_lt a1
  obtain ⟨s1, s2, s3⟩ := m16_bd hD
  have p16 : 1 ≤ mFrom D 16 := by rcases hD with w | w <;> rw [w] <;> decide
  obtain ⟨op, wp⟩ := cut_ok hD (a4 p p5)
  have bp := mDeg_bd hD (cut D (I (q + 1 + p))) 0
  have lp := z6 p p5
  generalize hV : cut D (I (q + 1 + p)) = V at *
  have hie : ∀ i : Nat, (i : Int) ≤ e → mDeg D V 0 * i ≤ mDeg D V 0 * e := fun i hi => Int.mul_le_mul_of_nonneg_left hi bp.1
  have be : 0 ≤ mDeg D V 0 * e ∧ mDeg D V 0 * e ≤ 17 * 15 := mul_bd bp.1 bp.2 e0 e1
  -- the powers, one by one
  have L63 : ∀ (n i o' r' : Nat) (J : cm_I) (zz : cm_Z) (z3' : Option cm_V), (i : Int) + n = e → ¬ (I 51 6 ≠ 0 ∨ 15 < mDeg D V 0 * e) → zf [sh + 3, sh + 5] z zz → smF sh q (fun i => 18 ≤ i) I J → J 49 = I 49 → smT D sh q p o' r' J → J 51 6 = 0 → wRow D (J (q + 1 + p)) V → wRow D (J (q + 1 + r')) (vPow D V i) → cw (d + 3) cd_Sum_raisePart (kU fun I1 z1 => zf [sh + 3, sh + 5] z z1 ∧ smF sh q (fun i => 18 ≤ i) I I1 ∧ I1 49 = I 49 ∧ ∃ p' o' r', smT D sh q p' o' r' I1 ∧ ((I 51 6 ≠ 0 ∨ 15 < mDeg D V 0 * e) → I1 51 6 = 1) ∧ (¬ (I 51 6 ≠ 0 ∨ 15 < mDeg D V 0 * e) → I1 51 6 = 0 ∧ wRow D (I1 (q + 1 + p')) (vPow D V e.toNat))) 63 [some (vR 10 51), some (vI e), some (vI (i : Int)), z3'] [] (J, zz) := by
    intro n
    induction n with
    | zero =>
      intro i o' r' J zz z3' ei nh hzf hf h49 hT' h6 hp hr
      obtain ⟨y1, y2, y3, y4, y5, y6, y7⟩ := smZ_zf hZ (shOk_sh a1) hzf
      obtain ⟨b1, ⟨c1, c2, c3, c4, c5, c6, c7, c8, c9, c10, c11, c12⟩, b3, b4⟩ := id hT'
      refine wr_Sum_raisePart_63 y1 y2 y3 (by omega) y5 ⟨fun _ I1 e1' I2 e2' => kU_mk ?_, fun w => by omega⟩
      rw [c1] at e1'
      rw [c3] at e2'
      obtain ⟨f1, g1⟩ := fr_eq_iu e1'
      obtain ⟨f2, g2⟩ := fr_eq_iu e2'
      have f12 := fr_trans f1 f2
      refine ⟨hzf, smF_trans hf (smF_51 f12), by rw [f12 49 (by simp)]; exact h49, r', o', p, ⟨?_, ?_, ?_, fun j hj => by rw [f12 (q + 1 + j) (by simp; omega)]; exact b4 j hj⟩, fun w => absurd w nh, fun _ => ⟨?_, ?_⟩⟩
      · exact shOk_fr b1 (f12 _ (by simp; omega)) (f12 _ (by simp; omega)) (f12 _ (by simp; omega)) (f12 _ (by simp; omega)) (f12 _ (by simp; omega))
      · refine ⟨?_, ?_, ?_, c8, c9, c6, c7, c4, c5, by omega, by omega, by omega⟩ <;> rw [g2, g1] <;> simp
        exact c2
      · rw [g2, g1]; simp; exact b3
      · rw [g2, g1]; simp; exact h6
      · rw [f12 (q + 1 + r') (by simp; omega), show e.toNat = i by omega]; exact hr
    | succ n ih =>
      intro i o' r' J zz z3' ei nh hzf hf h49 hT' h6 hp hr
      have hZ' := smZ_zf hZ (shOk_sh a1) hzf
      obtain ⟨y1, y2, y3, y4, y5, y6, y7⟩ := id hZ'
      obtain ⟨b1, ⟨c1, c2, c3, c4, c5, c6, c7, c8, c9, c10, c11, c12⟩, b3, b4⟩ := id hT'
      have yl : ∀ a, zz.2.1 a = z.2.1 a := fun a => by rw [hzf.2]
      have hi1 := hie i (by omega)
      have hi2 := hie (i + 1) (by omega)
      rw [show ((i + 1 : Nat) : Int) = (i : Int) + 1 by omega, Int.mul_add, Int.mul_one] at hi2
      have le15 : mDeg D V 0 * e ≤ 15 := by omega
      obtain ⟨ow, dw⟩ := vOk_pow hD op i (by omega)
      refine wr_Sum_raisePart_63 y1 y2 y3 (by omega) y5 ⟨fun w => by omega, fun _ I3 e3 I4 e4 => ?_⟩
      rw [c2] at e3
      rw [c3] at e4
      obtain ⟨f3, g3⟩ := fr_eq_iu e3
      obtain ⟨f4, g4⟩ := fr_eq_iu e4
      have f34 := fr_trans f3 f4
      have x3 : I4 51 3 = (p : Int) := by rw [g4, g3]; simp; exact c1
      have x4 : I4 51 4 = (r' : Int) := by rw [g4]; simp
      have x5 : I4 51 5 = (o' : Int) := by rw [g4, g3]; simp
      have x6 : I4 51 6 = 0 := by rw [g4, g3]; simp; exact h6
      have s4 : shOk D sh I4 := shOk_fr b1 (f34 _ (by simp; omega)) (f34 _ (by simp; omega)) (f34 _ (by simp; omega)) (f34 _ (by simp; omega)) (f34 _ (by simp; omega))
      rw [x3, x4, x5, Int.toNat_natCast, Int.toNat_natCast, Int.toNat_natCast, y6]
      refine ⟨⟨by omega, by omega⟩, ⟨by omega, by omega⟩, ⟨by omega, by omega⟩, ?_⟩
      refine zcU_mono (t_multiply (d := d) (v := V) (w := vPow D V i) y1 s4 (by omega) (by omega) (by omega) (y7 p c5).1 (y7 r' c9).1 (y7 o' c7).1 (by rw [f34 (q + 1 + p) (by simp; omega)]; exact hp) op (by rw [f34 (q + 1 + r') (by simp; omega)]; exact hr) ow (by omega) (by simp; omega) (by simp; omega) (by simp; omega)) fun I8 z9 ⟨k1, k2, k3, k4⟩ => ⟨⟨by omega, by omega⟩, ?_⟩
      have n51 : I8 51 = I4 51 := k2 51 (by simp; omega)
      have ev : vMul D V (vPow D V i) = vPow D V (i + 1) := vMul_comm D V (vPow D V i)
      rw [ev] at k3
      have ov := (vOk_pow hD op (i + 1) (by rw [show ((i + 1 : Nat) : Int) = (i : Int) + 1 by omega, Int.mul_add, Int.mul_one]; omega)).1
      refine ih (i + 1) r' o' I8 z9 _ (by omega) nh (zf_trans hzf k1) (smF_trans hf (smF_trans (smF_51 f34) (smF_mul (i := o') c7 c6 k2))) (by rw [k2 49 (by simp; omega), f34 49 (by simp)]; exact h49) ⟨?_, ?_, ?_, fun j hj => ?_⟩ (by rw [n51]; exact x6) ?_ k3
      · exact shOk_fr s4 (k2 _ (by simp; omega)) (k2 _ (by simp; omega)) (k2 _ (by simp; omega)) (k2 _ (by simp; omega)) (k2 _ (by simp; omega))
      · unfold smP; rw [n51]; exact ⟨x3, x4, x5, c4, c5, c8, c9, c6, c7, by omega, by omega, by omega⟩
      · rw [n51]; exact Or.inl x6
      · by_cases w : j = o'
        · rw [w]; exact wRow_rk k3 ov k4 (by rw [f34 (q + 1 + o') (by simp; omega)]; exact b4 o' c7)
        · rw [k2 (q + 1 + j) (by simp; omega), f34 (q + 1 + j) (by simp; omega)]; exact b4 j hj
      · rw [k2 (q + 1 + p) (by simp; omega), f34 (q + 1 + p) (by simp; omega)]; exact hp
  have at28 : ∀ J : cm_I, fr [51] I J → smP p o r J → (J 51 6 = 0 ∨ J 51 6 = 1) → (J 51 6 = 0 ↔ ¬ (I 51 6 ≠ 0 ∨ 15 < mDeg D V 0 * e)) → cw (d + 3) cd_Sum_raisePart (kU fun I1 z1 => zf [sh + 3, sh + 5] z z1 ∧ smF sh q (fun i => 18 ≤ i) I I1 ∧ I1 49 = I 49 ∧ ∃ p' o' r', smT D sh q p' o' r' I1 ∧ ((I 51 6 ≠ 0 ∨ 15 < mDeg D V 0 * e) → I1 51 6 = 1) ∧ (¬ (I 51 6 ≠ 0 ∨ 15 < mDeg D V 0 * e) → I1 51 6 = 0 ∧ wRow D (I1 (q + 1 + p')) (vPow D V e.toNat))) 28 [some (vR 10 51), some (vI e), none, none] [] (J, z) := by
    intro J hf hP h6 hi
    have sJ : shOk D sh J := shOk_fr a1 (hf _ (by simp; omega)) (hf _ (by simp; omega)) (hf _ (by simp; omega)) (hf _ (by simp; omega)) (hf _ (by simp; omega))
    have tJ : smT D sh q p o r J := ⟨sJ, hP, h6, fun i hi' => by rw [hf (q + 1 + i) (by simp; omega)]; exact a4 i hi'⟩
    have lr := z6 r p9
    refine wr_Sum_raisePart_28 hz z2 (by omega) z4 ?_
    rw [hP.2.2.1, Int.toNat_natCast, z5]
    refine ⟨fun e6 => ⟨⟨by omega, by omega⟩, mU_mono (t_fill (d := d + 2) hz (by omega) rfl (by omega) (by omega)) fun I2 e2 => ?_⟩, fun n6 => kU_mk ⟨zf_refl _ _, smF_51 hf, hf 49 (by simp), p, o, r, tJ, fun _ => by omega, fun w => absurd (hi.mpr w) n6⟩⟩
    have nh := hi.mp e6
    obtain ⟨f2, g2⟩ := fr_eq_iw e2
    rw [f2 51 (by simp; omega), hP.2.2.1, Int.toNat_natCast]
    refine ⟨⟨by omega, by omega⟩, ⟨by omega, by omega⟩, fun I5 e5 => ?_⟩
    obtain ⟨f5, g5⟩ := fr_eq_iu e5
    have f25 := fr_trans f2 f5
    have w1 : wRow D (I5 (q + 1 + r)) (vK 1) := by
      intro k k0 k1
      rw [g5]
      show (if k = 0 then 1 else _) = if k = 0 then 1 else 0
      by_cases w : k = 0
      · rw [if_pos w, if_pos w]
      · rw [if_neg w, if_neg w, g2]
        unfold fillF
        rw [if_pos (by omega)]
    have t5 := smT_row z3 tJ f25 fun _ => by rw [g5, g2]; exact okR_put (okR_fillF (tJ.2.2.2 r p9) _ _ (by decide) (by decide)) _ (by decide) (by decide)
    exact L63 e.toNat 0 o r I5 z _ (by omega) nh (zf_refl _ _) (smF_trans (smF_51 hf) (smF_row (i := r) p9 p8 f25)) (by rw [f25 49 (by simp; omega), hf 49 (by simp)]) t5 (by rw [f25 51 (by simp; omega)]; exact e6) (by rw [f25 (q + 1 + p) (by simp; omega), hf (q + 1 + p) (by simp; omega)]; exact wp) w1
  refine wr_Sum_raisePart hz z1 z2 (by omega) z4 ?_
  rw [p1, Int.toNat_natCast, z5]
  refine ⟨⟨by omega, by omega⟩, mI_mono (t_degreeOf (d := d + 2) hz a1 (by omega) lp.1 wp op) fun v3 I2 ⟨e2, ev3⟩ => ?_⟩
  subst e2
  rw [ev3]
  refine ⟨⟨by omega, by omega⟩, fun le => at28 I2 (fr_refl _ _) ⟨p1, p2, p3, p4, p5, p6, p7, p8, p9, p10, p11, p12⟩ a3 ⟨fun w => by omega, fun w => by omega⟩, fun gt I8 e8 => ?_⟩
  obtain ⟨f8, g8⟩ := fr_eq_iu e8
  refine at28 I8 f8 ?_ ?_ ?_
  · refine ⟨?_, ?_, ?_, p4, p5, p6, p7, p8, p9, p10, p11, p12⟩ <;> rw [g8] <;> simp
    · exact p1
    · exact p2
    · exact p3
  · right; rw [g8]; simp
  · constructor
    · intro w; rw [g8] at w; simp at w
    · intro w; omega
end WSQ
