/-! THE CLASS: Mover.timesForm -/
section WTM
variable {d : Nat} {z : cm_Z} {I : cm_I} {D : Int} {sh : Nat}
theorem t_timesForm (hz : wz z) (hS : shOk D sh I) (y0 : z.1 53 0 = sh) {a : Nat} (a0 : 0 < a) (na : a ∉ [sh, sh + 1, sh + 2, sh + 7, sh + 8, 53, 54]) {x t row : Int} (x0 : 0 ≤ x) (x1 : x ≤ 1000) (t0 : 0 ≤ t) (t1 : t ≤ 14) (r0 : 0 ≤ row) (r1 : row ≤ 2) (xl : x + fF D (t + 2) ≤ z.2.1 a) (o4 : okR (I 54)) (h2 : D = 2 → I 54 (3 * row + 2) = 0) (oa : okR (I a)) : mU (d + 3) m_Mover_timesForm [vR 4 53, vR 20 a, vI x, vI t, vI row] z I fun I1 => fr [a] I I1 ∧ okR (I1 a) ∧ (∀ k, ¬ (x ≤ k ∧ k < x + fF D (t + 2)) → I1 a k = I a k) ∧ lcP D (t + 1) (fun p => I1 a (x + p)) = lm (fun j => toF (I 54 (3 * row + (j : Int)))) (lcP D t (fun p => I a (x + p))) := by
  have hD := shOk_D hS
  have hs := sh_lt hS
  have fi := hS.2.2.2.1
  simp only [List.mem_cons, List.not_mem_nil, or_false, not_or] at na
  have f1 := fF_bd hD (s := t + 1) (by omega) (by omega)
  have f2 := fF_bd hD (s := t + 2) (by omega) (by omega)
  have m12 := fF_mono hD (s := t + 1) (t := t + 2) (by omega) (by omega) (by omega)
  have m16 := fF_mono hD (s := t + 1) (t := 16) (by omega) (by omega) (by omega)
  have nb : ∀ {J : cm_I}, fr [a] I J → ∀ b, b ≠ a → J b = I b := fun hf b hb => hf b (by simpa using hb)
  have oX := o4 (3 * row)
  have oY := o4 (3 * row + 1)
  have oW := o4 (3 * row + 2)
  generalize hX : I 54 (3 * row) = X at *
  generalize hY : I 54 (3 * row + 1) = Y at *
  generalize hW : I 54 (3 * row + 2) = W at *
  have oF : okR (fun p => I a (x + p)) := fun k => oa _
  have L171 : ∀ (c : Nat) (k : Int) (J : cm_I) (z0 z3 z4 z5 z7 z8 z9 z11 z12 : Option cm_V), x ≤ k → k + c = x + fF D (t + 2) → fr [a] I J → (∀ p, 0 ≤ p → x + p < k → J a (x + p) = tfG D t (fun p => I a (x + p)) X Y W (-1) p % 2521) → (∀ p, 0 ≤ p → k ≤ x + p → p < fF D (t + 2) → J a (x + p) = tfG D t (fun p => I a (x + p)) X Y W (-1) p) → (∀ k, ¬ (x ≤ k ∧ k < x + fF D (t + 2)) → J a k = I a k) → cw (d + 2) cd_Mover_timesForm (qU z fun I1 => fr [a] I I1 ∧ okR (I1 a) ∧ (∀ k, ¬ (x ≤ k ∧ k < x + fF D (t + 2)) → I1 a k = I a k) ∧ lcP D (t + 1) (fun p => I1 a (x + p)) = lm (fun j => toF (I 54 (3 * row + (j : Int)))) (lcP D t (fun p => I a (x + p)))) 171 [z0, some (vR 20 a), some (vI x), z3, z4, z5, some (vI (fF D (t + 2))), z7, z8, z9, some (vI k), z11, z12] [] (J, z) := by
    intro c
    induction c with
    | zero =>
      intro k J z0 z3 z4 z5 z7 z8 z9 z11 z12 k0 ek hf lo hi out
      refine wr_Mover_timesForm_171 hz a0 ⟨⟨by omega, by omega⟩, fun _ => qU_mk ⟨hf, fun j => ?_, out, ?_⟩, fun q => by omega⟩
      · by_cases q : x ≤ j ∧ j < x + fF D (t + 2)
        · have := lo (j - x) (by omega) (by omega)
          rw [show x + (j - x) = j by omega] at this
          rw [this]; omega
        · rw [out j q]; exact oa j
      · refine tfG_end (x := X) (y := Y) (w := W) hD t0 t1 h2 ?_ ?_ ?_ fun p p0 p1 => lo p p0 (by omega)
        · show toF (I 54 (3 * row + ((0 : Nat) : Int))) = _
          rw [show 3 * row + ((0 : Nat) : Int) = 3 * row by omega, hX]
        · show toF (I 54 (3 * row + ((1 : Nat) : Int))) = _
          rw [show 3 * row + ((1 : Nat) : Int) = 3 * row + 1 by omega, hY]
        · show toF (I 54 (3 * row + ((2 : Nat) : Int))) = _
          rw [show 3 * row + ((2 : Nat) : Int) = 3 * row + 2 by omega, hW]
    | succ c ih =>
      intro k J z0 z3 z4 z5 z7 z8 z9 z11 z12 k0 ek hf lo hi out
      have hk := hi (k - x) (by omega) (by omega) (by omega)
      rw [show x + (k - x) = k by omega] at hk
      have bd := tfG_bd (t := t) hD oF oX oY oW (-1) (k - x)
      refine wr_Mover_timesForm_171 hz a0 ⟨⟨by omega, by omega⟩, fun q => by omega, fun _ => ⟨⟨by omega, by omega⟩, ?_⟩⟩
      rw [hk, tmod_pos bd.1]
      intro J3 e3
      obtain ⟨f3, g3⟩ := fr_eq_iu e3
      refine ⟨⟨by omega, by omega⟩, ih (k + 1) J3 _ _ _ _ _ _ _ _ _ (by omega) (by omega) (fr_trans hf f3) (fun p p0 p1 => ?_) (fun p p0 p1 p2 => ?_) fun j hj => ?_⟩
      · rw [g3]
        show (if x + p = k then _ else _) = _
        by_cases q : x + p = k
        · rw [if_pos q, show k - x = p by omega]
        · rw [if_neg q]; exact lo p p0 (by omega)
      · rw [g3]
        show (if x + p = k then _ else _) = _
        rw [if_neg (by omega)]; exact hi p p0 (by omega) p2
      · rw [g3]
        show (if j = k then _ else _) = _
        rw [if_neg (by omega)]; exact out j hj
  have L82 : ∀ (c : Nat) (i : Int) (J : cm_I) (z11 z12 : Option cm_V), i + 1 = c → i < fF D (t + 1) → fr [a] I J → (∀ p, 0 ≤ p → p < fF D (t + 2) → J a (x + p) = tfG D t (fun p => I a (x + p)) X Y W i p) → (∀ k, ¬ (x ≤ k ∧ k < x + fF D (t + 2)) → J a k = I a k) → cw (d + 2) cd_Mover_timesForm (qU z fun I1 => fr [a] I I1 ∧ okR (I1 a) ∧ (∀ k, ¬ (x ≤ k ∧ k < x + fF D (t + 2)) → I1 a k = I a k) ∧ lcP D (t + 1) (fun p => I1 a (x + p)) = lm (fun j => toF (I 54 (3 * row + (j : Int)))) (lcP D t (fun p => I a (x + p)))) 82 [some (vR 4 53), some (vR 20 a), some (vI x), some (vI t), some (vI row), some (vI (fF D (t + 1))), some (vI (fF D (t + 2))), some (vI X), some (vI Y), some (vI W), some (vI i), z11, z12] [] (J, z) := by
    intro c
    induction c with
    | zero =>
      intro i J z11 z12 ei i1 hf hp out
      refine wr_Mover_timesForm_82 hz a0 y0 (shOk_sh hS) ⟨fun _ => ?_, fun q => by omega⟩
      exact L171 (fF D (t + 2)).toNat x J _ _ _ _ _ _ _ _ _ (Int.le_refl x) (by omega) hf (fun p p0 p1 => by omega) (fun p p0 p1 p2 => by rw [hp p p0 p2, show i = -1 by omega]) out
    | succ c ih =>
      intro i J z11 z12 ei i1 hf hp out
      have i0 : 0 ≤ i := by omega
      obtain ⟨b1, b2, b3, b4, b5, b6, b7, b8⟩ := blk_ok hD i0 (by omega)
      have bti := (blk_lt hD (t := t) i0 i1 t0 (by omega)).1
      have mw := fF_mono hD (s := blk D i + 2) (t := t + 2) (by omega) (by omega) (by omega)
      have sc := fF_succ hD (s := blk D i) b1 (by omega)
      have sc2 := fF_succ hD (s := blk D i + 1) (by omega) (by omega)
      rw [show blk D i + 1 + 1 = blk D i + 2 by omega] at sc2
      have wpos : 1 ≤ fF D (blk D i + 1) - fF D (blk D i) := by split at sc <;> omega
      have wfit : i + (fF D (blk D i + 1) - fF D (blk D i)) < fF D (t + 2) := by split at sc2 <;> omega
      have wfit3 : D = 3 → i + (fF D (blk D i + 1) - fF D (blk D i)) + 1 < fF D (t + 2) := fun e => by
        rw [if_neg (by omega)] at sc2; omega
      have self : J a (x + i) = I a (x + i) := by rw [hp i i0 (by omega)]; exact tfG_self (F := fun p => I a (x + p)) hD t0 t1 i0 i1
      have oi := oa (x + i)
      have pX := mul_bd (x := X) (y := I a (x + i)) (X := 2520) (Y := 2520) (by omega) (by omega) (by omega) (by omega)
      have pY := mul_bd (x := Y) (y := I a (x + i)) (X := 2520) (Y := 2520) (by omega) (by omega) (by omega) (by omega)
      have pW := mul_bd (x := W) (y := I a (x + i)) (X := 2520) (Y := 2520) (by omega) (by omega) (by omega) (by omega)
      have stp := fun p (p0 : 0 ≤ p) (p1 : p < fF D (t + 2)) => tfG_step (F := fun p => I a (x + p)) (x := X) (y := Y) (w := W) hD t0 t1 h2 i0 i1 p0 p1
      have w8 := (shOk_blk hS i0 (by omega)).2
      refine wr_Mover_timesForm_82 hz a0 y0 (shOk_sh hS) ⟨fun q => by omega, fun _ => ⟨⟨by omega, by omega⟩, ⟨by omega, by omega⟩, ?_⟩⟩
      rw [nb hf (sh + 8) (by omega), w8, self, (wz_shL7 hz hS).2]
      generalize hw : fF D (blk D i + 1) - fF D (blk D i) = wd at *
      refine ⟨fun nz => ⟨⟨by omega, by omega⟩, ⟨by omega, by omega⟩, ⟨by omega, by omega⟩, fun J6 e6 => ?_⟩, fun ez => ⟨⟨by omega, by omega⟩, ?_⟩⟩
      · obtain ⟨f6, g6⟩ := fr_eq_iu e6
        have v6 : J6 a (x + i + wd) = tfG D t (fun p => I a (x + p)) X Y W i (i + wd) := by
          rw [g6]
          show (if x + i + wd = x + i then _ else J a (x + i + wd)) = _
          rw [if_neg (by omega), show x + i + wd = x + (i + wd) by omega]; exact hp _ (by omega) wfit
        have b6' := tfG_bd (t := t) hD oF oX oY oW i (i + wd)
        rw [v6]
        refine ⟨⟨by omega, by omega⟩, ⟨by omega, by omega⟩, ⟨by omega, by omega⟩, fun J10 e10 => ?_⟩
        obtain ⟨f10, g10⟩ := fr_eq_iu e10
        have v10 : ∀ k, J10 a k = if k = x + i + wd then tfG D t (fun p => I a (x + p)) X Y W i (i + wd) + Y * I a (x + i) else if k = x + i then X * I a (x + i) else J a k := fun k => by rw [g10, g6]
        refine ⟨fun w0 => ⟨⟨by omega, by omega⟩, ih (i + -1) J10 _ _ (by omega) (by omega) (fr_trans hf (fr_trans f6 f10)) (fun p p0 p1 => ?_) fun k hk => ?_⟩, fun wn => ?_⟩
        · rw [v10, show i + -1 = i - 1 by omega, stp p p0 p1, w0, Int.zero_mul, ite_self, Int.add_zero]
          by_cases q : p = i + wd
          · rw [if_pos (by omega), if_neg (by omega), if_pos q, q]
          · rw [if_neg (by omega), if_neg q, Int.add_zero]
            by_cases q2 : p = i
            · rw [if_pos (by omega), if_pos q2]
            · rw [if_neg (by omega), if_neg q2, hp p p0 p1, w0]
        · rw [v10, if_neg (by omega), if_neg (by omega)]; exact out k hk
        · have d3 : D = 3 := by
            rcases hD with e | e
            · exact absurd (h2 e) wn
            · exact e
          have wf3 := wfit3 d3
          have v10' : J10 a (x + i + wd + 1) = tfG D t (fun p => I a (x + p)) X Y W i (i + wd + 1) := by
            rw [v10, if_neg (by omega), if_neg (by omega), show x + i + wd + 1 = x + (i + wd + 1) by omega]; exact hp _ (by omega) wf3
          have b10 := tfG_bd (t := t) hD oF oX oY oW i (i + wd + 1)
          rw [v10']
          refine ⟨⟨by omega, by omega⟩, ⟨by omega, by omega⟩, ⟨by omega, by omega⟩, ⟨by omega, by omega⟩, fun J16 e16 => ?_⟩
          obtain ⟨f16, g16⟩ := fr_eq_iu e16
          have v16 : ∀ k, J16 a k = if k = x + i + wd + 1 then tfG D t (fun p => I a (x + p)) X Y W i (i + wd + 1) + W * I a (x + i) else J10 a k := fun k => by rw [g16]
          refine ⟨⟨by omega, by omega⟩, ih (i + -1) J16 _ _ (by omega) (by omega) (fr_trans hf (fr_trans f6 (fr_trans f10 f16))) (fun p p0 p1 => ?_) fun k hk => ?_⟩
          · rw [v16, show i + -1 = i - 1 by omega, stp p p0 p1]
            by_cases q3 : p = i + wd + 1
            · rw [if_pos (by omega), if_neg (by omega), if_neg (by omega), if_pos q3, q3]; omega
            · rw [if_neg (by omega), if_neg q3, Int.add_zero, v10]
              by_cases q : p = i + wd
              · rw [if_pos (by omega), if_neg (by omega), if_pos q, q]
              · rw [if_neg (by omega), if_neg q, Int.add_zero]
                by_cases q2 : p = i
                · rw [if_pos (by omega), if_pos q2]
                · rw [if_neg (by omega), if_neg q2, hp p p0 p1]
          · rw [v16, if_neg (by omega), v10, if_neg (by omega), if_neg (by omega)]; exact out k hk
      · refine ih (i + -1) J _ _ (by omega) (by omega) hf (fun p p0 p1 => ?_) out
        rw [show i + -1 = i - 1 by omega, stp p p0 p1, hp p p0 p1]
        show _ = (if p = i then X * I a (x + i) else _) + (if _ then Y * I a (x + i) else 0) + (if _ then W * I a (x + i) else 0)
        rw [ez, Int.mul_zero, Int.mul_zero, Int.mul_zero, ite_self, ite_self, Int.add_zero, Int.add_zero]
        by_cases q : p = i
        · rw [if_pos q, q, tfG_self hD t0 t1 i0 i1]; exact ez
        · rw [if_neg q]
  refine wr_Mover_timesForm hz y0 (shOk_sh hS) ?_
  rw [fi (t + 1) (by omega) (by omega), fi (t + 2) (by omega) (by omega), hX, hY, hW]
  refine ⟨⟨by omega, by omega⟩, ⟨by omega, by omega⟩, ⟨by omega, by omega⟩, ⟨by omega, by omega⟩, ⟨by omega, by omega⟩, ⟨by omega, by omega⟩, ⟨by omega, by omega⟩, ⟨by omega, by omega⟩, ⟨by omega, by omega⟩, ⟨by omega, by omega⟩, ⟨by omega, by omega⟩, ⟨by omega, by omega⟩, mU_mono (t_fill4 (d := d) hz a0 (by omega) (by omega) xl (by omega)) fun I13 e13 => ⟨⟨by omega, by omega⟩, ?_⟩⟩
  obtain ⟨f13, g13⟩ := fr_eq_iw e13
  refine L82 (fF D (t + 1)).toNat (fF D (t + 1) - 1) I13 _ _ (by omega) (by omega) f13 (fun p p0 p1 => ?_) fun k hk => ?_
  · rw [tfG_0 hD t0 t1 p0 p1, g13]
    unfold fillF
    by_cases q : p < fF D (t + 1)
    · rw [if_neg (by omega), if_pos q]
    · rw [if_pos (by omega), if_neg q]
  · rw [g13]
    unfold fillF
    rw [if_neg (by omega)]
end WTM
