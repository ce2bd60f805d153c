/-! PrimarySearch.isCornerMissing -/
/-- where the power of a variable stands in its degree -/
def cnr (D : Int) (v : Int) (p : Int) : Int := (if v = 0 then 0 else fF D p) + (if v = 2 then p else 0)
section WCO
variable {d : Nat} {z : cm_Z} {I : cm_I} {D : Int} {sh : Nat}
theorem cnr_ok (hD : D = 2 ∨ D = 3) {v p : Int} (v0 : 0 ≤ v) (v1 : v < D) (p0 : 0 ≤ p) (p1 : p ≤ 17) : 0 ≤ cnr D v p ∧ cnr D v p < fF D (p + 1) := by
  have sc := fF_succ hD (s := p) p0 p1
  have fb := fF_bd hD (s := p) p0 (by omega)
  unfold cnr
  rw [sc]
  rcases hD with e | e
  · rw [if_pos e]
    have : v = 0 ∨ v = 1 := by omega
    rcases this with h | h <;> subst h
    · rw [if_pos rfl, if_neg (by decide)]; omega
    · rw [if_neg (by decide), if_neg (by decide)]; omega
  · rw [if_neg (show ¬ D = 2 by omega)]
    have : v = 0 ∨ v = 1 ∨ v = 2 := by omega
    rcases this with h | h | h <;> subst h
    · rw [if_pos rfl, if_neg (by decide)]; omega
    · rw [if_neg (by decide), if_neg (by decide)]; omega
    · rw [if_neg (by decide), if_pos rfl]; omega
theorem f0 (hD : D = 2 ∨ D = 3) : fF D 0 = 0 := by rcases hD with e | e <;> subst e <;> decide
theorem f1 (hD : D = 2 ∨ D = 3) : fF D 1 = 1 := by rcases hD with e | e <;> subst e <;> decide
/-- only the power itself comes to the corner -/
theorem cnr_ax (hD : D = 2 ∨ D = 3) {v i m p t : Int} (v0 : 0 ≤ v) (v1 : v < D) (p0 : 0 ≤ p) (t0 : 0 ≤ t) (p15 : p ≤ 15) (t15 : t ≤ 15) (pt : p + t ≤ 17) (i0 : 0 ≤ i) (i1 : i < fF D (p + 1)) (m0 : 0 ≤ m) (m1 : m < fF D (t + 1)) (e : ax D i m = cnr D v (p + t)) : i = cnr D v p := by
  obtain ⟨bi, i16⟩ := blk_lt hD i0 i1 p0 p15
  obtain ⟨bm, m16⟩ := blk_lt hD m0 m1 t0 t15
  obtain ⟨a1, a2, a3, a4, a5, a6, a7, a8⟩ := blk_ok hD i0 i16
  obtain ⟨b1, b2, b3, b4, b5, b6, b7, b8⟩ := blk_ok hD m0 m16
  have l := ax_low hD i0 m0 i16 m16 (by omega)
  have z0 := f0 hD
  have z1 := f1 hD
  unfold cnr at e ⊢
  by_cases w : v = 0
  · rw [if_pos w, if_neg (by omega)] at e ⊢
    have e0 : blk D i + blk D m = 0 := by
      apply Classical.byContradiction
      intro ne
      have := fF_mono hD (s := 1) (t := blk D i + blk D m) (by decide) (by omega) (by omega)
      omega
    have : blk D i = 0 := by omega
    rw [this] at a4 a6
    omega
  · rw [if_neg w] at e ⊢
    have big : fF D (p + t) ≤ ax D i m := by
      rw [e]
      split <;> omega
    have es : blk D i + blk D m = p + t := by
      apply Classical.byContradiction
      intro ne
      have := fF_mono hD (s := blk D i + blk D m + 1) (t := p + t) (by omega) (by omega) (by omega)
      omega
    have ei : blk D i = p := by omega
    unfold ax at e
    rw [es] at e
    rw [ei] at a6 a4
    by_cases w2 : v = 2
    · rw [if_pos w2] at e ⊢
      omega
    · rw [if_neg w2] at e ⊢
      omega
/-- a corner is missing: then not all -/
theorem cnr_not (hD : D = 2 ∨ D = 3) {P : Nat → Int → Int} {dg : Nat → Int} (hd : ∀ i : Nat, (i : Int) < D → 1 ≤ dg i ∧ dg i ≤ 15 ∧ 0 ≤ sDg D dg - dg i ∧ sDg D dg - dg i ≤ 15) (s17 : sDg D dg ≤ 17) {v : Int} (v0 : 0 ≤ v) (v1 : v < D) (h : ∀ i : Nat, (i : Int) < D → P i (mFrom D (dg i) + cnr D v (dg i)) = 0) : ¬ isAll D P dg := by
  intro al
  have s0 : 0 ≤ sDg D dg := by have := hd 0 (by omega); omega
  obtain ⟨c1, c2⟩ := cnr_ok hD v0 v1 s0 s17
  obtain ⟨k, ek⟩ : ∃ k : Nat, (k : Int) = cnr D v (sDg D dg) := ⟨(cnr D v (sDg D dg)).toNat, by omega⟩
  obtain ⟨c, hc⟩ := al (fun j => if j = k then 1 else 0)
  have mn := fF_many D (sDg D dg)
  have hk := hc k (by omega)
  have e1 : (fun j => if j = k then (1 : cF) else 0) k = 1 := if_pos rfl
  rw [e1] at hk
  have zz : gs D.toNat (fun i => gs (mMany D (sDg D dg - dg i)).toNat fun m => c i m * wvz D (P i) (dg i) (sDg D dg) (mFrom D (sDg D dg - dg i) + m) k) = 0 := by
    refine gs_zero fun i hi => gs_zero fun m hm => ?_
    obtain ⟨d1, d2, d3, d4⟩ := hd i (by omega)
    have w0 : wvz D (P i) (dg i) (sDg D dg) (mFrom D (sDg D dg - dg i) + m) k = 0 := by
      refine gs_zero fun x hx => ?_
      by_cases w : mIx D (mFrom D (dg i) + x) (mFrom D (sDg D dg - dg i) + m) = mFrom D (sDg D dg) + k
      · rw [if_pos w]
        have m1 := fF_many D (dg i)
        have m2 := fF_many D (sDg D dg - dg i)
        have A := ax_ok2 hD (i := (x : Int)) (j := (m : Int)) (p := dg i) (q := sDg D dg - dg i) (by omega) (by omega) (by omega) d3 d2 d4 (by omega) (by omega) (by omega)
        rw [show dg i + (sDg D dg - dg i) = sDg D dg by omega] at A
        have ex := cnr_ax hD (i := (x : Int)) (m := (m : Int)) (p := dg i) (t := sDg D dg - dg i) v0 v1 (by omega) d3 d2 d4 (by omega) (by omega) (by omega) (by omega) (by omega) (by rw [show dg i + (sDg D dg - dg i) = sDg D dg by omega]; omega)
        rw [ex, h i (by omega)]
        rfl
      · rw [if_neg w]
    rw [w0, gs_z3]
  rw [zz] at hk
  exact f_one_ne (hk.trans (Lean.Grind.Semiring.add_zero _))
/-- a piece: part of degree dg of the polynomial P -/
def pcO (D : Int) (z : cm_Z) (J : cm_I) (i : Nat) (P : Int → Int) (dg : Int) : Prop := ∃ (q : Nat) (at_ : Int), z.1 (192 + 2 * i) 0 = q ∧ 0 < q ∧ q < zN z ∧ q ∉ [63, 65, 188] ∧ q ≠ z.1 63 2 ∧ J (192 + 2 * i) 1 = at_ ∧ J (192 + 2 * i) 2 = dg ∧ 1 ≤ dg ∧ dg ≤ 15 ∧ 0 ≤ at_ ∧ at_ ≤ 1000000 ∧ at_ + fF D (dg + 1) ≤ z.2.1 q ∧ ∀ k, 0 ≤ k → k < fF D (dg + 1) → J q (at_ + k) = P (mFrom D dg + k) ∧ 0 ≤ P (mFrom D dg + k) ∧ P (mFrom D dg + k) < 2521
theorem t_isCornerMissing (hz : wz z) (hS : shOk D sh I) (y : z.1 185 2 = sh) {P : Nat → Int → Int} {dg : Nat → Int} (hP : ∀ i : Nat, (i : Int) < D → pcO D z I i (P i) (dg i)) : mI (d + 1) m_Search_isCornerMissing [vR 6 185] z I fun r I1 => I1 = I ∧ (r = 0 ∨ (r = 1 ∧ ∃ v, 0 ≤ v ∧ v < D ∧ ∀ i : Nat, (i : Int) < D → P i (mFrom D (dg i) + cnr D v (dg i)) = 0)) := by
  have hD := shOk_D hS
  have hsh := shOk_sh hS
  have e0 : I sh 0 = D := hS.2.1
  have F := hS.2.2.2.1
  have L2 : ∀ (u v : Nat) (z2 z3 z4 z5 : Option cm_V), (v : Int) + u = D → cw d cd_Search_isCornerMissing (qI z fun r I1 => I1 = I ∧ (r = 0 ∨ (r = 1 ∧ ∃ v, 0 ≤ v ∧ v < D ∧ ∀ i : Nat, (i : Int) < D → P i (mFrom D (dg i) + cnr D v (dg i)) = 0))) 2 [some (vR 6 185), some (vI (v : Int)), z2, z3, z4, z5] [] (I, z) := by
    intro u
    induction u with
    | zero =>
      intro v z2 z3 z4 z5 ev
      refine wr_Search_isCornerMissing_2 hz y hsh ?_
      rw [e0]
      exact ⟨fun _ => qI_mk ⟨rfl, Or.inl rfl⟩, fun w => by omega⟩
    | succ u ih =>
      intro v z2 z3 z4 z5 ev
      have L17 : ∀ (w i : Nat) (x : Int) (z4 z5 : Option cm_V), (i : Int) + w = D → (x = 0 ∨ (x = 1 ∧ ∀ i' : Nat, i' < i → P i' (mFrom D (dg i') + cnr D v (dg i')) = 0)) → cw d cd_Search_isCornerMissing (qI z fun r I1 => I1 = I ∧ (r = 0 ∨ (r = 1 ∧ ∃ v, 0 ≤ v ∧ v < D ∧ ∀ i : Nat, (i : Int) < D → P i (mFrom D (dg i) + cnr D v (dg i)) = 0))) 17 [some (vR 6 185), some (vI (v : Int)), some (vI x), some (vI (i : Int)), z4, z5] [] (I, z) := by
        intro w
        induction w with
        | zero =>
          intro i x z4 z5 ei hx
          refine wr_Search_isCornerMissing_17 hz y hsh ?_
          rw [e0]
          refine ⟨fun _ => ⟨fun x0 => ⟨by unfold cm_i; omega, ?_⟩, fun x0 => qI_mk ⟨rfl, Or.inr ⟨rfl, v, by omega, by omega, fun i' h' => ?_⟩⟩⟩, fun w => by omega⟩
          · have := ih (v + 1) (some (vI x)) (some (vI (i : Int))) z4 z5 (by omega)
            exact this
          · rcases hx with h | h
            · exact absurd h x0
            · exact h.2 i' (by omega)
        | succ w ihw =>
          intro i x z4 z5 ei hx
          have iD : (i : Int) < D := by omega
          obtain ⟨q, at_, p1, p2, p3, p4, p5, p6, p7, p8, p9, p10, p11, p12, p13⟩ := hP i iD
          have ti : Int.toNat (i : Int) = i := by omega
          obtain ⟨k1, k2⟩ := cnr_ok hD (v := (v : Int)) (p := dg i) (by omega) (by omega) (by omega) (by omega)
          obtain ⟨v1, v2, v3⟩ := p13 (cnr D v (dg i)) k1 k2
          have fb := fF_bd hD (s := dg i) (by omega) (by omega)
          have fb1 := fF_bd hD (s := dg i + 1) (by omega) (by omega)
          have E75 : ∀ (s0 s1 : Int) (z5 : Option cm_V), s1 + s0 = cnr D v (dg i) → cw d cd_Search_isCornerMissing (qI z fun r I1 => I1 = I ∧ (r = 0 ∨ (r = 1 ∧ ∃ v, 0 ≤ v ∧ v < D ∧ ∀ i : Nat, (i : Int) < D → P i (mFrom D (dg i) + cnr D v (dg i)) = 0))) 75 [some (vR 6 185), some (vI (v : Int)), some (vI x), some (vI (i : Int)), some (vR 5 (192 + 2 * i)), z5] [vI s0, vI s1] (I, z) := by
            intro s0 s1 z5 es
            refine wr_Search_isCornerMissing_75 hz (by omega) p1 p2 ?_
            rw [es, p6, v1]
            refine ⟨by unfold cm_i; omega, fun x0 => ⟨by unfold cm_i; omega, ?_⟩, fun x0 => ⟨by unfold cm_i; omega, ⟨by omega, by omega⟩, fun ne => ⟨by unfold cm_i; omega, ?_⟩, fun eq => ⟨by unfold cm_i; omega, ?_⟩⟩⟩
            · have := ihw (i + 1) 0 (some (vR 5 (192 + 2 * i))) (some (vI (cnr D v (dg i)))) (by omega) (Or.inl rfl)
              exact this
            · have := ihw (i + 1) 0 (some (vR 5 (192 + 2 * i))) (some (vI (cnr D v (dg i)))) (by omega) (Or.inl rfl)
              exact this
            · have := ihw (i + 1) 1 (some (vR 5 (192 + 2 * i))) (some (vI (cnr D v (dg i)))) (by omega) (Or.inr ⟨rfl, fun i' h' => by
                by_cases w : i' = i
                · rw [w]; exact eq
                · rcases hx with h | h
                  · exact absurd h x0
                  · exact h.2 i' (by omega)⟩)
              exact this
          have E57 : ∀ (s0 : Int) (z5 : Option cm_V), s0 = (if (v : Int) = 0 then 0 else fF D (dg i)) → cw d cd_Search_isCornerMissing (qI z fun r I1 => I1 = I ∧ (r = 0 ∨ (r = 1 ∧ ∃ v, 0 ≤ v ∧ v < D ∧ ∀ i : Nat, (i : Int) < D → P i (mFrom D (dg i) + cnr D v (dg i)) = 0))) 57 [some (vR 6 185), some (vI (v : Int)), some (vI x), some (vI (i : Int)), some (vR 5 (192 + 2 * i)), z5] [vI s0] (I, z) := by
            intro s0 z5 es
            refine wr_Search_isCornerMissing_57 hz (by omega) ⟨fun n2 => E75 0 s0 _ ?_, fun y2 => ?_⟩
            · unfold cnr
              rw [es, if_neg n2]
            · rw [p7]
              refine E75 (dg i) s0 _ ?_
              unfold cnr
              rw [es, if_pos y2]
          refine wr_Search_isCornerMissing_17 hz y hsh ?_
          rw [e0, ti]
          refine ⟨fun w => by omega, fun _ => ⟨⟨by omega, by omega⟩, fun n0 => ?_, fun y0 => E57 0 _ (by rw [if_pos y0])⟩⟩
          rw [p7, F (dg i) (by omega) (by omega)]
          exact ⟨⟨by omega, by omega⟩, E57 _ _ (by rw [if_neg n0])⟩
      refine wr_Search_isCornerMissing_2 hz y hsh ?_
      rw [e0]
      refine ⟨fun w => by omega, fun _ => ?_⟩
      have := L17 D.toNat 0 1 z4 z5 (by omega) (Or.inr ⟨rfl, fun i' h' => absurd h' (by omega)⟩)
      exact this
  refine wr_Search_isCornerMissing hz ?_
  have := L2 D.toNat 0 none none none none (by omega)
  exact this
end WCO
