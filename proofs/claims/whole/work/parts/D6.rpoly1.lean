/-! the reading of polynomials, once more: row 216 stays a row of numbers below 2521 -/
def o46 (I : cm_I) : Prop := okR (I 214) ∧ okR (I 216)
theorem o46_fr {l : List Nat} {I I1 : cm_I} (h : o46 I) (f : fr l I I1) (a : 214 ∉ l) (b : 216 ∉ l) : o46 I1 := by
  unfold o46
  rw [f 214 a, f 216 b]; exact h
theorem okR_setR {f g : Int → Int} (h : okR f) {lo n : Int} (hg : ∀ j, 0 ≤ g j ∧ g j < 2521) : okR (setR f lo n g) := fun j => by
  unfold setR
  split
  · exact hg _
  · exact h j
def mPaX (I : cm_I) : Prop := mD I ∧ mMon I ∧ okR (I 223) ∧ o46 I
theorem mPa_frX {I I1 : cm_I} (h : mPaX I) (f : fr [209, 214, 216, 223] I I1) (e : I1 209 1 = I 209 1) (o : okR (I1 223)) (o2 : o46 I1) : mPaX I1 := by
  refine ⟨by unfold mD; rw [e]; exact h.1, ?_, o, o2⟩
  have hm := h.2.1
  unfold mMon at hm ⊢
  rw [e, f 210 (by decide), f 211 (by decide), f 212 (by decide)]
  exact hm
section MSK
variable {d : Nat} {z : cm_Z} {I : cm_I}
def stPostX (I : cm_I) (x : Int) (f v : Int → Int) (I1 : cm_I) : Prop := fr [209, 214, 216, 223] I I1 ∧ okR (I1 223) ∧ o46 I1 ∧ I1 209 = f ∧ (∀ k, k < x → I1 223 k = I 223 k) ∧ (f 28 = 0 → isRow (I1 223) x v)
theorem s_joinsX (hz : mz z) (hP : mPaX I) (n0 : 2 ≤ I 209 27) (n1 : I 209 27 ≤ 30) (h28 : I 209 28 = 0 ∨ I 209 28 = 1) {v w : Int → Int} (hv : I 209 28 = 0 → isRow (I 223) (1140 * (I 209 27 - 2)) v ∧ vOk (I 209 1) v) (hw : I 209 28 = 0 → isRow (I 223) (1140 * (I 209 27 - 1)) w ∧ vOk (I 209 1) w) : mU (d + 4) m_Model_joins [vR 12 209] z I fun I1 => stPostX I (1140 * (I 209 27 - 2)) (pJoin (I 209 1) (I 209) v w).1 (pJoin (I 209 1) (I 209) v w).2 I1 := by
  obtain ⟨hD, hm, o3, o4⟩ := id hP
  have hD' : I 209 1 = 2 ∨ I 209 1 = 3 := hD
  have l3 : mLen 223 = 34200 := rfl
  have k101 : ∀ (s0 : Int) (z3 z4 : Option cm_V), (s0 = 0 ∨ s0 = 1) → (s0 = 0 ↔ ¬ (I 209 28 ≠ 0 ∨ 15 < mDeg (I 209 1) v 0 + mDeg (I 209 1) w 0)) → cw (d + 3) cd_Model_joins (qU z fun I1 => stPostX I (1140 * (I 209 27 - 2)) (pJoin (I 209 1) (I 209) v w).1 (pJoin (I 209 1) (I 209) v w).2 I1) 101 [some (vR 12 209), some (vI (1140 * (I 209 27 - 2))), some (vI (1140 * (I 209 27 - 1))), z3, z4] [vI s0, vR 12 209] (I, z) := by
    intro s0 z3 z4 hs hiff
    refine mr_joins_101 hz ⟨hs, fun I2 e2 => ?_⟩
    obtain ⟨f2, g2⟩ := fr_eq_iu e2
    have h28' : I2 209 28 = s0 := by rw [g2]; rfl
    have h27' : I2 209 27 = I 209 27 := by rw [g2]; rfl
    have h1' : I2 209 1 = I 209 1 := by rw [g2]; rfl
    rw [h28', h27']
    refine ⟨fun q => ⟨⟨by omega, by omega⟩, fun I4 e4 => qU_mk ?_⟩, fun q => ?_⟩
    · obtain ⟨f4, g4⟩ := fr_eq_iu e4
      have c : I 209 28 ≠ 0 ∨ 15 < mDeg (I 209 1) v 0 + mDeg (I 209 1) w 0 := Classical.byContradiction fun x => q (hiff.mpr x)
      have e3 : I4 223 = I 223 := (f4 223 (by decide)).trans (f2 223 (by decide))
      unfold pJoin
      rw [if_pos c]
      refine ⟨fr_trans (fr_mono f2 (by decide)) (fr_mono f4 (by decide)), by rw [e3]; exact o3, by unfold o46; rw [f4 214 (by decide), f2 214 (by decide), f4 216 (by decide), f2 216 (by decide)]; exact o4, ?_, fun k _ => by rw [e3], fun x => absurd (show (1 : Int) = 0 from x) (by decide)⟩
      rw [g4, g2, show s0 = 1 by omega]
      rfl
    · have c := hiff.mp q
      have c28 : I 209 28 = 0 := by omega
      obtain ⟨v1, v2⟩ := hv c28
      obtain ⟨w1, w2⟩ := hw c28
      have hP2 : mPaX I2 := mPa_frX hP (fr_mono f2 (by decide)) h1' (by rw [f2 223 (by decide)]; exact o3) (by unfold o46; rw [f2 214 (by decide), f2 216 (by decide)]; exact o4)
      have e3 : I2 223 = I 223 := f2 223 (by decide)
      have dv := isRow_deg (D := I 209 1) v1
      have dw := isRow_deg (D := I 209 1) w1
      refine mU_mono (s_multiplies hz hP2.1 hP2.2.1 mA223 mA223 mA216 (by decide) (by decide) (by decide) (by omega) (by omega) (by omega) (by omega) (by omega) (by omega) (by omega) (show _ ≤ (1140 : Int) by omega) (by omega) hP2.2.2.1 hP2.2.2.1 (by rw [h1', e3, dv, dw]; omega)) fun I5 e5 => ?_
      obtain ⟨f5, g5⟩ := fr_eq_iw e5
      rw [h1', e3, isRow_mul v1 w1] at g5
      refine mU_mono (s_copies hz mA216 mA223 (by omega) (by omega) (by omega) (by omega) (show _ ≤ (1140 : Int) by omega) (by omega) (by decide)) fun I6 e6 => ?_
      obtain ⟨f6, g6⟩ := fr_eq_iw e6
      have h9 : I6 209 = I2 209 := (f6 209 (by decide)).trans (f5 209 (by decide))
      rw [h9, h27']
      refine ⟨⟨by omega, by omega⟩, fun I8 e8 => qU_mk ?_⟩
      obtain ⟨f8, g8⟩ := fr_eq_iu e8
      have e53 : I5 223 = I 223 := (f5 223 (by decide)).trans e3
      have e83 : I8 223 = I6 223 := f8 223 (by decide)
      unfold pJoin
      rw [if_neg c]
      refine ⟨fr_trans (fr_mono f2 (by decide)) (fr_trans (fr_mono f5 (by decide)) (fr_trans (fr_mono f6 (by decide)) (fr_mono f8 (by decide)))), ?_, ?_, ?_, fun k hk => ?_, fun _ k k0 k1 => ?_⟩
      · rw [e83, g6, e53, g5]
        refine okR_cpy o3 _ _ _ fun j j0 j1 => ?_
        unfold setR
        rw [if_pos (by omega)]
        exact pMul_bd _ _ _ _ _ _
      · unfold o46
        rw [f8 214 (by decide), f6 214 (by decide), f5 214 (by decide), f2 214 (by decide), f8 216 (by decide), f6 216 (by decide), g5, f2 216 (by decide)]
        exact ⟨o4.1, okR_setR o4.2 fun j => pMul_bd _ _ _ _ _ _⟩
      · rw [g8, h9, g2, q]
        rfl
      · rw [e83, g6, e53]
        unfold cpyF
        rw [if_neg (by omega)]
      · show _ = vMul (I 209 1) v w k
        rw [e83, g6, e53, g5]
        unfold cpyF setR vMul
        rw [if_pos (by omega), if_pos (by omega), if_pos ⟨k0, k1⟩]
        congr 1
        omega
  have k79 : ∀ (s0 : Int) (z3 z4 : Option cm_V), (I 209 28 = 0 → (15 < s0 ↔ 15 < mDeg (I 209 1) v 0 + mDeg (I 209 1) w 0)) → cw (d + 3) cd_Model_joins (qU z fun I1 => stPostX I (1140 * (I 209 27 - 2)) (pJoin (I 209 1) (I 209) v w).1 (pJoin (I 209 1) (I 209) v w).2 I1) 79 [some (vR 12 209), some (vI (1140 * (I 209 27 - 2))), some (vI (1140 * (I 209 27 - 1))), z3, z4] [vI s0] (I, z) := by
    intro s0 z3 z4 h
    refine mr_joins_79 hz ⟨fun q => k101 1 _ _ (by omega) ⟨fun x => absurd x (by decide), fun x => absurd (Or.inl q) x⟩, fun q => ⟨fun q2 => k101 0 _ _ (by omega) ⟨fun _ x => ?_, fun _ => rfl⟩, fun q2 => k101 1 _ _ (by omega) ⟨fun x => absurd x (by decide), fun x => absurd (Or.inr ((h q).mp q2)) x⟩⟩⟩
    rcases x with x | x
    · exact x q
    · have := (h q).mpr x
      omega
  have k51 : ∀ (s0 : Int) (z3 z4 : Option cm_V), (I 209 28 = 0 → s0 ≠ 0 → mDeg (I 209 1) v 0 + mDeg (I 209 1) w 0 ≤ 15) → cw (d + 3) cd_Model_joins (qU z fun I1 => stPostX I (1140 * (I 209 27 - 2)) (pJoin (I 209 1) (I 209) v w).1 (pJoin (I 209 1) (I 209) v w).2 I1) 51 [some (vR 12 209), some (vI (1140 * (I 209 27 - 2))), some (vI (1140 * (I 209 27 - 1))), z3, z4] [vI s0] (I, z) := by
    intro s0 z3 z4 h
    have b1 := mDeg_bd hD (I 223) (1140 * (I 209 27 - 2))
    have b2 := mDeg_bd hD (I 223) (1140 * (I 209 27 - 1))
    refine mr_joins_51 hz ⟨fun q => mI_mono (s_degree hz hD hm mA223 (by omega) (by omega) (by omega)) fun v2 I1 ⟨e1, ev2⟩ => ?_, fun q => k79 0 _ _ fun x => ?_⟩
    · rw [e1]
      refine mI_mono (s_degree hz hD hm mA223 (by omega) (by omega) (by omega)) fun v4 I3 ⟨e3, ev4⟩ => ?_
      rw [e3]
      refine ⟨⟨by omega, by omega⟩, k79 _ _ _ fun x => ?_⟩
      rw [ev2, ev4, isRow_deg (hv x).1, isRow_deg (hw x).1]
    · have := h x q
      omega
  refine mr_joins hz ⟨⟨by omega, by omega⟩, ⟨by omega, by omega⟩, ⟨by omega, by omega⟩, ⟨by omega, by omega⟩, mI_mono (s_isNothing hz mA223 (by omega) (by omega) (by omega)) fun v6 I5 ⟨e5, b6, i6⟩ => ?_⟩
  rw [e5]
  have nil : ∀ (x : Int) (u : Int → Int), isRow (I 223) x u → (∀ k : Int, 0 ≤ k → k < 1140 → I 223 (x + k) = 0) → mDeg (I 209 1) u 0 = 0 := fun x u hu hz0 => mDeg_nil hD' fun k k0 k1 => by
    have := mSz_bd (I 209 1)
    rw [show (0 : Int) + k = k by omega, ← hu k k0 (by omega)]
    exact hz0 k k0 (by omega)
  refine ⟨fun q => k51 1 _ _ fun x _ => ?_, fun q => mI_mono (s_isNothing hz mA223 (by omega) (by omega) (by omega)) fun v8 I7 ⟨e7, b8, i8⟩ => ?_⟩
  · have a1 := nil _ _ (hv x).1 (i6.mp (by omega))
    have a2 := (hw x).2.2.2
    omega
  · rw [e7]
    refine ⟨fun q8 => k51 0 _ _ fun _ y => absurd rfl y, fun q8 => k51 1 _ _ fun x _ => ?_⟩
    have a1 := nil _ _ (hw x).1 (i8.mp (by omega))
    have a2 := (hv x).2.2.2
    omega
theorem s_raisesX (hz : mz z) (hP : mPaX I) (n0 : 1 ≤ I 209 27) (n1 : I 209 27 ≤ 30) (h28 : I 209 28 = 0 ∨ I 209 28 = 1) {e : Int} (e0 : 0 ≤ e) (e1 : e ≤ 15) {v : Int → Int} (hv : I 209 28 = 0 → isRow (I 223) (1140 * (I 209 27 - 1)) v ∧ vOk (I 209 1) v) : mU (d + 4) m_Model_raises [vR 12 209, vI e] z I fun I1 => stPostX I (1140 * (I 209 27 - 1)) (pRaise (I 209 1) e (I 209) v).1 (pRaise (I 209 1) e (I 209) v).2 I1 := by
  obtain ⟨hD, hm, o3, o4⟩ := id hP
  have hD' : I 209 1 = 2 ∨ I 209 1 = 3 := hD
  have l3 : mLen 223 = 34200 := rfl
  have k40 : ∀ (s0 : Int) (z3 : Option cm_V), (s0 = 0 ∨ s0 = 1) → (s0 = 0 ↔ ¬ (I 209 28 ≠ 0 ∨ 15 < mDeg (I 209 1) v 0 * e)) → cw (d + 3) cd_Model_raises (qU z fun I1 => stPostX I (1140 * (I 209 27 - 1)) (pRaise (I 209 1) e (I 209) v).1 (pRaise (I 209 1) e (I 209) v).2 I1) 40 [some (vR 12 209), some (vI e), some (vI (1140 * (I 209 27 - 1))), z3] [vI s0, vR 12 209] (I, z) := by
    intro s0 z3 hs hiff
    refine mr_raises_40 hz ⟨hs, fun I2 e2 => ?_⟩
    obtain ⟨f2, g2⟩ := fr_eq_iu e2
    have h28' : I2 209 28 = s0 := by rw [g2]; rfl
    have h1' : I2 209 1 = I 209 1 := by rw [g2]; rfl
    have e3 : I2 223 = I 223 := f2 223 (by decide)
    rw [h28']
    refine ⟨fun q => ?_, fun q => qU_mk ?_⟩
    · have c := hiff.mp q
      have c28 : I 209 28 = 0 := by omega
      obtain ⟨v1, v2⟩ := hv c28
      have g9 : I2 209 = st1 (I 209) 28 0 := by rw [g2, q]; rfl
      unfold pRaise
      rw [if_neg c]
      refine mU_mono (s_copies hz mA223 mA214 (by omega) (show _ ≤ (1140 : Int) by omega) (by omega) (by omega) (by omega) (by omega) (by decide)) fun I3 e3' => ?_
      obtain ⟨f3, g3⟩ := fr_eq_iw e3'
      refine mU_mono (s_clears hz mA223 (by omega) (by omega) (by omega)) fun I4 e4 => ⟨⟨by omega, by omega⟩, fun I6 e6 => ?_⟩
      obtain ⟨f4, g4⟩ := fr_eq_iw e4
      obtain ⟨f6, g6⟩ := fr_eq_iu e6
      have fa : fr [209, 214, 216, 223] I I6 := fr_trans (fr_mono f2 (by decide)) (fr_trans (fr_mono f3 (by decide)) (fr_trans (fr_mono f4 (by decide)) (fr_mono f6 (by decide))))
      have a9 : I6 209 = st1 (I 209) 28 0 := by rw [f6 209 (by decide), f4 209 (by decide), f3 209 (by decide), g9]
      have a14 : I6 214 = cpyF (I 223) (1140 * (I 209 27 - 1)) (I 214) 0 1140 := by rw [f6 214 (by decide), f4 214 (by decide), g3, e3, f2 214 (by decide)]
      have o14 : okR (I6 214) := by
        rw [a14]
        exact okR_cpy o4.1 _ _ _ fun j _ _ => o3 _
      have r14 : isRow (I6 214) 0 v := by
        intro k k0 k1
        rw [a14]
        unfold cpyF
        rw [if_pos (by omega), ← v1 k k0 k1]
        congr 1
        omega
      have a23 : I6 223 = st1 (fillF (I 223) (1140 * (I 209 27 - 1)) 1140 0) (1140 * (I 209 27 - 1)) 1 := by
        rw [g6, g4, f3 223 (by decide), e3]
        rfl
      have fin : ∀ (n : Nat) (k : Int) (I0 : cm_I), 0 ≤ k → k + n = e → fr [209, 214, 216, 223] I I0 → I0 209 = st1 (I 209) 28 0 → (I0 214 = I6 214 ∧ okR (I0 216)) → okR (I0 223) → (∀ j, j < 1140 * (I 209 27 - 1) → I0 223 j = I 223 j) → isRow (I0 223) (1140 * (I 209 27 - 1)) (vPow (I 209 1) v k.toNat) → cw (d + 3) cd_Model_raises (qU z fun I1 => stPostX I (1140 * (I 209 27 - 1)) (st1 (I 209) 28 0) (vPow (I 209 1) v e.toNat) I1) 81 [some (vR 12 209), some (vI e), some (vI (1140 * (I 209 27 - 1))), some (vI k)] [] (I0, z) := by
        intro n
        induction n with
        | zero =>
          intro k I0 k0 ek hf b9 ⟨b14, b16⟩ b23 lo hr
          refine mr_raises_81 hz ⟨fun _ => qU_mk ⟨hf, b23, ⟨by rw [b14]; exact o14, b16⟩, b9, lo, fun _ => ?_⟩, fun q => by omega⟩
          rw [show e = k by omega]
          exact hr
        | succ n ih =>
          intro k I0 k0 ek hf b9 ⟨b14, b16⟩ b23 lo hr
          have hP0 : mPaX I0 := mPa_frX hP hf (by rw [b9]; rfl) b23 ⟨by rw [b14]; exact o14, b16⟩
          have b1 : I0 209 1 = I 209 1 := by rw [b9]; rfl
          have hr14 : isRow (I0 214) 0 v := by rw [b14]; exact r14
          have dpos := mDeg_bd hD v 0
          have hmul : mDeg (I 209 1) v 0 * (k + 1) ≤ mDeg (I 209 1) v 0 * e := Int.mul_le_mul_of_nonneg_left (by omega) dpos.1
          have hmul2 : mDeg (I 209 1) v 0 * (k + 1) = mDeg (I 209 1) v 0 * k + mDeg (I 209 1) v 0 := by rw [Int.mul_add, Int.mul_one]
          have vp := vOk_pow hD' v2 k.toNat (by rw [show ((k.toNat : Nat) : Int) = k by omega]; omega)
          rw [show ((k.toNat : Nat) : Int) = k by omega] at vp
          refine mr_raises_81 hz ⟨fun q => by omega, fun q => mU_mono (s_multiplies hz hP0.1 hP0.2.1 mA223 mA214 mA216 (by decide) (by decide) (by decide) (by omega) (by omega) (by omega) (by omega) (show _ ≤ (1140 : Int) by omega) (by omega) (by omega) (show _ ≤ (1140 : Int) by omega) (by omega) hP0.2.2.1 hP0.2.2.2.1 (by rw [b1, isRow_deg hr, isRow_deg hr14]; omega)) fun I7 e7 => ?_⟩
          obtain ⟨f7, g7⟩ := fr_eq_iw e7
          rw [b1, isRow_mul hr hr14] at g7
          refine mU_mono (s_copies hz mA216 mA223 (by omega) (by omega) (by omega) (by omega) (show _ ≤ (1140 : Int) by omega) (by omega) (by decide)) fun I8 e8 => ⟨⟨by omega, by omega⟩, ?_⟩
          obtain ⟨f8, g8⟩ := fr_eq_iw e8
          have e73 : I7 223 = I0 223 := f7 223 (by decide)
          refine ih (k + 1) I8 (by omega) (by omega) (fr_trans hf (fr_trans (fr_mono f7 (by decide)) (fr_mono f8 (by decide)))) (by rw [f8 209 (by decide), f7 209 (by decide), b9]) ⟨by rw [f8 214 (by decide), f7 214 (by decide), b14], by rw [f8 216 (by decide), g7]; exact okR_setR b16 fun j => pMul_bd _ _ _ _ _ _⟩ ?_ (fun j hj => ?_) (fun j j0 j1 => ?_)
          · rw [g8, e73, g7]
            refine okR_cpy b23 _ _ _ fun j j0 j1 => ?_
            unfold setR
            rw [if_pos (by omega)]
            exact pMul_bd _ _ _ _ _ _
          · rw [g8, e73]
            unfold cpyF
            rw [if_neg (by omega)]
            exact lo j hj
          · rw [show (k + 1).toNat = k.toNat + 1 by omega]
            show _ = vMul (I 209 1) (vPow (I 209 1) v k.toNat) v j
            rw [g8, e73, g7]
            unfold cpyF setR vMul
            rw [if_pos (by omega), if_pos (by omega), if_pos ⟨j0, j1⟩]
            congr 1
            omega
      refine fin e.toNat 0 I6 (by omega) (by omega) fa a9 ⟨rfl, by rw [f6 216 (by decide), f4 216 (by decide), f3 216 (by decide), f2 216 (by decide)]; exact o4.2⟩ ?_ (fun j hj => ?_) (fun j j0 j1 => ?_)
      · rw [a23]
        exact okR_st (okR_fill o3 _ _) (by omega) (by omega)
      · rw [a23]
        unfold st1 fillF
        rw [if_neg (by omega), if_neg (by omega)]
      · rw [a23]
        show _ = vK 1 j
        unfold st1 fillF vK
        by_cases ej : j = 0
        · rw [if_pos (by omega), if_pos ej]
        · rw [if_neg (by omega), if_pos (by omega), if_neg ej]
    · have c : I 209 28 ≠ 0 ∨ 15 < mDeg (I 209 1) v 0 * e := Classical.byContradiction fun x => q (hiff.mpr x)
      unfold pRaise
      rw [if_pos c]
      refine ⟨fr_mono f2 (by decide), by rw [e3]; exact o3, by unfold o46; rw [f2 214 (by decide), f2 216 (by decide)]; exact o4, ?_, fun k _ => by rw [e3], fun x => absurd (show (1 : Int) = 0 from x) (by decide)⟩
      rw [g2, show s0 = 1 by omega]
      rfl
  have b1 := mDeg_bd hD (I 223) (1140 * (I 209 27 - 1))
  refine mr_raises hz ⟨⟨by omega, by omega⟩, ⟨by omega, by omega⟩, fun q => k40 1 _ (by omega) ⟨fun x => absurd x (by decide), fun x => absurd (Or.inl q) x⟩, fun q => mI_mono (s_degree hz hD hm mA223 (by omega) (by omega) (by omega)) fun v4 I3 ⟨e3, ev⟩ => ?_⟩
  rw [e3]
  have bm := mul_bd (x := v4) (y := e) (X := 17) (Y := 15) (by omega) (by omega) e0 e1
  have ed : v4 = mDeg (I 209 1) v 0 := by rw [ev]; exact isRow_deg (hv q).1
  refine ⟨⟨by omega, by omega⟩, fun q2 => k40 0 _ (by omega) ⟨fun _ x => ?_, fun _ => rfl⟩, fun q2 => k40 1 _ (by omega) ⟨fun x => absurd x (by decide), fun x => absurd (Or.inr (by rw [← ed]; exact q2)) x⟩⟩
  rcases x with x | x
  · exact x q
  · rw [← ed] at x
    omega
end MSK
