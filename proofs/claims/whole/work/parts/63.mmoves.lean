/-! MOVING by the reference -/
def mvN (D : Int) (A : cMat) (v : Int → Int) (n : Nat) (K : Int) : cF := gs n fun i => toF (v (mFrom D (mDg D K) + i)) * atE D (monoE D A (mFrom D (mDg D K) + i)) K
def mvF (D : Int) (A : cMat) (v : Int → Int) (K : Int) : cF := mvN D A v (mMany D (mDg D K)).toNat K
/-- what v is moved to -/
def mv (D : Int) (A : cMat) (v : Int → Int) : Int → Int := fun K => if 0 ≤ K ∧ K < mFrom D 16 then fi (mvF D A v K) else 0
theorem m16_bd {D : Int} (hD : D = 2 ∨ D = 3) : 0 ≤ mFrom D 16 ∧ mFrom D 16 ≤ 816 ∧ mFrom D 16 ≤ mSz D := by rcases hD with h | h <;> rw [h] <;> decide
theorem vOk_mv {D : Int} (hD : D = 2 ∨ D = 3) (A : cMat) (v : Int → Int) : vOk D (mv D A v) := by
  obtain ⟨a, b, c⟩ := m16_bd hD
  refine ⟨fun k => ?_, fun k hk => ?_, mDeg_le hD (by omega) fun k k0 k1 hk => ?_⟩
  · unfold mv
    have := fi_bd (mvF D A v k)
    split <;> omega
  · unfold mv
    rw [if_neg (by omega)]
  · unfold mv
    rw [if_neg]
    intro x
    have := (mDg_lt hD (t := 15) k0 k1 (by omega)).mp (by rw [show (15 : Int) + 1 = 16 by omega]; omega)
    omega
def isInv (D : Int) (T : Nat → cMat) (nt : Nat) (v : Int → Int) : Prop := ∀ t, t < nt → mv D (T t) v = v
theorem vOk_16 {D : Int} (hD : D = 2 ∨ D = 3) {v : Int → Int} (h : vOk D v) {k : Int} (hk : ¬ (0 ≤ k ∧ k < mFrom D 16)) : v k = 0 := by
  by_cases c : 0 ≤ k ∧ k < mSz D
  · have := mDeg_z hD (f := v) (x := 0) c.1 c.2 (by
      have := (mDg_ge hD (t := 16) c.1 c.2 (by omega)).mp (by omega)
      have := h.2.2
      omega)
    rw [show (0 : Int) + k = k by omega] at this
    exact this
  · exact h.2.1 k c
section MMV
variable {d : Nat} {z : cm_Z} {I : cm_I}
theorem s_moves (hz : mz z) (hD : mD I) (hm : mMon I) {a b c : Nat} (ha : mA a) (hb : mA b) (hc : mA c) (hac : a ≠ c) (ha4 : a ≠ 224) (hb4 : b ≠ 224) (hc4 : c ≠ 224) (hc3 : 213 ≤ c) (okA : okR (I a)) (okB : okR (I b)) (okC : okR (I c)) (ok4 : okR (I 224)) {x : Int} (x0 : 0 ≤ x) (x1 : x + 1140 ≤ mLen a) (x2 : x ≤ 1000000) {g : Int} (g0 : 0 ≤ g) (g1 : g ≤ 1000) (gl : 9 * g + 9 ≤ mLen b) (cl : 1140 ≤ mLen c) {v : Int → Int} (hv : isRow (I a) x v) (vo : vOk (I 209 1) v) : mU (d + 4) m_Model_moves [vR 12 209, vR 20 a, vI x, vR 20 b, vI g, vR 20 c] z I fun I1 => fr [224, c] I I1 ∧ okR (I1 224) ∧ okR (I1 c) ∧ isRow (I1 c) 0 (mv (I 209 1) (mat (I 209 1) (I b) g) v) := by
  have hD' : I 209 1 = 2 ∨ I 209 1 = 3 := hD
  generalize hQ : (qU z fun I1 => fr [224, c] I I1 ∧ okR (I1 224) ∧ okR (I1 c) ∧ isRow (I1 c) 0 (mv (I 209 1) (mat (I 209 1) (I b) g) v)) = Q
  show cm_call _ _ _ _ (qU z _)
  rw [hQ]
  refine mr_moves hz (mI_mono (s_degree hz hD hm ha x0 x1 x2) fun most I1 ⟨e1, em⟩ => ?_)
  rw [e1]
  rw [isRow_deg hv] at em
  have db := mDeg_bd hD v 0
  have p15 : most ≤ 15 := by have := vo.2.2; omega
  refine mU_mono (s_laysImages hz hD hm hb hb4 okB ok4 g0 g1 gl (by omega) p15) fun I3 ⟨f3, o3, im⟩ => ?_
  have c93 : c ≠ 209 := by omega
  refine mU_mono (s_clears hz hc (by omega) (by omega) (by omega)) fun I4 e4 => ?_
  obtain ⟨f4, g4⟩ := fr_eq_iw e4
  generalize hA : mat (I 209 1) (I b) g = A at im hQ
  generalize hDD : I 209 1 = D at hD' im em db hQ vo
  have h9 : I4 209 = I 209 := by rw [f4 209 (by simp [Ne.symm c93]), f3 209 (by decide)]
  have fA : fr [224, c] I I4 := fr_trans (fr_mono f3 (by simp)) (fr_mono f4 (by simp))
  have im4 : ∀ k, 0 ≤ k → k < mFrom D (most + 1) → imD D A (I4 224) k := by
    intro k k0 k1
    rw [f4 224 (by simp [Ne.symm hc4])]
    exact im k k0 k1
  have o44 : okR (I4 224) := by rw [f4 224 (by simp [Ne.symm hc4])]; exact o3
  obtain ⟨w1, w2, w3, w4, w5, w6⟩ := from_bds hD' (t := most) (by omega) p15
  -- how many of K's degree are done
  have key : ∀ (n : Nat) (k : Int) (I0 : cm_I) (z8 z9 : Option cm_V), 0 ≤ k → k + n = mFrom D (most + 1) → fr [c] I4 I0 → okR (I0 c) → (∀ K, mFrom D 16 ≤ K → K < 1140 → I0 c K = 0) → (∀ K, 0 ≤ K → K < mFrom D 16 → toF (I0 c K) = mvN D A v ((if k < mFrom D (mDg D K + 1) then k else mFrom D (mDg D K + 1)) - mFrom D (mDg D K)).toNat K) → cw (d + 3) cd_Model_moves Q 26 [some (vR 12 209), some (vR 20 a), some (vI x), some (vR 20 b), some (vI g), some (vR 20 c), some (vI most), some (vI k), z8, z9] [] (I0, z) := by
    intro n
    induction n with
    | zero =>
      intro k I0 z8 z9 k0 ek f0 o0 hz0 row
      have e9 : I0 209 = I 209 := by rw [f0 209 (by simp [Ne.symm c93]), h9]
      refine mr_moves_26 hz ha ⟨⟨by omega, by omega⟩, mI_mono (s_from hz (by omega) (by omega)) fun v3 I2 ⟨e2, ev⟩ => ?_⟩
      rw [e2]
      rw [e9, hDD] at ev
      refine ⟨fun _ => ?_, fun q => by omega⟩
      rw [← hQ]
      refine qU_mk ⟨fr_trans fA (fr_mono f0 (by simp)), by rw [f0 224 (by simp [Ne.symm hc4])]; exact o44, o0, fun K K0 K1 => ?_⟩
      rw [show (0 : Int) + K = K by omega]
      unfold mv
      by_cases hK : K < mFrom D 16
      · rw [if_pos ⟨K0, hK⟩]
        obtain ⟨m1, m2, m3⟩ := m16_bd hD'
        have dK := mDg_from hD' K0 (by omega)
        have d15 : mDg D K ≤ 15 := (mDg_lt hD' (t := 15) K0 (by omega) (by omega)).mp (by rw [show (15 : Int) + 1 = 16 by omega]; exact hK)
        obtain ⟨y1, y2, y3, y4, y5, y6⟩ := from_bds hD' dK.1 d15
        have := row K K0 hK
        have oo := o0 K
        suffices h : toF (I0 c K) = mvF D A v K by rw [← h, fi_toF]; omega
        rw [this]
        unfold mvF
        by_cases hd : mDg D K ≤ most
        · have mono := mFrom_mono D (s := mDg D K + 1) (t := most + 1) (by omega) (by omega)
          rw [if_neg (by omega), show mFrom D (mDg D K + 1) - mFrom D (mDg D K) = mMany D (mDg D K) by omega]
        · have mono := mFrom_mono D (s := most + 1) (t := mDg D K) (by omega) (by omega)
          rw [if_pos (by omega), show (k - mFrom D (mDg D K)).toNat = 0 by omega]
          unfold mvN
          refine (gs_zero fun i hi => ?_).symm
          have z : v (mFrom D (mDg D K) + i) = 0 := by
            have := mDeg_z hD' (f := v) (x := 0) (k := mFrom D (mDg D K) + i) (by omega) (by omega) (by
              have := (mDg_ge hD' (k := mFrom D (mDg D K) + i) (t := mDg D K) (by omega) (by omega) (by omega)).mp (by omega)
              omega)
            rw [show (0 : Int) + (mFrom D (mDg D K) + i) = mFrom D (mDg D K) + i by omega] at this
            exact this
          rw [z]
          exact gs_z1 _
      · rw [if_neg (fun y => hK y.2), hz0 K (by omega) K1]
    | succ n ih =>
      intro k I0 z8 z9 k0 ek f0 o0 hz0 row
      have e9 : I0 209 = I 209 := by rw [f0 209 (by simp [Ne.symm c93]), h9]
      have ea : I0 a = I a := by rw [f0 a (by simp [hac]), fA a (by simp [ha4, hac])]
      have e24 : I0 224 = I4 224 := f0 224 (by simp [Ne.symm hc4])
      have hsz := mSz_bd D
      have k1 : k < mSz D := by omega
      have va : I a (x + k) = v k := hv k k0 (by omega)
      have dk := mDg_from hD' k0 k1
      have dk1 : mDg D k ≤ most := (mDg_lt hD' (t := most) k0 k1 (by omega)).mp (by omega)
      obtain ⟨y1, y2, y3, y4, y5, y6⟩ := from_bds hD' dk.1 (show mDg D k ≤ 15 by omega)
      obtain ⟨m1, m2, m3⟩ := m16_bd hD'
      have mono16 := mFrom_mono D (s := mDg D k + 1) (t := 16) (by omega) (by omega)
      -- other degrees stay
      have stay : ∀ K, 0 ≤ K → K < mFrom D 16 → mDg D K ≠ mDg D k → mvN D A v ((if k < mFrom D (mDg D K + 1) then k else mFrom D (mDg D K + 1)) - mFrom D (mDg D K)).toNat K = mvN D A v ((if k + 1 < mFrom D (mDg D K + 1) then k + 1 else mFrom D (mDg D K + 1)) - mFrom D (mDg D K)).toNat K := by
        intro K K0 K1 hne
        congr 1
        have dK := mDg_from hD' K0 (by omega)
        by_cases q : mDg D K < mDg D k
        · have mono := mFrom_mono D (s := mDg D K + 1) (t := mDg D k) (by omega) (by omega)
          rw [if_neg (by omega), if_neg (by omega)]
        · have mono := mFrom_mono D (s := mDg D k + 1) (t := mDg D K) (by omega) (by omega)
          have lt : mFrom D (mDg D K) < mFrom D (mDg D K + 1) := by omega
          rw [if_pos (by omega)]
          by_cases q2 : k + 1 < mFrom D (mDg D K + 1)
          · rw [if_pos q2]; omega
          · rw [if_neg q2]; omega
      have one : ∀ K, 0 ≤ K → K < mFrom D 16 → mDg D K = mDg D k → mvN D A v ((if k + 1 < mFrom D (mDg D K + 1) then k + 1 else mFrom D (mDg D K + 1)) - mFrom D (mDg D K)).toNat K = mvN D A v ((if k < mFrom D (mDg D K + 1) then k else mFrom D (mDg D K + 1)) - mFrom D (mDg D K)).toNat K + toF (v k) * atE D (monoE D A k) K := by
        intro K K0 K1 he
        rw [he]
        have e1 : ((if k + 1 < mFrom D (mDg D k + 1) then k + 1 else mFrom D (mDg D k + 1)) - mFrom D (mDg D k)).toNat = (k - mFrom D (mDg D k)).toNat + 1 := by
          split <;> omega
        rw [e1, if_pos (by omega)]
        unfold mvN
        rw [gs, he, show mFrom D (mDg D k) + (((k - mFrom D (mDg D k)).toNat : Nat) : Int) = k by omega]
      refine mr_moves_26 hz ha ⟨⟨by omega, by omega⟩, mI_mono (s_from hz (by omega) (by omega)) fun v3 I2 ⟨e2, ev⟩ => ?_⟩
      rw [e2]
      rw [e9, hDD] at ev
      refine ⟨fun q => by omega, fun _ => ⟨⟨by omega, by omega⟩, ⟨by omega, by omega⟩, ?_⟩⟩
      rw [ea, va]
      refine ⟨fun q0 => ⟨⟨by omega, by omega⟩, ih (k + 1) I0 _ _ (by omega) (by omega) f0 o0 hz0 fun K K0 K1 => ?_⟩, fun q0 => ?_⟩
      · rw [row K K0 K1]
        by_cases he : mDg D K = mDg D k
        · rw [one K K0 K1 he, q0, toF_zero, gs_z1]
          exact (Lean.Grind.Semiring.add_zero _).symm
        · exact stay K K0 K1 he
      · have hD0 : mD I0 := by unfold mD; rw [e9]; exact hD
        have hm0 : mMon I0 := by
          have f0' : ∀ y, y = 210 ∨ y = 211 ∨ y = 212 → I0 y = I y := fun y hy => by
            rw [f0 y (by simp; omega), fA y (by simp; omega)]
          unfold mMon at hm ⊢
          rw [e9, f0' 210 (by omega), f0' 211 (by omega), f0' 212 (by omega)]
          exact hm
        refine mI_mono (s_degreeAt hz hD0 hm0 k0 (by rw [e9, hDD]; exact k1)) fun v8 I7 ⟨e7, ev8⟩ => ?_
        rw [e7, ev8, e9, hDD]
        have imk := im4 k k0 (by omega)
        have ov := vo.1 k
        have k59 : ∀ (m : Nat) (i : Int) (I5 : cm_I), 0 ≤ i → i + m = mMany D (mDg D k) → fr [c] I4 I5 → okR (I5 c) → (∀ K, mFrom D 16 ≤ K → K < 1140 → I5 c K = 0) → (∀ K, 0 ≤ K → K < mFrom D 16 → toF (I5 c K) = if mFrom D (mDg D k) ≤ K ∧ K < mFrom D (mDg D k) + i then mvN D A v ((if k + 1 < mFrom D (mDg D K + 1) then k + 1 else mFrom D (mDg D K + 1)) - mFrom D (mDg D K)).toNat K else mvN D A v ((if k < mFrom D (mDg D K + 1) then k else mFrom D (mDg D K + 1)) - mFrom D (mDg D K)).toNat K) → cw (d + 3) cd_Model_moves Q 59 [some (vR 12 209), some (vR 20 a), some (vI x), some (vR 20 b), some (vI g), some (vR 20 c), some (vI most), some (vI k), some (vI (mDg D k)), some (vI i)] [] (I5, z) := by
          intro m
          induction m with
          | zero =>
            intro i I5 i0 ei f5 o5 hz5 row5
            have e95 : I5 209 = I 209 := by rw [f5 209 (by simp [Ne.symm c93]), h9]
            refine mr_moves_59 hz hc ha (mI_mono (s_many hz (by omega) (by omega)) fun v2 I6 ⟨e6, ev2⟩ => ?_)
            rw [e6]
            rw [e95, hDD] at ev2
            refine ⟨fun _ => ⟨⟨by omega, by omega⟩, ih (k + 1) I5 _ _ (by omega) (by omega) f5 o5 hz5 fun K K0 K1 => ?_⟩, fun q => by omega⟩
            rw [row5 K K0 K1]
            by_cases he : mDg D K = mDg D k
            · have lo := (mDg_ge hD' (t := mDg D k) K0 (by omega) (by omega)).mpr (by omega)
              have hi := (mDg_lt hD' (t := mDg D k) K0 (by omega) (by omega)).mpr (by omega)
              rw [if_pos (by omega)]
            · rw [if_neg, stay K K0 K1 he]
              intro y
              apply he
              have lo := (mDg_ge hD' (t := mDg D k) K0 (by omega) (by omega)).mp y.1
              have hi := (mDg_lt hD' (t := mDg D k) K0 (by omega) (by omega)).mp (by omega)
              omega
          | succ m ihm =>
            intro i I5 i0 ei f5 o5 hz5 row5
            have e95 : I5 209 = I 209 := by rw [f5 209 (by simp [Ne.symm c93]), h9]
            have ea5 : I5 a = I a := by rw [f5 a (by simp [hac]), fA a (by simp [ha4, hac])]
            have e245 : I5 224 = I4 224 := f5 224 (by simp [Ne.symm hc4])
            have imi := imk i i0 (by omega)
            have fb := fi_bd (atE D (monoE D A k) (mFrom D (mDg D k) + i))
            have bm := mul_bd (x := v k) (y := fi (atE D (monoE D A k) (mFrom D (mDg D k) + i))) (X := 2520) (Y := 2520) ov.1 (by omega) fb.1 (by omega)
            have o5K := o5 (mFrom D (mDg D k) + i)
            refine mr_moves_59 hz hc ha (mI_mono (s_many hz (by omega) (by omega)) fun v2 I6 ⟨e6, ev2⟩ => ?_)
            rw [e6]
            rw [e95, hDD] at ev2
            refine ⟨fun q => by omega, fun _ => mI_mono (s_from hz (by omega) (by omega)) fun v5 I8 ⟨e8, ev5⟩ => ?_⟩
            rw [e8]
            rw [e95, hDD] at ev5
            refine ⟨by rw [ev5]; exact ⟨by omega, by omega⟩, mI_mono (s_from hz (by omega) (by omega)) fun v8 I9 ⟨e9', ev8'⟩ => ?_⟩
            rw [e9']
            rw [e95, hDD] at ev8'
            rw [ev5, ev8', ea5, va, e245, imi]
            refine ⟨⟨by omega, by omega⟩, ⟨by omega, by omega⟩, ⟨by omega, by omega⟩, ⟨by omega, by omega⟩, ⟨by omega, by omega⟩, ⟨by omega, by omega⟩, ⟨by omega, by omega⟩, ⟨by omega, by omega⟩, ⟨by omega, by omega⟩, ⟨by omega, by omega⟩, fun I19 e19 => ⟨⟨by omega, by omega⟩, ?_⟩⟩
            obtain ⟨f19, g19⟩ := fr_eq_iu e19
            rw [tmod_pos (by omega)] at g19
            refine ihm (i + 1) I19 (by omega) (by omega) (fr_trans f5 f19) (by rw [g19]; exact okR_st o5 (by omega) (by omega)) (fun K K0 K1 => ?_) (fun K K0 K1 => ?_)
            · rw [g19]
              show (if K = _ then _ else _) = _
              rw [if_neg (by omega)]
              exact hz5 K K0 K1
            · rw [g19]
              show toF (if K = _ then _ else _) = _
              by_cases e : K = mFrom D (mDg D k) + i
              · have dK : mDg D K = mDg D k := by
                  have lo := (mDg_ge hD' (t := mDg D k) K0 (by omega) (by omega)).mp (by omega)
                  have hi := (mDg_lt hD' (t := mDg D k) K0 (by omega) (by omega)).mp (by omega)
                  omega
                rw [if_pos e, if_pos (by omega), one K K0 K1 dK, toF_mod, toF_add, toF_mul, toF_fi, ← e, row5 K K0 K1, if_neg (by omega)]
              · rw [if_neg e, row5 K K0 K1]
                by_cases q : mFrom D (mDg D k) ≤ K ∧ K < mFrom D (mDg D k) + i
                · rw [if_pos q, if_pos (c := mFrom D (mDg D k) ≤ K ∧ K < mFrom D (mDg D k) + (i + 1)) (by omega)]
                · rw [if_neg q, if_neg (c := mFrom D (mDg D k) ≤ K ∧ K < mFrom D (mDg D k) + (i + 1)) (by omega)]
        exact k59 (mMany D (mDg D k)).toNat 0 I0 (by omega) (by omega) f0 o0 hz0 fun K K0 K1 => by rw [row K K0 K1, if_neg (c := mFrom D (mDg D k) ≤ K ∧ K < mFrom D (mDg D k) + 0) (by omega)]
  refine key (mFrom D (most + 1)).toNat 0 I4 _ _ (by omega) (by omega) (fr_refl _ _) ?_ (fun K K0 K1 => ?_) (fun K K0 K1 => ?_)
  · rw [g4, f3 c (by simp [hc4])]
    exact okR_fill okC _ _
  · rw [g4]
    unfold fillF
    rw [if_pos (by obtain ⟨m1, m2, m3⟩ := m16_bd hD'; omega)]
  · rw [g4]
    obtain ⟨m1, m2, m3⟩ := m16_bd hD'
    have dK := mDg_from hD' K0 (by omega)
    have mono := mFrom_mono D (s := 0) (t := mDg D K) (by omega) (by omega)
    have z0 : 0 ≤ mFrom D 0 := (mFrom_bd D (t := 0) (by omega) (by omega)).1
    unfold fillF
    rw [if_pos (by omega), show ((if 0 < mFrom D (mDg D K + 1) then 0 else mFrom D (mDg D K + 1)) - mFrom D (mDg D K)).toNat = 0 by split <;> omega]
    rfl
end MMV
