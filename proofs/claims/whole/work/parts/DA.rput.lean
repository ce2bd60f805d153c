/-! sums and products kept by the reference, row 216 kept -/
section RPU
variable {d : Nat} {z : cm_Z} {I : cm_I} {K : Int → Int → Int}
def putPostX (I : cm_I) (K : Int → Int → Int) (ok : Prop) (to : Int) (v : Int → Int) (no : Int) (r : Int) (I1 : cm_I) : Prop := fr [209, 213, 216] I I1 ∧ I1 209 = st1 (I 209) 0 0 ∧ okR (I1 216) ∧ ((ok ∧ kOk I1 (kSet K to v) ∧ r = vTerms v) ∨ (¬ ok ∧ I1 213 = I 213 ∧ r = no))
theorem put_endX (hz : mz z) (hK : kOk I K) {to : Int} (t0 : 0 ≤ to) (t1 : to ≤ 5) {v : Int → Int} {J : cm_I} (f : fr [209, 216] I J) (g : J 209 = st1 (I 209) 0 0) (oJ : okR (J 216)) (hr : isRow (J 216) 0 v) (hv : vOk (I 209 1) v) {P : Int → cm_I → Prop} (k : ∀ I1, fr [209, 213, 216] I I1 → I1 209 = st1 (I 209) 0 0 → okR (I1 216) → kOk I1 (kSet K to v) → P (vTerms v) I1) : mU (d + 1) m_Model_copies [vR 20 216, vI 0, vR 20 213, vI (1140 * to)] z J fun I2 => mI (d + 1) m_Model_terms [vR 12 209, vI (1140 * to)] z I2 P := by
  refine mU_mono (s_copies hz mA216 mA213 (by omega) (show _ ≤ (6840 : Int) by omega) (by omega) (by omega) (show _ ≤ (1140 : Int) by omega) (by omega) (by decide)) fun I2 e2 => ?_
  obtain ⟨f2, g2⟩ := fr_eq_iw e2
  have w9 : I2 209 = st1 (I 209) 0 0 := (f2 209 (by decide)).trans g
  have kk : kOk I2 (kSet K to v) := kOk_put hK t0 t1 (by rw [g2, f 213 (by decide)]) hr hv (by rw [w9]; rfl)
  refine mI_mono (s_terms hz (by omega) (by omega)) fun r I3 ⟨e3, er⟩ => ?_
  have hrow := (kk.2 to t0 t1).1
  rw [kSet_at] at hrow
  rw [e3, er, isRow_terms hrow]
  exact k I2 (fr_trans (fr_mono f (by decide)) (fr_mono f2 (by decide))) w9 (by rw [f2 216 (by decide)]; exact oJ) kk
theorem s_plusX (hz : mz z) (o16 : okR (I 216)) (hD : mD I) (hK : kOk I K) (a b f to : Int) : mI (d + 3) m_Model_plus [vR 12 209, vI a, vI b, vI f, vI to] z I (putPostX I K (kFit a ∧ kFit b ∧ kFit to) to (vAdd (f % 2521) (K a) (K b)) (-1)) := by
  refine mr_plus hz fun I1 e1 => ?_
  obtain ⟨f1, g1⟩ := fr_eq_iu e1
  have no : ¬ (kFit a ∧ kFit b ∧ kFit to) → qI z (putPostX I K (kFit a ∧ kFit b ∧ kFit to) to (vAdd (f % 2521) (K a) (K b)) (-1)) (some (vI (-1))) (I1, z) := fun hn => qI_mk ⟨fr_mono f1 (by decide), g1, by rw [f1 216 (by decide)]; exact o16, Or.inr ⟨hn, f1 213 (by decide), rfl⟩⟩
  refine mI_mono (s_isKept hz a) fun v3 I2 ⟨e2, ev3⟩ => ?_
  rw [e2]
  refine ⟨fun q => no fun x => by rw [if_pos x.1] at ev3; omega, fun q3 => mI_mono (s_isKept hz b) fun v5 I4 ⟨e4, ev5⟩ => ?_⟩
  rw [e4]
  refine ⟨fun q => no fun x => by rw [if_pos x.2.1] at ev5; omega, fun q5 => mI_mono (s_isKept hz to) fun v7 I6 ⟨e6, ev7⟩ => ?_⟩
  rw [e6]
  refine ⟨fun q7 => mI_mono (s_of hz f) fun v9 I8 ⟨e8, ev9⟩ => ?_, fun q => no fun x => by rw [if_pos x.2.2] at ev7; omega⟩
  rw [e8, ev9]
  have ca : 0 ≤ a ∧ a ≤ 5 := Classical.byContradiction fun x => q3 (by rw [ev3, if_neg x])
  have cb : 0 ≤ b ∧ b ≤ 5 := Classical.byContradiction fun x => q5 (by rw [ev5, if_neg x])
  have ct : 0 ≤ to ∧ to ≤ 5 := Classical.byContradiction fun x => q7 (by rw [ev7, if_neg x])
  have hb : 0 ≤ f % 2521 ∧ f % 2521 < 2521 := by omega
  generalize f % 2521 = y at hb
  have key : ∀ (n : Nat) (k : Int) (I0 : cm_I) (z3 : Option cm_V), 0 ≤ k → k + n = 1140 → fr [216] I1 I0 → okR (I0 216) → (∀ j, 0 ≤ j → j < k → I0 216 j = vAdd y (K a) (K b) j) → cw (d + 2) cd_Model_plus (qI z (putPostX I K (kFit a ∧ kFit b ∧ kFit to) to (vAdd y (K a) (K b)) (-1))) 42 [some (vR 12 209), some (vI a), some (vI b), z3, some (vI to), some (vI y), some (vI k)] [] (I0, z) := by
    intro n
    induction n with
    | zero =>
      intro k I0 z3 k0 ek hf ho hr
      refine mr_plus_42 hz ⟨fun _ => ⟨⟨by omega, by omega⟩, put_endX hz hK ct.1 ct.2 (fr_trans (fr_mono f1 (by decide)) (fr_mono hf (by decide))) ((hf 209 (by decide)).trans g1) ho (fun j j0 j1 => by rw [show (0 : Int) + j = j by omega]; exact hr j j0 (by omega)) (vOk_add hD y (hK.2 a ca.1 ca.2).2 (hK.2 b cb.1 cb.2).2) fun I3 w1 w2 w4 w3 => qI_mk ⟨w1, w2, w4, Or.inl ⟨⟨ca, cb, ct⟩, w3, rfl⟩⟩⟩, fun q => by omega⟩
    | succ n ih =>
      intro k I0 z3 k0 ek hf ho hr
      have e13 : I0 213 = I 213 := (hf 213 (by decide)).trans (f1 213 (by decide))
      have oa := hK.1 (1140 * a + k)
      have ob := hK.1 (1140 * b + k)
      have bm := mul_bd (x := y) (y := I 213 (1140 * b + k)) (X := 2520) (Y := 2520) hb.1 (by omega) ob.1 (by omega)
      refine mr_plus_42 hz ⟨fun q => by omega, fun q => ?_⟩
      rw [e13]
      refine ⟨⟨by omega, by omega⟩, ⟨by omega, by omega⟩, ⟨by omega, by omega⟩, ⟨by omega, by omega⟩, ⟨by omega, by omega⟩, ⟨by omega, by omega⟩, ⟨by omega, by omega⟩, ⟨by omega, by omega⟩, ⟨by omega, by omega⟩, fun I14 e14 => ⟨⟨by omega, by omega⟩, ?_⟩⟩
      obtain ⟨f14, g14⟩ := fr_eq_iu e14
      refine ih (k + 1) I14 z3 (by omega) (by omega) (fr_trans hf f14) (by rw [g14]; exact okR_st ho (by rw [tmod_pos (by omega)]; omega) (by rw [tmod_pos (by omega)]; omega)) fun j j0 j1 => ?_
      rw [g14]
      show (if j = k then _ else _) = _
      by_cases e : j = k
      · rw [if_pos e, e, tmod_pos (by omega), (hK.2 a ca.1 ca.2).1 k k0 (by omega), (hK.2 b cb.1 cb.2).1 k k0 (by omega)]
        unfold vAdd
        rw [if_pos ⟨k0, by omega⟩]
      · rw [if_neg e]
        exact hr j j0 (by omega)
  exact key 1140 0 I1 _ (by omega) rfl (fr_refl _ _) (by rw [f1 216 (by decide)]; exact o16) fun j j0 j1 => by omega
theorem s_product_X (hz : mz z) (o16 : okR (I 216)) (hD : mD I) (hm : mMon I) (hK : kOk I K) (a b to : Int) : mI (d + 4) m_Model_product_ [vR 12 209, vI a, vI b, vI to] z I (putPostX I K ((kFit a ∧ kFit b ∧ kFit to) ∧ mDeg (I 209 1) (K a) 0 + mDeg (I 209 1) (K b) 0 ≤ 15) to (vMul (I 209 1) (K a) (K b)) (if kFit a ∧ kFit b ∧ kFit to then -2 else -1)) := by
  have hD' : I 209 1 = 2 ∨ I 209 1 = 3 := hD
  refine mr_product_ hz fun I1 e1 => ?_
  obtain ⟨f1, g1⟩ := fr_eq_iu e1
  have h1 : I1 209 1 = I 209 1 := by rw [g1]; rfl
  have hD1 : mD I1 := by unfold mD; rw [h1]; exact hD
  have hm1 : mMon I1 := by
    unfold mMon at hm ⊢
    rw [h1, f1 210 (by decide), f1 211 (by decide), f1 212 (by decide)]
    exact hm
  generalize hX : putPostX I K ((kFit a ∧ kFit b ∧ kFit to) ∧ mDeg (I 209 1) (K a) 0 + mDeg (I 209 1) (K b) 0 ≤ 15) to (vMul (I 209 1) (K a) (K b)) (if kFit a ∧ kFit b ∧ kFit to then -2 else -1) = X
  have no : ¬ (kFit a ∧ kFit b ∧ kFit to) → qI z X (some (vI (-1))) (I1, z) := fun hn => qI_mk (by rw [← hX]; exact ⟨fr_mono f1 (by decide), g1, by rw [f1 216 (by decide)]; exact o16, Or.inr ⟨fun x => hn x.1, f1 213 (by decide), by rw [if_neg hn]⟩⟩)
  refine mI_mono (s_isKept hz a) fun v3 I2 ⟨e2, ev3⟩ => ?_
  rw [e2]
  refine ⟨fun q => no fun x => by rw [if_pos x.1] at ev3; omega, fun q3 => mI_mono (s_isKept hz b) fun v5 I4 ⟨e4, ev5⟩ => ?_⟩
  rw [e4]
  refine ⟨fun q => no fun x => by rw [if_pos x.2.1] at ev5; omega, fun q5 => mI_mono (s_isKept hz to) fun v7 I6 ⟨e6, ev7⟩ => ?_⟩
  rw [e6]
  refine ⟨fun q7 => ?_, fun q => no fun x => by rw [if_pos x.2.2] at ev7; omega⟩
  have ca : 0 ≤ a ∧ a ≤ 5 := Classical.byContradiction fun x => q3 (by rw [ev3, if_neg x])
  have cb : 0 ≤ b ∧ b ≤ 5 := Classical.byContradiction fun x => q5 (by rw [ev5, if_neg x])
  have ct : 0 ≤ to ∧ to ≤ 5 := Classical.byContradiction fun x => q7 (by rw [ev7, if_neg x])
  have c3 : kFit a ∧ kFit b ∧ kFit to := ⟨ca, cb, ct⟩
  obtain ⟨ra, va⟩ := hK.2 a ca.1 ca.2
  obtain ⟨rb, vb⟩ := hK.2 b cb.1 cb.2
  have e13 : I1 213 = I 213 := f1 213 (by decide)
  have l3 : mLen 213 = 6840 := rfl
  have da : mDeg (I1 209 1) (I1 213) (1140 * a) = mDeg (I 209 1) (K a) 0 := by rw [h1, e13, isRow_deg ra]
  have db : mDeg (I1 209 1) (I1 213) (1140 * b) = mDeg (I 209 1) (K b) 0 := by rw [h1, e13, isRow_deg rb]
  have ba := mDeg_bd hD (K a) 0
  have bb := mDeg_bd hD (K b) 0
  have k110 : ∀ z4 : Option cm_V, mDeg (I 209 1) (K a) 0 + mDeg (I 209 1) (K b) 0 ≤ 15 → cw (d + 3) cd_Model_product_ (qI z X) 110 [some (vR 12 209), some (vI a), some (vI b), some (vI to), z4] [] (I1, z) := by
    intro z4 hd
    refine mr_product__110 hz ⟨⟨by omega, by omega⟩, ⟨by omega, by omega⟩, mU_mono (s_multiplies hz hD1 hm1 mA213 mA213 mA216 (by decide) (by decide) (by decide) (by omega) (by omega) (by omega) (by omega) (by omega) (by omega) (by omega) (show _ ≤ (1140 : Int) by omega) (by omega) (by rw [e13]; exact hK.1) (by rw [e13]; exact hK.1) (by rw [da, db]; omega)) fun I3 e3 => ?_⟩
    obtain ⟨f3, g3⟩ := fr_eq_iw e3
    rw [h1, e13, isRow_mul ra rb] at g3
    refine ⟨⟨by omega, by omega⟩, put_endX hz hK ct.1 ct.2 (fr_trans (fr_mono f1 (by decide)) (fr_mono f3 (by decide))) ((f3 209 (by decide)).trans g1) (by rw [g3, f1 216 (by decide)]; exact okR_setR o16 fun j => pMul_bd _ _ _ _ _ _) (v := vMul (I 209 1) (K a) (K b)) (fun j j0 j1 => ?_) (vOk_mul hD' hd).1 fun I5 w1 w2 w4 w3 => qI_mk (by rw [← hX]; exact ⟨w1, w2, w4, Or.inl ⟨⟨c3, hd⟩, w3, rfl⟩⟩)⟩
    rw [g3]
    unfold setR vMul
    rw [if_pos (by omega), if_pos ⟨j0, j1⟩]
    congr 1
    omega
  have k68 : ∀ (s0 : Int) (z4 : Option cm_V), (s0 ≠ 0 → mDeg (I 209 1) (K a) 0 + mDeg (I 209 1) (K b) 0 ≤ 15) → cw (d + 3) cd_Model_product_ (qI z X) 68 [some (vR 12 209), some (vI a), some (vI b), some (vI to), z4] [vI s0] (I1, z) := by
    intro s0 z4 hs
    refine mr_product__68 hz ⟨fun q => k110 _ (hs q), fun q => ⟨⟨by omega, by omega⟩, mI_mono (s_degree hz hD1 hm1 mA213 (by omega) (by omega) (by omega)) fun v3 I2 ⟨e2, ew3⟩ => ?_⟩⟩
    rw [e2]
    refine ⟨⟨by omega, by omega⟩, mI_mono (s_degree hz hD1 hm1 mA213 (by omega) (by omega) (by omega)) fun v6 I5 ⟨e5, ew6⟩ => ?_⟩
    rw [e5]
    rw [da] at ew3
    rw [db] at ew6
    refine ⟨⟨by omega, by omega⟩, fun q2 => k110 _ (by omega), fun q2 => qI_mk ?_⟩
    rw [← hX]
    exact ⟨fr_mono f1 (by decide), g1, by rw [f1 216 (by decide)]; exact o16, Or.inr ⟨fun x => by have := x.2; omega, e13, by rw [if_pos c3]⟩⟩
  have nil : ∀ (x : Int) (u : Int → Int), isRow (I 213) x u → (∀ k : Int, 0 ≤ k → k < 1140 → I1 213 (x + k) = 0) → mDeg (I 209 1) u 0 = 0 := fun x u hu hz0 => mDeg_nil hD' fun k k0 k1 => by
    have := mSz_bd (I 209 1)
    rw [show (0 : Int) + k = k by omega, ← hu k k0 (by omega), ← e13]
    exact hz0 k k0 (by omega)
  refine ⟨⟨by omega, by omega⟩, mI_mono (s_isNothing hz mA213 (by omega) (by omega) (by omega)) fun v10 I9 ⟨e9, b10, i10⟩ => ?_⟩
  rw [e9]
  refine ⟨fun q => k68 1 _ fun _ => ?_, fun q => ⟨⟨by omega, by omega⟩, mI_mono (s_isNothing hz mA213 (by omega) (by omega) (by omega)) fun v13 I12 ⟨e12, b13, i13⟩ => ?_⟩⟩
  · have := nil _ _ ra (i10.mp (by omega))
    have := vb.2.2
    omega
  · rw [e12]
    refine ⟨fun q2 => k68 0 _ fun x => absurd rfl x, fun q2 => k68 1 _ fun _ => ?_⟩
    have := nil _ _ rb (i13.mp (by omega))
    have := va.2.2
    omega
end RPU
