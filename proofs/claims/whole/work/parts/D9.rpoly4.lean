theorem mPa_ofX {I I1 : cm_I} (h : mPaX I) (h0 : I1 210 = I 210) (h1 : I1 211 = I 211) (h2 : I1 212 = I 212) (e : I1 209 1 = I 209 1) (o : okR (I1 223)) (o2 : o46 I1) : mPaX I1 := by
  refine ⟨by unfold mD; rw [e]; exact h.1, ?_, o, o2⟩
  have hm := h.2.1
  unfold mMon at hm ⊢
  rw [e, h0, h1, h2]
  exact hm
def plPostX (I : cm_I) (K : Int → Int → Int) (k n r : Int) (I1 : cm_I) : Prop :=
  if (0 ≤ k ∧ k ≤ 5) ∧ 0 ≤ n ∧ n ≤ I 209 14 then fr [209, 213, 214, 216, 223] I I1 ∧ o46 I1 ∧ okR (I1 223) ∧ I1 209 = (pAll (I 209 1) (I 219) (pl0 (I 219) n (I 209))).2.1 ∧ (((pAll (I 209 1) (I 219) (pl0 (I 219) n (I 209))).1 = false ∧ r = -2 - I1 209 20 ∧ I1 213 = I 213) ∨ ((pAll (I 209 1) (I 219) (pl0 (I 219) n (I 209))).1 = true ∧ I1 209 28 ≠ 0 ∧ r = -5 ∧ I1 213 = I 213) ∨ ((pAll (I 209 1) (I 219) (pl0 (I 219) n (I 209))).1 = true ∧ I1 209 28 = 0 ∧ r = mDeg (I 209 1) (pAll (I 209 1) (I 219) (pl0 (I 219) n (I 209))).2.2 0 ∧ kOk I1 (kSet K k (pAll (I 209 1) (I 219) (pl0 (I 219) n (I 209))).2.2)))
  else I1 = iu I 209 0 0 ∧ r = -1
section MKE
variable {d : Nat} {z : cm_Z} {I : cm_I} {K : Int → Int → Int}
theorem s_polynomialX (hz : mz z) (hP : mPaX I) (hK : kOk I K) (hv : 0 ≤ I 209 19 ∧ I 209 19 ≤ 9999) (ht : 0 ≤ I 209 14 ∧ I 209 14 ≤ 400) (k n : Int) : mI (d + 42) m_Model_polynomial [vR 12 209, vI k, vI n] z I (plPostX I K k n) := by
  refine mr_polynomial hz fun I1 e1 => ?_
  obtain ⟨f1, g1⟩ := fr_eq_iu e1
  have e14 : I1 209 14 = I 209 14 := by rw [g1]; rfl
  refine mI_mono (s_isKept hz k) fun v3 I2 ⟨e2, ev⟩ => ?_
  rw [e2]
  by_cases ck : 0 ≤ k ∧ k ≤ 5
  · rw [if_pos ck] at ev
    refine ⟨fun q => by omega, fun _ => mI_mono (s_within hz n 0 (I1 209 14)) fun v5 I4 ⟨e4, ev5⟩ => ?_⟩
    rw [e4]
    rw [e14] at ev5
    by_cases cn : 0 ≤ n ∧ n ≤ I 209 14
    · rw [if_pos cn] at ev5
      refine ⟨fun _ => mU_mono (s_starts hz cn.1 (by omega)) fun I6 ⟨f6, g6⟩ I7 e7 I8 e8 I9 e9 => ?_, fun q => by omega⟩
      obtain ⟨f7, g7⟩ := fr_eq_iu e7
      obtain ⟨f8, g8⟩ := fr_eq_iu e8
      obtain ⟨f9, g9⟩ := fr_eq_iu e9
      have fA : fr [209] I I9 := fr_trans f1 (fr_trans f6 (fr_trans f7 (fr_trans f8 f9)))
      have h9 : I9 209 = pl0 (I 219) n (I 209) := by rw [g9, g8, g7, g6, g1, f1 219 (by decide)]; rfl
      obtain ⟨b1, b2, b3, b4, b5⟩ := pl0_ok (B := I 219) (f := I 209) cn.1 (by omega) hv.1 hv.2
      have h1 : I9 209 1 = I 209 1 := by rw [h9, b5 1 (by omega) (by decide) (by decide) (by decide) (by decide)]
      have h19 : I9 219 = I 219 := fA 219 (by decide)
      have j29 : pl0 (I 219) n (I 209) 29 = 0 := rfl
      have j27 : pl0 (I 219) n (I 209) 27 = 0 := rfl
      have hA9 : pAtX I9 9 0 := ⟨mPa_frX hP (fr_mono fA (by decide)) h1 (by rw [fA 223 (by decide)]; exact hP.2.2.1) (by unfold o46; rw [fA 214 (by decide), fA 216 (by decide)]; exact hP.2.2.2), by rw [h9]; exact b1, by rw [h9, j29]; rfl, by rw [h9, j29]; omega, by rw [h9, j27]; omega, by rw [h9, j29, j27]; omega⟩
      have kp := pLev_kp (D := I 209 1) (B := I 219) hP.1 9 _ b1
      refine mI_mono (s_sumX hz 9 (by decide) d I9 hA9) fun v11 I10 ⟨f10, o3, o4, x9, xv, xr⟩ => ?_
      rw [h9, h19, b5 1 (by omega) (by decide) (by decide) (by decide) (by decide)] at x9 xv xr
      have f11 : fr [209, 214, 216, 223] I I10 := fr_trans (fr_mono fA (by decide)) f10
      have hq : pAll (I 209 1) (I 219) (pl0 (I 219) n (I 209)) = if (pLev (I 209 1) (I 219) 9 (pl0 (I 219) n (I 209))).1 = true ∧ (pLev (I 209 1) (I 219) 9 (pl0 (I 219) n (I 209))).2.1 18 ≠ 0 then (false, rBad (pLev (I 209 1) (I 219) 9 (pl0 (I 219) n (I 209))).2.1 1, (pLev (I 209 1) (I 219) 9 (pl0 (I 219) n (I 209))).2.2) else pLev (I 209 1) (I 219) 9 (pl0 (I 219) n (I 209)) := rfl
      have e27 : pl0 (I 219) n (I 209) 27 = 0 := rfl
      rw [e27] at xr
      generalize pLev (I 209 1) (I 219) 9 (pl0 (I 219) n (I 209)) = r at kp x9 xv xr hq
      obtain ⟨a1, a2, a3, a4, a5, a6⟩ := kp
      have u1 : r.2.1 1 = I 209 1 := by rw [a2 1 (by omega) (by decide) (by decide) (by decide), b5 1 (by omega) (by decide) (by decide) (by decide) (by decide)]
      -- the end
      have bad : ∀ (I3 : cm_I) (f w : Int → Int) (z2 : Option cm_V), fr [209, 214, 216, 223] I I3 → okR (I3 223) → o46 I3 → I3 209 = f → 0 ≤ f 20 → f 20 ≤ 4000 → pAll (I 209 1) (I 219) (pl0 (I 219) n (I 209)) = (false, f, w) → cw (d + 41) cd_Model_polynomial (qI z (plPostX I K k n)) 69 [some (vR 12 209), some (vI k), z2, some (vI 0)] [] (I3, z) := by
        intro I3 f w z2 hf p3 p4 p9 y0 y1 he
        refine mr_polynomial_69 hz ⟨fun q => absurd rfl q, fun _ => ⟨by rw [p9]; exact ⟨by omega, by omega⟩, qI_mk ?_⟩⟩
        unfold plPostX
        rw [if_pos ⟨ck, cn⟩, he]
        exact ⟨fr_mono hf (by decide), p4, p3, p9, Or.inl ⟨rfl, rfl, hf 213 (by decide)⟩⟩
      by_cases yr : r.1 = true
      · obtain ⟨c1, c2, c3, c4, c5⟩ := a6 yr
        obtain ⟨xl, xr⟩ := xr yr
        rw [if_pos yr] at xv
        refine ⟨fun q => by omega, fun _ => ?_⟩
        rw [x9]
        refine ⟨fun q18 => ?_, fun q18 => mI_mono (s_bad hz (by rw [x9]; exact a1) (by omega) (by omega)) fun v13 I12 ⟨e12, ev13⟩ => ?_⟩
        · rw [if_neg (fun x => x.2 q18)] at hq
          refine mr_polynomial_69 hz ⟨fun _ => ?_, fun q => by omega⟩
          rw [x9]
          refine ⟨fun q28 => ⟨⟨by omega, by omega⟩, mU_mono (s_copies hz mA223 mA213 (by omega) (show _ ≤ (6840 : Int) by omega) (by omega) (by omega) (show _ ≤ (34200 : Int) by omega) (by omega) (by decide)) fun I2' e2' => ?_⟩, fun q28 => qI_mk ?_⟩
          · obtain ⟨f2, g2⟩ := fr_eq_iw e2'
            have w1 : I2' 209 = r.2.1 := (f2 209 (by decide)).trans x9
            have hP2 : mPaX I2' := mPa_ofX hP (by rw [f2 210 (by decide), f11 210 (by decide)]) (by rw [f2 211 (by decide), f11 211 (by decide)]) (by rw [f2 212 (by decide), f11 212 (by decide)]) (by rw [w1, u1]) (by rw [f2 223 (by decide)]; exact o3) (by unfold o46; rw [f2 214 (by decide), f2 216 (by decide)]; exact o4)
            have hr0 : isRow (I10 223) 0 r.2.2 := by
              have := xr q28
              rw [show (1140 : Int) * 0 = 0 by omega] at this
              exact this
            have kk : kOk I2' (kSet K k r.2.2) := kOk_put hK ck.1 ck.2 (by rw [g2, f11 213 (by decide)]) hr0 (c5 q28) (by rw [w1, u1])
            refine mI_mono (s_degree hz hP2.1 hP2.2.1 mA213 (by omega) (show _ ≤ (6840 : Int) by omega) (by omega)) fun v4 I3 ⟨e3, ev4⟩ => qI_mk ?_
            rw [e3]
            have hrow := (kk.2 k ck.1 ck.2).1
            rw [kSet_at] at hrow
            unfold plPostX
            rw [if_pos ⟨ck, cn⟩, hq]
            exact ⟨fr_trans (fr_mono f11 (by decide)) (fr_mono f2 (by decide)), by unfold o46; rw [f2 214 (by decide), f2 216 (by decide)]; exact o4, by rw [f2 223 (by decide)]; exact o3, w1, Or.inr (Or.inr ⟨yr, by rw [w1]; exact q28, by rw [ev4, isRow_deg hrow, w1, u1], kk⟩)⟩
          · unfold plPostX
            rw [if_pos ⟨ck, cn⟩, hq]
            exact ⟨fr_mono f11 (by decide), o4, o3, x9, Or.inr (Or.inl ⟨yr, by rw [x9]; exact q28, rfl, f11 213 (by decide)⟩)⟩
        · obtain ⟨f12, g12⟩ := fr_eq_iw e12
          rw [x9] at g12
          rw [if_pos ⟨yr, q18⟩] at hq
          have y20 := bad20 (k := 1) a1 (a4.1 yr) (by omega) (by omega)
          rw [ev13]
          exact bad I12 _ _ _ (fr_trans f11 (fr_mono f12 (by decide))) (by rw [f12 223 (by decide)]; exact o3) (by unfold o46; rw [f12 214 (by decide), f12 216 (by decide)]; exact o4) g12 y20.2.1 y20.2.2 hq
      · rw [if_neg yr] at xv
        rw [if_neg (fun x => yr x.1)] at hq
        rw [xv]
        exact ⟨fun _ => bad I10 r.2.1 r.2.2 _ f11 o3 o4 x9 a4.2.1 a4.2.2 (by rw [hq]; exact Prod.ext (Bool.eq_false_iff.mpr yr) rfl), fun q => absurd rfl q⟩
    · rw [if_neg cn] at ev5
      refine ⟨fun q => absurd ev5 q, fun _ => qI_mk ?_⟩
      unfold plPostX
      rw [if_neg (fun x => cn x.2)]
      exact ⟨e1, rfl⟩
  · rw [if_neg ck] at ev
    refine ⟨fun _ => qI_mk ?_, fun q => absurd ev q⟩
    unfold plPostX
    rw [if_neg (fun x => ck x.1)]
    exact ⟨e1, rfl⟩
end MKE
