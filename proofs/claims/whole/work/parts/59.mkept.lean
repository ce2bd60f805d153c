/-! POLYNOMIALS that are kept; the call polynomial -/
theorem tok_gt {f : Int → Int} (B : Int → Int) (h1 : f 17 ≤ f 15) : tok f B 18 ≠ 0 → tok f B 16 < tok f B 17 := by
  unfold tok
  generalize tSk B (f 15) (f 17) = q
  by_cases c1 : f 15 ≤ q
  · rw [if_pos c1]
    obtain ⟨a1, a2, a3, a4, a5⟩ := gst_at f q q 0 (f 19)
    exact fun x => absurd a3 x
  · rw [if_neg c1]
    by_cases c2 : 48 ≤ B q % 256 ∧ B q % 256 ≤ 57
    · rw [if_pos c2]
      obtain ⟨d1, d2, d3⟩ := tDgF_bd B (f 15 - (q + 1)).toNat (q + 1)
      have e : tDg B (f 15) q = tDgF B (f 15 - (q + 1)).toNat (q + 1) := by
        unfold tDg
        rw [show (f 15 - q).toNat = (f 15 - (q + 1)).toNat + 1 by omega, tDgF, if_pos c2]
      obtain ⟨a1, a2, a3, a4, a5⟩ := gst_at f q (tDg B (f 15) q) 1 (tV B q (tDg B (f 15) q - q).toNat)
      rw [← e] at d1
      exact fun _ => by omega
    · rw [if_neg c2]
      obtain ⟨a1, a2, a3, a4, a5⟩ := gst_at f q (q + 1) 2 (B q % 256)
      exact fun _ => by omega
theorem mPa_of {I I1 : cm_I} (h : mPa I) (h0 : I1 210 = I 210) (h1 : I1 211 = I 211) (h2 : I1 212 = I 212) (e : I1 209 1 = I 209 1) (o : okR (I1 223)) (o2 : okR (I1 214)) : mPa I1 := by
  refine ⟨by unfold mD; rw [e]; exact h.1, ?_, o, o2⟩
  have hm := h.2.1
  unfold mMon at hm ⊢
  rw [e, h0, h1, h2]
  exact hm
def pl0 (B : Int → Int) (n : Int) (f : Int → Int) : Int → Int := st1 (st1 (st1 (rSt B n (st1 f 0 0)) 27 0) 28 0) 29 0
def pAll (D : Int) (B f : Int → Int) : pQ := if (pLev D B 9 f).1 = true ∧ (pLev D B 9 f).2.1 18 ≠ 0 then (false, rBad (pLev D B 9 f).2.1 1, (pLev D B 9 f).2.2) else pLev D B 9 f
theorem pl0_ok {B : Int → Int} {n : Int} {f : Int → Int} (h0 : 0 ≤ n) (h1 : n ≤ 400) (h2 : 0 ≤ f 19) (h3 : f 19 ≤ 9999) : pIn (pl0 B n f) ∧ pl0 B n f 14 = 0 ∧ pl0 B n f 15 = n ∧ pl0 B n f 0 = 0 ∧ (∀ s, (s < 14 ∨ 20 < s) → s ≠ 0 → s ≠ 27 → s ≠ 28 → s ≠ 29 → pl0 B n f s = f s) := by
  obtain ⟨a, b, c, e, g⟩ := rSt_ok (B := B) (f := st1 f 0 0) h0 h1 h2 h3
  have hs : rSt B n (st1 f 0 0) 18 ≠ 0 → rSt B n (st1 f 0 0) 16 < rSt B n (st1 f 0 0) 17 := tok_gt B (f := st1 (st1 (st1 (st1 (st1 f 0 0) 15 n) 14 0) 17 0) 20 0) h0
  refine ⟨⟨⟨a, hs⟩, e, Or.inl rfl⟩, b, c, g 0 (by omega), fun s hs z0 z1 z2 z3 => ?_⟩
  unfold pl0
  show (if s = 29 then _ else if s = 28 then _ else if s = 27 then _ else _) = _
  rw [if_neg z3, if_neg z2, if_neg z1, g s hs]
  unfold st1
  rw [if_neg z0]
def kOk (I : cm_I) (K : Int → Int → Int) : Prop := okR (I 213) ∧ ∀ k, 0 ≤ k → k ≤ 5 → isRow (I 213) (1140 * k) (K k) ∧ vOk (I 209 1) (K k)
def kSet (K : Int → Int → Int) (k : Int) (v : Int → Int) : Int → Int → Int := fun j => if j = k then v else K j
theorem kOk_put {I I1 : cm_I} {K : Int → Int → Int} (h : kOk I K) {k : Int} (k0 : 0 ≤ k) (k1 : k ≤ 5) {src v : Int → Int} (e : I1 213 = cpyF src 0 (I 213) (1140 * k) 1140) (hs : isRow src 0 v) (hv : vOk (I 209 1) v) (e1 : I1 209 1 = I 209 1) : kOk I1 (kSet K k v) := by
  refine ⟨?_, fun j j0 j1 => ?_⟩
  · rw [e]
    refine okR_cpy h.1 _ _ _ fun x x0 x1 => ?_
    have y := hs (x - 1140 * k) (by omega) (by omega)
    rw [y]
    exact hv.1 _
  · unfold kSet
    by_cases q : j = k
    · rw [if_pos q, e1]
      refine ⟨fun x x0 x1 => ?_, hv⟩
      rw [e, q]
      unfold cpyF
      rw [if_pos (by omega), ← hs x x0 x1]
      congr 1
      omega
    · rw [if_neg q, e1]
      refine ⟨fun x x0 x1 => ?_, (h.2 j j0 j1).2⟩
      rw [e]
      unfold cpyF
      rw [if_neg (by omega)]
      exact (h.2 j j0 j1).1 x x0 x1
theorem kOk_fr {I I1 : cm_I} {K : Int → Int → Int} (h : kOk I K) (e : I1 213 = I 213) (e1 : I1 209 1 = I 209 1) : kOk I1 K := by
  unfold kOk
  rw [e, e1]
  exact h
theorem kSet_at (K : Int → Int → Int) (k : Int) (v : Int → Int) : kSet K k v k = v := if_pos rfl
def vTerms (v : Int → Int) : Int := cntNZ v 0 1140
theorem isRow_terms {f v : Int → Int} {x : Int} (h : isRow f x v) : cntNZ f x 1140 = vTerms v := by
  unfold vTerms cntNZ
  refine sg_congr fun i hi => ?_
  rw [h i (by omega) (by omega), show (0 : Int) + (i : Int) = i by omega]
theorem mA213 : mA 213 := ⟨by decide, by decide⟩
theorem mA215 : mA 215 := ⟨by decide, by decide⟩
def plPost (I : cm_I) (K : Int → Int → Int) (k n r : Int) (I1 : cm_I) : Prop :=
  if (0 ≤ k ∧ k ≤ 5) ∧ 0 ≤ n ∧ n ≤ I 209 14 then fr [209, 213, 214, 216, 223] I I1 ∧ okR (I1 214) ∧ okR (I1 223) ∧ I1 209 = (pAll (I 209 1) (I 219) (pl0 (I 219) n (I 209))).2.1 ∧ (((pAll (I 209 1) (I 219) (pl0 (I 219) n (I 209))).1 = false ∧ r = -2 - I1 209 20 ∧ I1 213 = I 213) ∨ ((pAll (I 209 1) (I 219) (pl0 (I 219) n (I 209))).1 = true ∧ I1 209 28 ≠ 0 ∧ r = -5 ∧ I1 213 = I 213) ∨ ((pAll (I 209 1) (I 219) (pl0 (I 219) n (I 209))).1 = true ∧ I1 209 28 = 0 ∧ r = mDeg (I 209 1) (pAll (I 209 1) (I 219) (pl0 (I 219) n (I 209))).2.2 0 ∧ kOk I1 (kSet K k (pAll (I 209 1) (I 219) (pl0 (I 219) n (I 209))).2.2)))
  else I1 = iu I 209 0 0 ∧ r = -1
section MKE
variable {d : Nat} {z : cm_Z} {I : cm_I} {K : Int → Int → Int}
theorem s_polynomial (hz : mz z) (hP : mPa I) (hK : kOk I K) (hv : 0 ≤ I 209 19 ∧ I 209 19 ≤ 9999) (ht : 0 ≤ I 209 14 ∧ I 209 14 ≤ 400) (k n : Int) : mI (d + 42) m_Model_polynomial [vR 12 209, vI k, vI n] z I (plPost I K k n) := by
  refine mr_polynomial hz fun I1 e1 => ?_
  obtain ⟨f1, g1⟩ := fr_eq_iu e1
  have e14 : I1 209 14 = I 209 14 := by rw [g1]; rfl
  refine mI_mono (s_isKept hz k) fun v3 I2 ⟨e2, ev⟩ => ?_
  rw [e2]
  by_cases ck : 0 ≤ k ∧ k ≤ 5
  · rw [if_pos ck] at ev
    refine ⟨fun q => by omega, fun _ => mI_mono (s_within hz n 0 (I1 209 14)) fun v5 I4 ⟨e4, ev5⟩ => ?_⟩
    rw [e4]
    rw [e14] at ev5
    by_cases cn : 0 ≤ n ∧ n ≤ I 209 14
    · rw [if_pos cn] at ev5
      refine ⟨fun _ => mU_mono (s_starts hz cn.1 (by omega)) fun I6 ⟨f6, g6⟩ I7 e7 I8 e8 I9 e9 => ?_, fun q => by omega⟩
      obtain ⟨f7, g7⟩ := fr_eq_iu e7
      obtain ⟨f8, g8⟩ := fr_eq_iu e8
      obtain ⟨f9, g9⟩ := fr_eq_iu e9
      have fA : fr [209] I I9 := fr_trans f1 (fr_trans f6 (fr_trans f7 (fr_trans f8 f9)))
      have h9 : I9 209 = pl0 (I 219) n (I 209) := by rw [g9, g8, g7, g6, g1, f1 219 (by decide)]; rfl
      obtain ⟨b1, b2, b3, b4, b5⟩ := pl0_ok (B := I 219) (f := I 209) cn.1 (by omega) hv.1 hv.2
      have h1 : I9 209 1 = I 209 1 := by rw [h9, b5 1 (by omega) (by decide) (by decide) (by decide) (by decide)]
      have h19 : I9 219 = I 219 := fA 219 (by decide)
      have j29 : pl0 (I 219) n (I 209) 29 = 0 := rfl
      have j27 : pl0 (I 219) n (I 209) 27 = 0 := rfl
      have hA9 : pAt I9 9 0 := ⟨mPa_fr hP (fr_mono fA (by decide)) h1 (by rw [fA 223 (by decide)]; exact hP.2.2.1) (by rw [fA 214 (by decide)]; exact hP.2.2.2), by rw [h9]; exact b1, by rw [h9, j29]; rfl, by rw [h9, j29]; omega, by rw [h9, j27]; omega, by rw [h9, j29, j27]; omega⟩
      have kp := pLev_kp (D := I 209 1) (B := I 219) hP.1 9 _ b1
      refine mI_mono (s_sum hz 9 (by decide) d I9 hA9) fun v11 I10 ⟨f10, o3, o4, x9, xv, xr⟩ => ?_
      rw [h9, h19, b5 1 (by omega) (by decide) (by decide) (by decide) (by decide)] at x9 xv xr
      have f11 : fr [209, 214, 216, 223] I I10 := fr_trans (fr_mono fA (by decide)) f10
      have hq : pAll (I 209 1) (I 219) (pl0 (I 219) n (I 209)) = if (pLev (I 209 1) (I 219) 9 (pl0 (I 219) n (I 209))).1 = true ∧ (pLev (I 209 1) (I 219) 9 (pl0 (I 219) n (I 209))).2.1 18 ≠ 0 then (false, rBad (pLev (I 209 1) (I 219) 9 (pl0 (I 219) n (I 209))).2.1 1, (pLev (I 209 1) (I 219) 9 (pl0 (I 219) n (I 209))).2.2) else pLev (I 209 1) (I 219) 9 (pl0 (I 219) n (I 209)) := rfl
      have e27 : pl0 (I 219) n (I 209) 27 = 0 := rfl
      rw [e27] at xr
      generalize pLev (I 209 1) (I 219) 9 (pl0 (I 219) n (I 209)) = r at kp x9 xv xr hq
      obtain ⟨a1, a2, a3, a4, a5, a6⟩ := kp
      have u1 : r.2.1 1 = I 209 1 := by rw [a2 1 (by omega) (by decide) (by decide) (by decide), b5 1 (by omega) (by decide) (by decide) (by decide) (by decide)]
      -- the end
      have bad : ∀ (I3 : cm_I) (f w : Int → Int) (z2 : Option cm_V), fr [209, 214, 216, 223] I I3 → okR (I3 223) → okR (I3 214) → I3 209 = f → 0 ≤ f 20 → f 20 ≤ 4000 → pAll (I 209 1) (I 219) (pl0 (I 219) n (I 209)) = (false, f, w) → cw (d + 41) cd_Model_polynomial (qI z (plPost I K k n)) 69 [some (vR 12 209), some (vI k), z2, some (vI 0)] [] (I3, z) := by
        intro I3 f w z2 hf p3 p4 p9 y0 y1 he
        refine mr_polynomial_69 hz ⟨fun q => absurd rfl q, fun _ => ⟨by rw [p9]; exact ⟨by omega, by omega⟩, qI_mk ?_⟩⟩
        unfold plPost
        rw [if_pos ⟨ck, cn⟩, he]
        exact ⟨fr_mono hf (by decide), p4, p3, p9, Or.inl ⟨rfl, rfl, hf 213 (by decide)⟩⟩
      by_cases yr : r.1 = true
      · obtain ⟨c1, c2, c3, c4, c5⟩ := a6 yr
        obtain ⟨xl, xr⟩ := xr yr
        rw [if_pos yr] at xv
        refine ⟨fun q => by omega, fun _ => ?_⟩
        rw [x9]
        refine ⟨fun q18 => ?_, fun q18 => mI_mono (s_bad hz (by rw [x9]; exact a1) (by omega) (by omega)) fun v13 I12 ⟨e12, ev13⟩ => ?_⟩
        · rw [if_neg (fun x => x.2 q18)] at hq
          refine mr_polynomial_69 hz ⟨fun _ => ?_, fun q => by omega⟩
          rw [x9]
          refine ⟨fun q28 => ⟨⟨by omega, by omega⟩, mU_mono (s_copies hz mA223 mA213 (by omega) (show _ ≤ (6840 : Int) by omega) (by omega) (by omega) (show _ ≤ (34200 : Int) by omega) (by omega) (by decide)) fun I2' e2' => ?_⟩, fun q28 => qI_mk ?_⟩
          · obtain ⟨f2, g2⟩ := fr_eq_iw e2'
            have w1 : I2' 209 = r.2.1 := (f2 209 (by decide)).trans x9
            have hP2 : mPa I2' := mPa_of hP (by rw [f2 210 (by decide), f11 210 (by decide)]) (by rw [f2 211 (by decide), f11 211 (by decide)]) (by rw [f2 212 (by decide), f11 212 (by decide)]) (by rw [w1, u1]) (by rw [f2 223 (by decide)]; exact o3) (by rw [f2 214 (by decide)]; exact o4)
            have hr0 : isRow (I10 223) 0 r.2.2 := by
              have := xr q28
              rw [show (1140 : Int) * 0 = 0 by omega] at this
              exact this
            have kk : kOk I2' (kSet K k r.2.2) := kOk_put hK ck.1 ck.2 (by rw [g2, f11 213 (by decide)]) hr0 (c5 q28) (by rw [w1, u1])
            refine mI_mono (s_degree hz hP2.1 hP2.2.1 mA213 (by omega) (show _ ≤ (6840 : Int) by omega) (by omega)) fun v4 I3 ⟨e3, ev4⟩ => qI_mk ?_
            rw [e3]
            have hrow := (kk.2 k ck.1 ck.2).1
            rw [kSet_at] at hrow
            unfold plPost
            rw [if_pos ⟨ck, cn⟩, hq]
            exact ⟨fr_trans (fr_mono f11 (by decide)) (fr_mono f2 (by decide)), by rw [f2 214 (by decide)]; exact o4, by rw [f2 223 (by decide)]; exact o3, w1, Or.inr (Or.inr ⟨yr, by rw [w1]; exact q28, by rw [ev4, isRow_deg hrow, w1, u1], kk⟩)⟩
          · unfold plPost
            rw [if_pos ⟨ck, cn⟩, hq]
            exact ⟨fr_mono f11 (by decide), o4, o3, x9, Or.inr (Or.inl ⟨yr, by rw [x9]; exact q28, rfl, f11 213 (by decide)⟩)⟩
        · obtain ⟨f12, g12⟩ := fr_eq_iw e12
          rw [x9] at g12
          rw [if_pos ⟨yr, q18⟩] at hq
          have y20 := bad20 (k := 1) a1 (a4.1 yr) (by omega) (by omega)
          rw [ev13]
          exact bad I12 _ _ _ (fr_trans f11 (fr_mono f12 (by decide))) (by rw [f12 223 (by decide)]; exact o3) (by rw [f12 214 (by decide)]; exact o4) g12 y20.2.1 y20.2.2 hq
      · rw [if_neg yr] at xv
        rw [if_neg (fun x => yr x.1)] at hq
        rw [xv]
        exact ⟨fun _ => bad I10 r.2.1 r.2.2 _ f11 o3 o4 x9 a4.2.1 a4.2.2 (by rw [hq]; exact Prod.ext (Bool.eq_false_iff.mpr yr) rfl), fun q => absurd rfl q⟩
    · rw [if_neg cn] at ev5
      refine ⟨fun q => absurd ev5 q, fun _ => qI_mk ?_⟩
      unfold plPost
      rw [if_neg (fun x => cn x.2)]
      exact ⟨e1, rfl⟩
  · rw [if_neg ck] at ev
    refine ⟨fun _ => qI_mk ?_, fun q => absurd ev q⟩
    unfold plPost
    rw [if_neg (fun x => ck x.1)]
    exact ⟨e1, rfl⟩
end MKE
