/-! THE REFERENCE lays one product as a row -/
def rowF (F : Int → Int) (m c : Int) (f : Int → Int) : Int → Int := fun j => if 160 * m ≤ j ∧ j < 160 * m + c then f (j - 160 * m) else F j
theorem rowF_st (F : Int → Int) (m : Int) {c : Int} (c0 : 0 ≤ c) (f : Int → Int) : st1 (rowF F m c f) (160 * m + c) (f c) = rowF F m (c + 1) f := by
  funext j
  unfold st1 rowF
  by_cases e : j = 160 * m + c
  · rw [if_pos e, if_pos ⟨by omega, by omega⟩]
    congr 1
    omega
  · rw [if_neg e]
    by_cases q : 160 * m ≤ j ∧ j < 160 * m + c
    · rw [if_pos q, if_pos ⟨by omega, by omega⟩]
    · rw [if_neg q, if_neg fun r => q ⟨r.1, by omega⟩]
theorem rowF_0 (F : Int → Int) (m : Int) (f : Int → Int) : rowF F m 0 f = F := by
  funext j
  unfold rowF
  rw [if_neg (by omega)]
/-- a product: powers of three and one more -/
def pr3 (D : Int) (u v0 v1 v2 : Int → Int) (a b k : Nat) : Int → Int := tP D (tP D (tP D u v0 a) v1 b) v2 k
theorem mDeg_bRow_le {D t : Int} (hD : D = 2 ∨ D = 3) (t0 : 0 ≤ t) (t1 : t ≤ 15) (w : Nat → cF) : mDeg D (bRow D t w) 0 ≤ t := by
  refine mDeg_le hD t0 fun k k0 k1 hk => ?_
  unfold bRow
  rw [if_neg]
  intro q
  have := (mDg_lt hD (k := k) (t := t) k0 k1 (by omega)).mp (by omega)
  omega
section LP
variable {d : Nat} {z : cm_Z} {I : cm_I}
theorem s_laysProduct (hz : mz z) (hD : mD I) (hm : mMon I) (o14 : okR (I 214) ∧ okR (I 216)) (o26 : okR (I 226)) (o36 : okR (I 236)) {T : Nat → cMat} {nt : Nat} (hB : bsOk T nt I) {j a b k t5 t m : Int} {row : Nat} (j0 : 0 ≤ j) (j1 : j < 220) (a0 : 0 ≤ a) (a1 : a ≤ 15) (b0 : 0 ≤ b) (b1 : b ≤ 15) (k0 : 0 ≤ k) (k1 : k ≤ 15) (h50 : 0 ≤ t5) (h51 : t5 ≤ 15) (ht : I 239 j = t) (hrow : I 240 j = (row : Int)) (t0 : 0 ≤ t) (t1 : t ≤ 15) (tb : t < I 209 37) (hr : row < bsRows (I 209 1) T nt t) (hm53 : I 209 53 = m) (m0 : 0 ≤ m) (m1 : m < 160) {v0 v1 v2 : Int → Int} (r0 : isRow (I 236) 0 v0) (r1 : isRow (I 236) 1140 v1) (r2 : k ≠ 0 → isRow (I 236) 2280 v2) (hdeg : t + mDeg (I 209 1) v0 0 * a + mDeg (I 209 1) v1 0 * b + mDeg (I 209 1) v2 0 * k ≤ 15) : mU (d + 5) m_Model_laysProduct [vR 12 209, vI j, vI a, vI b, vI k, vI t5] z I fun I1 => fr [209, 214, 216, 226, 241, 242, 243, 244] I I1 ∧ I1 209 = st1 (I 209) 53 (m + 1) ∧ (okR (I1 214) ∧ okR (I1 216)) ∧ okR (I1 226) ∧ I1 226 = rowF (fillF (I 226) (160 * m) 160 0) m (mMany (I 209 1) t5) (fun c => pr3 (I 209 1) (bRow (I 209 1) t ((bsX (I 209 1) T nt t).2 row)) v0 v1 v2 a.toNat b.toNat k.toNat (mFrom (I 209 1) t5 + c)) ∧ I1 241 = st1 (I 241) m j ∧ I1 242 = st1 (I 242) m a ∧ I1 243 = st1 (I 243) m b ∧ I1 244 = st1 (I 244) m k := by
  have hD' : I 209 1 = 2 ∨ I 209 1 = 3 := hD
  obtain ⟨x1, x2, x3, x4, x5, x6⟩ := bs_get hD hB t0 tb
  have fb := from_bds hD' h50 h51
  generalize hη : bRow (I 209 1) t ((bsX (I 209 1) T nt t).2 row) = u
  have ou0 : vOk (I 209 1) u := by rw [← hη]; exact vOk_bRow hD' t0 t1 _
  have du0 : mDeg (I 209 1) u 0 ≤ t := by rw [← hη]; exact mDeg_bRow_le hD' t0 t1 _
  have p0 := Int.mul_nonneg (mDeg_bd hD' v0 0).1 a0
  have p1 := Int.mul_nonneg (mDeg_bd hD' v1 0).1 b0
  have p2 := Int.mul_nonneg (mDeg_bd hD' v2 0).1 k0
  have ea : ((a.toNat : Nat) : Int) = a := by omega
  have eb : ((b.toNat : Nat) : Int) = b := by omega
  have ek : ((k.toNat : Nat) : Int) = k := by omega
  obtain ⟨ou1, du1⟩ := vOk_tP hD' (v := v0) ou0 a.toNat (by rw [ea]; omega)
  rw [ea] at du1
  obtain ⟨ou2, du2⟩ := vOk_tP hD' (v := v1) ou1 b.toNat (by rw [eb]; omega)
  rw [eb] at du2
  refine mr_laysProduct hz ⟨⟨j0, j1⟩, ?_⟩
  rw [ht, hrow]
  refine mU_mono (s_laysBaseRow hz hD mA214 (by decide) (by decide) (by decide) (x := 0) (by omega) (show _ ≤ (1140 : Int) by omega) (by omega) t0 t1 hr x4 x5 x6) fun I2 h2 => ?_
  obtain ⟨f2, w2, n2⟩ := h2
  rw [hη] at w2
  have o2 : okR (I2 214) ∧ okR (I2 216) := by
    refine ⟨?_, by rw [f2 216 (by decide)]; exact o14.2⟩
    intro i
    by_cases q : 0 ≤ i ∧ i < 0 + 1140
    · have := w2 i q.1 (by omega)
      rw [show (0 : Int) + i = i by omega] at this
      rw [this]
      exact ou0.1 i
    · rw [n2 i q]
      exact o14.1 i
  have g2 : I2 209 = I 209 := f2 209 (by decide)
  have hD2 : mD I2 := by unfold mD; rw [g2]; exact hD
  refine mU_mono (s_timesPrimary hz hD2 (mMon_fr hm f2 (by decide) (by decide) (by decide) (by decide)) o2 (by rw [f2 236 (by decide)]; exact o36) (i := 0) (by omega) (by omega) a0 a1 w2 (by rw [g2]; exact ou0) (v := v0) (by rw [g2, f2 236 (by decide)]; exact fun _ => ⟨r0, by omega⟩)) fun I3 h3 => ?_
  obtain ⟨f3', o3, w3⟩ := h3
  rw [g2] at w3
  have f3 : fr [214, 216] I I3 := fr_trans (fr_mono f2 (by decide)) f3'
  have g3 : I3 209 = I 209 := f3 209 (by decide)
  have hD3 : mD I3 := by unfold mD; rw [g3]; exact hD
  refine mU_mono (s_timesPrimary hz hD3 (mMon_fr hm f3 (by decide) (by decide) (by decide) (by decide)) o3 (by rw [f3 236 (by decide)]; exact o36) (i := 1) (by omega) (by omega) b0 b1 w3 (by rw [g3]; exact ou1) (v := v1) (by rw [g3, f3 236 (by decide)]; exact fun _ => ⟨r1, by omega⟩)) fun I4 h4 => ?_
  obtain ⟨f4', o4, w4⟩ := h4
  rw [g3] at w4
  have f4 : fr [214, 216] I I4 := fr_trans f3 f4'
  have g4 : I4 209 = I 209 := f4 209 (by decide)
  have hD4 : mD I4 := by unfold mD; rw [g4]; exact hD
  refine mU_mono (s_timesPrimary hz hD4 (mMon_fr hm f4 (by decide) (by decide) (by decide) (by decide)) o4 (by rw [f4 236 (by decide)]; exact o36) (i := 2) (by omega) (by omega) k0 k1 w4 (by rw [g4]; exact ou2) (v := v2) (by rw [g4, f4 236 (by decide)]; exact fun q => ⟨r2 q, by omega⟩)) fun I5 h5 => ?_
  obtain ⟨f5', o5, w5⟩ := h5
  rw [g4] at w5
  have f5 : fr [214, 216] I I5 := fr_trans f4 f5'
  have g5 : I5 209 = I 209 := f5 209 (by decide)
  rw [g5, hm53]
  refine mU_mono (s_clearsRow hz m0 (by omega) (by rw [f5 226 (by decide)]; exact o26)) fun I6 h6 => ?_
  obtain ⟨f6', w6, o6⟩ := h6
  rw [f5 226 (by decide)] at w6
  have f6 : fr [214, 216, 226] I I6 := fr_trans (fr_mono f5 (by decide)) (fr_mono f6' (by decide))
  have r6 : isRow (I6 214) 0 (pr3 (I 209 1) u v0 v1 v2 a.toNat b.toNat k.toNat) := by rw [f6' 214 (by decide)]; exact w5
  have o64 : okR (I6 214) ∧ okR (I6 216) := by rw [f6' 214 (by decide), f6' 216 (by decide)]; exact o5
  generalize hpp : pr3 (I 209 1) u v0 v1 v2 a.toNat b.toNat k.toNat = pp at r6
  have key : ∀ (n : Nat) (c : Int) (I0 : cm_I), 0 ≤ c → c + n = mMany (I 209 1) t5 → fr [226] I6 I0 → okR (I0 226) → I0 226 = rowF (fillF (I 226) (160 * m) 160 0) m c (fun c => pp (mFrom (I 209 1) t5 + c)) → cw (d + 4) cd_Model_laysProduct (qU z fun I1 => fr [209, 214, 216, 226, 241, 242, 243, 244] I I1 ∧ I1 209 = st1 (I 209) 53 (m + 1) ∧ (okR (I1 214) ∧ okR (I1 216)) ∧ okR (I1 226) ∧ I1 226 = rowF (fillF (I 226) (160 * m) 160 0) m (mMany (I 209 1) t5) (fun c => pp (mFrom (I 209 1) t5 + c)) ∧ I1 241 = st1 (I 241) m j ∧ I1 242 = st1 (I 242) m a ∧ I1 243 = st1 (I 243) m b ∧ I1 244 = st1 (I 244) m k) 51 [some (vR 12 209), some (vI j), some (vI a), some (vI b), some (vI k), some (vI t5), some (vI c)] [] (I0, z) := by
    intro n
    induction n with
    | zero =>
      intro c I0 c0 ec hf oo hw
      have f0 : fr [214, 216, 226] I I0 := fr_trans f6 (fr_mono hf (by decide))
      have g0 : I0 209 = I 209 := f0 209 (by decide)
      refine mr_laysProduct_51 hz (mI_mono (s_many hz h50 (by omega)) fun r7 I7 h7 => ?_)
      obtain ⟨e7, e7'⟩ := h7
      subst e7
      rw [g0] at e7'
      refine ⟨fun _ => ?_, fun q => by omega⟩
      rw [g0, hm53]
      refine ⟨⟨m0, m1⟩, fun Ia ha => ?_⟩
      obtain ⟨fa, ga⟩ := fr_eq_iu ha
      have ya : Ia 209 53 = m := by rw [fa 209 (by decide), g0, hm53]
      rw [ya]
      refine ⟨⟨m0, m1⟩, fun Ib hb => ?_⟩
      obtain ⟨fb', gb⟩ := fr_eq_iu hb
      have yb : Ib 209 53 = m := by rw [fb' 209 (by decide), ya]
      rw [yb]
      refine ⟨⟨m0, m1⟩, fun Ic hc => ?_⟩
      obtain ⟨fc, gc⟩ := fr_eq_iu hc
      have yc : Ic 209 53 = m := by rw [fc 209 (by decide), yb]
      rw [yc]
      refine ⟨⟨m0, m1⟩, fun Id hd => ?_⟩
      obtain ⟨fd, gd⟩ := fr_eq_iu hd
      have yd : Id 209 53 = m := by rw [fd 209 (by decide), yc]
      rw [yd]
      refine ⟨⟨by omega, by omega⟩, fun Ie he => qU_mk ?_⟩
      obtain ⟨fe, ge⟩ := fr_eq_iu he
      have k9 : Id 209 = I 209 := by rw [fd 209 (by decide), fc 209 (by decide), fb' 209 (by decide), fa 209 (by decide), g0]
      refine ⟨fr_trans (fr_mono f0 (by decide)) (fr_trans (fr_mono fa (by decide)) (fr_trans (fr_mono fb' (by decide)) (fr_trans (fr_mono fc (by decide)) (fr_trans (fr_mono fd (by decide)) (fr_mono fe (by decide)))))), ?_, ?_, ?_, ?_, ?_, ?_, ?_, ?_⟩
      · rw [ge, k9]
        rfl
      · rw [fe 214 (by decide), fd 214 (by decide), fc 214 (by decide), fb' 214 (by decide), fa 214 (by decide), hf 214 (by decide), fe 216 (by decide), fd 216 (by decide), fc 216 (by decide), fb' 216 (by decide), fa 216 (by decide), hf 216 (by decide)]
        exact o64
      · rw [fe 226 (by decide), fd 226 (by decide), fc 226 (by decide), fb' 226 (by decide), fa 226 (by decide)]
        exact oo
      · rw [fe 226 (by decide), fd 226 (by decide), fc 226 (by decide), fb' 226 (by decide), fa 226 (by decide), hw, show c = mMany (I 209 1) t5 by omega]
      · rw [fe 241 (by decide), fd 241 (by decide), fc 241 (by decide), fb' 241 (by decide), ga, f0 241 (by decide)]
        rfl
      · rw [fe 242 (by decide), fd 242 (by decide), fc 242 (by decide), gb, fa 242 (by decide), f0 242 (by decide)]
        rfl
      · rw [fe 243 (by decide), fd 243 (by decide), gc, fb' 243 (by decide), fa 243 (by decide), f0 243 (by decide)]
        rfl
      · rw [fe 244 (by decide), gd, fc 244 (by decide), fb' 244 (by decide), fa 244 (by decide), f0 244 (by decide)]
        rfl
    | succ n ih =>
      intro c I0 c0 ec hf oo hw
      have f0 : fr [214, 216, 226] I I0 := fr_trans f6 (fr_mono hf (by decide))
      have g0 : I0 209 = I 209 := f0 209 (by decide)
      refine mr_laysProduct_51 hz (mI_mono (s_many hz h50 (by omega)) fun r7 I7 h7 => ?_)
      obtain ⟨e7, e7'⟩ := h7
      subst e7
      rw [g0] at e7'
      refine ⟨fun q => by omega, fun _ => ?_⟩
      rw [g0, hm53]
      refine ⟨⟨by omega, by omega⟩, ⟨by omega, by omega⟩, mI_mono (s_from hz h50 (by omega)) fun r8 I8 h8 => ?_⟩
      obtain ⟨e8, e8'⟩ := h8
      subst e8
      rw [g0] at e8'
      refine ⟨⟨by omega, by omega⟩, ⟨by omega, by omega⟩, ⟨by omega, by omega⟩, fun I9 h9 => ⟨⟨by omega, by omega⟩, ?_⟩⟩
      obtain ⟨f9, g9⟩ := fr_eq_iu h9
      have v14 : I8 214 (r8 + c) = pp (mFrom (I 209 1) t5 + c) := by
        rw [hf 214 (by decide), ← r6 (mFrom (I 209 1) t5 + c) (by omega) (by omega), e8']
        congr 1
        omega
      have b14 : 0 ≤ I8 214 (r8 + c) ∧ I8 214 (r8 + c) < 2521 := by rw [hf 214 (by decide)]; exact o64.1 _
      have g9' : I9 226 = st1 (I8 226) (160 * m + c) (I8 214 (r8 + c)) := g9
      refine ih (c + 1) I9 (by omega) (by omega) (fr_trans hf f9) ?_ ?_
      · rw [g9']
        exact okR_st oo b14.1 b14.2
      · rw [g9', v14, hw]
        exact rowF_st _ m c0 fun c => pp (mFrom (I 209 1) t5 + c)
  exact key (mMany (I 209 1) t5).toNat 0 I6 (by omega) (by omega) (fr_refl _ _) o6 (by rw [rowF_0, w6])
end LP
