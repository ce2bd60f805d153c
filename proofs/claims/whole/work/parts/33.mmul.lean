/-! PRODUCTS of the reference -/
theorem sg_succ (n : Nat) (f : Nat → Int) : sg (n + 1) f = sg n f + f n := rfl
def mIx (D i j : Int) : Int := mAt D (mEa D i + mEa D j) (mEb D i + mEb D j) (mEc D i + mEc D j)
theorem mIx_E {D : Int} (hD : D = 2 ∨ D = 3) {i j : Int} (hi : 0 ≤ i) (hi' : i < mSz D) (hj : 0 ≤ j) (hj' : j < mSz D) (h : mDg D i + mDg D j ≤ 17) : mEa D (mIx D i j) = mEa D i + mEa D j ∧ mEb D (mIx D i j) = mEb D i + mEb D j ∧ mEc D (mIx D i j) = mEc D i + mEc D j ∧ 0 ≤ mIx D i j ∧ mIx D i j < mSz D := by
  obtain ⟨x1, x2, x3, x4, x5, x6⟩ := mE_at hD hi hi'
  obtain ⟨y1, y2, y3, y4, y5, y6⟩ := mE_at hD hj hj'
  unfold mDg at h
  exact mAt_E hD (by omega) (by omega) (by omega) (by omega) (fun q => by have := x6 q; have := y6 q; omega)
/-- the factor at k of a product, the sum over all pairs of monomials (not reduced) -/
def pTo (D : Int) (f : Int → Int) (x : Int) (g : Int → Int) (y : Int) (n m : Nat) (k : Int) : Int := sg n fun i => sg m fun j => if mIx D i j = k then f (x + i) * g (y + j) else 0
def pMul (D : Int) (f : Int → Int) (x : Int) (g : Int → Int) (y : Int) (k : Int) : Int := pTo D f x g y (mSz D).toNat (mSz D).toNat k % 2521
/-- a row's part is told anew -/
def setR (f : Int → Int) (lo n : Int) (g : Int → Int) : Int → Int := fun j => if lo ≤ j ∧ j < lo + n then g (j - lo) else f j
theorem pTo_ext {D : Int} {f g : Int → Int} {x y : Int} {n m N M : Nat} (hn : n ≤ N) (hm : m ≤ M) (hf : ∀ i : Nat, n ≤ i → i < N → f (x + i) = 0) (hg : ∀ j : Nat, m ≤ j → j < M → g (y + j) = 0) (k : Int) : pTo D f x g y N M k = pTo D f x g y n m k := by
  unfold pTo
  rw [sg_ext hn]
  · refine sg_congr fun i _ => sg_ext hm fun j q r => ?_
    rw [hg j q r]; simp
  · intro i q r
    rw [hf i q r]
    refine sg_zero fun j _ => ?_
    simp
section MMU
variable {d : Nat} {z : cm_Z} {I : cm_I}
theorem s_multiplies (hz : mz z) (hD : mD I) (hm : mMon I) {a b c : Nat} {x y w : Int} (ha : mA a) (hb : mA b) (hc : mA c) (hac : a ≠ c) (hbc : b ≠ c) (hcm : 213 ≤ c) (x0 : 0 ≤ x) (x1 : x + 1140 ≤ mLen a) (x2 : x ≤ 1000000) (y0 : 0 ≤ y) (y1 : y + 1140 ≤ mLen b) (y2 : y ≤ 1000000) (w0 : 0 ≤ w) (w1 : w + 1140 ≤ mLen c) (w2 : w ≤ 1000000) (hf : okR (I a)) (hg : okR (I b)) (hdeg : mDeg (I 209 1) (I a) x + mDeg (I 209 1) (I b) y ≤ 17) : mU (d + 3) m_Model_multiplies [vR 12 209, vR 20 a, vI x, vR 20 b, vI y, vR 20 c, vI w] z I fun I1 => I1 = iw I c (setR (I c) w 1140 (pMul (I 209 1) (I a) x (I b) y)) := by
  have hs := mSz_bd (I 209 1)
  have n9 : (209 : Nat) ≠ c := by omega
  have n0 : (210 : Nat) ≠ c := by omega
  have n1 : (211 : Nat) ≠ c := by omega
  have n2 : (212 : Nat) ≠ c := by omega
  have dA := mDeg_bd hD (I a) x
  have dB := mDeg_bd hD (I b) y
  refine mr_multiplies hz (mU_mono (s_clears hz hc w0 w1 w2) fun I1 e1 => ?_)
  have c9 : I1 209 = I 209 := by rw [e1, iw_ne _ _ n9]
  have cm1 : mMon I1 := by
    intro k k0 k1
    rw [c9] at k1 ⊢
    rw [e1, iw_ne _ _ n0, iw_ne _ _ n1, iw_ne _ _ n2]
    exact hm k k0 k1
  have cD : mD I1 := by unfold mD; rw [c9]; exact hD
  have ca : I1 a = I a := by rw [e1, iw_ne _ _ hac]
  have cb : I1 b = I b := by rw [e1, iw_ne _ _ hbc]
  refine mI_mono (s_degree hz cD cm1 ha x0 x1 x2) fun v3 I2 ⟨e2, ev3⟩ => ?_
  rw [c9, ca] at ev3
  rw [e2]
  refine ⟨⟨by omega, by omega⟩, mI_mono (s_from hz (by omega) (by omega)) fun v6 I5 ⟨e5, ev6⟩ => ?_⟩
  rw [e5]
  rw [c9] at ev6
  refine mI_mono (s_degree hz cD cm1 hb y0 y1 y2) fun v8 I7 ⟨e7, ev8⟩ => ?_
  rw [c9, cb] at ev8
  rw [e7]
  refine ⟨⟨by omega, by omega⟩, mI_mono (s_from hz (by omega) (by omega)) fun v11 I10 ⟨e10, ev11⟩ => ?_⟩
  rw [e10]
  rw [c9] at ev11
  -- the ends
  have f18 := mFrom18 (D := I 209 1)
  have m6 : v6 ≤ mSz (I 209 1) := by rw [ev6, ← f18]; exact mFrom_mono _ (by omega) (by omega)
  have m11 : v11 ≤ mSz (I 209 1) := by rw [ev11, ← f18]; exact mFrom_mono _ (by omega) (by omega)
  have p6 : 0 ≤ v6 := by rw [ev6]; exact (mFrom_bd _ (by omega) (by omega)).1
  have p11 : 0 ≤ v11 := by rw [ev11]; exact (mFrom_bd _ (by omega) (by omega)).1
  obtain ⟨N, rfl⟩ := Int.eq_ofNat_of_zero_le p6
  obtain ⟨M, rfl⟩ := Int.eq_ofNat_of_zero_le p11
  have zf : ∀ i : Nat, N ≤ i → i < (mSz (I 209 1)).toNat → I a (x + i) = 0 := by
    intro i q r
    refine mDeg_z hD (by omega) (by omega) ?_
    have := (mDg_ge hD (k := i) (t := mDeg (I 209 1) (I a) x + 1) (by omega) (by omega) (by omega)).mp (by rw [← ev3, ← ev6]; omega)
    omega
  have zg : ∀ i : Nat, M ≤ i → i < (mSz (I 209 1)).toNat → I b (y + i) = 0 := by
    intro i q r
    refine mDeg_z hD (by omega) (by omega) ?_
    have := (mDg_ge hD (k := i) (t := mDeg (I 209 1) (I b) y + 1) (by omega) (by omega) (by omega)).mp (by rw [← ev8, ← ev11]; omega)
    omega
  have fin : pMul (I 209 1) (I a) x (I b) y = fun k => pTo (I 209 1) (I a) x (I b) y N M k % 2521 := by
    funext k
    unfold pMul
    rw [pTo_ext (by omega) (by omega) zf zg]
  rw [fin]
  -- row so far
  have st : ∀ (G : Int → Int) (I0 : cm_I), I0 = iw I c (setR (I c) w 1140 G) → I0 209 = I 209 ∧ I0 a = I a ∧ I0 b = I b ∧ I0 210 = I 210 ∧ I0 211 = I 211 ∧ I0 212 = I 212 ∧ I0 c = setR (I c) w 1140 G := by
    intro G I0 e
    rw [e]
    exact ⟨iw_ne _ _ n9, iw_ne _ _ hac, iw_ne _ _ hbc, iw_ne _ _ n0, iw_ne _ _ n1, iw_ne _ _ n2, iw_at _ _ _⟩
  have k58 : ∀ (n j i : Nat) (I0 : cm_I) (z11 : Option cm_V), j + n = M → i < N → I0 = iw I c (setR (I c) w 1140 fun k => (pTo (I 209 1) (I a) x (I b) y i M k + sg j fun j => if mIx (I 209 1) i j = k then I a (x + i) * I b (y + j) else 0) % 2521) → (∀ (I3 : cm_I) (z10 z11' : Option cm_V), I3 = iw I c (setR (I c) w 1140 fun k => pTo (I 209 1) (I a) x (I b) y (i + 1) M k % 2521) → cw (d + 2) cd_Model_multiplies (qU z fun I1 => I1 = iw I c (setR (I c) w 1140 fun k => pTo (I 209 1) (I a) x (I b) y N M k % 2521)) 39 [some (vR 12 209), some (vR 20 a), some (vI x), some (vR 20 b), some (vI y), some (vR 20 c), some (vI w), some (vI N), some (vI M), some (vI ((i : Int) + 1)), z10, z11'] [] (I3, z)) → cw (d + 2) cd_Model_multiplies (qU z fun I1 => I1 = iw I c (setR (I c) w 1140 fun k => pTo (I 209 1) (I a) x (I b) y N M k % 2521)) 58 [some (vR 12 209), some (vR 20 a), some (vI x), some (vR 20 b), some (vI y), some (vR 20 c), some (vI w), some (vI N), some (vI M), some (vI (i : Int)), some (vI (j : Int)), z11] [] (I0, z) := by
    intro n
    induction n with
    | zero =>
      intro j i I0 z11 ej hi e nxt
      refine mr_multiplies_58 hz hb hc ha ⟨fun q => ⟨⟨by omega, by omega⟩, nxt I0 _ _ ?_⟩, fun q => by omega⟩
      rw [e, show j = M by omega]
      rfl
    | succ n ih =>
      intro j i I0 z11 ej hi e nxt
      obtain ⟨s9, sa, sb, s0, s1, s2, sc⟩ := st _ I0 e
      refine mr_multiplies_58 hz hb hc ha ⟨fun q => by omega, fun q => ⟨⟨by omega, by omega⟩, ⟨by omega, by omega⟩, fun q2 => ⟨⟨by omega, by omega⟩, ?_⟩, fun q2 => ?_⟩⟩
      · refine ih (j + 1) i I0 _ (by omega) hi ?_ nxt
        rw [e]
        congr 2
        funext k
        rw [sb] at q2
        rw [show sg (j + 1) (fun j => if mIx (I 209 1) i j = k then I a (x + i) * I b (y + j) else 0) = sg j (fun j => if mIx (I 209 1) i j = k then I a (x + i) * I b (y + j) else 0) from by rw [sg, q2]; simp]
      · rw [sb] at q2
        have iN : (i : Int) < mSz (I 209 1) := by omega
        have jN : (j : Int) < mSz (I 209 1) := by omega
        have di : mDg (I 209 1) i ≤ mDeg (I 209 1) (I a) x := (mDg_lt hD (k := i) (t := mDeg (I 209 1) (I a) x) (by omega) iN (by omega)).mp (by rw [← ev3, ← ev6]; omega)
        have dj : mDg (I 209 1) j ≤ mDeg (I 209 1) (I b) y := (mDg_lt hD (k := j) (t := mDeg (I 209 1) (I b) y) (by omega) jN (by omega)).mp (by rw [← ev8, ← ev11]; omega)
        obtain ⟨t1, t2, t3, t4, t5, t6⟩ := mE_at hD (show 0 ≤ (i : Int) by omega) iN
        obtain ⟨u1, u2, u3, u4, u5, u6⟩ := mE_at hD (show 0 ≤ (j : Int) by omega) jN
        obtain ⟨r1, r2, r3, r4, r5⟩ := mIx_E hD (show 0 ≤ (i : Int) by omega) iN (show 0 ≤ (j : Int) by omega) jN (by omega)
        have hdd : mDg (I 209 1) i + mDg (I 209 1) j ≤ 17 := by omega
        unfold mDg at hdd
        rw [s0, s1, s2, (hm i (by omega) iN).1, (hm i (by omega) iN).2.1, (hm i (by omega) iN).2.2, (hm j (by omega) jN).1, (hm j (by omega) jN).2.1, (hm j (by omega) jN).2.2]
        refine ⟨⟨by omega, by omega⟩, ⟨by omega, by omega⟩, ⟨by omega, by omega⟩, ⟨by omega, by omega⟩, ⟨by omega, by omega⟩, mI_mono (s_at hz (by omega) (by omega) (by omega) (by omega)) fun v I3 ⟨e3, ev⟩ => ?_⟩
        rw [e3]
        rw [s9] at ev
        have ev' : v = mIx (I 209 1) i j := ev
        rw [sa, sb, sc]
        have fa := hf (x + i)
        have fb := hg (y + j)
        have pr := mul_bd fa.1 (show I a (x + i) ≤ 2520 by omega) fb.1 (show I b (y + j) ≤ 2520 by omega)
        have sv : setR (I c) w 1140 (fun k => (pTo (I 209 1) (I a) x (I b) y i M k + sg j fun j => if mIx (I 209 1) i j = k then I a (x + i) * I b (y + j) else 0) % 2521) (w + v) = (pTo (I 209 1) (I a) x (I b) y i M v + sg j fun j => if mIx (I 209 1) i j = v then I a (x + i) * I b (y + j) else 0) % 2521 := by
          unfold setR
          rw [if_pos (by omega), show w + v - w = v by omega]
        rw [sv]
        generalize hS : (pTo (I 209 1) (I a) x (I b) y i M v + sg j fun j => if mIx (I 209 1) i j = v then I a (x + i) * I b (y + j) else 0) = S at sv ⊢
        refine ⟨⟨by omega, by omega⟩, ⟨by omega, by omega⟩, ⟨by omega, by omega⟩, ⟨by omega, by omega⟩, ⟨by omega, by omega⟩, ⟨by omega, by omega⟩, fun I8 e8 => ⟨⟨by omega, by omega⟩, ?_⟩⟩
        refine ih (j + 1) i I8 _ (by omega) hi ?_ nxt
        rw [e8, tmod_pos (by omega), e, iu_iw]
        congr 1
        funext l
        by_cases hl : l = w + v
        · subst hl
          rw [if_pos rfl]
          unfold setR
          rw [if_pos (by omega), show w + v - w = v by omega]
          dsimp only
          rw [sg_succ j, if_pos ev'.symm, ← Int.add_assoc, hS]
          omega
        · rw [if_neg hl]
          unfold setR
          by_cases hl2 : w ≤ l ∧ l < w + 1140
          · rw [if_pos hl2, if_pos hl2]
            dsimp only
            rw [sg_succ j, if_neg (by rw [← ev']; omega), Int.add_zero]
          · rw [if_neg hl2, if_neg hl2]
  have k39 : ∀ (n i : Nat) (I0 : cm_I) (z10 z11 : Option cm_V), i + n = N → I0 = iw I c (setR (I c) w 1140 fun k => pTo (I 209 1) (I a) x (I b) y i M k % 2521) → cw (d + 2) cd_Model_multiplies (qU z fun I1 => I1 = iw I c (setR (I c) w 1140 fun k => pTo (I 209 1) (I a) x (I b) y N M k % 2521)) 39 [some (vR 12 209), some (vR 20 a), some (vI x), some (vR 20 b), some (vI y), some (vR 20 c), some (vI w), some (vI N), some (vI M), some (vI (i : Int)), z10, z11] [] (I0, z) := by
    intro n
    induction n with
    | zero =>
      intro i I0 z10 z11 ei e
      refine mr_multiplies_39 hz ha ⟨fun q => qU_mk ?_, fun q => by omega⟩
      rw [e, show i = N by omega]
    | succ n ih =>
      intro i I0 z10 z11 ei e
      obtain ⟨s9, sa, sb, s0, s1, s2, sc⟩ := st _ I0 e
      refine mr_multiplies_39 hz ha ⟨fun q => by omega, fun q => ⟨⟨by omega, by omega⟩, ⟨by omega, by omega⟩, fun q2 => ⟨⟨by omega, by omega⟩, ?_⟩, fun q2 => ?_⟩⟩
      · refine ih (i + 1) I0 _ _ (by omega) ?_
        rw [e]
        congr 2
        funext k
        rw [sa] at q2
        congr 1
        unfold pTo
        rw [sg, q2, sg_zero (n := M) (fun j _ => by simp), Int.add_zero]
      · refine k58 M 0 i I0 _ (by omega) (by omega) ?_ fun I3 z10' z11' e3 => ih (i + 1) I3 z10' z11' (by omega) e3
        rw [e]
        congr 2
        funext k
        rw [sg, Int.add_zero]
  refine k39 N 0 I1 _ _ (by omega) ?_
  rw [e1]
  congr 1
end MMU
