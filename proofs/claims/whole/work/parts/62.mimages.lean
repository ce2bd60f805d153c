/-! IMAGES of monomials by the reference -/
theorem monoE_step {D : Int} (A : cMat) (hD : D = 2 ∨ D = 3) {k : Int} (k0 : 0 ≤ k) (k1 : k < mSz D) {v : Nat} (hv : (v = 0 ∧ 0 < mEa D k) ∨ (v = 1 ∧ mEa D k ≤ 0 ∧ 0 < mEb D k) ∨ (v = 2 ∧ mEa D k ≤ 0 ∧ mEb D k ≤ 0 ∧ 0 < mEc D k)) : 0 < ex D v k ∧ monoE D A k = lm (A v) (monoE D A (sr D v k)) := by
  have hx : 0 < ex D v k := by
    unfold ex
    rcases hv with ⟨rfl, h⟩ | ⟨rfl, h1, h⟩ | ⟨rfl, h1, h2, h⟩
    · exact h
    · exact h
    · exact h
  refine ⟨hx, ?_⟩
  obtain ⟨s1, s2, s3, s4, s5, s6, s7⟩ := sr_ok hD (j := v) (by omega) k0 k1 hx
  unfold monoE
  unfold mEa at s3 hv
  unfold mEb at s4 hv
  unfold mEc at s5 hv
  rcases hv with ⟨rfl, h⟩ | ⟨rfl, h1, h⟩ | ⟨rfl, h1, h2, h⟩
  · have : dl 0 0 = 1 := rfl
    have : dl 1 0 = 0 := rfl
    have : dl 2 0 = 0 := rfl
    rw [show (mE D k).1 = (mE D (sr D 0 k)).1 + 1 by omega, show (mE D k).2.1 = (mE D (sr D 0 k)).2.1 by omega, show (mE D k).2.2 = (mE D (sr D 0 k)).2.2 by omega]
    rfl
  · have : dl 0 1 = 0 := rfl
    have : dl 1 1 = 1 := rfl
    have : dl 2 1 = 0 := rfl
    rw [show (mE D (sr D 1 k)).1 = 0 by omega, show (mE D k).1 = 0 by omega, show (mE D k).2.1 = (mE D (sr D 1 k)).2.1 + 1 by omega, show (mE D k).2.2 = (mE D (sr D 1 k)).2.2 by omega]
    rfl
  · have : dl 0 2 = 0 := rfl
    have : dl 1 2 = 0 := rfl
    have : dl 2 2 = 1 := rfl
    rw [show (mE D (sr D 2 k)).1 = 0 by omega, show (mE D k).1 = 0 by omega, show (mE D (sr D 2 k)).2.1 = 0 by omega, show (mE D k).2.1 = 0 by omega, show (mE D k).2.2 = (mE D (sr D 2 k)).2.2 + 1 by omega]
    rfl
def imD (D : Int) (A : cMat) (F : Int → Int) (k : Int) : Prop := ∀ i, 0 ≤ i → i < mMany D (mDg D k) → F (136 * k + i) = fi (atE D (monoE D A k) (mFrom D (mDg D k) + i))
theorem from_bds {D : Int} (hD : D = 2 ∨ D = 3) {t : Int} (t0 : 0 ≤ t) (t1 : t ≤ 15) : 0 ≤ mFrom D t ∧ mFrom D t + mMany D t = mFrom D (t + 1) ∧ mFrom D (t + 1) ≤ 816 ∧ mFrom D (t + 1) ≤ mSz D ∧ 1 ≤ mMany D t ∧ mMany D t ≤ 136 := by
  have a := mFrom_succ hD t0 (by omega)
  have b := mFrom_mono D (s := t + 1) (t := 16) (by omega) (by omega)
  have c := mFrom_mono D (s := 0) (t := t) (by omega) t0
  have z0 : 0 ≤ mFrom D 0 := (mFrom_bd D (t := 0) (by omega) (by omega)).1
  have m16 : mFrom D 16 ≤ 816 ∧ mFrom D 16 ≤ mSz D := by rcases hD with h | h <;> rw [h] <;> decide
  have mm : ∀ t : Fin 16, (1 ≤ mMany 2 (t.val : Int) ∧ mMany 2 (t.val : Int) ≤ 136) ∧ (1 ≤ mMany 3 (t.val : Int) ∧ mMany 3 (t.val : Int) ≤ 136) := by decide
  have := mm ⟨t.toNat, by omega⟩
  rw [show (((⟨t.toNat, by omega⟩ : Fin 16).val : Nat) : Int) = t by show ((t.toNat : Nat) : Int) = t; omega] at this
  have m2 : 1 ≤ mMany D t ∧ mMany D t ≤ 136 := by
    rcases hD with rfl | rfl
    · exact this.1
    · exact this.2
  exact ⟨by omega, a, by omega, by omega, m2.1, m2.2⟩
section MIM
variable {d : Nat} {z : cm_Z} {I : cm_I}
theorem s_laysImages (hz : mz z) (hD : mD I) (hm : mMon I) {a : Nat} (ha : mA a) (ha4 : a ≠ 224) (okA : okR (I a)) (ok4 : okR (I 224)) {g : Int} (g0 : 0 ≤ g) (g1 : g ≤ 1000) (gl : 9 * g + 9 ≤ mLen a) {most : Int} (p0 : 0 ≤ most) (p1 : most ≤ 15) : mU (d + 3) m_Model_laysImages [vR 12 209, vR 20 a, vI g, vI most] z I fun I1 => fr [224] I I1 ∧ okR (I1 224) ∧ ∀ k, 0 ≤ k → k < mFrom (I 209 1) (most + 1) → imD (I 209 1) (mat (I 209 1) (I a) g) (I1 224) k := by
  have hD' : I 209 1 = 2 ∨ I 209 1 = 3 := hD
  generalize hA : mat (I 209 1) (I a) g = A
  generalize hDD : I 209 1 = D at hD'
  have hm' : ∀ k, 0 ≤ k → k < mSz D → I 210 k = mEa D k ∧ I 211 k = mEb D k ∧ I 212 k = mEc D k := by
    intro k k0 k1
    have := hm k k0 (by rw [hDD]; exact k1)
    rw [hDD] at this
    exact this
  generalize hQ : (qU z fun I1 => fr [224] I I1 ∧ okR (I1 224) ∧ ∀ k, 0 ≤ k → k < mFrom D (most + 1) → imD D A (I1 224) k) = Q
  show cm_call _ _ _ _ (qU z _)
  rw [hQ]
  -- one row
  have kRow : ∀ (t k : Int) (v : Nat) (I0 : cm_I) (z10 z11 z12 z13 : Option cm_V), 1 ≤ t → t ≤ 15 → mFrom D t ≤ k → k < mFrom D (t + 1) → v < 3 → 0 < ex D v k → monoE D A k = lm (A v) (monoE D A (sr D v k)) → fr [224] I I0 → okR (I0 224) → (∀ k', 0 ≤ k' → k' < k → imD D A (I0 224) k') → (∀ (I1 : cm_I) (z7 z8 z9 z10 z11 z12 z13 : Option cm_V), fr [224] I I1 → okR (I1 224) → (∀ k', 0 ≤ k' → k' < k + 1 → imD D A (I1 224) k') → cw (d + 2) cd_Model_laysImages Q 32 [some (vR 12 209), some (vR 20 a), some (vI g), some (vI most), some (vI t), some (vI (mMany D t)), some (vI (k + 1)), z7, z8, z9, z10, z11, z12, z13] [] (I1, z)) → cw (d + 2) cd_Model_laysImages Q 141 [some (vR 12 209), some (vR 20 a), some (vI g), some (vI most), some (vI t), some (vI (mMany D t)), some (vI k), some (vI (v : Int)), some (vI (sr D v k)), some (vI 0), z10, z11, z12, z13] [] (I0, z) := by
    intro t k v I0 z10 z11 z12 z13 t0 t1 kl kh hv hx hmono f0 o0 done nxt
    obtain ⟨b1, b2, b3, b4, b5, b6⟩ := from_bds hD' (t := t) (by omega) (by omega)
    obtain ⟨c1, c2, c3, c4, c5, c6⟩ := from_bds hD' (t := t - 1) (by omega) (by omega)
    rw [show t - 1 + 1 = t by omega] at c2 c3 c4
    have k0 : 0 ≤ k := by omega
    have k1 : k < mSz D := by omega
    have dk : mDg D k = t := by
      have x := (mDg_lt hD' (t := t) k0 k1 (by omega)).mp kh
      have y := (mDg_ge hD' (t := t) k0 k1 (by omega)).mp kl
      omega
    obtain ⟨s1, s2, s3, s4, s5, s6, s7⟩ := sr_ok hD' hv k0 k1 hx
    have dl1 : mDg D (sr D v k) = t - 1 := by omega
    have sl : sr D v k < mFrom D t := by
      have := (mDg_lt hD' (t := t - 1) s1 s2 (by omega)).mpr (by omega)
      rw [show t - 1 + 1 = t by omega] at this
      exact this
    have dls := done (sr D v k) s1 (by omega)
    unfold imD at dls
    rw [dl1] at dls
    generalize hs : sr D v k = ls at dls sl s1 s2 dl1 hmono
    have hG : ∀ m, mFrom D (t - 1) ≤ m → m < mFrom D t → toF (I0 224 (136 * ls + (m - mFrom D (t - 1)))) = atE D (monoE D A ls) m := by
      intro m q0 q1
      rw [dls (m - mFrom D (t - 1)) (by omega) (by omega), toF_fi, show mFrom D (t - 1) + (m - mFrom D (t - 1)) = m by omega]
    generalize hGG : (fun m => toF (I0 224 (136 * ls + (m - mFrom D (t - 1))))) = G
    have hG' : ∀ m, mFrom D (t - 1) ≤ m → m < mFrom D t → G m = atE D (monoE D A ls) m := by
      intro m q0 q1
      rw [← hGG]
      exact hG m q0 q1
    have oth : ∀ {F : Int → Int}, (∀ x, x < 136 * k → F x = I0 224 x) → ∀ k', 0 ≤ k' → k' < k → imD D A F k' := by
      intro F hF k' q0 q1 i i0 i1
      have e := (mE_at hD' q0 (by omega))
      have dd := mDg_from hD' q0 (show k' < mSz D by omega)
      have le15 : mDg D k' ≤ 15 := by
        have := mDg_mono hD' q0 (show k' ≤ k by omega) k1
        omega
      have := (from_bds hD' dd.1 le15).2.2.2.2.2
      rw [hF _ (by omega)]
      exact done k' q0 q1 i i0 i1
    have ent : ∀ j : Nat, (j : Int) < D → I a (9 * g + 3 * (v : Int) + j) = fi (A v j) := by
      intro j hj
      rw [← hA]
      unfold mat
      rw [if_pos ⟨by rw [hDD]; exact s7, by rw [hDD]; exact hj⟩, fi_toF]
      have := okA (9 * g + 3 * (v : Int) + j)
      omega
    -- sources
    have k172 : ∀ (n : Nat) (i : Int) (I1 : cm_I) (z10 z11 z12 z13 : Option cm_V), 0 ≤ i → i + n = mMany D (t - 1) → fr [224] I I1 → okR (I1 224) → (∀ x, x < 136 * k → I1 224 x = I0 224 x) → (∀ to, 0 ≤ to → to < mMany D t → toF (I1 224 (136 * k + to)) = prt D (A v) G (mFrom D (t - 1) + i) 0 (mFrom D t + to)) → cw (d + 2) cd_Model_laysImages Q 172 [some (vR 12 209), some (vR 20 a), some (vI g), some (vI most), some (vI t), some (vI (mMany D t)), some (vI k), some (vI (v : Int)), some (vI ls), some (vI i), z10, z11, z12, z13] [] (I1, z) := by
      intro n
      induction n with
      | zero =>
        intro i I1 z10 z11 z12 z13 i0 ei f1 o1 lo row
        refine mr_laysImages_172 hz ⟨⟨by omega, by omega⟩, mI_mono (s_many hz (by omega) (by omega)) fun v3 I2 ⟨e2, ev⟩ => ?_⟩
        rw [e2]
        rw [f1 209 (by decide), hDD] at ev
        refine ⟨fun _ => ⟨⟨by omega, by omega⟩, nxt I1 _ _ _ _ _ _ _ f1 o1 fun k' q0 q1 => ?_⟩, fun q => by omega⟩
        by_cases e : k' = k
        · rw [e]
          intro to t0' t1'
          rw [dk] at t1' ⊢
          have := row to t0' t1'
          rw [show mFrom D (t - 1) + i = mFrom D t by omega] at this
          have dK : mDg D (mFrom D t + to) = t := by
            have x := (mDg_lt hD' (k := mFrom D t + to) (t := t) (by omega) (by omega) (by omega)).mp (by omega)
            have y := (mDg_ge hD' (k := mFrom D t + to) (t := t) (by omega) (by omega) (by omega)).mp (by omega)
            omega
          rw [prt_end hD' t0 (by omega) (by omega) dK hG', ← hmono] at this
          rw [← this, fi_toF]
          have := o1 (136 * k + to)
          omega
        · exact oth lo k' q0 (by omega)
      | succ n ih =>
        intro i I1 z10 z11 z12 z13 i0 ei f1 o1 lo row
        have m0 : 0 ≤ mFrom D (t - 1) + i := by omega
        have m1 : mFrom D (t - 1) + i < mSz D := by omega
        have dm : mDg D (mFrom D (t - 1) + i) = t - 1 := by
          have x := (mDg_lt hD' (k := mFrom D (t - 1) + i) (t := t - 1) m0 m1 (by omega)).mp (by rw [show t - 1 + 1 = t by omega]; omega)
          have y := (mDg_ge hD' (k := mFrom D (t - 1) + i) (t := t - 1) m0 m1 (by omega)).mp (by omega)
          omega
        have Gm : G (mFrom D (t - 1) + i) = toF (I1 224 (136 * ls + i)) := by
          rw [← hGG]
          show toF (I0 224 (136 * ls + (mFrom D (t - 1) + i - mFrom D (t - 1)))) = _
          rw [show mFrom D (t - 1) + i - mFrom D (t - 1) = i by omega, lo _ (by omega)]
        refine mr_laysImages_172 hz ⟨⟨by omega, by omega⟩, mI_mono (s_many hz (by omega) (by omega)) fun v3 I2 ⟨e2, ev⟩ => ?_⟩
        rw [e2]
        rw [f1 209 (by decide), hDD] at ev
        refine ⟨fun q => by omega, fun _ => ⟨⟨by omega, by omega⟩, ⟨by omega, by omega⟩, ⟨by omega, by omega⟩, mI_mono (s_from hz (by omega) (by omega)) fun v9 I8 ⟨e8, ev9⟩ => ⟨?_, ?_⟩⟩⟩
        · rw [ev9, f1 209 (by decide), hDD]; exact ⟨by omega, by omega⟩
        rw [e8, ev9, f1 209 (by decide), hDD]
        have of := o1 (136 * ls + i)
        generalize hf : I1 224 (136 * ls + i) = f at Gm of
        -- targets
        have k217 : ∀ (n2 j : Nat) (I3 : cm_I) (z13 : Option cm_V), (j : Int) + n2 = D → fr [224] I I3 → okR (I3 224) → (∀ x, x < 136 * k → I3 224 x = I0 224 x) → (∀ to, 0 ≤ to → to < mMany D t → toF (I3 224 (136 * k + to)) = prt D (A v) G (mFrom D (t - 1) + i) j (mFrom D t + to)) → cw (d + 2) cd_Model_laysImages Q 217 [some (vR 12 209), some (vR 20 a), some (vI g), some (vI most), some (vI t), some (vI (mMany D t)), some (vI k), some (vI (v : Int)), some (vI ls), some (vI i), some (vI f), some (vI (mFrom D (t - 1) + i)), some (vI (j : Int)), z13] [] (I3, z) := by
          intro n2
          induction n2 with
          | zero =>
            intro j I3 z13 ej f3 o3 lo3 row3
            refine mr_laysImages_217 hz ⟨fun q => ⟨⟨by omega, by omega⟩, ih (i + 1) I3 _ _ _ _ (by omega) (by omega) f3 o3 lo3 fun to q0 q1 => ?_⟩, fun q => ?_⟩
            · rw [row3 to q0 q1, prt_next hD' (by omega) (by omega) (by omega), show mFrom D (t - 1) + i + 1 = mFrom D (t - 1) + (i + 1) by omega]
            · rw [f3 209 (by decide), hDD] at q
              omega
          | succ n2 ih2 =>
            intro j I3 z13 ej f3 o3 lo3 row3
            have hjD : (j : Int) < D := by omega
            obtain ⟨u1, u2, u3, u4, u5, u6⟩ := up_ok hD' hjD m0 m1 (by omega)
            have uf : mFrom D t ≤ up D j (mFrom D (t - 1) + i) ∧ up D j (mFrom D (t - 1) + i) < mFrom D (t + 1) := ⟨(mDg_ge hD' u1 u2 (by omega)).mpr (by omega), (mDg_lt hD' u1 u2 (by omega)).mpr (by omega)⟩
            obtain ⟨mm1, mm2, mm3⟩ := hm' _ m0 m1
            obtain ⟨x1, x2, x3, x4, x5, x6⟩ := mE_at hD' m0 m1
            have d0 := dl_bd 0 j
            have d1 := dl_bd 1 j
            have d2 := dl_bd 2 j
            have dg : mEa D (mFrom D (t - 1) + i) + mEb D (mFrom D (t - 1) + i) + mEc D (mFrom D (t - 1) + i) = t - 1 := dm
            refine mr_laysImages_217 hz ⟨fun q => by rw [f3 209 (by decide), hDD] at q; omega, fun q => ⟨fun qf => ⟨⟨by omega, by omega⟩, ih (i + 1) I3 _ _ _ _ (by omega) (by omega) f3 o3 lo3 fun to q0 q1 => ?_⟩, fun qf => ?_⟩⟩
            · rw [row3 to q0 q1, prt_skip (by rw [Gm, qf]; rfl), show mFrom D (t - 1) + i + 1 = mFrom D (t - 1) + (i + 1) by omega]
            have k287 : cw (d + 2) cd_Model_laysImages Q 287 [some (vR 12 209), some (vR 20 a), some (vI g), some (vI most), some (vI t), some (vI (mMany D t)), some (vI k), some (vI (v : Int)), some (vI ls), some (vI i), some (vI f), some (vI (mFrom D (t - 1) + i)), some (vI (j : Int)), z13] [vI (dl 2 j), vI (mEc D (mFrom D (t - 1) + i)), vI (mEb D (mFrom D (t - 1) + i) + dl 1 j), vI (mEa D (mFrom D (t - 1) + i) + dl 0 j), vR 12 209] (I3, z) := by
              refine mr_laysImages_287 hz ⟨⟨by omega, by omega⟩, mI_mono (s_at hz (by omega) (by omega) (by omega) (by omega)) fun v3 I4 ⟨e4, ev4⟩ => ?_⟩
              rw [e4]
              rw [f3 209 (by decide), hDD] at ev4
              have ev4' : v3 = up D j (mFrom D (t - 1) + i) := ev4
              refine mI_mono (s_from hz (by omega) (by omega)) fun v5 I5 ⟨e5, ev5⟩ => ?_
              rw [e5]
              rw [f3 209 (by decide), hDD] at ev5
              refine ⟨⟨by omega, by omega⟩, ⟨by omega, by omega⟩, ⟨by omega, by omega⟩, ⟨by omega, by omega⟩, mI_mono (s_entry hz ha g0 g1 (by omega) (by omega) (by omega) (by omega) gl) fun v11 I10 ⟨e10, ev11⟩ => ?_⟩
              rw [e10]
              rw [f3 a (by simp [ha4]), ent j hjD] at ev11
              have fb := fi_bd (A v j)
              have oo := o3 (136 * k + (v3 - v5))
              have bm := mul_bd (x := f) (y := v11) (X := 2520) (Y := 2520) of.1 (by omega) (by omega) (by omega)
              refine ⟨⟨by omega, by omega⟩, ⟨by omega, by omega⟩, fun I14 e14 => ⟨⟨by omega, by omega⟩, ?_⟩⟩
              obtain ⟨f14, g14⟩ := fr_eq_iu e14
              rw [tmod_pos (by omega)] at g14
              have := ih2 (j + 1) I14 (some (vI (v3 - v5))) (by omega) (fr_trans f3 f14) ?_ (fun x hx => ?_) (fun to q0 q1 => ?_)
              · rw [show ((j + 1 : Nat) : Int) = (j : Int) + 1 by omega] at this
                exact this
              · rw [g14]
                exact okR_st o3 (by omega) (by omega)
              · rw [g14]
                show (if x = _ then _ else _) = _
                rw [if_neg (by omega)]
                exact lo3 x hx
              · rw [g14, show ((j + 1 : Nat) : Int) = (j : Int) + 1 by omega, prt_step hD' m0 m1 (by omega) (by omega) (by omega) hjD, ← row3 to q0 q1]
                show toF (if 136 * k + to = _ then _ else _) = _
                by_cases e : to = v3 - v5
                · rw [if_pos (by omega), if_pos (by omega), toF_mod, toF_add, toF_mul, e, Gm, ev11, toF_fi]
                  congr 1
                  exact Lean.Grind.CommSemiring.mul_comm _ _
                · rw [if_neg (by omega), if_neg (by omega)]
                  exact (Lean.Grind.Semiring.add_zero _).symm
            have k268 : cw (d + 2) cd_Model_laysImages Q 268 [some (vR 12 209), some (vR 20 a), some (vI g), some (vI most), some (vI t), some (vI (mMany D t)), some (vI k), some (vI (v : Int)), some (vI ls), some (vI i), some (vI f), some (vI (mFrom D (t - 1) + i)), some (vI (j : Int)), z13] [vI (dl 1 j), vI (mEb D (mFrom D (t - 1) + i)), vI (mEa D (mFrom D (t - 1) + i) + dl 0 j), vR 12 209] (I3, z) := by
              refine mr_laysImages_268 hz ⟨⟨by omega, by omega⟩, ⟨by omega, by omega⟩, ?_⟩
              rw [f3 212 (by decide), mm3]
              refine ⟨fun q => ?_, fun q => ?_⟩
              · have e : (0 : Int) = dl 2 j := by unfold dl; rw [if_neg (by omega)]
                rw [e]; exact k287
              · have e : dl 2 j = 1 := by unfold dl; rw [if_pos (by omega)]
                rw [e] at k287; exact k287
            have k249 : cw (d + 2) cd_Model_laysImages Q 249 [some (vR 12 209), some (vR 20 a), some (vI g), some (vI most), some (vI t), some (vI (mMany D t)), some (vI k), some (vI (v : Int)), some (vI ls), some (vI i), some (vI f), some (vI (mFrom D (t - 1) + i)), some (vI (j : Int)), z13] [vI (dl 0 j), vI (mEa D (mFrom D (t - 1) + i)), vR 12 209] (I3, z) := by
              refine mr_laysImages_249 hz ⟨⟨by omega, by omega⟩, ⟨by omega, by omega⟩, ?_⟩
              rw [f3 211 (by decide), mm2]
              refine ⟨fun q => ?_, fun q => ?_⟩
              · have e : (0 : Int) = dl 1 j := by unfold dl; rw [if_neg (by omega)]
                rw [e]; exact k268
              · have e : dl 1 j = 1 := by unfold dl; rw [if_pos (by omega)]
                rw [e] at k268; exact k268
            refine ⟨⟨by omega, by omega⟩, ?_⟩
            rw [f3 210 (by decide), mm1]
            refine ⟨fun q => ?_, fun q => ?_⟩
            · have e : (0 : Int) = dl 0 j := by unfold dl; rw [if_neg (by omega)]
              rw [e]; exact k249
            · have e : dl 0 j = 1 := by unfold dl; rw [if_pos (by omega)]
              rw [e] at k249; exact k249
        exact k217 D.toNat 0 I1 _ (by omega) f1 o1 lo row
    -- the row is cleared
    have k141 : ∀ (n : Nat) (i : Int) (I1 : cm_I) (z10 z11 z12 z13 : Option cm_V), 0 ≤ i → i + n = mMany D t → fr [224] I I1 → okR (I1 224) → (∀ x, x < 136 * k → I1 224 x = I0 224 x) → (∀ to, 0 ≤ to → to < i → I1 224 (136 * k + to) = 0) → cw (d + 2) cd_Model_laysImages Q 141 [some (vR 12 209), some (vR 20 a), some (vI g), some (vI most), some (vI t), some (vI (mMany D t)), some (vI k), some (vI (v : Int)), some (vI ls), some (vI i), z10, z11, z12, z13] [] (I1, z) := by
      intro n
      induction n with
      | zero =>
        intro i I1 z10 z11 z12 z13 i0 ei f1 o1 lo row
        refine mr_laysImages_141 hz ⟨fun _ => k172 (mMany D (t - 1)).toNat 0 I1 _ _ _ _ (by omega) (by omega) f1 o1 lo fun to q0 q1 => ?_, fun q => by omega⟩
        have dK : mDg D (mFrom D t + to) = t := by
          have x := (mDg_lt hD' (k := mFrom D t + to) (t := t) (by omega) (by omega) (by omega)).mp (by omega)
          have y := (mDg_ge hD' (k := mFrom D t + to) (t := t) (by omega) (by omega) (by omega)).mp (by omega)
          omega
        rw [row to q0 (by omega), show mFrom D (t - 1) + 0 = mFrom D (t - 1) by omega, prt_begin hD' t0 (by omega) (by omega) dK]
        rfl
      | succ n ih =>
        intro i I1 z10 z11 z12 z13 i0 ei f1 o1 lo row
        refine mr_laysImages_141 hz ⟨fun q => by omega, fun q => ⟨⟨by omega, by omega⟩, ⟨by omega, by omega⟩, ⟨by omega, by omega⟩, fun I4 e4 => ⟨⟨by omega, by omega⟩, ?_⟩⟩⟩
        obtain ⟨f4, g4⟩ := fr_eq_iu e4
        refine ih (i + 1) I4 _ _ _ _ (by omega) (by omega) (fr_trans f1 f4) (by rw [g4]; exact okR_st o1 (by omega) (by omega)) (fun x hx => ?_) (fun to q0 q1 => ?_)
        · rw [g4]
          show (if x = _ then _ else _) = _
          rw [if_neg (by omega)]
          exact lo x hx
        · rw [g4]
          show (if 136 * k + to = _ then _ else _) = _
          by_cases e : to = i
          · rw [if_pos (by omega)]
          · rw [if_neg (by omega)]
            exact row to q0 (by omega)
    exact k141 (mMany D t).toNat 0 I0 _ _ _ _ (by omega) (by omega) f0 o0 (fun _ _ => rfl) fun to q0 q1 => by omega
  have k32 : ∀ (n : Nat) (t k : Int) (I0 : cm_I) (z7 z8 z9 z10 z11 z12 z13 : Option cm_V), 1 ≤ t → t ≤ most → mFrom D t ≤ k → k + n = mFrom D (t + 1) → fr [224] I I0 → okR (I0 224) → (∀ k', 0 ≤ k' → k' < k → imD D A (I0 224) k') → (∀ (I1 : cm_I) (z5 z6 z7 z8 z9 z10 z11 z12 z13 : Option cm_V), fr [224] I I1 → okR (I1 224) → (∀ k', 0 ≤ k' → k' < mFrom D (t + 1) → imD D A (I1 224) k') → cw (d + 2) cd_Model_laysImages Q 10 [some (vR 12 209), some (vR 20 a), some (vI g), some (vI most), some (vI (t + 1)), z5, z6, z7, z8, z9, z10, z11, z12, z13] [] (I1, z)) → cw (d + 2) cd_Model_laysImages Q 32 [some (vR 12 209), some (vR 20 a), some (vI g), some (vI most), some (vI t), some (vI (mMany D t)), some (vI k), z7, z8, z9, z10, z11, z12, z13] [] (I0, z) := by
    intro n
    induction n with
    | zero =>
      intro t k I0 z7 z8 z9 z10 z11 z12 z13 t0 t1 kl ek f0 o0 done nxt
      refine mr_laysImages_32 hz ⟨⟨by omega, by omega⟩, mI_mono (s_from hz (by omega) (by omega)) fun v3 I2 ⟨e2, ev⟩ => ?_⟩
      rw [e2]
      rw [f0 209 (by decide), hDD] at ev
      exact ⟨fun _ => nxt I0 _ _ _ _ _ _ _ _ _ f0 o0 fun k' q0 q1 => done k' q0 (by omega), fun q => by omega⟩
    | succ n ih =>
      intro t k I0 z7 z8 z9 z10 z11 z12 z13 t0 t1 kl ek f0 o0 done nxt
      obtain ⟨b1, b2, b3, b4, b5, b6⟩ := from_bds hD' (t := t) (by omega) (by omega)
      have k0 : 0 ≤ k := by omega
      have k1 : k < mSz D := by omega
      obtain ⟨mm1, mm2, mm3⟩ := hm' k k0 k1
      obtain ⟨x1, x2, x3, x4, x5, x6⟩ := mE_at hD' k0 k1
      have dk : t ≤ mEa D k + mEb D k + mEc D k := (mDg_ge hD' (t := t) k0 k1 (by omega)).mp kl
      refine mr_laysImages_32 hz ⟨⟨by omega, by omega⟩, mI_mono (s_from hz (by omega) (by omega)) fun v3 I2 ⟨e2, ev⟩ => ?_⟩
      rw [e2]
      rw [f0 209 (by decide), hDD] at ev
      refine ⟨fun q => by omega, fun _ => ⟨⟨by omega, by omega⟩, ?_⟩⟩
      rw [f0 210 (by decide), f0 211 (by decide), mm1, mm2]
      have go : ∀ (v : Nat), ((v = 0 ∧ 0 < mEa D k) ∨ (v = 1 ∧ mEa D k ≤ 0 ∧ 0 < mEb D k) ∨ (v = 2 ∧ mEa D k ≤ 0 ∧ mEb D k ≤ 0 ∧ 0 < mEc D k)) → cw (d + 2) cd_Model_laysImages Q 74 [some (vR 12 209), some (vR 20 a), some (vI g), some (vI most), some (vI t), some (vI (mMany D t)), some (vI k), z7, z8, z9, z10, z11, z12, z13] [vI (v : Int)] (I0, z) := by
        intro v hv
        obtain ⟨hx, hmono⟩ := monoE_step A hD' k0 k1 hv
        have hv3 : v < 3 := by omega
        have d0 := dl_bd 0 v
        have d1 := dl_bd 1 v
        have d2 := dl_bd 2 v
        have pos : 0 ≤ mEa D k - dl 0 v ∧ 0 ≤ mEb D k - dl 1 v ∧ 0 ≤ mEc D k - dl 2 v := by
          obtain ⟨s1, s2, s3, s4, s5, s6, s7⟩ := sr_ok hD' hv3 k0 k1 hx
          have y := mE_at hD' s1 s2
          omega
        have rowk := fun (z9' z10' z11' z12' z13' : Option cm_V) => kRow t k v I0 z10' z11' z12' z13' t0 (by omega) kl (by omega) hv3 hx hmono f0 o0 done (fun I1 z7 z8 z9 z10 z11 z12 z13 f1 o1 done1 => ih t (k + 1) I1 z7 z8 z9 z10 z11 z12 z13 t0 t1 (by omega) (by omega) f1 o1 done1 nxt)
        have k113 : cw (d + 2) cd_Model_laysImages Q 113 [some (vR 12 209), some (vR 20 a), some (vI g), some (vI most), some (vI t), some (vI (mMany D t)), some (vI k), some (vI (v : Int)), z8, z9, z10, z11, z12, z13] [vI (dl 1 v), vI (mEb D k), vI (mEa D k - dl 0 v), vR 12 209] (I0, z) := by
          refine mr_laysImages_113 hz ⟨⟨by omega, by omega⟩, ⟨by omega, by omega⟩, ?_⟩
          rw [f0 212 (by decide), mm3]
          refine ⟨fun q => ⟨⟨by omega, by omega⟩, ?_⟩, fun q => ⟨⟨by omega, by omega⟩, ?_⟩⟩
          · have e : (0 : Int) = dl 2 v := by unfold dl; rw [if_neg (by omega)]
            rw [e]
            refine mI_mono (s_at hz pos.1 pos.2.1 pos.2.2 (by omega)) fun v5 I4 ⟨e4, ev5⟩ => ?_
            rw [f0 209 (by decide), hDD] at ev5
            have ev5' : v5 = sr D v k := ev5
            rw [e4, ev5', ← e]
            exact rowk none _ _ _ _
          · have e : (1 : Int) = dl 2 v := by unfold dl; rw [if_pos (by omega)]
            rw [e]
            refine mI_mono (s_at hz pos.1 pos.2.1 pos.2.2 (by omega)) fun v5 I4 ⟨e4, ev5⟩ => ?_
            rw [f0 209 (by decide), hDD] at ev5
            have ev5' : v5 = sr D v k := ev5
            rw [e4, ev5']
            exact rowk none _ _ _ _
        have k94 : cw (d + 2) cd_Model_laysImages Q 94 [some (vR 12 209), some (vR 20 a), some (vI g), some (vI most), some (vI t), some (vI (mMany D t)), some (vI k), some (vI (v : Int)), z8, z9, z10, z11, z12, z13] [vI (dl 0 v), vI (mEa D k), vR 12 209] (I0, z) := by
          refine mr_laysImages_94 hz ⟨⟨by omega, by omega⟩, ⟨by omega, by omega⟩, ?_⟩
          rw [f0 211 (by decide), mm2]
          refine ⟨fun q => ?_, fun q => ?_⟩
          · have e : (0 : Int) = dl 1 v := by unfold dl; rw [if_neg (by omega)]
            rw [e]; exact k113
          · have e : (1 : Int) = dl 1 v := by unfold dl; rw [if_pos (by omega)]
            rw [e]; exact k113
        refine mr_laysImages_74 hz ⟨⟨by omega, by omega⟩, ?_⟩
        rw [f0 210 (by decide), mm1]
        refine ⟨fun q => ?_, fun q => ?_⟩
        · have e : (0 : Int) = dl 0 v := by unfold dl; rw [if_neg (by omega)]
          rw [e]; exact k94
        · have e : (1 : Int) = dl 0 v := by unfold dl; rw [if_pos (by omega)]
          rw [e]; exact k94
      exact ⟨fun q => ⟨fun q2 => go 2 (Or.inr (Or.inr ⟨rfl, q, q2, by omega⟩)), fun q2 => go 1 (Or.inr (Or.inl ⟨rfl, q, q2⟩))⟩, fun q => go 0 (Or.inl ⟨rfl, q⟩)⟩
  have k10 : ∀ (n : Nat) (t : Int) (I0 : cm_I) (z5 z6 z7 z8 z9 z10 z11 z12 z13 : Option cm_V), 1 ≤ t → t + n = most + 1 → fr [224] I I0 → okR (I0 224) → (∀ k', 0 ≤ k' → k' < mFrom D t → imD D A (I0 224) k') → cw (d + 2) cd_Model_laysImages Q 10 [some (vR 12 209), some (vR 20 a), some (vI g), some (vI most), some (vI t), z5, z6, z7, z8, z9, z10, z11, z12, z13] [] (I0, z) := by
    intro n
    induction n with
    | zero =>
      intro t I0 z5 z6 z7 z8 z9 z10 z11 z12 z13 t0 et f0 o0 done
      refine mr_laysImages_10 hz ⟨fun _ => ?_, fun q => by omega⟩
      rw [← hQ]
      exact qU_mk ⟨f0, o0, fun k q0 q1 => done k q0 (by rw [show t = most + 1 by omega]; exact q1)⟩
    | succ n ih =>
      intro t I0 z5 z6 z7 z8 z9 z10 z11 z12 z13 t0 et f0 o0 done
      obtain ⟨b1, b2, b3, b4, b5, b6⟩ := from_bds hD' (t := t) (by omega) (by omega)
      refine mr_laysImages_10 hz ⟨fun q => by omega, fun _ => mI_mono (s_many hz (by omega) (by omega)) fun v2 I1 ⟨e1, ev2⟩ => ?_⟩
      rw [e1]
      refine mI_mono (s_from hz (by omega) (by omega)) fun v4 I3 ⟨e3, ev4⟩ => ?_
      rw [e3]
      rw [f0 209 (by decide), hDD] at ev2 ev4
      rw [ev2, ev4]
      exact k32 (mMany D t).toNat t _ I0 _ _ _ _ _ _ _ t0 (by omega) (Int.le_refl _) (by omega) f0 o0 done fun I1 z5 z6 z7 z8 z9 z10 z11 z12 z13 f1 o1 d1 => ih (t + 1) I1 _ _ _ _ _ _ _ _ _ (by omega) (by omega) f1 o1 d1
  refine mr_laysImages hz fun I1 e1 => ?_
  obtain ⟨f1, g1'⟩ := fr_eq_iu e1
  refine k10 most.toNat 1 I1 _ _ _ _ _ _ _ _ _ (by omega) (by omega) f1 (by rw [g1']; exact okR_st ok4 (by omega) (by omega)) fun k q0 q1 => ?_
  have e1 : mFrom D 1 = 1 := by rcases hD' with rfl | rfl <;> decide
  have ek : k = 0 := by omega
  have m0 : mE D 0 = (0, 0, 0) := by rcases hD' with rfl | rfl <;> decide
  have dg0 : mDg D 0 = 0 := by unfold mDg mEa mEb mEc; rw [m0]; rfl
  rw [ek]
  intro i i0 i1
  rw [dg0] at i1 ⊢
  have mm : mMany D 0 = 1 := by rcases hD' with rfl | rfl <;> decide
  have mf : mFrom D 0 = 0 := by rcases hD' with rfl | rfl <;> decide
  rw [mf, show i = 0 by omega, g1']
  show _ = fi (atE D (monoE D A 0) (0 + 0))
  unfold atE monoE
  rw [show (0 : Int) + 0 = 0 by omega, m0]
  rfl
end MIM
