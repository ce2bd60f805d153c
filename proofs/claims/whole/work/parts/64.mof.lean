/-! the calls of, moved, average of the reference -/
theorem mA225 : mA 225 := ⟨by decide, by decide⟩
theorem mv_out {D : Int} (hD : D = 2 ∨ D = 3) {A : cMat} {v : Int → Int} {k : Int} (h : ¬ (0 ≤ k ∧ k < 1140)) : mv D A v k = 0 := by
  obtain ⟨a, b, c⟩ := m16_bd hD
  unfold mv
  rw [if_neg (by omega)]
theorem vOk_out {D : Int} {v : Int → Int} (h : vOk D v) {k : Int} (hk : ¬ (0 ≤ k ∧ k < 1140)) : v k = 0 := h.2.1 k (by have := mSz_bd D; omega)
def vOne1 (D : Int) (v : Int → Int) : Prop := ∀ k, 0 ≤ k → k < mFrom D (mDeg D v 0) → v k = 0
noncomputable def uq (F : Nat → Int → Int) : Nat → Nat
  | 0 => 0
  | g + 1 => uq F g + @ite Nat (∀ h, h < g → F h ≠ F g) (Classical.propDecidable _) 1 0
theorem uq_le (F : Nat → Int → Int) (g : Nat) : uq F g ≤ g := by
  induction g with
  | zero => exact Nat.le_refl 0
  | succ g ih =>
    rw [uq]
    have : @ite Nat (∀ h, h < g → F h ≠ F g) (Classical.propDecidable _) 1 0 ≤ 1 := by split <;> omega
    omega
theorem uq_new {F : Nat → Int → Int} {g : Nat} (h : ∀ h, h < g → F h ≠ F g) : uq F (g + 1) = uq F g + 1 := by rw [uq, if_pos h]
theorem uq_old {F : Nat → Int → Int} {g : Nat} (h : ¬ ∀ h, h < g → F h ≠ F g) : uq F (g + 1) = uq F g := by rw [uq, if_neg h]; rfl
def avN (D : Int) (L : Nat → cMat) (by_ : cF) (v : Int → Int) (n : Nat) (K : Int) : cF := gs n fun g => toF (mv D (L g) v K) * by_
/-- the average -/
def av (D : Int) (L : Nat → cMat) (n : Nat) (v : Int → Int) : Int → Int := fun K => if 0 ≤ K ∧ K < 1140 then fi (avN D L (fInv (toF n)) v n K) else 0
theorem vOk_av {D : Int} (hD : D = 2 ∨ D = 3) (L : Nat → cMat) (n : Nat) (v : Int → Int) : vOk D (av D L n v) := by
  have hs := mSz_bd D
  have z : ∀ K, (∀ g : Nat, mv D (L g) v K = 0) → av D L n v K = 0 := by
    intro K h
    unfold av
    split
    · unfold avN
      rw [gs_zero fun g _ => by rw [h g, toF_zero]; exact gs_z1 _]
      rfl
    · rfl
  refine ⟨fun k => ?_, fun k hk => z k fun g => (vOk_mv hD (L g) v).2.1 k hk, mDeg_le hD (by omega) fun k k0 k1 hk => ?_⟩
  · unfold av
    have := fi_bd (avN D L (fInv (toF n)) v n k)
    split <;> omega
  · rw [show (0 : Int) + k = k by omega]
    refine z k fun g => ?_
    have := mDeg_z hD (f := mv D (L g) v) (x := 0) k0 k1 (by have := (vOk_mv hD (L g) v).2.2; omega)
    rw [show (0 : Int) + k = k by omega] at this
    exact this
/-- what moving takes -/
def mvOk (I : cm_I) : Prop := mD I ∧ mMon I ∧ okR (I 216) ∧ okR (I 217) ∧ okR (I 218) ∧ okR (I 224)
theorem mvOk_fr {I I1 : cm_I} (h : mvOk I) (f : fr [216, 224] I I1) (o6 : okR (I1 216)) (o4 : okR (I1 224)) : mvOk I1 := by
  obtain ⟨a, b, c, e, g, i⟩ := h
  have e9 : I1 209 = I 209 := f 209 (by decide)
  refine ⟨by unfold mD; rw [e9]; exact a, ?_, o6, by rw [f 217 (by decide)]; exact e, by rw [f 218 (by decide)]; exact g, o4⟩
  unfold mMon at b ⊢
  rw [e9, f 210 (by decide), f 211 (by decide), f 212 (by decide)]
  exact b
section MOF
variable {d : Nat} {z : cm_Z} {I : cm_I} {K : Int → Int → Int}
theorem s_isAlone (hz : mz z) (hO : mvOk I) {a : Nat} (ha : mA a) (ha6 : a ≠ 216) (ha4 : a ≠ 224) (okA : okR (I a)) {x : Int} (x0 : 0 ≤ x) (x1 : x + 1140 ≤ mLen a) (x2 : x ≤ 1000000) {v : Int → Int} (hv : isRow (I a) x v) (vo : vOk (I 209 1) v) {nt : Nat} (hnt : I 209 9 = nt) (hn4 : nt ≤ 4) : mI (d + 5) m_Model_isAlone [vR 12 209, vR 20 a, vI x] z I fun r I1 => fr [216, 224] I I1 ∧ okR (I1 216) ∧ okR (I1 224) ∧ (r = 0 ∨ r = 1) ∧ (r = 1 ↔ isInv (I 209 1) (mTab I) nt v) := by
  have hD' : I 209 1 = 2 ∨ I 209 1 = 3 := hO.1
  obtain ⟨s1, s2, s3⟩ := m16_bd hD'
  have key : ∀ (n t : Nat) (I0 : cm_I) (z4 : Option cm_V), t + n = nt → fr [216, 224] I I0 → okR (I0 216) → okR (I0 224) → (∀ t', t' < t → mv (I 209 1) (mTab I t') v = v) → cw (d + 4) cd_Model_isAlone (qI z fun r I1 => fr [216, 224] I I1 ∧ okR (I1 216) ∧ okR (I1 224) ∧ (r = 0 ∨ r = 1) ∧ (r = 1 ↔ isInv (I 209 1) (mTab I) nt v)) 2 [some (vR 12 209), some (vR 20 a), some (vI x), some (vI (t : Int)), z4] [] (I0, z) := by
    intro n
    induction n with
    | zero =>
      intro t I0 z4 et f0 o6 o4 done
      refine mr_isAlone_2 hz ⟨fun _ => qI_mk ⟨f0, o6, o4, Or.inr rfl, ⟨fun _ t' ht' => done t' (by omega), fun _ => rfl⟩⟩, fun q => ?_⟩
      rw [f0 209 (by decide)] at q
      omega
    | succ n ih =>
      intro t I0 z4 et f0 o6 o4 done
      have hO0 := mvOk_fr hO f0 o6 o4
      have e9 : I0 209 = I 209 := f0 209 (by decide)
      have eT : mat (I0 209 1) (I0 217) (t : Int) = mTab I t := by unfold mTab; rw [e9, f0 217 (by decide)]
      have l7 : mLen 217 = 36 := rfl
      have fa : I0 a = I a := f0 a (by simp [ha6, ha4])
      refine mr_isAlone_2 hz ⟨fun q => by rw [e9] at q; omega, fun _ => mU_mono (s_moves hz hO0.1 hO0.2.1 ha mA217 mA216 ha6 ha4 (by decide) (by decide) (by decide) (by rw [fa]; exact okA) hO0.2.2.2.1 o6 o4 x0 x1 x2 (by omega) (by omega) (by omega) (show (1140 : Int) ≤ 1140 by omega) (v := v) (by rw [fa]; exact hv) (by rw [e9]; exact vo)) fun I1 ⟨f1, o14, o16, row⟩ => ?_⟩
      rw [eT, e9] at row
      have fA : fr [216, 224] I I1 := fr_trans f0 (fr_mono f1 (by decide))
      have e91 : I1 209 = I 209 := fA 209 (by decide)
      have fa1 : I1 a = I a := fA a (by simp [ha6, ha4])
      have k28 : ∀ (m : Nat) (k : Int), 0 ≤ k → k + m = mFrom (I 209 1) 16 → (∀ j, 0 ≤ j → j < k → mv (I 209 1) (mTab I t) v j = v j) → cw (d + 4) cd_Model_isAlone (qI z fun r I1 => fr [216, 224] I I1 ∧ okR (I1 216) ∧ okR (I1 224) ∧ (r = 0 ∨ r = 1) ∧ (r = 1 ↔ isInv (I 209 1) (mTab I) nt v)) 28 [some (vR 12 209), some (vR 20 a), some (vI x), some (vI (t : Int)), some (vI k)] [] (I1, z) := by
        intro m
        induction m with
        | zero =>
          intro k k0 ek same
          refine mr_isAlone_28 hz ha (mI_mono (s_all hz) fun v2 I2 ⟨e2, ev⟩ => ?_)
          rw [e2]
          rw [e91] at ev
          refine ⟨fun _ => ⟨⟨by omega, by omega⟩, ?_⟩, fun q => by omega⟩
          have := ih (t + 1) I1 (some (vI k)) (by omega) fA o16 o14 fun t' ht' => by
            by_cases e : t' = t
            · rw [e]
              funext j
              by_cases q : 0 ≤ j ∧ j < mFrom (I 209 1) 16
              · exact same j q.1 (by omega)
              · rw [vOk_16 hD' (vOk_mv hD' _ _) q, vOk_16 hD' vo q]
            · exact done t' (by omega)
          rw [show ((t + 1 : Nat) : Int) = (t : Int) + 1 by omega] at this
          exact this
        | succ m ihm =>
          intro k k0 ek same
          refine mr_isAlone_28 hz ha (mI_mono (s_all hz) fun v2 I2 ⟨e2, ev⟩ => ?_)
          rw [e2]
          rw [e91] at ev
          refine ⟨fun q => by omega, fun _ => ⟨⟨by omega, by omega⟩, ⟨by omega, by omega⟩, ⟨by omega, by omega⟩, ?_⟩⟩
          have r1 := row k k0 (by omega)
          rw [show (0 : Int) + k = k by omega] at r1
          rw [r1, fa1, hv k k0 (by omega)]
          refine ⟨fun q => ⟨⟨by omega, by omega⟩, ihm (k + 1) (by omega) (by omega) fun j j0 j1 => ?_⟩, fun q => qI_mk ⟨fA, o16, o14, Or.inl rfl, ⟨fun y => absurd y (by decide), fun y => absurd (congrFun (y t (by omega)) k) q⟩⟩⟩
          by_cases e : j = k
          · rw [e]; exact q
          · exact same j j0 (by omega)
      exact k28 (mFrom (I 209 1) 16).toNat 0 (by omega) (by omega) fun j j0 j1 => by omega
  exact mr_isAlone hz (key nt 0 I _ (by omega) (fr_refl _ _) hO.2.2.1 hO.2.2.2.2.2 fun t' ht' => by omega)
theorem s_isOfOne (hz : mz z) (hD : mD I) (hm : mMon I) {a : Nat} (ha : mA a) {x : Int} (x0 : 0 ≤ x) (x1 : x + 1140 ≤ mLen a) (x2 : x ≤ 1000000) {v : Int → Int} (hv : isRow (I a) x v) : mI (d + 3) m_Model_isOfOne [vR 12 209, vR 20 a, vI x] z I fun r I1 => I1 = I ∧ (r = 0 ∨ r = 1) ∧ (r = 1 ↔ vOne1 (I 209 1) v) := by
  have hD' : I 209 1 = 2 ∨ I 209 1 = 3 := hD
  have db := mDeg_bd hD v 0
  refine mr_isOfOne hz (mI_mono (s_degree hz hD hm ha x0 x1 x2) fun v2 I1 ⟨e1, ev⟩ => ?_)
  rw [e1]
  rw [isRow_deg hv] at ev
  rw [ev]
  have mono := mFrom_mono (I 209 1) (s := mDeg (I 209 1) v 0) (t := 18) (by omega) (by omega)
  rw [mFrom18] at mono
  have hs := mSz_bd (I 209 1)
  have key : ∀ (n : Nat) (k b : Int), 0 ≤ k → k + n = mFrom (I 209 1) (mDeg (I 209 1) v 0) → (b = 0 ∨ b = 1) → (b = 1 ↔ ∀ j, 0 ≤ j → j < k → v j = 0) → cw (d + 2) cd_Model_isOfOne (qI z fun r I1 => I1 = I ∧ (r = 0 ∨ r = 1) ∧ (r = 1 ↔ vOne1 (I 209 1) v)) 13 [some (vR 12 209), some (vR 20 a), some (vI x), some (vI (mDeg (I 209 1) v 0)), some (vI b), some (vI k)] [] (I, z) := by
    intro n
    induction n with
    | zero =>
      intro k b k0 ek hb iff
      refine mr_isOfOne_13 hz ha (mI_mono (s_from hz (by omega) (by omega)) fun v2 I2 ⟨e2, ev2⟩ => ?_)
      rw [e2]
      refine ⟨fun _ => ⟨hb, qI_mk ⟨rfl, hb, ?_⟩⟩, fun q => by omega⟩
      rw [iff]
      unfold vOne1
      rw [show k = mFrom (I 209 1) (mDeg (I 209 1) v 0) by omega]
    | succ n ih =>
      intro k b k0 ek hb iff
      refine mr_isOfOne_13 hz ha (mI_mono (s_from hz (by omega) (by omega)) fun v2 I2 ⟨e2, ev2⟩ => ?_)
      rw [e2]
      refine ⟨fun q => by omega, fun _ => ⟨fun q => ⟨⟨by omega, by omega⟩, ih (k + 1) 0 (by omega) (by omega) (by omega) ⟨fun y => absurd y (by decide), fun y => ?_⟩⟩, fun q => ⟨⟨by omega, by omega⟩, ⟨by omega, by omega⟩, ?_⟩⟩⟩
      · have := iff.mpr fun j j0 j1 => y j j0 (by omega)
        omega
      · rw [hv k k0 (by omega)]
        have b1 := iff.mp (by omega)
        refine ⟨fun q2 => ⟨⟨by omega, by omega⟩, ih (k + 1) 0 (by omega) (by omega) (by omega) ⟨fun y => absurd y (by decide), fun y => absurd (y k k0 (by omega)) q2⟩⟩, fun q2 => ⟨⟨by omega, by omega⟩, ih (k + 1) 1 (by omega) (by omega) (by omega) ⟨fun _ j j0 j1 => ?_, fun _ => rfl⟩⟩⟩
        by_cases e : j = k
        · rw [e]; exact q2
        · exact b1 j j0 (by omega)
  have m0 := mFrom_bd (I 209 1) (t := mDeg (I 209 1) v 0) (by omega) (by omega)
  exact key (mFrom (I 209 1) (mDeg (I 209 1) v 0)).toNat 0 1 (by omega) (by omega) (by omega) ⟨fun _ j j0 j1 => by omega, fun _ => rfl⟩
theorem s_moved (hz : mz z) (hO : mvOk I) (hK : kOk I K) {n : Nat} {L : Nat → cMat} (G : mGs n L I) (k g to : Int) : mI (d + 5) m_Model_moved [vR 12 209, vI k, vI g, vI to] z I fun r I1 => fr [209, 213, 216, 224] I I1 ∧ I1 209 = st1 (I 209) 0 0 ∧ okR (I1 216) ∧ okR (I1 224) ∧ ((((kFit k ∧ (0 ≤ g ∧ g < n)) ∧ kFit to) ∧ kOk I1 (kSet K to (mv (I 209 1) (L g.toNat) (K k))) ∧ r = vTerms (mv (I 209 1) (L g.toNat) (K k))) ∨ (¬ ((kFit k ∧ (0 ≤ g ∧ g < n)) ∧ kFit to) ∧ I1 213 = I 213 ∧ r = -1)) := by
  have hD' : I 209 1 = 2 ∨ I 209 1 = 3 := hO.1
  generalize hX : (fun (r : Int) (I1 : cm_I) => fr [209, 213, 216, 224] I I1 ∧ I1 209 = st1 (I 209) 0 0 ∧ okR (I1 216) ∧ okR (I1 224) ∧ ((((kFit k ∧ (0 ≤ g ∧ g < n)) ∧ kFit to) ∧ kOk I1 (kSet K to (mv (I 209 1) (L g.toNat) (K k))) ∧ r = vTerms (mv (I 209 1) (L g.toNat) (K k))) ∨ (¬ ((kFit k ∧ (0 ≤ g ∧ g < n)) ∧ kFit to) ∧ I1 213 = I 213 ∧ r = -1))) = X
  refine mr_moved hz fun I1 e1 => ?_
  obtain ⟨f1, g1⟩ := fr_eq_iu e1
  have h1 : I1 209 1 = I 209 1 := by rw [g1]; rfl
  have no : ¬ ((kFit k ∧ (0 ≤ g ∧ g < n)) ∧ kFit to) → qI z X (some (vI (-1))) (I1, z) := fun hn => qI_mk (by rw [← hX]; exact ⟨fr_mono f1 (by decide), g1, by rw [f1 216 (by decide)]; exact hO.2.2.1, by rw [f1 224 (by decide)]; exact hO.2.2.2.2.2, Or.inr ⟨hn, f1 213 (by decide), rfl⟩⟩)
  refine mI_mono (s_isKept hz k) fun v3 I2 ⟨e2, ev3⟩ => ?_
  rw [e2]
  have G1 : mGs n L I1 := by rw [e1]; exact mGs_thr G
  refine ⟨fun q => no fun x => by rw [if_pos x.1.1] at ev3; omega, fun q3 => mI_mono (s_isMember hz G1 g) fun v5 I4 ⟨e4, ev5⟩ => ?_⟩
  rw [e4]
  refine ⟨fun q => no fun x => by rw [if_pos x.1.2] at ev5; omega, fun q5 => mI_mono (s_isKept hz to) fun v7 I6 ⟨e6, ev7⟩ => ?_⟩
  rw [e6]
  refine ⟨fun q7 => ?_, fun q => no fun x => by rw [if_pos x.2] at ev7; omega⟩
  have ck : 0 ≤ k ∧ k ≤ 5 := Classical.byContradiction fun x => q3 (by rw [ev3, if_neg x])
  have cg : 0 ≤ g ∧ g < n := Classical.byContradiction fun x => q5 (by rw [ev5, if_neg x])
  have ct : 0 ≤ to ∧ to ≤ 5 := Classical.byContradiction fun x => q7 (by rw [ev7, if_neg x])
  have n48 := G.2.2.1
  have e13 : I1 213 = I 213 := f1 213 (by decide)
  have l13 : mLen 213 = 6840 := rfl
  have l18 : mLen 218 = 441 := rfl
  have hD1 : mD I1 := by unfold mD; rw [h1]; exact hO.1
  have hm1 : mMon I1 := by
    have hm := hO.2.1
    unfold mMon at hm ⊢
    rw [h1, f1 210 (by decide), f1 211 (by decide), f1 212 (by decide)]
    exact hm
  obtain ⟨rk, vk⟩ := hK.2 k ck.1 ck.2
  refine ⟨⟨by omega, by omega⟩, mU_mono (s_moves hz hD1 hm1 mA213 mA218 mA216 (by decide) (by decide) (by decide) (by decide) (by decide) (by rw [e13]; exact hK.1) (by rw [f1 218 (by decide)]; exact hO.2.2.2.2.1) (by rw [f1 216 (by decide)]; exact hO.2.2.1) (by rw [f1 224 (by decide)]; exact hO.2.2.2.2.2) (by omega) (by omega) (by omega) cg.1 (by omega) (by omega) (show (1140 : Int) ≤ 1140 by omega) (v := K k) (by rw [e13]; exact rk) (by rw [h1]; exact vk)) fun I9 ⟨f9, o4, o6, row⟩ => ⟨⟨by omega, by omega⟩, ?_⟩⟩
  have eA : mat (I1 209 1) (I1 218) g = L g.toNat := by
    rw [← G1.2.2.2.1 g.toNat (by omega)]
    unfold mMem
    rw [show ((g.toNat : Nat) : Int) = g by omega]
  rw [eA, h1] at row
  refine mU_mono (s_copies hz mA216 mA213 (by omega) (by omega) (by omega) (by omega) (show _ ≤ (1140 : Int) by omega) (by omega) (by decide)) fun I11 e11 => ?_
  obtain ⟨f11, g11⟩ := fr_eq_iw e11
  have w9 : I11 209 = st1 (I 209) 0 0 := by rw [f11 209 (by decide), f9 209 (by decide), g1]; rfl
  have kk : kOk I11 (kSet K to (mv (I 209 1) (L g.toNat) (K k))) := kOk_put hK ct.1 ct.2 (by rw [g11, f9 213 (by decide), e13]) row (vOk_mv hD' _ _) (by rw [w9]; rfl)
  refine mI_mono (s_terms hz (by omega) (by omega)) fun r I12 ⟨e12, er⟩ => qI_mk ?_
  have hrow := (kk.2 to ct.1 ct.2).1
  rw [kSet_at] at hrow
  rw [e12, er, isRow_terms hrow, ← hX]
  exact ⟨fr_trans (fr_mono f1 (by decide)) (fr_trans (fr_mono f9 (by decide)) (fr_mono f11 (by decide))), w9, by rw [f11 216 (by decide)]; exact o6, by rw [f11 224 (by decide)]; exact o4, Or.inl ⟨⟨⟨ck, cg⟩, ct⟩, kk, rfl⟩⟩
end MOF
