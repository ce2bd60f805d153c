/-! The calls group, member, times, about of the reference -/
def mGt (n : Nat) (L : Nat → cMat) (I I1 : cm_I) : Prop := mGq n L (iu I 209 0 0) I1
theorem mGs_thr {n : Nat} {L : Nat → cMat} {I : cm_I} (h : mGs n L I) : mGs n L (iu I 209 0 0) := by
  obtain ⟨hD, g1, g2, g3, g4, g5⟩ := h
  have e1 : iu I 209 0 0 209 1 = I 209 1 := by rw [iu_at]; rfl
  have e11 : iu I 209 0 0 209 11 = I 209 11 := by rw [iu_at]; rfl
  have e8 : iu I 209 0 0 218 = I 218 := iu_ne _ _ _ (by decide)
  refine ⟨by unfold mD; rw [e1]; exact hD, by rw [e11]; exact g1, g2, ?_, by rw [e8]; exact g4, g5⟩
  intro k hk
  unfold mMem
  rw [e1, e8]
  exact g3 k hk
def aGroup (D nt n : Nat) (L : Nat → cMat) (what : Int) : Int :=
  if what = 0 then n else if what = 1 then D else if what = 2 then nt else if what = 3 then gLots (gm n L) n n else if what = 4 then glcm (gm n L) n n else if what = 5 then (if gEither (gm n L) n = true then 1 else 0) else -1
def aMember (D n : Nat) (L : Nat → cMat) (g i j : Int) : Int :=
  if 0 ≤ g ∧ g < n then (if 0 ≤ i ∧ i ≤ D - 1 then (if 0 ≤ j ∧ j ≤ D - 1 then fi (L g.toNat i.toNat j.toNat) else -1) else -1) else -1
def aTimes (n : Nat) (L : Nat → cMat) (g h : Int) : Int :=
  if 0 ≤ g ∧ g < n then (if 0 ≤ h ∧ h < n then gm n L g.toNat h.toNat else -1) else -1
def mTr (D : Nat) (A : cMat) : cF := fs D fun i => A i i
def aAbout (D n : Nat) (L : Nat → cMat) (g what : Int) : Int :=
  if 0 ≤ g ∧ g < n then (if what = 0 then giv (gm n L) n g.toNat else if what = 1 then gord (gm n L) n g.toNat else if what = 2 then fi (mDet (L g.toNat)) else if what = 3 then fi (mTr D (L g.toNat)) else -1) else -1
theorem mGs_ent {n : Nat} {L : Nat → cMat} {I : cm_I} (G : mGs n L I) {g i j : Nat} (hg : g < n) (hi : (i : Int) < I 209 1) (hj : (j : Int) < I 209 1) : I 218 (9 * g + 3 * i + j) = fi (L g i j) := by
  rw [← G.2.2.2.1 g hg]
  unfold mMem mat
  rw [if_pos ⟨hi, hj⟩, fi_toF]
  have := G.2.2.2.2.1 (9 * g + 3 * i + j)
  omega
section MGC
variable {d : Nat} {z : cm_Z} {I : cm_I} {n D nt : Nat} {L : Nat → cMat}
theorem s_group (hz : mz z) (G : mGs n L I) (hD : I 209 1 = D) (hnt : I 209 9 = nt) (what : Int) : mI (d + 7) m_Model_group [vR 12 209, vI what] z I fun r I1 => mGt n L I I1 ∧ r = aGroup D nt n L what := by
  refine mr_group hz fun I1 e1 => ?_
  have G1 : mGs n L I1 := by rw [e1]; exact mGs_thr G
  have q0 : mGt n L I I1 := by unfold mGt; rw [← e1]; exact mGq_refl G1
  have tr : ∀ I2, mGq n L I1 I2 → mGt n L I I2 := fun I2 q => mGq_trans q0 q
  have e11 : I1 209 11 = n := G1.2.1
  have e01 : I1 209 1 = D := by rw [e1, iu_at, ← hD]; rfl
  have e09 : I1 209 9 = nt := by rw [e1, iu_at, ← hnt]; rfl
  unfold aGroup
  refine ⟨fun h => qI_mk ⟨q0, by rw [if_pos h]; exact e11⟩, fun h0 => ⟨fun h => qI_mk ⟨q0, by rw [if_neg h0, if_pos h]; exact e01⟩, fun h1 => ⟨fun h => qI_mk ⟨q0, by rw [if_neg h0, if_neg h1, if_pos h]; exact e09⟩, fun h2 => ⟨fun h => mI_mono (s_classes hz G1) fun v I2 ⟨q, ev⟩ => qI_mk ⟨tr I2 q, by rw [if_neg h0, if_neg h1, if_neg h2, if_pos h]; exact ev⟩, fun h3 => ⟨fun h => mI_mono (s_power hz G1) fun v I2 ⟨q, ev⟩ => qI_mk ⟨tr I2 q, by rw [if_neg h0, if_neg h1, if_neg h2, if_neg h3, if_pos h]; exact ev⟩, fun h4 => ⟨fun h => mI_mono (s_commutes hz G1) fun v I2 ⟨q, ev⟩ => qI_mk ⟨tr I2 q, by rw [if_neg h0, if_neg h1, if_neg h2, if_neg h3, if_neg h4, if_pos h]; exact ev⟩, fun h5 => qI_mk ⟨q0, by rw [if_neg h0, if_neg h1, if_neg h2, if_neg h3, if_neg h4, if_neg h5]⟩⟩⟩⟩⟩⟩⟩
theorem s_member (hz : mz z) (G : mGs n L I) (hD : I 209 1 = D) (g i j : Int) : mI (d + 3) m_Model_member [vR 12 209, vI g, vI i, vI j] z I fun r I1 => mGt n L I I1 ∧ r = aMember D n L g i j := by
  refine mr_member hz fun I1 e1 => ?_
  have G1 : mGs n L I1 := by rw [e1]; exact mGs_thr G
  have q0 : mGt n L I I1 := by unfold mGt; rw [← e1]; exact mGq_refl G1
  have e01 : I1 209 1 = D := by rw [e1, iu_at, ← hD]; rfl
  have hDD : I1 209 1 = 2 ∨ I1 209 1 = 3 := G1.1
  have h48 := G1.2.2.1
  unfold aMember
  refine mI_mono (s_isMember hz G1 g) fun v3 I2 ⟨e2, ev3⟩ => ?_
  rw [e2]
  by_cases h : 0 ≤ g ∧ g < n
  · rw [if_pos h] at ev3
    rw [if_pos h]
    refine ⟨fun q => by omega, fun _ => ⟨⟨by omega, by omega⟩, mI_mono (s_within hz i 0 (I1 209 1 - 1)) fun v6 I5 ⟨e5, ev6⟩ => ?_⟩⟩
    rw [e5]
    rw [e01] at ev6
    by_cases hi : 0 ≤ i ∧ i ≤ (D : Int) - 1
    · rw [if_pos hi] at ev6
      rw [if_pos hi]
      refine ⟨fun q => by omega, fun _ => ⟨⟨by omega, by omega⟩, mI_mono (s_within hz j 0 (I1 209 1 - 1)) fun v9 I8 ⟨e8, ev9⟩ => ?_⟩⟩
      rw [e8]
      rw [e01] at ev9
      by_cases hj : 0 ≤ j ∧ j ≤ (D : Int) - 1
      · rw [if_pos hj] at ev9
        rw [if_pos hj]
        refine ⟨fun q => by omega, fun _ => mI_mono (s_entry hz mA218 h.1 (by omega) hi.1 (by omega) hj.1 (by omega) (show _ ≤ (441 : Int) by omega)) fun v11 I10 ⟨e10, ev11⟩ => qI_mk ⟨by rw [e10]; exact q0, ?_⟩⟩
        have := mGs_ent G1 (g := g.toNat) (i := i.toNat) (j := j.toNat) (by omega) (by omega) (by omega)
        rw [show ((g.toNat : Nat) : Int) = g by omega, show ((i.toNat : Nat) : Int) = i by omega, show ((j.toNat : Nat) : Int) = j by omega] at this
        rw [ev11, this]
      · rw [if_neg hj] at ev9
        rw [if_neg hj]
        exact ⟨fun q => qI_mk ⟨q0, rfl⟩, fun q => absurd ev9 q⟩
    · rw [if_neg hi] at ev6
      rw [if_neg hi]
      exact ⟨fun q => qI_mk ⟨q0, rfl⟩, fun q => absurd ev6 q⟩
  · rw [if_neg h] at ev3
    rw [if_neg h]
    exact ⟨fun q => qI_mk ⟨q0, rfl⟩, fun q => absurd ev3 q⟩
theorem s_times_ (hz : mz z) (G : mGs n L I) (g h : Int) : mI (d + 5) m_Model_times_ [vR 12 209, vI g, vI h] z I fun r I1 => mGt n L I I1 ∧ r = aTimes n L g h := by
  refine mr_times_ hz fun I1 e1 => ?_
  have G1 : mGs n L I1 := by rw [e1]; exact mGs_thr G
  have q0 : mGt n L I I1 := by unfold mGt; rw [← e1]; exact mGq_refl G1
  unfold aTimes
  refine mI_mono (s_isMember hz G1 g) fun v3 I2 ⟨e2, ev3⟩ => ?_
  rw [e2]
  by_cases hg : 0 ≤ g ∧ g < n
  · rw [if_pos hg] at ev3
    rw [if_pos hg]
    refine ⟨fun q => by omega, fun _ => mI_mono (s_isMember hz G1 h) fun v5 I4 ⟨e4, ev5⟩ => ?_⟩
    rw [e4]
    by_cases hh : 0 ≤ h ∧ h < n
    · rw [if_pos hh] at ev5
      rw [if_pos hh]
      refine ⟨fun q => by omega, fun _ => ?_⟩
      have := s_product (d := d) hz G1 (a := g.toNat) (b := h.toNat) (by omega) (by omega)
      rw [show ((g.toNat : Nat) : Int) = g by omega, show ((h.toNat : Nat) : Int) = h by omega] at this
      exact mI_mono this fun v I5 ⟨q, ev⟩ => qI_mk ⟨mGq_trans q0 q, ev⟩
    · rw [if_neg hh] at ev5
      rw [if_neg hh]
      exact ⟨fun q => qI_mk ⟨q0, rfl⟩, fun q => absurd ev5 q⟩
  · rw [if_neg hg] at ev3
    rw [if_neg hg]
    exact ⟨fun q => qI_mk ⟨q0, rfl⟩, fun q => absurd ev3 q⟩
theorem s_about (hz : mz z) (G : mGs n L I) (hD : I 209 1 = D) (g what : Int) : mI (d + 6) m_Model_about [vR 12 209, vI g, vI what] z I fun r I1 => mGt n L I I1 ∧ r = aAbout D n L g what := by
  refine mr_about hz fun I1 e1 => ?_
  have G1 : mGs n L I1 := by rw [e1]; exact mGs_thr G
  have q0 : mGt n L I I1 := by unfold mGt; rw [← e1]; exact mGq_refl G1
  have e01 : I1 209 1 = D := by rw [e1, iu_at, ← hD]; rfl
  have hDD : I1 209 1 = 2 ∨ I1 209 1 = 3 := G1.1
  have h48 := G1.2.2.1
  unfold aAbout
  refine mI_mono (s_isMember hz G1 g) fun v3 I2 ⟨e2, ev3⟩ => ?_
  rw [e2]
  by_cases hg : 0 ≤ g ∧ g < n
  · rw [if_pos hg] at ev3
    rw [if_pos hg]
    refine ⟨fun _ => ?_, fun q => by omega⟩
    obtain ⟨k, rfl⟩ := Int.eq_ofNat_of_zero_le hg.1
    have hk : k < n := by omega
    rw [Int.toNat_natCast]
    have key : ∀ (m i : Nat), i + m = D → cw (d + 5) cd_Model_about (qI z fun r I1 => mGt n L I I1 ∧ r = if what = 0 then (giv (gm n L) n k : Int) else if what = 1 then (gord (gm n L) n k : Int) else if what = 2 then fi (mDet (L k)) else if what = 3 then fi (mTr D (L k)) else -1) 20 [some (vR 12 209), some (vI k), some (vI what), some (vI (sg i fun i => fi (L k i i))), some (vI (i : Int))] [] (I1, z) := by
      intro m
      induction m with
      | zero =>
        intro i e
        have hs : 0 ≤ sg i (fun i => fi (L k i i)) := sg_nonneg fun t _ => (fi_bd _).1
        refine mr_about_20 hz ⟨fun q => ⟨fun h0 => mI_mono (s_inverseOf hz G1 hk) fun v I3 ⟨q, ev⟩ => qI_mk ⟨mGq_trans q0 q, by rw [if_pos h0]; exact ev⟩, fun h0 => ⟨fun h1 => mI_mono (s_orderOf hz G1 hk) fun v I3 ⟨q, ev⟩ => qI_mk ⟨mGq_trans q0 q, by rw [if_neg h0, if_pos h1]; exact ev⟩, fun h1 => ⟨fun h2 => mI_mono (s_determinant hz G1.1 mA218 (by omega) (by omega) (show _ ≤ (441 : Int) by omega) G1.2.2.2.2.1) fun v I3 ⟨e3, ev⟩ => qI_mk ⟨by rw [e3]; exact q0, ?_⟩, fun h2 => ⟨fun h3 => qI_mk ⟨q0, ?_⟩, fun h3 => qI_mk ⟨q0, ?_⟩⟩⟩⟩⟩, fun q => by omega⟩
        · rw [if_neg h0, if_neg h1, if_pos h2, ev, ← G1.2.2.2.1 k hk]
          rfl
        · rw [if_neg h0, if_neg h1, if_neg h2, if_pos h3, tmod_pos hs, ← fi_toF, toF_sg, show i = D by omega]
          congr 1
          unfold mTr
          congr 1
          funext t
          exact toF_fi _
        · rw [if_neg h0, if_neg h1, if_neg h2, if_neg h3]
      | succ m ih =>
        intro i e
        have hs : 0 ≤ sg i (fun i => fi (L k i i)) := sg_nonneg fun t _ => (fi_bd _).1
        have hs2 := sg_le (n := i) (f := fun i => fi (L k i i)) (B := 2520) (fun t _ => by have := (fi_bd (L k t t)).2; omega)
        have hb := fi_bd (L k i i)
        refine mr_about_20 hz ⟨fun q => by omega, fun q => mI_mono (s_entry hz mA218 (by omega) (by omega) (by omega) (by omega) (by omega) (by omega) (show _ ≤ (441 : Int) by omega)) fun v8 I7 ⟨e7, ev8⟩ => ?_⟩
        rw [e7]
        rw [mGs_ent G1 hk (by omega) (by omega)] at ev8
        rw [ev8]
        refine ⟨⟨by omega, by omega⟩, ⟨by omega, by omega⟩, ?_⟩
        have := ih (i + 1) (by omega)
        rw [sg_succ] at this
        exact this
    exact key D 0 (by omega)
  · rw [if_neg hg] at ev3
    rw [if_neg hg]
    exact ⟨fun q => absurd ev3 q, fun q => qI_mk ⟨q0, rfl⟩⟩
end MGC
