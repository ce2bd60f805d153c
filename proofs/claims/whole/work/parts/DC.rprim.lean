/-! the calls about primary and secondary ones, once more: what was found stays found -/
def pcFrX (I I1 : cm_I) : Prop := pcFr I I1 ∧ (I 209 41 = 1 → I1 209 41 = 1)
section RPR
variable {d : Nat} {z : cm_Z} {T : Nat → cMat} {nt n : Nat} {L : Nat → cMat} {I : cm_I}
/-- laysPrimary behind the word thrown -/
theorem thr_primaryX (hz : mz z) (h : pmIn T nt n L I) {J : cm_I} (e : J = iu I 209 0 0) {P : cm_I → Prop} (k : ∀ I1, pcFrX I I1 → pmIn T nt n L I1 → I1 209 1 = I 209 1 → I1 209 41 = 1 → pmSt T nt n I1 → P I1) : mU (d + 9) m_Model_laysPrimary [vR 12 209] z J P := by
  obtain ⟨hJ, fJ⟩ := pmIn_thr h e
  refine mU_mono (s_laysPrimary hz hJ) fun I1 h1 => ?_
  obtain ⟨f1, p1, x1, st⟩ := h1
  have D1 : I1 209 1 = I 209 1 := by rw [f1.2 1 (by decide) (by decide) (by decide) (by decide) (by decide) (by decide) (by decide), fJ.2.1 1 (by decide) (by decide) (by decide) (by decide) (by decide) (by decide) (by decide) (by decide)]
  exact k I1 ⟨pcFr_pm fJ f1, fun _ => x1⟩ p1 D1 x1 st
theorem s_primaryX (hz : mz z) (h : pmIn T nt n L I) (k what : Int) : mI (d + 10) m_Model_primary [vR 12 209, vI k, vI what] z I fun r I1 => pcFrX I I1 ∧ pmIn T nt n L I1 ∧ r = aPrimary (I 209 1) T nt n k what := by
  have hD := h.1.1
  have hD' : I 209 1 = 2 ∨ I 209 1 = 3 := hD
  refine mr_primary hz fun J eJ => ?_
  obtain ⟨hJ, fJ⟩ := pmIn_thr h eJ
  have DJ : J 209 1 = I 209 1 := fJ.2.1 1 (by decide) (by decide) (by decide) (by decide) (by decide) (by decide) (by decide) (by decide)
  rw [DJ]
  have no : ¬ ((0 ≤ k ∧ k < I 209 1) ∧ (0 ≤ what ∧ what ≤ 1)) → aPrimary (I 209 1) T nt n k what = -1 := fun q => by
    unfold aPrimary
    cases pmRes (I 209 1) T nt n with
    | none => rfl
    | some q' => exact if_neg q
  refine ⟨⟨by omega, by omega⟩, mI_mono (s_within (d := d + 8) hz k 0 (I 209 1 - 1)) fun v4 I3 ⟨e3, w4⟩ => ?_⟩
  subst e3
  refine ⟨fun v0 => qI_mk ⟨⟨fJ, fun x => by rw [eJ]; exact x⟩, hJ, ?_⟩, fun v0 => mI_mono (s_within (d := d + 8) hz what 0 1) fun v6 I5 ⟨e5, w6⟩ => ?_⟩
  · rw [no]
    intro q
    rw [w4, if_pos (by omega)] at v0
    exact absurd v0 (by decide)
  · subst e5
    have kk : 0 ≤ k ∧ k < I 209 1 := by
      apply Classical.byContradiction
      intro q
      rw [w4, if_neg (by omega)] at v0
      exact v0 rfl
    refine ⟨fun v6' => thr_primaryX hz h eJ fun I7 f7 p7 D7 x7 st => ?_, fun v6' => qI_mk ⟨⟨fJ, fun x => by rw [eJ]; exact x⟩, hJ, ?_⟩⟩
    · have ww : 0 ≤ what ∧ what ≤ 1 := by
        apply Classical.byContradiction
        intro q
        rw [w6, if_neg (by omega)] at v6'
        exact v6' rfl
      unfold pmSt at st
      rw [D7] at st
      have ans : ∀ q', pmRes (I 209 1) T nt n = some q' → aPrimary (I 209 1) T nt n k what = if what = 0 then (cnd (I 209 1) T nt (sel3n q'.1 q'.2.1 q'.2.2 k.toNat)).1 else ((cnd (I 209 1) T nt (sel3n q'.1 q'.2.1 q'.2.2 k.toNat)).2 : Int) := fun q' e => by
        unfold aPrimary
        rw [e]
        exact if_pos ⟨kk, ww⟩
      refine ⟨fun x42 => ?_, fun x42 => qI_mk ⟨f7, p7, ?_⟩⟩
      · rcases st with ⟨-, x⟩ | ⟨q', eq, sy, x, pr, ro, -, -⟩
        · exact absurd x x42
        · have pk := (pr.2 k.toNat (by omega)).1
          have rk := ro k.toNat (by omega)
          rw [pmD_at (by omega)] at pk
          rw [show ((k.toNat : Nat) : Int) = k by omega] at pk rk
          refine ⟨fun w => ⟨⟨by omega, by omega⟩, qI_mk ⟨f7, p7, ?_⟩⟩, fun w => ⟨⟨by omega, by omega⟩, qI_mk ⟨f7, p7, ?_⟩⟩⟩
          · rw [ans q' eq, if_neg w, rk]
          · rw [ans q' eq, if_pos w, pk]
      · rcases st with ⟨en, -⟩ | ⟨q', eq, sy, x, -⟩
        · unfold aPrimary; rw [en]
        · rw [x42] at x; exact absurd x (by decide)
    · rw [no]
      intro q
      rw [w6, if_pos (by omega)] at v6'
      exact absurd v6' (by decide)
theorem s_secondariesX (hz : mz z) (h : pmIn T nt n L I) : mI (d + 10) m_Model_secondaries [vR 12 209] z I fun r I1 => pcFrX I I1 ∧ pmIn T nt n L I1 ∧ r = aSecondaries (I 209 1) T nt n := by
  refine mr_secondaries hz fun J eJ => thr_primaryX hz h eJ fun I7 f7 p7 D7 x7 st => ?_
  unfold pmSt at st
  rw [D7] at st
  refine ⟨fun x42 => qI_mk ⟨f7, p7, ?_⟩, fun x42 => qI_mk ⟨f7, p7, ?_⟩⟩
  · rcases st with ⟨en, -⟩ | ⟨q', eq, sy, x, -⟩
    · unfold aSecondaries; rw [en]
    · rw [x42] at x; exact absurd x (by decide)
  · rcases st with ⟨-, x⟩ | ⟨q', eq, sy, x, pr, ro, -, se⟩
    · exact absurd x x42
    · unfold aSecondaries
      rw [eq]
      exact se.1
theorem s_secondaryX (hz : mz z) (h : pmIn T nt n L I) (k what : Int) : mI (d + 10) m_Model_secondary [vR 12 209, vI k, vI what] z I fun r I1 => pcFrX I I1 ∧ pmIn T nt n L I1 ∧ r = aSecondary (I 209 1) T nt n k what := by
  refine mr_secondary hz fun J eJ => thr_primaryX hz h eJ fun I7 f7 p7 D7 x7 st => ?_
  unfold pmSt at st
  rw [D7] at st
  refine ⟨fun x42 => qI_mk ⟨f7, p7, ?_⟩, fun x42 => ?_⟩
  · rcases st with ⟨en, -⟩ | ⟨q', eq, sy, x, -⟩
    · unfold aSecondary; rw [en]
    · rw [x42] at x; exact absurd x (by decide)
  · rcases st with ⟨-, x⟩ | ⟨q', eq, sy, x, pr, ro, -, se⟩
    · exact absurd x x42
    · have l216 := (pmL_216 hz h sy).2
      have e50 : I7 209 50 = ((pmL (I 209 1) T nt q').length : Int) := se.1
      have ans : aSecondary (I 209 1) T nt n k what = if (0 ≤ k ∧ k < ((pmL (I 209 1) T nt q').length : Int)) ∧ (0 ≤ what ∧ what ≤ 1) then (if what = 0 then (sx_x (pmL (I 209 1) T nt q') k.toNat).1 else ((sx_x (pmL (I 209 1) T nt q') k.toNat).2 : Int)) else -1 := by
        unfold aSecondary
        rw [eq]
      rw [e50]
      refine ⟨⟨by omega, by omega⟩, mI_mono (s_within (d := d + 8) hz k 0 _) fun v5 I4 ⟨e4, w5⟩ => ?_⟩
      subst e4
      refine ⟨fun v0 => qI_mk ⟨f7, p7, ?_⟩, fun v0 => mI_mono (s_within (d := d + 8) hz what 0 1) fun v7 I6 ⟨e6, w7⟩ => ?_⟩
      · rw [ans, if_neg]
        intro q
        rw [w5, if_pos (by omega)] at v0
        exact absurd v0 (by decide)
      · subst e6
        have kk : 0 ≤ k ∧ k < ((pmL (I 209 1) T nt q').length : Int) := by
          apply Classical.byContradiction
          intro q
          rw [w5, if_neg (by omega)] at v0
          exact v0 rfl
        obtain ⟨se1, se2⟩ := se.2 k.toNat (by have : k.toNat < (pmL (I 209 1) T nt q').length := by omega
                                              exact this)
        rw [show ((k.toNat : Nat) : Int) = k by omega] at se1 se2
        refine ⟨fun v7' => ?_, fun v7' => qI_mk ⟨f7, p7, ?_⟩⟩
        · have ww : 0 ≤ what ∧ what ≤ 1 := by
            apply Classical.byContradiction
            intro q
            rw [w7, if_neg (by omega)] at v7'
            exact v7' rfl
          refine ⟨fun w => ⟨⟨by omega, by omega⟩, qI_mk ⟨f7, p7, ?_⟩⟩, fun w => ⟨⟨by omega, by omega⟩, qI_mk ⟨f7, p7, ?_⟩⟩⟩
          · rw [ans, if_pos ⟨kk, ww⟩, if_neg w, se2]; rfl
          · rw [ans, if_pos ⟨kk, ww⟩, if_pos w, se1]; rfl
        · rw [ans, if_neg]
          intro q
          rw [w7, if_pos (by omega)] at v7'
          exact absurd v7' (by decide)
theorem s_numeratorX (hz : mz z) (h : pmIn T nt n L I) (t : Int) : mI (d + 10) m_Model_numerator [vR 12 209, vI t] z I fun r I1 => pcFrX I I1 ∧ pmIn T nt n L I1 ∧ r = aNumerator (I 209 1) T nt n t := by
  refine mr_numerator hz fun J eJ => thr_primaryX hz h eJ fun I7 f7 p7 D7 x7 st => ?_
  unfold pmSt at st
  rw [D7] at st
  refine ⟨fun x42 => qI_mk ⟨f7, p7, ?_⟩, fun x42 => ?_⟩
  · rcases st with ⟨en, -⟩ | ⟨q', eq, sy, x, -⟩
    · unfold aNumerator; rw [en]
    · rw [x42] at x; exact absurd x (by decide)
  · rcases st with ⟨-, x⟩ | ⟨q', eq, sy, x, pr, ro, -, se⟩
    · exact absurd x x42
    · have l216 := (pmL_216 hz h sy).2
      have e50 : I7 209 50 = ((pmL (I 209 1) T nt q').length : Int) := se.1
      have sed : ∀ j : Nat, j < (pmL (I 209 1) T nt q').length → I7 239 (j : Int) = (sx_x (pmL (I 209 1) T nt q') j).1 := fun j hj => (se.2 j hj).1
      have ans : aNumerator (I 209 1) T nt n t = if 0 ≤ t ∧ t ≤ 15 then seNum (pmL (I 209 1) T nt q') t (pmL (I 209 1) T nt q').length else -1 := by
        unfold aNumerator
        rw [eq]
      generalize pmL (I 209 1) T nt q' = l at *
      refine mI_mono (s_within (d := d + 8) hz t 0 15) fun v4 I3 ⟨e3, w4⟩ => ?_
      subst e3
      refine ⟨fun v0 => ?_, fun v0 => qI_mk ⟨f7, p7, ?_⟩⟩
      · have tt : 0 ≤ t ∧ t ≤ 15 := by
          apply Classical.byContradiction
          intro q
          rw [w4, if_neg (by omega)] at v0
          exact v0 rfl
        have bd : ∀ j : Nat, 0 ≤ seNum l t j ∧ seNum l t j ≤ j := by
          intro j
          refine ⟨sg_nonneg fun i _ => by split <;> omega, ?_⟩
          have := sg_le (n := j) (B := 1) (f := fun j => if (sx_x l j).1 = t then 1 else 0) fun i _ => by split <;> omega
          unfold seNum
          omega
        have key : ∀ (c j : Nat), j + c = l.length → cw (d + 9) cd_Model_numerator (qI z fun r I1 => pcFrX I I1 ∧ pmIn T nt n L I1 ∧ r = aNumerator (I 209 1) T nt n t) 32 [some (vR 12 209), some (vI t), some (vI (seNum l t j)), some (vI (j : Int))] [] (I3, z) := by
          intro c
          induction c with
          | zero =>
            intro j e
            refine mr_numerator_32 hz ⟨fun _ => qI_mk ⟨f7, p7, ?_⟩, fun q => by omega⟩
            rw [ans, if_pos tt, show j = l.length by omega]
          | succ c ih =>
            intro j e
            have b := bd j
            have nx : ∀ v, v = seNum l t (j + 1) → cm_i v ∧ (cm_i ((j : Int) + 1) ∧ cw (d + 9) cd_Model_numerator (qI z fun r I1 => pcFrX I I1 ∧ pmIn T nt n L I1 ∧ r = aNumerator (I 209 1) T nt n t) 32 [some (vR 12 209), some (vI t), some (vI v), some (vI ((j : Int) + 1))] [] (I3, z)) := by
              intro v ev
              have b2 := bd (j + 1)
              subst ev
              refine ⟨⟨by omega, by omega⟩, ⟨by omega, by omega⟩, ?_⟩
              exact ih (j + 1) (by omega)
            refine mr_numerator_32 hz ⟨fun q => by omega, fun _ => ⟨⟨by omega, by omega⟩, fun q => nx _ ?_, fun q => nx _ ?_⟩⟩
            · rw [sed j (by omega)] at q
              show _ = sg j _ + (if (sx_x l j).1 = t then 1 else 0)
              rw [if_neg q]; rfl
            · rw [sed j (by omega)] at q
              show _ = sg j _ + (if (sx_x l j).1 = t then 1 else 0)
              rw [if_pos q]; rfl
        exact key l.length 0 (by omega)
      · rw [ans, if_neg]
        intro q
        rw [w4, if_pos (by omega)] at v0
        exact absurd v0 (by decide)
end RPR
