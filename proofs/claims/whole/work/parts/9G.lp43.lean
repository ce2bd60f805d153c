/-! THE REFERENCE lays all products of a degree: the loop over the second power -/
section LPS
variable {d : Nat} {z : cm_Z} {I : cm_I}
theorem s_lp43 (hz : mz z) {Q : cm_Q} {T : Nat → cMat} {nt : Nat} {v0 v1 v2 : Int → Int} (hP : prB T nt I v0 v1 v2) {t : Int} (t0 : 0 ≤ t) (t1 : t ≤ 15) {j a : Int} (j0 : 0 ≤ j) (j1 : j < I 209 50) (a0 : 0 ≤ a) (a1 : a ≤ 17) : ∀ (n : Nat) (b : Int) (I0 : cm_I) (l : List tup4) (z6 z7 : Option cm_V), 0 ≤ b → b + n = 17 → prS t (prE T nt I) v0 v1 v2 I I0 l → l.length + (tB (I 209 1) (I 234 0) (I 234 1) (I 234 2) (t - I 239 j) j a n b).length ≤ 160 → (∀ (I1 : cm_I) (b' : Int) (z6 z7 : Option cm_V), prS t (prE T nt I) v0 v1 v2 I I1 (l ++ tB (I 209 1) (I 234 0) (I 234 1) (I 234 2) (t - I 239 j) j a n b) → cw (d + 5) cd_Model_laysProducts Q 27 [some (vR 12 209), some (vI t), some (vI j), some (vI (t - I 239 j)), some (vI (a + 1)), some (vI b'), z6, z7] [] (I1, z)) → cw (d + 5) cd_Model_laysProducts Q 43 [some (vR 12 209), some (vI t), some (vI j), some (vI (t - I 239 j)), some (vI a), some (vI b), z6, z7] [] (I0, z) := by
  obtain ⟨p1, p2, p3, p4, p5, p6, p7, p8, p9, p10, p11, p12, p13, p14, p15⟩ := id hP
  obtain ⟨q1, q2, q3, q4⟩ := p15 j j0 j1
  have hD' : I 209 1 = 2 ∨ I 209 1 = 3 := p1
  have ad : 0 ≤ a * I 234 0 ∧ a * I 234 0 ≤ 17 * 15 := ⟨Int.mul_nonneg a0 (by omega), Int.mul_le_mul a1 p11.2 (by omega) (by omega)⟩
  intro n
  induction n with
  | zero =>
    intro b I0 l z6 z7 b0 eb hS hl H
    have e34 : I0 234 = I 234 := hS.1 234 (by decide)
    have b17 : b = 17 := by omega
    subst b17
    refine mr_laysProducts_43 hz ?_
    rw [e34]
    refine ⟨⟨by omega, by omega⟩, ⟨by omega, by omega⟩, ⟨by omega, by omega⟩, fun _ => ⟨⟨by omega, by omega⟩, ?_⟩, fun q => by omega⟩
    have := H I0 17 z6 z7 (by show prS t (prE T nt I) v0 v1 v2 I I0 (l ++ []); rw [List.append_nil]; exact hS)
    exact this
  | succ n ih =>
    intro b I0 l z6 z7 b0 eb hS hl H
    have e34 : I0 234 = I 234 := hS.1 234 (by decide)
    have e1 : I0 209 1 = I 209 1 := by rw [hS.2.1]; rfl
    have bd : 0 ≤ b * I 234 1 ∧ b * I 234 1 ≤ 17 * 15 := ⟨Int.mul_nonneg b0 (by omega), Int.mul_le_mul (by omega) p12.2 (by omega) (by omega)⟩
    unfold tB at hl H
    refine mr_laysProducts_43 hz ?_
    rw [e34, e1]
    refine ⟨⟨by omega, by omega⟩, ⟨by omega, by omega⟩, ⟨by omega, by omega⟩, fun q => ⟨⟨by omega, by omega⟩, ?_⟩, fun q => ⟨⟨by omega, by omega⟩, ⟨by omega, by omega⟩, ?_⟩⟩
    · rw [if_pos q] at H
      exact H I0 b z6 z7 (by rw [List.append_nil]; exact hS)
    · rw [if_neg (by omega)] at hl H
      rw [List.length_append] at hl
      have no : ∀ (x6 s0 : Int), s0 = 0 → tB1 (I 209 1) (I 234 0) (I 234 1) (I 234 2) (t - I 239 j) j a b = [] → cw (d + 5) cd_Model_laysProducts Q 127 [some (vR 12 209), some (vI t), some (vI j), some (vI (t - I 239 j)), some (vI a), some (vI b), some (vI x6), z7] [vI s0] (I0, z) := by
        intro x6 s0 hs e
        rw [e, List.nil_append] at H
        rw [e] at hl
        refine mr_laysProducts_127 hz ⟨fun _ => ⟨⟨by omega, by omega⟩, ih (b + 1) I0 l _ _ (by omega) (by omega) hS (by simpa using hl) H⟩, fun y => absurd hs y⟩
      have yes : ∀ (x6 k : Int), (I 209 1 = 2 → k = 0) → (¬ I 209 1 = 2 → k = Int.tdiv x6 (I 234 2)) → 0 ≤ k → I 239 j + a * I 234 0 + b * I 234 1 + k * (if I 209 1 = 2 then 0 else I 234 2) = t → tB1 (I 209 1) (I 234 0) (I 234 1) (I 234 2) (t - I 239 j) j a b = [(j, a, b, k)] → cw (d + 5) cd_Model_laysProducts Q 127 [some (vR 12 209), some (vI t), some (vI j), some (vI (t - I 239 j)), some (vI a), some (vI b), some (vI x6), z7] [vI 1] (I0, z) := by
        intro x6 k hk2 hk3 k0 ek e
        rw [e] at hl H
        have hl' : l.length + (1 + (tB (I 209 1) (I 234 0) (I 234 1) (I 234 2) (t - I 239 j) j a n (b + 1)).length) ≤ 160 := hl
        have go : ∀ I1 : cm_I, prS t (prE T nt I) v0 v1 v2 I I1 (l ++ [(j, a, b, k)]) → cm_i (b + 1) ∧ cw (d + 5) cd_Model_laysProducts Q 43 [some (vR 12 209), some (vI t), some (vI j), some (vI (t - I 239 j)), some (vI a), some (vI (b + 1)), some (vI x6), some (vI 1)] [] (I1, z) := by
          intro I1 h1
          refine ⟨⟨by omega, by omega⟩, ih (b + 1) I1 (l ++ [(j, a, b, k)]) _ _ (by omega) (by omega) h1 ?_ ?_⟩
          · rw [List.length_append]
            show l.length + 1 + _ ≤ 160
            omega
          · rw [List.append_assoc]
            exact H
        refine mr_laysProducts_127 hz ⟨fun y => absurd y (by decide), fun _ => ?_⟩
        rw [e34, e1]
        refine ⟨fun y => ⟨by have := p13 (by omega); omega, ?_⟩, fun y => ?_⟩
        · rw [← hk3 y]
          exact mU_mono (s_lp1 hz hP t0 t1 hS (by omega) j0 j1 a0 b0 k0 hk2 ek) go
        · have kz := hk2 y
          subst kz
          exact mU_mono (s_lp1 hz hP t0 t1 hS (by omega) j0 j1 a0 b0 k0 hk2 ek) go
      refine ⟨fun y => ⟨by have := p13 (by omega); omega, fun r => no _ 0 rfl ?_, fun r => yes _ (Int.tdiv (t - I 239 j - a * I 234 0 - b * I 234 1) (I 234 2)) (fun w => absurd w y) (fun _ => rfl) ?_ ?_ ?_⟩, fun y => ⟨fun r => no _ 0 rfl ?_, fun r => yes _ 0 (fun _ => rfl) (fun w => absurd y w) (by omega) ?_ ?_⟩⟩
      · unfold tB1 tK
        rw [if_neg y, if_neg r]
      · have := p13 (by omega)
        exact Int.tdiv_nonneg (by omega) (by omega)
      · have dm := Int.mul_tdiv_add_tmod (t - I 239 j - a * I 234 0 - b * I 234 1) (I 234 2)
        rw [if_neg y, Int.mul_comm (Int.tdiv _ _)]
        omega
      · unfold tB1 tK
        rw [if_neg y, if_pos r]
      · unfold tB1 tK
        rw [if_pos y, if_neg r]
      · rw [Int.zero_mul]
        omega
      · unfold tB1 tK
        rw [if_pos y, if_pos r]
end LPS
