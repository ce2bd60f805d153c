/-! THE REFERENCE lays all products of a degree -/
section LPS
variable {d : Nat} {z : cm_Z} {I : cm_I}
theorem s_lp27 (hz : mz z) {Q : cm_Q} {T : Nat → cMat} {nt : Nat} {v0 v1 v2 : Int → Int} (hP : prB T nt I v0 v1 v2) {t : Int} (t0 : 0 ≤ t) (t1 : t ≤ 15) {j : Int} (j0 : 0 ≤ j) (j1 : j < I 209 50) : ∀ (n : Nat) (a : Int) (I0 : cm_I) (l : List tup4) (z5 z6 z7 : Option cm_V), 0 ≤ a → a + n = 17 → prS t (prE T nt I) v0 v1 v2 I I0 l → l.length + (tA (I 209 1) (I 234 0) (I 234 1) (I 234 2) (t - I 239 j) j n a).length ≤ 160 → (∀ (I1 : cm_I) (a' : Int) (z5 z6 z7 : Option cm_V), prS t (prE T nt I) v0 v1 v2 I I1 (l ++ tA (I 209 1) (I 234 0) (I 234 1) (I 234 2) (t - I 239 j) j n a) → cw (d + 5) cd_Model_laysProducts Q 7 [some (vR 12 209), some (vI t), some (vI (j + 1)), some (vI (t - I 239 j)), some (vI a'), z5, z6, z7] [] (I1, z)) → cw (d + 5) cd_Model_laysProducts Q 27 [some (vR 12 209), some (vI t), some (vI j), some (vI (t - I 239 j)), some (vI a), z5, z6, z7] [] (I0, z) := by
  obtain ⟨p1, p2, p3, p4, p5, p6, p7, p8, p9, p10, p11, p12, p13, p14, p15⟩ := id hP
  obtain ⟨q1, q2, q3, q4⟩ := p15 j j0 j1
  intro n
  induction n with
  | zero =>
    intro a I0 l z5 z6 z7 a0 ea hS hl H
    have e34 : I0 234 = I 234 := hS.1 234 (by decide)
    have a17 : a = 17 := by omega
    subst a17
    refine mr_laysProducts_27 hz ?_
    rw [e34]
    refine ⟨⟨by omega, by omega⟩, fun _ => ⟨⟨by omega, by omega⟩, ?_⟩, fun q => by omega⟩
    exact H I0 17 z5 z6 z7 (by show prS t (prE T nt I) v0 v1 v2 I I0 (l ++ []); rw [List.append_nil]; exact hS)
  | succ n ih =>
    intro a I0 l z5 z6 z7 a0 ea hS hl H
    have e34 : I0 234 = I 234 := hS.1 234 (by decide)
    have ad : 0 ≤ a * I 234 0 ∧ a * I 234 0 ≤ 17 * 15 := ⟨Int.mul_nonneg a0 (by omega), Int.mul_le_mul (by omega) p11.2 (by omega) (by omega)⟩
    unfold tA at hl H
    refine mr_laysProducts_27 hz ?_
    rw [e34]
    refine ⟨⟨by omega, by omega⟩, fun q => ⟨⟨by omega, by omega⟩, ?_⟩, fun q => ?_⟩
    · rw [if_pos q] at H
      exact H I0 a z5 z6 z7 (by rw [List.append_nil]; exact hS)
    · rw [if_neg (by omega)] at hl H
      rw [List.length_append] at hl
      refine s_lp43 hz hP t0 t1 j0 j1 a0 (by omega) 17 0 I0 l z6 z7 (by omega) (by omega) hS (by omega) fun I1 b' z6' z7' h1 => ?_
      refine ih (a + 1) I1 _ _ z6' z7' (by omega) (by omega) h1 (by rw [List.length_append]; omega) ?_
      rw [List.append_assoc]
      exact H
theorem s_laysProducts (hz : mz z) {T : Nat → cMat} {nt : Nat} {v0 v1 v2 : Int → Int} (hP : prB T nt I v0 v1 v2) (o14 : okR (I 214) ∧ okR (I 216)) (o26 : okR (I 226)) {t : Int} (t0 : 0 ≤ t) (t1 : t ≤ 15) (hl : (tJ (I 209 1) (I 234 0) (I 234 1) (I 234 2) t (I 239) (I 209 50).toNat 0).length ≤ 160) : mU (d + 6) m_Model_laysProducts [vR 12 209, vI t] z I fun I1 => prS t (prE T nt I) v0 v1 v2 I I1 (tJ (I 209 1) (I 234 0) (I 234 1) (I 234 2) t (I 239) (I 209 50).toNat 0) := by
  obtain ⟨p1, p2, p3, p4, p5, p6, p7, p8, p9, p10, p11, p12, p13, p14, p15⟩ := id hP
  have key : ∀ (n : Nat) (j : Int) (I0 : cm_I) (l : List tup4) (z3 z4 z5 z6 z7 : Option cm_V), 0 ≤ j → j + n = I 209 50 → prS t (prE T nt I) v0 v1 v2 I I0 l → l ++ tJ (I 209 1) (I 234 0) (I 234 1) (I 234 2) t (I 239) n j = tJ (I 209 1) (I 234 0) (I 234 1) (I 234 2) t (I 239) (I 209 50).toNat 0 → cw (d + 5) cd_Model_laysProducts (qU z fun I1 => prS t (prE T nt I) v0 v1 v2 I I1 (tJ (I 209 1) (I 234 0) (I 234 1) (I 234 2) t (I 239) (I 209 50).toNat 0)) 7 [some (vR 12 209), some (vI t), some (vI j), z3, z4, z5, z6, z7] [] (I0, z) := by
    intro n
    induction n with
    | zero =>
      intro j I0 l z3 z4 z5 z6 z7 j0 ej hS el
      have e50 : I0 209 50 = I 209 50 := by rw [hS.2.1]; rfl
      refine mr_laysProducts_7 hz ?_
      rw [e50]
      refine ⟨fun _ => qU_mk ?_, fun q => by omega⟩
      have el' : l ++ [] = tJ (I 209 1) (I 234 0) (I 234 1) (I 234 2) t (I 239) (I 209 50).toNat 0 := el
      rw [List.append_nil] at el'
      rw [← el']
      exact hS
    | succ n ih =>
      intro j I0 l z3 z4 z5 z6 z7 j0 ej hS el
      have e50 : I0 209 50 = I 209 50 := by rw [hS.2.1]; rfl
      obtain ⟨q1, q2, q3, q4⟩ := p15 j j0 (by omega)
      have el' : l ++ (tA (I 209 1) (I 234 0) (I 234 1) (I 234 2) (t - I 239 j) j 17 0 ++ tJ (I 209 1) (I 234 0) (I 234 1) (I 234 2) t (I 239) n (j + 1)) = tJ (I 209 1) (I 234 0) (I 234 1) (I 234 2) t (I 239) (I 209 50).toNat 0 := el
      have ll := congrArg List.length el'
      rw [List.length_append, List.length_append] at ll
      refine mr_laysProducts_7 hz ?_
      rw [e50, hS.1 239 (by decide)]
      refine ⟨fun q => by omega, fun _ => ⟨⟨by omega, by omega⟩, ⟨by omega, by omega⟩, ?_⟩⟩
      refine s_lp27 hz hP t0 t1 j0 (by omega) 17 0 I0 l z5 z6 z7 (by omega) (by omega) hS (by omega) fun I1 a' z5' z6' z7' h1 => ?_
      refine ih (j + 1) I1 _ _ _ z5' z6' z7' (by omega) (by omega) h1 ?_
      rw [List.append_assoc]
      exact el'
  refine mr_laysProducts hz fun I1 e1 => ?_
  obtain ⟨f1, g1⟩ := fr_eq_iu e1
  refine key (I 209 50).toNat 0 I1 [] _ _ _ _ _ (by omega) (by omega) ⟨fr_mono f1 (by decide), g1, by rw [f1 214 (by decide), f1 216 (by decide)]; exact o14, by rw [f1 226 (by decide)]; exact o26, fun m x hx => ?_⟩ rfl
  rw [List.getElem?_nil] at hx
  cases hx
end LPS
