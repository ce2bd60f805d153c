/-! PrimarySearch.addCandidates -/
section WCA
variable {d : Nat} {z : cm_Z} {I : cm_I}
def acP (c R : Nat) (g : Int) (I J : cm_I) : Prop := fr [185, 186, 187] I J ∧ (∀ j, j ≠ 7 → J 185 j = I 185 j) ∧ J 185 7 = ((c + R : Nat) : Int) ∧ (∀ e : Nat, e < c → J 186 (e : Int) = I 186 (e : Int) ∧ J 187 (e : Int) = I 187 (e : Int)) ∧ ∀ x : Nat, x < R → J 186 ((c + x : Nat) : Int) = g ∧ J 187 ((c + x : Nat) : Int) = x
theorem t_addCandidates (hz : wz z) {a c R : Nat} {g : Int} (a0 : 0 < a) (na : a ∉ [185, 186, 187]) (v0 : I a 0 = g) (v3 : I a 3 = (R : Int)) (v7 : I 185 7 = (c : Int)) (h83 : c + R ≤ 83) : mU (d + 1) m_Search_addCandidates [vR 6 185, vR 2 a] z I (acP c R g I) := by
  have Lp : ∀ (u x : Nat) (J : cm_I), x + u = R → acP c x g I J → cw d cd_Search_addCandidates (qU z (acP c R g I)) 2 [some (vR 6 185), some (vR 2 a), some (vI (x : Int))] [] (J, z) := by
    intro u
    induction u with
    | zero =>
      intro x J ex hJ
      have xe : x = R := by omega
      have ja : J a = I a := hJ.1 a na
      rw [xe] at hJ ⊢
      refine wr_Search_addCandidates_2 hz a0 ?_
      rw [ja, v3]
      exact ⟨fun _ => qU_mk hJ, fun w => by omega⟩
    | succ u ih =>
      intro x J ex hJ
      obtain ⟨j1, j2, j3, j4, j5⟩ := id hJ
      have ja : J a = I a := j1 a na
      refine wr_Search_addCandidates_2 hz a0 ?_
      rw [ja, v3, v0, j3]
      refine ⟨fun w => by omega, fun _ => ⟨fun w => by omega, fun _ => ⟨⟨by omega, by omega⟩, fun I2 e2 => ?_⟩⟩⟩
      obtain ⟨f2, g2⟩ := fr_eq_iu e2
      rw [f2 185 (by decide), j3]
      refine ⟨⟨by omega, by omega⟩, fun I4 e4 => ?_⟩
      obtain ⟨f4, g4⟩ := fr_eq_iu e4
      rw [f4 185 (by decide), f2 185 (by decide), j3]
      refine ⟨by unfold cm_i; omega, fun I6 e6 => ⟨by unfold cm_i; omega, ?_⟩⟩
      obtain ⟨f6, g6⟩ := fr_eq_iu e6
      have k5 : I6 185 = fun j => if j = 7 then ((c + x : Nat) : Int) + 1 else J 185 j := by rw [g6, f4 185 (by decide), f2 185 (by decide)]
      have k6 : I6 186 = fun j => if j = ((c + x : Nat) : Int) then g else J 186 j := by rw [f6 186 (by decide), f4 186 (by decide), g2]
      have k7 : I6 187 = fun j => if j = ((c + x : Nat) : Int) then (x : Int) else J 187 j := by rw [f6 187 (by decide), g4, f2 187 (by decide)]
      have := ih (x + 1) I6 (by omega) ⟨fr_trans (fr_trans (fr_trans j1 (fr_mono f2 (by simp))) (fr_mono f4 (by simp))) (fr_mono f6 (by simp)), fun j hj => ?_, ?_, fun e he => ?_, fun y hy => ?_⟩
      · exact this
      · rw [k5]
        show (if j = 7 then _ else J 185 j) = _
        rw [if_neg hj]; exact j2 j hj
      · rw [k5]
        show (if (7 : Int) = 7 then ((c + x : Nat) : Int) + 1 else _) = _
        rw [if_pos rfl]; omega
      · rw [k6, k7]
        show (if (e : Int) = ((c + x : Nat) : Int) then g else J 186 (e : Int)) = _ ∧ (if (e : Int) = ((c + x : Nat) : Int) then (x : Int) else J 187 (e : Int)) = _
        rw [if_neg (by omega), if_neg (by omega)]
        exact j4 e he
      · rw [k6, k7]
        show (if ((c + y : Nat) : Int) = ((c + x : Nat) : Int) then g else J 186 ((c + y : Nat) : Int)) = _ ∧ (if ((c + y : Nat) : Int) = ((c + x : Nat) : Int) then (x : Int) else J 187 ((c + y : Nat) : Int)) = _
        by_cases w : y = x
        · rw [w, if_pos rfl, if_pos rfl]; exact ⟨rfl, rfl⟩
        · rw [if_neg (by omega), if_neg (by omega)]; exact j5 y (by omega)
  refine wr_Search_addCandidates hz ?_
  have := Lp R 0 I (by omega) ⟨fr_refl _ _, fun _ _ => rfl, by rw [v7]; rfl, fun _ _ => ⟨rfl, rfl⟩, fun x hx => absurd hx (by omega)⟩
  exact this
end WCA
