/-! A LINEAR form with as many images as the group has members: it is there -/
section LF
variable {T : Nat → cMat} {nt n : Nat} {L : Nat → cMat}
theorem form_fix (G : isG T nt n L) : ∃ t : cF, ∀ k, 0 < k → k < n → mvP (L k) (linP (pf t)) ≠ linP (pf t) := by
  obtain ⟨g1, g2, g3, g4, g5, g6⟩ := id G
  apply Classical.byContradiction
  intro no
  have all : ∀ x : Nat, ∃ k, 0 < k ∧ k < n ∧ mvP (L k) (linP (pf (toF x))) = linP (pf (toF x)) := by
    intro x
    apply Classical.byContradiction
    intro q
    apply no
    exact ⟨toF x, fun k k0 k1 e => q ⟨k, k0, k1, e⟩⟩
  have vv : ∀ k, ∃ v : Nat → cF, 0 < k → k < n → ∀ t, mvP (L k) (linP (pf t)) = linP (pf t) → t = v 0 ∨ t = v 1 := by
    intro k
    by_cases q : 0 < k ∧ k < n
    · have ne : L k ≠ mId := fun e => by
        have := g5 k 0 q.2 (by omega) (e.trans g3.symm)
        omega
      obtain ⟨v, hv⟩ := form_two (g4 k q.2) ne
      exact ⟨v, fun _ _ => hv⟩
    · exact ⟨fun _ => 0, fun a b => absurd ⟨a, b⟩ q⟩
  obtain ⟨v, hv⟩ := Classical.axiomOfChoice vv
  have sl : ∀ x : Nat, ∃ s : Nat, s < 96 ∧ toF x = v (s / 2) (s % 2) := by
    intro x
    obtain ⟨k, k0, k1, e⟩ := all x
    rcases hv k k0 k1 _ e with r | r
    · refine ⟨2 * k, by omega, ?_⟩
      rw [show 2 * k / 2 = k by omega, show 2 * k % 2 = 0 by omega]
      exact r
    · refine ⟨2 * k + 1, by omega, ?_⟩
      rw [show (2 * k + 1) / 2 = k by omega, show (2 * k + 1) % 2 = 1 by omega]
      exact r
  obtain ⟨f, hf⟩ := Classical.axiomOfChoice sl
  obtain ⟨x, x1, x2⟩ := pigeon 2521 f (fun i _ => by have := (hf i).1; omega) (fun i j hi hj e => by
    have a := (hf i).2
    rw [e, ← (hf j).2, toF_eq] at a
    omega) 2000 (by omega)
  have := (hf x).1
  omega
theorem form_ex (G : isG T nt n L) (hT : ∀ t, t < nt → mDet (T t) ≠ 0) : ∃ l : Nat → cF, ∀ i j, i < n → j < n → mvP (L i) (linP l) = mvP (L j) (linP l) → i = j := by
  obtain ⟨t, ht⟩ := form_fix G
  obtain ⟨g1, g2, g3, g4, g5, g6⟩ := id G
  obtain ⟨r1, r2, r3, r4, r5, r6⟩ := isGrp_gm G hT
  refine ⟨pf t, fun i j hi hj e => ?_⟩
  obtain ⟨b, b0, b1, b2⟩ := r6 j hj
  have e2 := congrArg (mvP (L b)) e
  rw [mvP_mvP, mvP_mvP, ← (gm_lt G hi b0).2, ← (gm_lt G hj b0).2, b1, g3, mvP_id] at e2
  apply Classical.byContradiction
  intro ne
  refine ht (gm n L i b) ?_ (gm_lt G hi b0).1 e2
  apply Nat.pos_of_ne_zero
  intro z
  apply ne
  have : gm n L (gm n L i b) j = j := by rw [z]; exact r5 j hj
  rw [r3 i b j hi b0 hj, b2, r4 i hi] at this
  exact this
end LF
