/-! POWERS of a linear form with as many images as the group has members -/
section LF
variable {T : Nat → cMat} {nt n : Nat} {L : Nat → cMat}
theorem lin_free (G : isG T nt n L) {f : cP} (inj : ∀ i j, i < n → j < n → mvP (L i) f = mvP (L j) f → i = j) {u : Nat → cP} (hu : ∀ i, i < n → InvP T nt (u i)) (e : (cSm n fun i => cMul (cPow f i) (u i)) = c0) : ∀ i, i < n → u i = c0 := by
  rw [c0_eq]
  refine @hv_roots cP cPr (fun a b h => ?_) n u (fun g => mvP (L g) f) inj fun g hg => ?_
  · have := cP_dom a b (by rw [c0_eq]; exact h)
    rw [c0_eq] at this
    exact this
  · rw [@hv_gs cP cPr]
    have m := congrArg (mvP (L g)) e
    rw [mvP_Sm] at m
    have z : mvP (L g) c0 = c0 := by
      have := mvP_S (L g) 0 c0
      rw [cS_0, cS_0] at this
      exact this
    rw [z, c0_eq, cSm_eq] at m
    refine Eq.trans (@gs_congr cP cPr _ _ _ fun i hi => ?_) m
    rw [mvP_mul, mvP_pow, inv_mem G (hu i hi) g hg, cPow_eq]
    rfl
end LF
