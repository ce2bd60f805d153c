/-! PRODUCTS of secondary ones with powers of primary ones are free -/
def prP (t1 t2 t3 : cP) (et : Nat → cP) (j a b k : Nat) : cP := cMul (cPow t1 a) (cMul (cPow t2 b) (cMul (cPow t3 k) (et j)))
theorem cSm_congr {n : Nat} {F H : Nat → cP} (h : ∀ i, i < n → F i = H i) : cSm n F = cSm n H := by
  funext a b c
  exact gs_congr fun i hi => by rw [h i hi]
theorem cS_0 (P : cP) : cS 0 P = c0 := by
  funext a b c
  exact gs_z1 _
theorem gen_i0 {R : Type} [Lean.Grind.CommRing R] (t1 t2 t3 : R) : (0 : R) = t1 * 0 + t2 * 0 + t3 * 0 := by grind
section PRF
variable {t1 t2 t3 : cP} {et : Nat → cP}
theorem prods_free (h : sysP t1 t2 t3) {s : Nat} (hE : ∀ e : Nat → cF, inI t1 t2 t3 (cSm s fun j => cS (e j) (et j)) → ∀ j, j < s → e j = 0) (N : Nat) (c : Nat → Nat → Nat → Nat → cF) (e : (cSm N fun a => cSm N fun b => cSm N fun k => cSm s fun j => cS (c j a b k) (prP t1 t2 t3 et j a b k)) = c0) : ∀ j a b k, j < s → a < N → b < N → k < N → c j a b k = 0 := by
  have i0 : inI t1 t2 t3 c0 := by
    refine ⟨c0, c0, c0, ?_⟩
    rw [c0_eq]
    exact @gen_i0 cP cPr t1 t2 t3
  have nest : (cSm N fun a => cMul (cPow t1 a) (cSm N fun b => cMul (cPow t2 b) (cSm N fun k => cMul (cPow t3 k) (cSm s fun j => cS (c j a b k) (et j))))) = c0 := by
    rw [← e]
    refine cSm_congr fun a _ => ?_
    rw [cMul_Sm]
    refine cSm_congr fun b _ => ?_
    rw [cMul_Sm, cMul_Sm]
    refine cSm_congr fun k _ => ?_
    rw [cMul_Sm, cMul_Sm, cMul_Sm]
    refine cSm_congr fun j _ => ?_
    rw [cMul_S2, cMul_S2, cMul_S2]
    rfl
  have z := cp_indep h (V := fun u => ∃ f : Nat → cF, u = cSm s fun j => cS (f j) (et j)) (fun v hv hI => by
    obtain ⟨f, ef⟩ := hv
    rw [ef] at hI ⊢
    have f0 := hE f hI
    funext x y w
    exact gs_zero fun j hj => by
      show f j * et j x y w = 0
      rw [f0 j hj, gs_z1]) N (fun a b k => cSm s fun j => cS (c j a b k) (et j)) (fun a b k _ _ _ => ⟨fun j => c j a b k, rfl⟩) (fun x y w => congrFun (congrFun (congrFun nest x) y) w)
  intro j a b k hj ha hb hk
  have zz := z a b k ha hb hk
  exact hE (fun j => c j a b k) (by rw [zz]; exact i0) j hj
end PRF
