/-! ALL products with powers of the form are independent -/
section AF
variable {T : Nat → cMat} {nt n : Nat} {L : Nat → cMat} {t1 t2 t3 : cP} {et : Nat → cP}
theorem inv_Sm (m : Nat) {F : Nat → cP} (h : ∀ i, i < m → InvP T nt (F i)) : InvP T nt (cSm m F) := fun t ht => by
  rw [mvP_Sm]
  exact cSm_congr fun i hi => h i hi t ht
theorem all_free (G : isG T nt n L) (h : sysP t1 t2 t3) {s : Nat} (i1 : InvP T nt t1) (i2 : InvP T nt t2) (i3 : InvP T nt t3) (ie : ∀ j, j < s → InvP T nt (et j)) (hE : ∀ e : Nat → cF, inI t1 t2 t3 (cSm s fun j => cS (e j) (et j)) → ∀ j, j < s → e j = 0) {f : cP} (inj : ∀ i j, i < n → j < n → mvP (L i) f = mvP (L j) f → i = j) (N : Nat) (c : Nat → Nat → Nat → Nat → Nat → cF) (e : (cSm n fun i => cSm N fun a => cSm N fun b => cSm N fun k => cSm s fun j => cS (c i j a b k) (cMul (cPow f i) (prP t1 t2 t3 et j a b k))) = c0) : ∀ i j a b k, i < n → j < s → a < N → b < N → k < N → c i j a b k = 0 := by
  have e2 : (cSm n fun i => cMul (cPow f i) (cSm N fun a => cSm N fun b => cSm N fun k => cSm s fun j => cS (c i j a b k) (prP t1 t2 t3 et j a b k))) = c0 := by
    rw [← e]
    refine cSm_congr fun i _ => ?_
    rw [cMul_Sm]
    refine cSm_congr fun a _ => ?_
    rw [cMul_Sm]
    refine cSm_congr fun b _ => ?_
    rw [cMul_Sm]
    refine cSm_congr fun k _ => ?_
    rw [cMul_Sm]
    refine cSm_congr fun j _ => ?_
    rw [cMul_S2]
  have z := lin_free G inj (fun i _ => inv_Sm N fun a _ => inv_Sm N fun b _ => inv_Sm N fun k _ => inv_Sm s fun j hj => inv_S _ (inv_mul (inv_pow i1 a) (inv_mul (inv_pow i2 b) (inv_mul (inv_pow i3 k) (ie j hj))))) e2
  intro i j a b k hi hj ha hb hk
  exact prods_free h hE N (c i) (z i hi) j a b k hj ha hb hk
end AF
