/-! Rewriter.addProducts: products with the primary one τ as the last one -/
/-- the primary ones, as the class keeps them -/
def prA (D : Int) (T : Nat → cMat) (nt : Nat) (v : Nat → Int → Int) (dg : Nat → Int) (J : cm_I) : Prop := ∀ τ : Nat, (τ : Int) < D → ∃ ρ : Nat, J 190 (τ : Int) = dg τ ∧ J 191 (τ : Int) = (ρ : Int) ∧ ρ < bsRows D T nt (dg τ) ∧ v τ = bRow D (dg τ) ((bsX D T nt (dg τ)).2 ρ) ∧ J (73 + 7 * (dg τ).toNat) 1 = 1
/-- the products of a grade stand, all of them -/
def grC (D : Int) (T : Nat → cMat) (nt : Nat) (v : Nat → Int → Int) (dg : Nat → Int) (t : Nat) (z : cm_Z) (J : cm_I) : Prop := J (73 + 7 * t) 1 = 1 ∧ ∃ X : Nat → tup4, grQ D T nt v dg t (bsRows D T nt t) X z J ∧ ∀ x, pxX D T nt v dg t x → ∃ i, i < bsRows D T nt t ∧ X i = x
/-- what changes while the products of grade t are made -/
def apL (t : Nat) (z : cm_Z) : List Nat := [73 + 7 * t, 203, gG z t 2, gG z t 3, gG z t 4, gG z t 5, 204, 205, 207]
def apF (t : Nat) (z : cm_Z) (I : cm_I) (z' : cm_Z) (J : cm_I) : Prop := zf [205, 207] z z' ∧ fr (apL t z) I J ∧ ∀ j, j ≠ 6 → J (73 + 7 * t) j = I (73 + 7 * t) j
theorem apF_refl (t : Nat) (z : cm_Z) (I : cm_I) : apF t z I z I := ⟨zf_refl _ _, fr_refl _ _, fun _ _ => rfl⟩
theorem gG_zf {l : List Nat} {z z1 : cm_Z} (h : zf l z z1) (hl : ∀ k, k < 97 → gO k ∉ l) {t j : Nat} (ht : t < 16) (hj : j < 6) : gG z1 t j = gG z t j := gR_zf h (hl _ (by omega))
theorem apF_trans {t : Nat} (t15 : t < 16) {z z1 z2 : cm_Z} {I I1 I2 : cm_I} (h : apF t z I z1 I1) (h' : apF t z1 I1 z2 I2) : apF t z I z2 I2 := by
  obtain ⟨a1, a2, a3⟩ := h
  obtain ⟨b1, b2, b3⟩ := h'
  have e : apL t z1 = apL t z := by
    unfold apL
    rw [gG_zf a1 gO_57 t15 (j := 2) (by decide), gG_zf a1 gO_57 t15 (j := 3) (by decide), gG_zf a1 gO_57 t15 (j := 4) (by decide), gG_zf a1 gO_57 t15 (j := 5) (by decide)]
  rw [e] at b2
  exact ⟨zf_trans a1 b1, fr_trans a2 b2, fun j hj => (b3 j hj).trans (a3 j hj)⟩
section WAQ
variable {d : Nat} {z z1 : cm_Z} {I I1 : cm_I} {D : Int} {sh mb : Nat} {T : Nat → cMat} {nt n : Nat} {L : Nat → cMat} {v : Nat → Int → Int} {dg : Nat → Int}
theorem apL_out (hg : gw z) {t c : Nat} (t15 : t < 16) (h1 : c ≠ 73 + 7 * t) (h2 : c ∉ [203, 204, 205, 207]) (h3 : ∀ j, 2 ≤ j → j < 6 → c ≠ gG z t j) : c ∉ apL t z := by
  simp at h2
  simp [apL]
  exact ⟨by omega, by omega, h3 2 (by decide) (by decide), h3 3 (by decide) (by decide), h3 4 (by decide) (by decide), h3 5 (by decide) (by decide), by omega, by omega, by omega⟩
theorem apL_fix (hg : gw z) {t c : Nat} (t15 : t < 16) (h : c < 248) (h64 : c ≠ 64) (h2 : c ≤ 72 ∨ 185 ≤ c) (h3 : c ∉ [203, 204, 205, 207]) : c ∉ apL t z := apL_out hg t15 (by omega) h3 fun j _ hj => gw_fix hg h h64 h2 (k := 1 + 6 * t + j) (by omega)
theorem apL_gr (hg : gw z) {t t' j' : Nat} (t15 : t < 16) (t15' : t' < 16) (hj' : j' < 6) (h : t' ≠ t ∨ j' < 2) : gG z t' j' ∉ apL t z := by
  have kk : 1 + 6 * t' + j' < 97 := by omega
  refine apL_out hg t15 (gw_gr hg t15 kk) ?_ fun j h2 hj => gw_ne hg kk (k' := 1 + 6 * t + j) (by omega) (by omega)
  have n3 := gw_fix hg (c := 203) (by decide) (by decide) (by decide) kk
  have n4 := gw_fix hg (c := 204) (by decide) (by decide) (by decide) kk
  have n5 := gw_fix hg (c := 205) (by decide) (by decide) (by decide) kk
  have n7 := gw_fix hg (c := 207) (by decide) (by decide) (by decide) kk
  simp
  exact ⟨fun e => n3 e.symm, fun e => n4 e.symm, fun e => n5 e.symm, fun e => n7 e.symm⟩
theorem apL_ob (hg : gw z) {t t' : Nat} (t15 : t < 16) (t15' : t' < 16) (h : t' ≠ t) : 73 + 7 * t' ∉ apL t z := apL_out hg t15 (by omega) (by simp; omega) fun j _ hj => Ne.symm (gw_gr hg t15' (k := 1 + 6 * t + j) (by omega))
/-- the bases, and the products of other grades, stay -/
theorem apF_E (hE : bsE D sh mb T nt n L z I) {t : Nat} (t15 : t < 16) (h : apF t z I z1 I1) : bsE D sh mb T nt n L z1 I1 := by
  obtain ⟨a1, a2, a3⟩ := h
  have hg := hE.2.1
  have hz1 : wz z1 := wz_zf hE.1.1 a1 (by decide)
  have hg1 : gw z1 := gw_zf a1 gO_57 (by decide) hg
  refine bsE_fr2 hE hz1 hg1 (a1.1 1 (by decide)) (a1.1 53 (by decide)) (a1.1 66 (by decide)) (fun t' j ht' hj => ⟨gG_zf a1 gO_57 ht' (by omega), by rw [a1.2], a2 _ (apL_gr hg t15 ht' (by omega) (Or.inr hj))⟩) ?_ (fun c hc hn => a2 c (apL_fix hg t15 (by omega) (by simp at hn; omega) (by omega) (by simp; omega))) fun t' ht' j j0 j3 => ?_
  · rw [a1.1 63 (by decide)]
    have k0 : (0 : Nat) < 97 := by decide
    have := apL_out (z := z) hg t15 (c := z.1 63 2) (gw_gr hg t15 k0) (by
      have n3 := gw_fix hg (c := 203) (by decide) (by decide) (by decide) k0
      have n4 := gw_fix hg (c := 204) (by decide) (by decide) (by decide) k0
      have n5 := gw_fix hg (c := 205) (by decide) (by decide) (by decide) k0
      have n7 := gw_fix hg (c := 207) (by decide) (by decide) (by decide) k0
      simp
      exact ⟨fun e => n3 e.symm, fun e => n4 e.symm, fun e => n5 e.symm, fun e => n7 e.symm⟩) fun j _ hj => gw_ne hg k0 (k' := 1 + 6 * t + j) (by omega) (by omega)
    rw [a2 _ this]
    exact hE.2.2.2.2.2.2.1
  · by_cases e : t' = t
    · rw [e]; exact a3 j (by omega)
    · rw [a2 _ (apL_ob hg t15 ht' e)]
theorem apF_Q (hg : gw z) {t t' m : Nat} {X : Nat → tup4} (t15 : t < 16) (t15' : t' < 16) (ne : t' ≠ t) (h : apF t z I z1 I1) (hQ : grQ D T nt v dg t' m X z I) : grQ D T nt v dg t' m X z1 I1 := by
  obtain ⟨a1, a2, a3⟩ := h
  exact grQ_fr hQ (fun j j1 j6 => ⟨gG_zf a1 gO_57 t15' j6, by rw [a1.2], a2 _ (apL_gr hg t15 t15' j6 (Or.inl ne))⟩) (by rw [a2 _ (apL_ob hg t15 t15' ne)])
end WAQ
