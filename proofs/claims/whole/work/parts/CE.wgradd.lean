/-! one product more stands -/
theorem luI_congr {s m q9 q10 : Nat} {C C' : Nat → Nat → cF} {J J' : cm_I} (h : luI s m q9 q10 C J) (e9 : J' q9 = J q9) (e10 : J' q10 = J q10) (e : ∀ i r, i < m → r < s → C' i r = C i r) : luI s m q9 q10 C' J' := by
  obtain ⟨h1, h2, h3, h4, h5, h6, h7⟩ := h
  unfold luI
  rw [e9, e10]
  refine ⟨h1, h2, h3, h4, h5, h6, fun i c hi hc => ?_⟩
  rw [e i _ hi (h4 c hc)]
  exact h7 i c hi hc
theorem gO_57 : ∀ k, k < 97 → gO k ∉ [205, 207] := by decide
section WGA
variable {d : Nat} {z z1 : cm_Z} {I I1 I2 I3 : cm_I} {D : Int} {sh mb : Nat} {T : Nat → cMat} {nt n : Nat} {L : Nat → cMat} {v : Nat → Int → Int} {dg : Nat → Int}
theorem px_bd (S : sx_S D T nt n L v dg) {t : Nat} (t1 : t ≤ 15) {x : tup4} (hx : pxX D T nt v dg t x) : (0 ≤ x.1 ∧ x.1 < 216) ∧ (0 ≤ x.2.1 ∧ x.2.1 ≤ 15) ∧ (0 ≤ x.2.2.1 ∧ x.2.2.1 ≤ 15) ∧ 0 ≤ x.2.2.2 ∧ x.2.2.2 ≤ 15 := by
  obtain ⟨h1, h2, h3, h4, h5, h6, h7⟩ := (px_iff S t1).mp hx
  obtain ⟨p1, p2, p3⟩ := sx_pos S
  have m2 : x.2.1.toNat * 1 ≤ x.2.1.toNat * (dg 0).toNat := Nat.mul_le_mul_left _ p1
  have m3 : x.2.2.1.toNat * 1 ≤ x.2.2.1.toNat * (dg 1).toNat := Nat.mul_le_mul_left _ p2
  have m4 : x.2.2.2.toNat * 1 ≤ x.2.2.2.toNat * sx_3 D dg := Nat.mul_le_mul_left _ p3
  have l := sx_216 S (Nat.le_refl 16) (seAll_ok 16 (Nat.le_refl _)).1 (seAll_ok 16 (Nat.le_refl _)).2
  have l' : (pxL D T nt v dg).length ≤ 216 := l
  omega
theorem gq_add (hg : gw z) (hD : D = 2 ∨ D = 3) {t m src : Nat} {off : Int} (t15 : t < 16) {X : Nat → tup4} {x : tup4} {W : Nat → cF} (h : grQ D T nt v dg t m X z I) (hh : ∀ r : Nat, r < bsRows D T nt t → 0 ≤ I (gG z t 1) (r : Int) ∧ I (gG z t 1) (r : Int) < mMany D t) (f1 : fr [73 + 7 * t, 203, gG z t 4, gG z t 5] I I1) (ms : m < bsRows D T nt t) (e1 : I1 (73 + 7 * t) = fun j => if j = 6 then ((m + 1 : Nat) : Int) else I (73 + 7 * t) j) (lu : luI (bsRows D T nt t) (m + 1) (gG z t 4) (gG z t 5) (fun i => if i = m then (fun r : Nat => W (I (gG z t 1) (r : Int)).toNat) else fun r : Nat => pxV D T nt v dg t (X i) (I (gG z t 1) (r : Int)).toNat) I1) (f2 : fr [gG z t 3] I1 I2) (e2 : ∀ i, lab (I2 (gG z t 3)) i = if i = m then x else lab (I1 (gG z t 3)) i) (e3 : I3 = iw I2 (gG z t 2) (cpyF (I2 src) off (I2 (gG z t 2)) (mMany D t * m) (mMany D t))) (hs : ∀ k : Nat, k < (mMany D t).toNat → I2 src (off + k) = fi (W k)) (hx : pxX D T nt v dg t x) (hW : ∀ k, k < (mMany D t).toNat → pxV D T nt v dg t x k = W k) (nx : ∀ i, i < m → X i ≠ x) : grQ D T nt v dg t (m + 1) (fun i => if i = m then x else X i) z I3 ∧ fr [73 + 7 * t, 203, gG z t 2, gG z t 3, gG z t 4, gG z t 5] I I3 ∧ ∀ j, j ≠ 6 → I3 (73 + 7 * t) j = I (73 + 7 * t) j := by
  obtain ⟨f3, g3⟩ := fr_eq_iw e3
  obtain ⟨q1, q2, q3, q4, q5, q6, q7⟩ := h
  have mN := mMany_136 hD (t := t) (by omega)
  have kk : ∀ j, j < 6 → 1 + 6 * t + j < 97 := fun j hj => by omega
  have ne : ∀ i j, i < 6 → j < 6 → i ≠ j → gG z t i ≠ gG z t j := fun i j hi hj h => gw_ne hg (kk i hi) (kk j hj) (by omega)
  have na : ∀ j, j < 6 → gG z t j ≠ 73 + 7 * t := fun j hj => gw_gr hg t15 (kk j hj)
  have n3 : ∀ j, j < 6 → gG z t j ≠ 203 := fun j hj => Ne.symm (gw_fix hg (by decide) (by decide) (by decide) (kk j hj))
  have fA : fr [73 + 7 * t, 203, gG z t 2, gG z t 3, gG z t 4, gG z t 5] I I3 := fr_trans (fr_trans (fr_mono f1 (by simp)) (fr_mono f2 (by simp))) (fr_mono f3 (by simp))
  have i1 : I3 (gG z t 1) = I (gG z t 1) := fA _ (by simp; exact ⟨na 1 (by decide), n3 1 (by decide), ne 1 2 (by decide) (by decide) (by decide), ne 1 3 (by decide) (by decide) (by decide), ne 1 4 (by decide) (by decide) (by decide), ne 1 5 (by decide) (by decide) (by decide)⟩)
  have ia : I3 (73 + 7 * t) = I1 (73 + 7 * t) := by rw [f3 _ (by simpa using Ne.symm (na 2 (by decide))), f2 _ (by simpa using Ne.symm (na 3 (by decide)))]
  have i2 : I2 (gG z t 2) = I (gG z t 2) := by
    rw [f2 _ (by simpa using ne 2 3 (by decide) (by decide) (by decide)), f1 _ (by simp; exact ⟨na 2 (by decide), n3 2 (by decide), ne 2 4 (by decide) (by decide) (by decide), ne 2 5 (by decide) (by decide) (by decide)⟩)]
  have i3 : I1 (gG z t 3) = I (gG z t 3) := f1 _ (by simp; exact ⟨na 3 (by decide), n3 3 (by decide), ne 3 4 (by decide) (by decide) (by decide), ne 3 5 (by decide) (by decide) (by decide)⟩)
  have e33 : I3 (gG z t 3) = I2 (gG z t 3) := f3 _ (by simpa using ne 3 2 (by decide) (by decide) (by decide))
  refine ⟨⟨by omega, ?_, q3, fun i hi => ?_, fun i j hi hj e => ?_, fun i k hi hk => ?_, ?_⟩, fA, fun j hj => ?_⟩
  · rw [ia, e1]
    show (if (6 : Int) = 6 then ((m + 1 : Nat) : Int) else _) = _
    rw [if_pos rfl]
  · rw [e33, e2 i]
    show _ = (if i = m then x else X i) ∧ pxX D T nt v dg t (if i = m then x else X i)
    by_cases w : i = m
    · rw [if_pos w, if_pos w]; exact ⟨rfl, hx⟩
    · rw [if_neg w, if_neg w, i3]; exact q4 i (by omega)
  · have e' : (if i = m then x else X i) = if j = m then x else X j := e
    by_cases w : i = m
    · by_cases w' : j = m
      · omega
      · rw [if_pos w, if_neg w'] at e'
        exact absurd e'.symm (nx j (by omega))
    · by_cases w' : j = m
      · rw [if_neg w, if_pos w'] at e'
        exact absurd e' (nx i (by omega))
      · rw [if_neg w, if_neg w'] at e'
        exact q5 i j (by omega) (by omega) e'
  · rw [g3]
    obtain ⟨N, hN⟩ : ∃ N : Nat, (N : Int) = mMany D t := ⟨(mMany D t).toNat, by omega⟩
    rw [← hN] at hk ⊢
    show (if (N : Int) * m ≤ (N : Int) * i + k ∧ (N : Int) * i + k < (N : Int) * m + N then I2 src (off + ((N : Int) * i + k - (N : Int) * m)) else I2 (gG z t 2) ((N : Int) * i + k)) = fi (pxV D T nt v dg t (if i = m then x else X i) k)
    by_cases w : i = m
    · rw [w, if_pos (by omega), if_pos rfl, show off + ((N : Int) * m + k - (N : Int) * m) = off + k by omega, hs k (by omega), hW k (by omega)]
    · have dis := nn_dis (n := N) (i := i) (j := m) w
      rw [if_neg (by omega), if_neg w, i2]
      have := q6 i k (by omega) (by omega)
      rw [← hN] at this
      exact this
  · refine luI_congr lu ?_ ?_ fun i r hi hr => ?_
    · rw [f3 _ (by simpa using ne 4 2 (by decide) (by decide) (by decide)), f2 _ (by simpa using ne 4 3 (by decide) (by decide) (by decide))]
    · rw [f3 _ (by simpa using ne 5 2 (by decide) (by decide) (by decide)), f2 _ (by simpa using ne 5 3 (by decide) (by decide) (by decide))]
    · show pxV D T nt v dg t (if i = m then x else X i) (I3 (gG z t 1) (r : Int)).toNat = _
      rw [i1]
      have := hh r hr
      by_cases w : i = m
      · rw [if_pos w, if_pos w]
        exact hW _ (by omega)
      · rw [if_neg w, if_neg w]
  · rw [ia, e1]
    exact if_neg hj
end WGA
