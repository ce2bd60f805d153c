/-! MEMBERS: determinants; how many are moved alike -/
theorem det_mulg {R : Type} [Lean.Grind.CommRing R] (a b c d e f g h k A B C D E F G H K : R) : (a * A + b * D + c * G) * ((d * B + e * E + f * H) * (g * C + h * F + k * K) - (d * C + e * F + f * K) * (g * B + h * E + k * H)) + (a * B + b * E + c * H) * ((d * C + e * F + f * K) * (g * A + h * D + k * G) - (d * A + e * D + f * G) * (g * C + h * F + k * K)) + (a * C + b * F + c * K) * ((d * A + e * D + f * G) * (g * B + h * E + k * H) - (d * B + e * E + f * H) * (g * A + h * D + k * G)) = (a * (e * k - f * h) + b * (f * g - d * k) + c * (d * h - e * g)) * (A * (E * K - F * H) + B * (F * G - D * K) + C * (D * H - E * G)) := by grind
theorem mDet_mul (A B : cMat) : mDet (mm A B) = mDet A * mDet B := by
  unfold mDet
  rw [mm_in (i := 0) (j := 0) (by decide), mm_in (i := 0) (j := 1) (by decide), mm_in (i := 0) (j := 2) (by decide), mm_in (i := 1) (j := 0) (by decide), mm_in (i := 1) (j := 1) (by decide), mm_in (i := 1) (j := 2) (by decide), mm_in (i := 2) (j := 0) (by decide), mm_in (i := 2) (j := 1) (by decide), mm_in (i := 2) (j := 2) (by decide)]
  exact det_mulg _ _ _ _ _ _ _ _ _ _ _ _ _ _ _ _ _ _
theorem mDet_id : mDet mId = 1 := by decide
section WOB
variable {T : Nat → cMat} {nt n : Nat} {L : Nat → cMat} {D : Int}
theorem mDet_mem (G : isG T nt n L) (hT : ∀ t, t < nt → mDet (T t) ≠ 0) : ∀ {k : Nat}, k < n → mDet (L k) ≠ 0 := by
  intro k
  induction k using Nat.strongRecOn with
  | ind k ih =>
    intro hk
    by_cases k0 : k = 0
    · rw [k0, G.2.2.1, mDet_id]; decide
    · obtain ⟨c, t, x1, x2, x3⟩ := G.2.2.2.2.2.1 k (by omega) hk
      rw [x3, mDet_mul]
      intro w
      rcases fmul_eq_zero w with q | q
      · exact ih c x1 (by omega) q
      · exact hT t x2 q
/-- how many members leave it alone -/
noncomputable def aln (D : Int) (L : Nat → cMat) (v : Int → Int) (n : Nat) : Int := sg n fun g => @ite Int (mv D (L g) v = v) (Classical.propDecidable _) 1 0
theorem mv_eq (hD : D = 2 ∨ D = 3) {A B : cMat} (hA : isD D A) (hB : isD D B) (v : Int → Int) : mv D A v = mv D B v ↔ mvP A (toP D v) = mvP B (toP D v) := by
  constructor
  · intro e
    rw [← toP_mv hD hA, e, toP_mv hD hB]
  · intro e
    refine toP_inj hD (vOk_mv hD A v) (vOk_mv hD B v) ?_
    rw [toP_mv hD hA, toP_mv hD hB, e]
theorem mv_self (hD : D = 2 ∨ D = 3) {A : cMat} (hA : isD D A) {v : Int → Int} (ov : vOk D v) : mv D A v = v ↔ mvP A (toP D v) = toP D v := by
  constructor
  · intro e
    rw [← toP_mv hD hA, e]
  · intro e
    refine toP_inj hD (vOk_mv hD A v) ov ?_
    rw [toP_mv hD hA, e]
theorem mv_alike (hD : D = 2 ∨ D = 3) (G : isG T nt n L) (Gr : isGrp n (gm n L)) (hL : ∀ k, k < n → isD D (L k)) {v : Int → Int} (ov : vOk D v) {g h : Nat} (hg : g < n) (hh : h < n) : mv D (L g) v = mv D (L h) v ↔ mv D (L (gm n L g (giv (gm n L) n h))) v = v := by
  obtain ⟨i1, i2⟩ := giv_lt Gr hh
  obtain ⟨p1, p2⟩ := gm_lt G hg i1
  obtain ⟨q1, q2⟩ := gm_lt G hh i1
  rw [mv_eq hD (hL g hg) (hL h hh), mv_self hD (hL _ p1) ov, p2]
  have e0 : mm (L h) (L (giv (gm n L) n h)) = mId := by rw [← q2, i2, G.2.2.1]
  constructor
  · intro e
    rw [← mvP_mvP, e, mvP_mvP, e0, mvP_id]
  · intro e
    have e1 : mm (mm (L g) (L (giv (gm n L) n h))) (L h) = L g := by
      have inv2 : gm n L (giv (gm n L) n h) h = 0 := by
        obtain ⟨b, b1, b2, b3⟩ := Gr.2.2.2.2.2 h hh
        have : b = giv (gm n L) n h := (giv_eq Gr hh b1).mp b2
        rw [← this]; exact b3
      obtain ⟨r1, r2⟩ := gm_lt G i1 hh
      rw [mm_assoc, ← r2, inv2, G.2.2.1, mm_id (G.2.2.2.1 g hg)]
    have := congrArg (mvP (L h)) e
    rw [mvP_mvP, e1] at this
    exact this
theorem orbit (hD : D = 2 ∨ D = 3) (G : isG T nt n L) (Gr : isGrp n (gm n L)) (hL : ∀ k, k < n → isD D (L k)) {v : Int → Int} (ov : vOk D v) : (uq (fun g => mv D (L g) v) n : Int) * aln D L v n = n := by
  have fib : ∀ h, h < n → (sg n fun g => @ite Int (mv D (L g) v = mv D (L h) v) (Classical.propDecidable _) 1 0) = aln D L v n := by
    intro h hh
    obtain ⟨i1, i2⟩ := giv_lt Gr hh
    have e1 : (sg n fun g => @ite Int (mv D (L g) v = mv D (L h) v) (Classical.propDecidable _) 1 0) = sg n fun g => (fun s => @ite Int (mv D (L s) v = v) (Classical.propDecidable _) 1 0) (gm n L g (giv (gm n L) n h)) := by
      refine sg_congr fun g hg => ?_
      have a := mv_alike hD G Gr hL ov hg hh
      by_cases q : mv D (L g) v = mv D (L h) v
      · rw [if_pos q]
        exact (if_pos (a.mp q)).symm
      · rw [if_neg q]
        exact (if_neg fun w => q (a.mpr w)).symm
    rw [e1, sg_gs, gs_perm (s := fun g => gm n L g (giv (gm n L) n h)) (fun i hi => Gr.2.1 _ _ hi i1) (fun i j hi hj e => ig_right Gr i1 hi hj e) (fun s => @ite Int (mv D (L s) v = v) (Classical.propDecidable _) 1 0), ← sg_gs]
    rfl
  -- those that come first
  have uqs : ∀ m : Nat, (uq (fun g => mv D (L g) v) m : Int) = sg m fun h => @ite Int (∀ h', h' < h → mv D (L h') v ≠ mv D (L h) v) (Classical.propDecidable _) 1 0 := by
    intro m
    induction m with
    | zero => rfl
    | succ m ih =>
      rw [sg_succ, ← ih]
      by_cases q : ∀ h', h' < m → mv D (L h') v ≠ mv D (L m) v
      · rw [if_pos q, uq_new (F := fun g => mv D (L g) v) q]; omega
      · rw [if_neg q, uq_old (F := fun g => mv D (L g) v) q]; omega
  have one : ∀ g, g < n → (sg n fun h => @ite Int (∀ h', h' < h → mv D (L h') v ≠ mv D (L h) v) (Classical.propDecidable _) 1 0 * @ite Int (mv D (L g) v = mv D (L h) v) (Classical.propDecidable _) 1 0) = 1 := by
    intro g hg
    obtain ⟨h, h1, h2, h3⟩ := least (P := fun h => mv D (L g) v = mv D (L h) v) g rfl
    have first : ∀ h', h' < h → mv D (L h') v ≠ mv D (L h) v := fun h' hh' w => h3 h' hh' (h2.trans w.symm)
    rw [sg_gs, gs_one (k := h) (by omega)]
    · rw [if_pos first, if_pos h2]; rfl
    · intro i hi ne
      by_cases a : mv D (L g) v = mv D (L i) v
      · rw [if_neg, Int.zero_mul]
        intro w
        rcases Nat.lt_trichotomy i h with q | q | q
        · exact h3 i q a
        · exact ne q
        · exact w h q (h2.symm.trans a)
      · rw [if_neg a, Int.mul_zero]
  rw [uqs n, Int.mul_comm, ← sg_mul]
  have e2 : (sg n fun h => aln D L v n * @ite Int (∀ h', h' < h → mv D (L h') v ≠ mv D (L h) v) (Classical.propDecidable _) 1 0) = sg n fun h => sg n fun g => @ite Int (∀ h', h' < h → mv D (L h') v ≠ mv D (L h) v) (Classical.propDecidable _) 1 0 * @ite Int (mv D (L g) v = mv D (L h) v) (Classical.propDecidable _) 1 0 := by
    refine sg_congr fun h hh => ?_
    rw [sg_mul, fib h hh, Int.mul_comm]
  rw [e2, sg_swap, sg_congr one, sg_const]
  omega
theorem aln_bd (v : Int → Int) (m : Nat) : 0 ≤ aln D L v m ∧ aln D L v m ≤ m := by
  refine ⟨sg_nonneg fun i _ => by split <;> omega, ?_⟩
  have := sg_le (n := m) (B := 1) (f := fun g => @ite Int (mv D (L g) v = v) (Classical.propDecidable _) 1 0) fun i _ => by split <;> omega
  unfold aln
  omega
end WOB
