/-! ROWS as series: products -/
theorem fs_gs (n : Nat) (f : Nat → cF) : fs n f = gs n f := by
  induction n with
  | zero => rfl
  | succ n ih => show fs n f + f n = gs n f + f n; rw [ih]
theorem toP_at {D : Int} (hD : D = 2 ∨ D = 3) (v : Int → Int) {i : Int} (i0 : 0 ≤ i) (i1 : i < mSz D) (h : mDg D i ≤ 15) : toP D v (mE D i).1 (mE D i).2.1 (mE D i).2.2 = toF (v i) := by
  obtain ⟨e1, e2, e3, e4, e5, e6⟩ := mE_at hD i0 i1
  unfold mDg at h
  simp only [mEa, mEb, mEc] at h e1 e6
  unfold toP
  rw [if_pos ⟨by omega, fun e => by have := e6 e; omega⟩, e1]
theorem toP_mul {D : Int} (hD : D = 2 ∨ D = 3) {v w : Int → Int} (h : mDeg D v 0 + mDeg D w 0 ≤ 15) : toP D (vMul D v w) = cMul (toP D v) (toP D w) := by
  funext a b c
  rw [cMul_at]
  have hs := mSz_bd D
  have dv := mDeg_bd hD v 0
  have dw := mDeg_bd hD w 0
  by_cases q : a + b + c ≤ 15 ∧ (D = 2 → c = 0)
  · obtain ⟨m1, m2, m3, m4, m5⟩ := mAt_E hD (a := (a : Int)) (b := (b : Int)) (c := (c : Int)) (by omega) (by omega) (by omega) (by omega) (fun e => by have := q.2 e; omega)
    have lhs : toP D (vMul D v w) a b c = gs (mSz D).toNat fun i => gs (mSz D).toNat fun j => if mIx D (i : Int) (j : Int) = mAt D a b c then toF (v i) * toF (w j) else 0 := by
      unfold toP
      rw [if_pos q]
      unfold vMul
      rw [if_pos (by omega)]
      unfold pMul pTo
      rw [toF_mod, toF_sg, fs_gs]
      refine gs_congr fun i _ => ?_
      rw [toF_sg, fs_gs]
      refine gs_congr fun j _ => ?_
      rw [show (0 : Int) + (i : Int) = i by omega, show (0 : Int) + (j : Int) = j by omega]
      by_cases e : mIx D (i : Int) (j : Int) = mAt D a b c
      · rw [if_pos e, if_pos e, toF_mul]
      · rw [if_neg e, if_neg e, toF_zero]
    rw [lhs]
    -- one j for each i
    have one : ∀ i : Nat, i < (mSz D).toNat → (gs (mSz D).toNat fun j => if mIx D (i : Int) (j : Int) = mAt D a b c then toF (v i) * toF (w j) else 0) = if (mE D (i : Int)).1 ≤ a ∧ (mE D (i : Int)).2.1 ≤ b ∧ (mE D (i : Int)).2.2 ≤ c then toP D v (mE D (i : Int)).1 (mE D (i : Int)).2.1 (mE D (i : Int)).2.2 * toP D w (a - (mE D (i : Int)).1) (b - (mE D (i : Int)).2.1) (c - (mE D (i : Int)).2.2) else 0 := by
      intro i hi
      have i1 : (i : Int) < mSz D := by omega
      obtain ⟨x1, x2, x3, x4, x5, x6⟩ := mE_at hD (k := (i : Int)) (by omega) i1
      have nz : ∀ j : Nat, j < (mSz D).toNat → toF (v i) * toF (w j) ≠ 0 → mDg D (i : Int) + mDg D (j : Int) ≤ 15 := by
        intro j hj hne
        have j1 : (j : Int) < mSz D := by omega
        apply Classical.byContradiction
        intro y
        apply hne
        by_cases d1 : mDeg D v 0 < mDg D (i : Int)
        · have := mDeg_z hD (f := v) (x := 0) (by omega) i1 d1
          rw [show (0 : Int) + (i : Int) = i by omega] at this
          rw [this, toF_zero]
          exact gs_z1 _
        · have := mDeg_z hD (f := w) (x := 0) (k := (j : Int)) (by omega) j1 (by omega)
          rw [show (0 : Int) + (j : Int) = j by omega] at this
          rw [this, toF_zero]
          exact gs_z3 _
      have ex : ∀ j : Nat, j < (mSz D).toNat → mDg D (i : Int) + mDg D (j : Int) ≤ 15 → mIx D (i : Int) (j : Int) = mAt D a b c → mEa D i + mEa D j = a ∧ mEb D i + mEb D j = b ∧ mEc D i + mEc D j = c := by
        intro j hj hd he
        have j1 : (j : Int) < mSz D := by omega
        obtain ⟨y1, y2, y3, y4, y5⟩ := mIx_E hD (i := (i : Int)) (j := (j : Int)) (by omega) i1 (by omega) j1 (by omega)
        rw [he] at y1 y2 y3
        omega
      simp only [mEa, mEb, mEc] at ex x1 x2 x3 x4 x5 x6
      by_cases le : (mE D (i : Int)).1 ≤ a ∧ (mE D (i : Int)).2.1 ≤ b ∧ (mE D (i : Int)).2.2 ≤ c
      · rw [if_pos le]
        obtain ⟨n1, n2, n3, n4, n5⟩ := mAt_E hD (a := ((a - (mE D (i : Int)).1 : Nat) : Int)) (b := ((b - (mE D (i : Int)).2.1 : Nat) : Int)) (c := ((c - (mE D (i : Int)).2.2 : Nat) : Int)) (by omega) (by omega) (by omega) (by omega) (fun e => by have := q.2 e; omega)
        generalize hj0 : mAt D ((a - (mE D (i : Int)).1 : Nat) : Int) ((b - (mE D (i : Int)).2.1 : Nat) : Int) ((c - (mE D (i : Int)).2.2 : Nat) : Int) = j0 at n1 n2 n3 n4 n5
        have ej : ((j0.toNat : Nat) : Int) = j0 := by omega
        have hix : mIx D (i : Int) j0 = mAt D a b c := by
          unfold mIx
          rw [n1, n2, n3]
          unfold mEa mEb mEc
          congr 1 <;> omega
        rw [gs_one (k := j0.toNat) (by omega) (fun j hj he => ?_)]
        · rw [ej, if_pos hix, toP_at hD v (by omega) i1 (by unfold mDg mEa mEb mEc; omega)]
          congr 1
          unfold toP
          rw [if_pos ⟨by omega, fun e => by have := q.2 e; omega⟩, hj0]
        · by_cases e : mIx D (i : Int) (j : Int) = mAt D a b c
          · rw [if_pos e]
            apply Classical.byContradiction
            intro hne
            have hd := nz j hj hne
            obtain ⟨z1, z2, z3⟩ := ex j hj hd e
            have j1 : (j : Int) < mSz D := by omega
            have back := (mE_at hD (k := (j : Int)) (by omega) j1).1
            apply he
            have : (j : Int) = j0 := by
              rw [← hj0, ← back]
              unfold mEa mEb mEc
              congr 1 <;> omega
            omega
          · rw [if_neg e]
      · rw [if_neg le]
        refine gs_zero fun j hj => ?_
        by_cases e : mIx D (i : Int) (j : Int) = mAt D a b c
        · rw [if_pos e]
          apply Classical.byContradiction
          intro hne
          have hd := nz j hj hne
          obtain ⟨z1, z2, z3⟩ := ex j hj hd e
          apply le
          omega
        · rw [if_neg e]
    rw [gs_congr one, ix_sum hD fun a' b' c' => if a' ≤ a ∧ b' ≤ b ∧ c' ≤ c then toP D v a' b' c' * toP D w (a - a') (b - b') (c - c') else 0]
    rw [gs_ext (n := a + 1) (by omega) (fun a' h1 h2 => gs_zero fun b' _ => gs_zero fun c' _ => by
      have : ¬ (a' ≤ a ∧ b' ≤ b ∧ c' ≤ c) := by omega
      rw [if_neg this]
      split <;> rfl)]
    refine gs_congr fun a' ha' => ?_
    rw [gs_ext (n := b + 1) (by omega) (fun b' h1 h2 => gs_zero fun c' _ => by
      have : ¬ (a' ≤ a ∧ b' ≤ b ∧ c' ≤ c) := by omega
      rw [if_neg this]
      split <;> rfl)]
    refine gs_congr fun b' hb' => ?_
    rw [gs_ext (n := c + 1) (by omega) (fun c' h1 h2 => by
      have : ¬ (a' ≤ a ∧ b' ≤ b ∧ c' ≤ c) := by omega
      rw [if_neg this]
      split <;> rfl)]
    refine gs_congr fun c' hc' => ?_
    rw [if_pos (c := a' + b' + c' ≤ 17 ∧ (D = 2 → c' = 0)) ⟨by omega, fun e => by have := q.2 e; omega⟩, if_pos ⟨by omega, by omega, by omega⟩]
  · have lhs : toP D (vMul D v w) a b c = 0 := by unfold toP; rw [if_neg q]
    rw [lhs]
    refine (gs_zero fun i hi => gs_zero fun j hj => gs_zero fun l hl => ?_).symm
    by_cases g : a + b + c ≤ 15
    · have hD2 : D = 2 ∧ c ≠ 0 := by
        apply Classical.byContradiction
        intro y
        apply q
        refine ⟨g, fun e => ?_⟩
        apply Classical.byContradiction
        intro y2
        exact y ⟨e, y2⟩
      by_cases l0 : l = 0
      · have : toP D w (a - i) (b - j) (c - l) = 0 := by
          unfold toP
          rw [if_neg (fun y => by have := y.2 hD2.1; omega)]
        rw [this]
        exact gs_z3 _
      · have : toP D v i j l = 0 := by
          unfold toP
          rw [if_neg (fun y => by have := y.2 hD2.1; omega)]
        rw [this]
        exact gs_z1 _
    · by_cases d1 : mDeg D v 0 < (i : Int) + j + l
      · rw [toP_deg hD d1]
        exact gs_z1 _
      · rw [toP_deg hD (v := w) (a := a - i) (b := b - j) (c := c - l) (by omega)]
        exact gs_z3 _
/-! THE DEGREE'S PART -/
def hom (n : Nat) (P : cP) : Prop := ∀ a b c, a + b + c ≠ n → P a b c = 0
def hc (n : Nat) (P : cP) : cP := fun a b c => if a + b + c = n then P a b c else 0
theorem hom_hc (n : Nat) (P : cP) : hom n (hc n P) := fun a b c h => if_neg h
theorem hc_self {n : Nat} {P : cP} (h : hom n P) : hc n P = P := by
  funext a b c
  unfold hc
  by_cases q : a + b + c = n
  · rw [if_pos q]
  · rw [if_neg q, h a b c q]
theorem hc_mul {m : Nat} {t : cP} (ht : hom m t) (P : cP) (n : Nat) : hc (m + n) (cMul t P) = cMul t (hc n P) := by
  funext a b c
  unfold hc
  rw [cMul_at, cMul_at]
  by_cases q : a + b + c = m + n
  · rw [if_pos q]
    refine gs_congr fun i hi => gs_congr fun j hj => gs_congr fun l hl => ?_
    by_cases e : i + j + l = m
    · rw [if_pos (by omega)]
    · rw [ht i j l e, gs_z1, gs_z1]
  · rw [if_neg q]
    refine (gs_zero fun i hi => gs_zero fun j hj => gs_zero fun l hl => ?_).symm
    by_cases e : i + j + l = m
    · rw [if_neg (by omega), gs_z3]
    · rw [ht i j l e, gs_z1]
theorem hc_low {m : Nat} {t : cP} (ht : hom m t) (P : cP) {n : Nat} (h : n < m) : hc n (cMul t P) = c0 := by
  funext a b c
  unfold hc
  by_cases q : a + b + c = n
  · rw [if_pos q, cMul_at]
    refine gs_zero fun i hi => gs_zero fun j hj => gs_zero fun l hl => ?_
    rw [ht i j l (by omega), gs_z1]
  · rw [if_neg q]
    rfl
theorem hom_mul {m n : Nat} {P Q : cP} (hP : hom m P) (hQ : hom n Q) : hom (m + n) (cMul P Q) := by
  intro a b c h
  rw [cMul_at]
  refine gs_zero fun i hi => gs_zero fun j hj => gs_zero fun l hl => ?_
  by_cases e : i + j + l = m
  · rw [hQ (a - i) (b - j) (c - l) (by omega), gs_z3]
  · rw [hP i j l e, gs_z1]
