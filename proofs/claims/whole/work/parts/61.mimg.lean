/-! MOVING: a linear form times a series; what monomials are moved to -/
def lm (l : Nat → cF) (P : cP) : cP := fun a b c => (if a = 0 then 0 else l 0 * P (a - 1) b c) + (if b = 0 then 0 else l 1 * P a (b - 1) c) + (if c = 0 then 0 else l 2 * P a b (c - 1))
def cOne : cP := fun a b c => if a = 0 ∧ b = 0 ∧ c = 0 then 1 else 0
def lpow (l : Nat → cF) : Nat → cP → cP
  | 0, P => P
  | n + 1, P => lm l (lpow l n P)
def mono (A : cMat) (a b c : Nat) : cP := lpow (A 0) a (lpow (A 1) b (lpow (A 2) c cOne))
/-- the factor at a place -/
def atE (D : Int) (P : cP) (k : Int) : cF := P (mE D k).1 (mE D k).2.1 (mE D k).2.2
def monoE (D : Int) (A : cMat) (k : Int) : cP := mono A (mE D k).1 (mE D k).2.1 (mE D k).2.2
def ex (D : Int) (j : Nat) (K : Int) : Int := if j = 0 then mEa D K else if j = 1 then mEb D K else mEc D K
def dl (i j : Nat) : Int := if j = i then 1 else 0
def sr (D : Int) (j : Nat) (K : Int) : Int := mAt D (mEa D K - dl 0 j) (mEb D K - dl 1 j) (mEc D K - dl 2 j)
def up (D : Int) (j : Nat) (m : Int) : Int := mAt D (mEa D m + dl 0 j) (mEb D m + dl 1 j) (mEc D m + dl 2 j)
theorem dl_bd (i j : Nat) : 0 ≤ dl i j ∧ dl i j ≤ 1 := by unfold dl; split <;> omega
theorem dl_sum {j : Nat} (h : j < 3) : dl 0 j + dl 1 j + dl 2 j = 1 := by
  have : j = 0 ∨ j = 1 ∨ j = 2 := by omega
  rcases this with rfl | rfl | rfl <;> rfl
theorem up_ok {D : Int} (hD : D = 2 ∨ D = 3) {j : Nat} (hj : (j : Int) < D) {m : Int} (m0 : 0 ≤ m) (m1 : m < mSz D) (h : mDg D m ≤ 16) : 0 ≤ up D j m ∧ up D j m < mSz D ∧ mEa D (up D j m) = mEa D m + dl 0 j ∧ mEb D (up D j m) = mEb D m + dl 1 j ∧ mEc D (up D j m) = mEc D m + dl 2 j ∧ mDg D (up D j m) = mDg D m + 1 := by
  obtain ⟨e1, e2, e3, e4, e5, e6⟩ := mE_at hD m0 m1
  have d0 := dl_bd 0 j
  have d1 := dl_bd 1 j
  have d2 := dl_bd 2 j
  have ds := dl_sum (j := j) (by omega)
  unfold mDg at h
  obtain ⟨a1, a2, a3, a4, a5⟩ := mAt_E hD (a := mEa D m + dl 0 j) (b := mEb D m + dl 1 j) (c := mEc D m + dl 2 j) (by omega) (by omega) (by omega) (by omega) (fun e => by
    have := e6 e
    have : dl 2 j = 0 := by unfold dl; rw [if_neg (by omega)]
    omega)
  refine ⟨a4, a5, a1, a2, a3, ?_⟩
  unfold mDg up
  rw [a1, a2, a3]
  omega
theorem sr_ok {D : Int} (hD : D = 2 ∨ D = 3) {j : Nat} (hj : j < 3) {K : Int} (k0 : 0 ≤ K) (k1 : K < mSz D) (h : 0 < ex D j K) : 0 ≤ sr D j K ∧ sr D j K < mSz D ∧ mEa D (sr D j K) = mEa D K - dl 0 j ∧ mEb D (sr D j K) = mEb D K - dl 1 j ∧ mEc D (sr D j K) = mEc D K - dl 2 j ∧ mDg D (sr D j K) = mDg D K - 1 ∧ (j : Int) < D := by
  obtain ⟨e1, e2, e3, e4, e5, e6⟩ := mE_at hD k0 k1
  have jj : j = 0 ∨ j = 1 ∨ j = 2 := by omega
  have ds := dl_sum hj
  have x : 0 ≤ mEa D K - dl 0 j ∧ 0 ≤ mEb D K - dl 1 j ∧ 0 ≤ mEc D K - dl 2 j := by
    unfold ex at h
    rcases jj with rfl | rfl | rfl
    · rw [if_pos rfl] at h
      have : dl 0 0 = 1 := rfl
      have : dl 1 0 = 0 := rfl
      have : dl 2 0 = 0 := rfl
      omega
    · rw [if_neg (by decide), if_pos rfl] at h
      have : dl 0 1 = 0 := rfl
      have : dl 1 1 = 1 := rfl
      have : dl 2 1 = 0 := rfl
      omega
    · rw [if_neg (by decide), if_neg (by decide)] at h
      have : dl 0 2 = 0 := rfl
      have : dl 1 2 = 0 := rfl
      have : dl 2 2 = 1 := rfl
      omega
  have hjD : (j : Int) < D := by
    rcases hD with e | e
    · have := e6 e
      rcases jj with rfl | rfl | rfl
      · omega
      · omega
      · unfold ex at h
        rw [if_neg (by decide), if_neg (by decide)] at h
        omega
    · omega
  have d0 := dl_bd 0 j
  have d1 := dl_bd 1 j
  have d2 := dl_bd 2 j
  obtain ⟨a1, a2, a3, a4, a5⟩ := mAt_E hD (a := mEa D K - dl 0 j) (b := mEb D K - dl 1 j) (c := mEc D K - dl 2 j) x.1 x.2.1 x.2.2 (by omega) (fun e => by have := e6 e; omega)
  refine ⟨a4, a5, a1, a2, a3, ?_, hjD⟩
  unfold mDg sr
  rw [a1, a2, a3]
  omega
theorem up_iff {D : Int} (hD : D = 2 ∨ D = 3) {j : Nat} (hj : (j : Int) < D) {m K : Int} (m0 : 0 ≤ m) (m1 : m < mSz D) (h : mDg D m ≤ 16) (k0 : 0 ≤ K) (k1 : K < mSz D) : (0 < ex D j K ∧ sr D j K = m) ↔ K = up D j m := by
  have j3 : j < 3 := by omega
  obtain ⟨u1, u2, u3, u4, u5, u6⟩ := up_ok hD hj m0 m1 h
  have mm := (mE_at hD m0 m1)
  have kk := (mE_at hD k0 k1)
  constructor
  · intro ⟨h1, h2⟩
    obtain ⟨s1, s2, s3, s4, s5, s6, s7⟩ := sr_ok hD j3 k0 k1 h1
    rw [h2] at s3 s4 s5
    have := kk.1
    rw [← this]
    unfold up
    congr 1 <;> omega
  · intro e
    have d0 := dl_bd 0 j
    have d1 := dl_bd 1 j
    have d2 := dl_bd 2 j
    have hx : 0 < ex D j K := by
      have jj : j = 0 ∨ j = 1 ∨ j = 2 := by omega
      rw [e]
      unfold ex
      rcases jj with rfl | rfl | rfl
      · rw [if_pos rfl, u3]
        have : dl 0 0 = 1 := rfl
        omega
      · rw [if_neg (by decide), if_pos rfl, u4]
        have : dl 1 1 = 1 := rfl
        omega
      · rw [if_neg (by decide), if_neg (by decide), u5]
        have : dl 2 2 = 1 := rfl
        omega
    refine ⟨hx, ?_⟩
    rw [e]
    unfold sr
    rw [u3, u4, u5]
    have := mm.1
    conv => rhs; rw [← this]
    congr 1 <;> omega
/-- what has been put so far at K -/
def prt (D : Int) (l : Nat → cF) (G : Int → cF) (m0 j0 K : Int) : cF := gs 3 fun j => if 0 < ex D j K ∧ (sr D j K < m0 ∨ (sr D j K = m0 ∧ (j : Int) < j0)) then l j * G (sr D j K) else 0
theorem prt_begin {D : Int} (hD : D = 2 ∨ D = 3) {l : Nat → cF} {G : Int → cF} {t K : Int} (t0 : 1 ≤ t) (k0 : 0 ≤ K) (k1 : K < mSz D) (hk : mDg D K = t) : prt D l G (mFrom D (t - 1)) 0 K = 0 := by
  unfold prt
  refine gs_zero fun j hj => ?_
  rw [if_neg]
  intro ⟨h1, h2⟩
  obtain ⟨s1, s2, s3, s4, s5, s6, s7⟩ := sr_ok hD hj k0 k1 h1
  have := (mDg_ge hD (t := t - 1) s1 s2 (by omega)).mpr (by omega)
  omega
theorem prt_next {D : Int} (hD : D = 2 ∨ D = 3) {l : Nat → cF} {G : Int → cF} {m0 K : Int} (k0 : 0 ≤ K) (k1 : K < mSz D) {j0 : Int} (hj : D ≤ j0) : prt D l G m0 j0 K = prt D l G (m0 + 1) 0 K := by
  unfold prt
  refine gs_congr fun j hj3 => ?_
  by_cases hx : 0 < ex D j K
  · obtain ⟨s1, s2, s3, s4, s5, s6, s7⟩ := sr_ok hD hj3 k0 k1 hx
    by_cases h : sr D j K < m0 + 1
    · rw [if_pos ⟨hx, by omega⟩, if_pos ⟨hx, Or.inl h⟩]
    · rw [if_neg (fun y => by have := y.2; omega), if_neg (fun y => by have := y.2; omega)]
  · rw [if_neg (fun y => hx y.1), if_neg (fun y => hx y.1)]
theorem prt_skip {D : Int} {l : Nat → cF} {G : Int → cF} {m0 K j0 : Int} (hG : G m0 = 0) : prt D l G m0 j0 K = prt D l G (m0 + 1) 0 K := by
  unfold prt
  refine gs_congr fun j hj3 => ?_
  by_cases hx : 0 < ex D j K
  · by_cases h : sr D j K < m0
    · rw [if_pos ⟨hx, Or.inl h⟩, if_pos ⟨hx, Or.inl (by omega)⟩]
    · by_cases e : sr D j K = m0
      · rw [if_pos (c := 0 < ex D j K ∧ (sr D j K < m0 + 1 ∨ _)) ⟨hx, Or.inl (by omega)⟩, e, hG, gs_z3]
        split <;> rfl
      · rw [if_neg (fun y => by have := y.2; omega), if_neg (fun y => by have := y.2; omega)]
  · rw [if_neg (fun y => hx y.1), if_neg (fun y => hx y.1)]
theorem prt_step {D : Int} (hD : D = 2 ∨ D = 3) {l : Nat → cF} {G : Int → cF} {m0 K : Int} (m00 : 0 ≤ m0) (m1 : m0 < mSz D) (hm : mDg D m0 ≤ 16) (k0 : 0 ≤ K) (k1 : K < mSz D) {j0 : Nat} (hj : (j0 : Int) < D) : prt D l G m0 ((j0 : Int) + 1) K = prt D l G m0 j0 K + (if K = up D j0 m0 then l j0 * G m0 else 0) := by
  have j3 : j0 < 3 := by omega
  have iff := up_iff hD hj m00 m1 hm k0 k1
  have e : (if K = up D j0 m0 then l j0 * G m0 else 0) = gs 3 fun j => if j = j0 then (if K = up D j0 m0 then l j0 * G m0 else 0) else 0 := by
    rw [gs_one (k := j0) j3 (fun i hi he => if_neg he)]
    show _ = if j0 = j0 then _ else _
    rw [if_pos rfl]
  rw [e]
  unfold prt
  rw [← gs_add]
  refine gs_congr fun j hj3 => ?_
  by_cases ej : j = j0
  · rw [if_pos ej, ej]
    by_cases c : K = up D j0 m0
    · obtain ⟨h1, h2⟩ := iff.mpr c
      rw [if_pos c, if_pos ⟨h1, Or.inr ⟨h2, by omega⟩⟩, if_neg (fun y => by have := y.2; omega), h2]
      exact (Lean.Grind.AddCommMonoid.zero_add _).symm
    · rw [if_neg c]
      have z : ∀ x : cF, x = x + 0 := fun x => (Lean.Grind.Semiring.add_zero x).symm
      by_cases hx : 0 < ex D j0 K
      · have ne : sr D j0 K ≠ m0 := fun q => c (iff.mp ⟨hx, q⟩)
        by_cases h : sr D j0 K < m0
        · rw [if_pos ⟨hx, Or.inl h⟩, if_pos ⟨hx, Or.inl h⟩]; exact z _
        · rw [if_neg (fun y => by have := y.2; omega), if_neg (fun y => by have := y.2; omega)]; exact z _
      · rw [if_neg (fun y => hx y.1), if_neg (fun y => hx y.1)]; exact z _
  · rw [if_neg ej]
    have z : ∀ x : cF, x = x + 0 := fun x => (Lean.Grind.Semiring.add_zero x).symm
    by_cases h : 0 < ex D j K ∧ (sr D j K < m0 ∨ (sr D j K = m0 ∧ (j : Int) < j0))
    · rw [if_pos h, if_pos (by omega)]; exact z _
    · rw [if_neg h, if_neg (by omega)]; exact z _
theorem prt_end {D : Int} (hD : D = 2 ∨ D = 3) {l : Nat → cF} {G : Int → cF} {P : cP} {t K : Int} (t0 : 1 ≤ t) (k0 : 0 ≤ K) (k1 : K < mSz D) (hk : mDg D K = t) (hG : ∀ m, mFrom D (t - 1) ≤ m → m < mFrom D t → G m = atE D P m) : prt D l G (mFrom D t) 0 K = atE D (lm l P) K := by
  have term : ∀ j : Nat, j < 3 → (if 0 < ex D j K ∧ (sr D j K < mFrom D t ∨ (sr D j K = mFrom D t ∧ (j : Int) < 0)) then l j * G (sr D j K) else 0) = if 0 < ex D j K then l j * P ((mE D K).1 - (dl 0 j).toNat) ((mE D K).2.1 - (dl 1 j).toNat) ((mE D K).2.2 - (dl 2 j).toNat) else 0 := by
    intro j hj
    by_cases hx : 0 < ex D j K
    · obtain ⟨s1, s2, s3, s4, s5, s6, s7⟩ := sr_ok hD hj k0 k1 hx
      have lt := (mDg_lt hD (t := t - 1) s1 s2 (by omega)).mpr (by omega)
      have ge := (mDg_ge hD (t := t - 1) s1 s2 (by omega)).mpr (by omega)
      rw [show t - 1 + 1 = t by omega] at lt
      rw [if_pos ⟨hx, Or.inl lt⟩, if_pos hx, hG _ ge lt]
      have d0 := dl_bd 0 j
      have d1 := dl_bd 1 j
      have d2 := dl_bd 2 j
      unfold mEa at s3
      unfold mEb at s4
      unfold mEc at s5
      unfold atE
      rw [show (mE D (sr D j K)).1 = (mE D K).1 - (dl 0 j).toNat by omega, show (mE D (sr D j K)).2.1 = (mE D K).2.1 - (dl 1 j).toNat by omega, show (mE D (sr D j K)).2.2 = (mE D K).2.2 - (dl 2 j).toNat by omega]
    · rw [if_neg (fun y => hx y.1), if_neg hx]
  unfold prt
  rw [gs_congr term]
  have ifs : ∀ (n : Nat) (x y : cF), x = y → (if 0 < (n : Int) then x else 0) = if n = 0 then 0 else y := by
    intro n x y e
    by_cases h : n = 0
    · rw [if_pos h, if_neg (by omega)]
    · rw [if_neg h, if_pos (by omega), e]
  show (0 : cF) + _ + _ + _ = _
  rw [Lean.Grind.AddCommMonoid.zero_add]
  show (if 0 < ((mE D K).1 : Int) then _ else 0) + (if 0 < ((mE D K).2.1 : Int) then _ else 0) + (if 0 < ((mE D K).2.2 : Int) then _ else 0) = _
  unfold atE lm
  rw [ifs _ _ _ rfl, ifs _ _ _ rfl, ifs _ _ _ rfl]
  rfl
