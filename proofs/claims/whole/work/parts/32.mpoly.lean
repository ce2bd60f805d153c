/-! SUMS of whole numbers; polynomials of the reference -/
def sg : Nat → (Nat → Int) → Int
  | 0, _ => 0
  | n + 1, f => sg n f + f n
theorem sg_congr {n : Nat} {f g : Nat → Int} (h : ∀ i, i < n → f i = g i) : sg n f = sg n g := by
  induction n with
  | zero => rfl
  | succ n ih => rw [sg, sg, ih (fun i q => h i (by omega)), h n (by omega)]
theorem sg_zero {n : Nat} {f : Nat → Int} (h : ∀ i, i < n → f i = 0) : sg n f = 0 := by
  induction n with
  | zero => rfl
  | succ n ih => rw [sg, ih (fun i q => h i (by omega)), h n (by omega)]; rfl
theorem sg_add (n : Nat) (f g : Nat → Int) : sg n (fun i => f i + g i) = sg n f + sg n g := by
  induction n with
  | zero => rfl
  | succ n ih => rw [sg, sg, sg, ih]; omega
theorem sg_mul (n : Nat) (c : Int) (f : Nat → Int) : sg n (fun i => c * f i) = c * sg n f := by
  induction n with
  | zero => simp [sg]
  | succ n ih => rw [sg, sg, ih, Int.mul_add]
theorem sg_swap (n m : Nat) (f : Nat → Nat → Int) : sg n (fun i => sg m (fun j => f i j)) = sg m (fun j => sg n (fun i => f i j)) := by
  induction n with
  | zero => exact (sg_zero (fun _ _ => rfl)).symm
  | succ n ih =>
    rw [sg, ih, ← sg_add]
    exact sg_congr fun i _ => rfl
theorem sg_ext {n m : Nat} {f : Nat → Int} (h : n ≤ m) (hz : ∀ i, n ≤ i → i < m → f i = 0) : sg m f = sg n f := by
  induction m with
  | zero => rw [show n = 0 by omega]
  | succ m ih =>
    by_cases e : n = m + 1
    · rw [e]
    · rw [sg, ih (by omega) (fun i q r => hz i q (by omega)), hz m (by omega) (by omega)]; omega
theorem sg_nonneg {n : Nat} {f : Nat → Int} (h : ∀ i, i < n → 0 ≤ f i) : 0 ≤ sg n f := by
  induction n with
  | zero => exact Int.le_refl 0
  | succ n ih => have := ih (fun i q => h i (by omega)); have := h n (by omega); rw [sg]; omega
theorem sg_le {n : Nat} {f : Nat → Int} {B : Int} (h : ∀ i, i < n → f i ≤ B) : sg n f ≤ n * B := by
  induction n with
  | zero => simp [sg]
  | succ n ih =>
    have h1 := ih (fun i q => h i (by omega))
    have h2 := h n (by omega)
    rw [sg, show ((n + 1 : Nat) : Int) * B = n * B + B by rw [Int.natCast_add, Int.add_mul]; simp]
    omega
/-- all places of a row hold; facts about the monomials by trying them all -/
def lAll (P : Nat × Nat × Nat → Nat → Bool) : List (Nat × Nat × Nat) → Nat → Bool
  | [], _ => true
  | m :: l, k => P m k && lAll P l (k + 1)
theorem lAll_spec {P : Nat × Nat × Nat → Nat → Bool} : ∀ (l : List (Nat × Nat × Nat)) (k : Nat), lAll P l k = true → ∀ (i : Nat) (m : Nat × Nat × Nat), l[i]? = some m → P m (k + i) = true := by
  intro l
  induction l with
  | nil => intro k _ i m h; simp at h
  | cons x l ih =>
    intro k h i m hm
    simp only [lAll, Bool.and_eq_true] at h
    cases i with
    | zero => simp at hm; subst hm; exact h.1
    | succ i =>
      simp at hm
      have := ih (k + 1) h.2 i m hm
      rw [show k + 1 + i = k + (i + 1) by omega] at this
      exact this
theorem mE_all {D : Int} (hD : D = 2 ∨ D = 3) {P : Nat × Nat × Nat → Nat → Bool} (h : lAll P (mL D.toNat) 0 = true) {k : Nat} (hk : (k : Int) < mSz D) : P (mE D k) k = true := by
  have hl : k < (mL D.toNat).length := by
    rcases hD with rfl | rfl
    · have : (mL (2 : Int).toNat).length = 171 := mL_len2
      have : mSz 2 = 171 := rfl
      omega
    · have : (mL (3 : Int).toNat).length = 1140 := mL_len3
      have : mSz 3 = 1140 := rfl
      omega
  have e := List.getElem?_eq_getElem hl
  have := lAll_spec _ 0 h k _ e
  rw [Nat.zero_add] at this
  unfold mE
  rw [Int.toNat_natCast, e]
  exact this
def mDg (D k : Int) : Int := mEa D k + mEb D k + mEc D k
def mFr (D t : Nat) : Nat := if D = 2 then t * (t + 1) / 2 else t * (t + 1) * (t + 2) / 6
theorem mFrom_nat (D t : Nat) : mFrom D t = (mFr D t : Int) := by
  unfold mFrom mFr
  by_cases h : D = 2
  · rw [if_pos (by omega), if_pos h, Int.natCast_ediv, Int.natCast_mul, Int.natCast_add]; rfl
  · rw [if_neg (by omega), if_neg h, Int.natCast_ediv, Int.natCast_mul, Int.natCast_mul, Int.natCast_add, Int.natCast_add]; rfl
theorem mFr_chk (D : Nat) (hD : D = 2 ∨ D = 3) : lAll (fun m k => decide (mFr D (m.1 + m.2.1 + m.2.2) ≤ k) && decide (k < mFr D (m.1 + m.2.1 + m.2.2 + 1))) (mL D) 0 = true := by
  rcases hD with rfl | rfl
  · decide +kernel
  · decide +kernel
theorem mDg_from {D : Int} (hD : D = 2 ∨ D = 3) {k : Int} (h0 : 0 ≤ k) (h1 : k < mSz D) : 0 ≤ mDg D k ∧ mDg D k ≤ 17 ∧ mFrom D (mDg D k) ≤ k ∧ k < mFrom D (mDg D k + 1) := by
  obtain ⟨n, rfl⟩ := Int.eq_ofNat_of_zero_le h0
  obtain ⟨x1, x2, x3, x4, x5, x6⟩ := mE_at hD h0 h1
  have hDn : ∃ E : Nat, D = E ∧ (E = 2 ∨ E = 3) := hD.elim (fun q => ⟨2, q, Or.inl rfl⟩) (fun q => ⟨3, q, Or.inr rfl⟩)
  obtain ⟨E, rfl, hE⟩ := hDn
  have := mE_all hD (P := fun m k => decide (mFr E (m.1 + m.2.1 + m.2.2) ≤ k) && decide (k < mFr E (m.1 + m.2.1 + m.2.2 + 1))) (mFr_chk E hE) h1
  simp only [Bool.and_eq_true, decide_eq_true_eq] at this
  have e : mDg E n = (((mE (E : Int) (n : Int)).1 + (mE (E : Int) (n : Int)).2.1 + (mE (E : Int) (n : Int)).2.2 : Nat) : Int) := by unfold mDg mEa mEb mEc; omega
  refine ⟨by rw [e]; omega, by unfold mDg; omega, ?_, ?_⟩
  · rw [e, mFrom_nat]; omega
  · rw [e, show (((mE (E : Int) (n : Int)).1 + (mE (E : Int) (n : Int)).2.1 + (mE (E : Int) (n : Int)).2.2 : Nat) : Int) + 1 = (((mE (E : Int) (n : Int)).1 + (mE (E : Int) (n : Int)).2.1 + (mE (E : Int) (n : Int)).2.2 + 1 : Nat) : Int) by omega, mFrom_nat]; omega
theorem mFrom_mono (D : Int) {s t : Int} (h0 : 0 ≤ s) (h : s ≤ t) : mFrom D s ≤ mFrom D t := by
  have h1 : s * (s + 1) ≤ t * (t + 1) := Int.mul_le_mul h (by omega) (by omega) (by omega)
  have h2 : s * (s + 1) * (s + 2) ≤ t * (t + 1) * (t + 2) := Int.mul_le_mul h1 (by omega) (by omega) (Int.mul_nonneg (by omega) (by omega))
  unfold mFrom
  split <;> omega
theorem mDg_mono {D : Int} (hD : D = 2 ∨ D = 3) {k k' : Int} (h0 : 0 ≤ k) (h : k ≤ k') (h1 : k' < mSz D) : mDg D k ≤ mDg D k' := by
  have x := mDg_from hD h0 (by omega)
  have y := mDg_from hD (show 0 ≤ k' by omega) h1
  rcases Int.lt_or_le (mDg D k') (mDg D k) with q | q
  · have := mFrom_mono D (s := mDg D k' + 1) (t := mDg D k) (by omega) (by omega)
    omega
  · exact q
/-- below mFrom (t+1) just when its degree is at most t -/
theorem mDg_lt {D : Int} (hD : D = 2 ∨ D = 3) {k t : Int} (h0 : 0 ≤ k) (h1 : k < mSz D) (ht : 0 ≤ t) : k < mFrom D (t + 1) ↔ mDg D k ≤ t := by
  have x := mDg_from hD h0 h1
  constructor
  · intro q
    rcases Int.lt_or_le t (mDg D k) with r | r
    · have := mFrom_mono D (s := t + 1) (t := mDg D k) (by omega) (by omega)
      omega
    · exact r
  · intro q
    have := mFrom_mono D (s := mDg D k + 1) (t := t + 1) (by omega) (by omega)
    omega
theorem mDg_ge {D : Int} (hD : D = 2 ∨ D = 3) {k t : Int} (h0 : 0 ≤ k) (h1 : k < mSz D) (ht : 0 ≤ t) : mFrom D t ≤ k ↔ t ≤ mDg D k := by
  have x := mDg_from hD h0 h1
  constructor
  · intro q
    rcases Int.lt_or_le (mDg D k) t with r | r
    · have := mFrom_mono D (s := mDg D k + 1) (t := t) (by omega) (by omega)
      omega
    · exact r
  · intro q
    have := mFrom_mono D (s := t) (t := mDg D k) (by omega) (by omega)
    omega
/-- the last place but the first that is not nothing -/
def lastNZ (f : Int → Int) (x : Int) : Nat → Nat
  | 0 => 0
  | n + 1 => if f (x + n) ≠ 0 then n else lastNZ f x n
theorem lastNZ_le (f : Int → Int) (x : Int) (n : Nat) : lastNZ f x n ≤ n - 1 := by
  induction n with
  | zero => exact Nat.le_refl 0
  | succ n ih => unfold lastNZ; split <;> omega
theorem lastNZ_z (f : Int → Int) (x : Int) (n : Nat) : ∀ k : Nat, lastNZ f x n < k → k < n → f (x + k) = 0 := by
  induction n with
  | zero => intro k _ h; omega
  | succ n ih =>
    intro k h1 h2
    unfold lastNZ at h1
    by_cases h : f (x + n) ≠ 0
    · rw [if_pos h] at h1; omega
    · rw [if_neg h] at h1
      by_cases e : k = n
      · subst e; exact Classical.not_not.mp h
      · exact ih k h1 (by omega)
theorem lastNZ_nz (f : Int → Int) (x : Int) (n : Nat) : lastNZ f x n ≠ 0 → f (x + lastNZ f x n) ≠ 0 := by
  induction n with
  | zero => intro h; exact absurd rfl h
  | succ n ih =>
    unfold lastNZ
    by_cases h : f (x + n) ≠ 0
    · rw [if_pos h]; intro _; exact h
    · rw [if_neg h]; exact ih
def mDeg (D : Int) (f : Int → Int) (x : Int) : Int := mDg D (lastNZ f x (mSz D).toNat)
theorem mSz_bd (D : Int) : 171 ≤ mSz D ∧ mSz D ≤ 1140 := by unfold mSz; split <;> omega
theorem mDeg_bd {D : Int} (hD : D = 2 ∨ D = 3) (f : Int → Int) (x : Int) : 0 ≤ mDeg D f x ∧ mDeg D f x ≤ 17 := by
  have h := lastNZ_le f x (mSz D).toNat
  have hs := mSz_bd D
  have := mDg_from hD (k := lastNZ f x (mSz D).toNat) (by omega) (by omega)
  exact ⟨this.1, this.2.1⟩
theorem mDeg_z {D : Int} (hD : D = 2 ∨ D = 3) {f : Int → Int} {x : Int} {k : Int} (h0 : 0 ≤ k) (h1 : k < mSz D) (hk : mDeg D f x < mDg D k) : f (x + k) = 0 := by
  obtain ⟨n, rfl⟩ := Int.eq_ofNat_of_zero_le h0
  refine lastNZ_z f x (mSz D).toNat n ?_ (by omega)
  rcases Nat.lt_or_ge (lastNZ f x (mSz D).toNat) n with q | q
  · exact q
  · have h := lastNZ_le f x (mSz D).toNat
    have hs := mSz_bd D
    have := mDg_mono hD (k := n) (k' := lastNZ f x (mSz D).toNat) (by omega) (by omega) (by omega)
    unfold mDeg at hk
    omega
theorem mDeg_nz {D : Int} (hD : D = 2 ∨ D = 3) {f : Int → Int} {x : Int} (h : mDeg D f x ≠ 0) : ∃ k, 0 ≤ k ∧ k < mSz D ∧ mDg D k = mDeg D f x ∧ f (x + k) ≠ 0 := by
  have hl := lastNZ_le f x (mSz D).toNat
  have hs := mSz_bd D
  refine ⟨lastNZ f x (mSz D).toNat, by omega, by omega, rfl, lastNZ_nz f x _ ?_⟩
  intro e
  apply h
  unfold mDeg
  rw [e]
  have := mDg_from hD (k := 0) (by omega) (by omega)
  have h2 := mFrom_mono D (s := 1) (t := mDg D ((0 : Nat) : Int))
  have h3 : mFrom D 1 = 1 := by unfold mFrom; split <;> rfl
  rcases Int.lt_or_le 0 (mDg D 0) with q | q
  · have := h2 (by omega) (by simp only [Int.natCast_zero]; omega)
    simp only [Int.natCast_zero] at this
    omega
  · have : mDg D 0 = 0 := by omega
    exact this
/-- one row's factors are such as they should -/
def okR (f : Int → Int) : Prop := ∀ j, 0 ≤ f j ∧ f j < 2521
section MP
variable {d : Nat} {z : cm_Z} {I : cm_I}
theorem s_degreeAt (hz : mz z) (hD : mD I) (hm : mMon I) {k : Int} (h0 : 0 ≤ k) (h1 : k < mSz (I 209 1)) : mI (d + 1) m_Model_degreeAt [vR 12 209, vI k] z I fun r I1 => I1 = I ∧ r = mDg (I 209 1) k := by
  have hs := mSz_bd (I 209 1)
  obtain ⟨x1, x2, x3, x4, x5, x6⟩ := mE_at hD h0 h1
  obtain ⟨y1, y2, y3⟩ := hm k h0 h1
  refine mr_degreeAt hz ⟨⟨h0, by omega⟩, ⟨by omega, by omega⟩, ⟨by omega, by omega⟩, qI_mk ⟨rfl, ?_⟩⟩
  rw [y1, y2, y3]
  rfl
theorem s_all (hz : mz z) : mI (d + 2) m_Model_all [vR 12 209] z I fun r I1 => I1 = I ∧ r = mFrom (I 209 1) 16 := by
  refine mr_all hz (mI_mono (s_from hz (by omega) (by omega)) fun v I1 ⟨e1, e2⟩ => ?_)
  subst e1
  exact qI_mk ⟨rfl, e2⟩
theorem s_degree (hz : mz z) (hD : mD I) (hm : mMon I) {a : Nat} (ha : mA a) {x : Int} (h0 : 0 ≤ x) (h1 : x + 1140 ≤ mLen a) (h2 : x ≤ 1000000) : mI (d + 2) m_Model_degree [vR 12 209, vR 20 a, vI x] z I fun r I1 => I1 = I ∧ r = mDeg (I 209 1) (I a) x := by
  refine mr_degree hz (mI_mono (s_from hz (by omega) (by omega)) fun v I1 ⟨e1, e2⟩ => ?_)
  subst e1
  rw [mFrom18] at e2
  have hs := mSz_bd (I1 209 1)
  refine ⟨⟨by omega, by omega⟩, ?_⟩
  have key : ∀ (n : Nat), (n : Int) < mSz (I1 209 1) → mDg (I1 209 1) (lastNZ (I1 a) x (n + 1)) = mDeg (I1 209 1) (I1 a) x → cw (d + 1) cd_Model_degree (qI z fun r I2 => I2 = I1 ∧ r = mDeg (I1 209 1) (I1 a) x) 9 [some (vR 12 209), some (vR 20 a), some (vI x), some (vI (n : Int))] [] (I1, z) := by
    intro n
    induction n with
    | zero =>
      intro hn e
      refine mr_degree_9 hz ha ⟨fun q => qI_mk ⟨rfl, ?_⟩, fun q => absurd q (by omega)⟩
      rw [← e]
      have e0 : lastNZ (I1 a) x (0 + 1) = 0 := by unfold lastNZ; split <;> rfl
      rw [e0]
      rcases hD with q | q <;> rw [q] <;> rfl
    | succ n ih =>
      intro hn e
      refine mr_degree_9 hz ha ⟨fun q => by omega, fun q => ⟨⟨by omega, by omega⟩, ⟨by omega, by omega⟩, fun q2 => ⟨⟨by omega, by omega⟩, ?_⟩, fun q2 => mI_mono (s_degreeAt hz hD hm (by omega) hn) fun v5 I4 ⟨e4, e5⟩ => ?_⟩⟩
      · rw [show ((n + 1 : Nat) : Int) + -1 = (n : Int) by omega]
        refine ih (by omega) ?_
        rw [← e]
        congr 2
        rw [show lastNZ (I1 a) x (n + 1 + 1) = lastNZ (I1 a) x (n + 1) from by rw [lastNZ, if_neg (by rw [q2]; simp)]]
      · subst e4
        refine qI_mk ⟨rfl, ?_⟩
        rw [e5, ← e]
        congr 1
        rw [show lastNZ (I4 a) x (n + 1 + 1) = n + 1 from by rw [lastNZ, if_pos q2]]
  have := key ((mSz (I1 209 1)).toNat - 1) (by omega) (by unfold mDeg; congr 3; omega)
  rw [show (((mSz (I1 209 1)).toNat - 1 : Nat) : Int) = v - 1 by omega] at this
  exact this
theorem s_isNothing (hz : mz z) {a : Nat} (ha : mA a) {x : Int} (h0 : 0 ≤ x) (h1 : x + 1140 ≤ mLen a) (h2 : x ≤ 1000000) : mI (d + 1) m_Model_isNothing [vR 12 209, vR 20 a, vI x] z I fun r I1 => I1 = I ∧ (r = 0 ∨ r = 1) ∧ (r = 1 ↔ ∀ k : Int, 0 ≤ k → k < 1140 → I a (x + k) = 0) := by
  refine mr_isNothing hz ?_
  have key : ∀ (n : Nat) (k b : Int), 0 ≤ k → k + n = 1140 → (b = 0 ∨ b = 1) → (b = 1 ↔ ∀ j : Int, 0 ≤ j → j < k → I a (x + j) = 0) → cw d cd_Model_isNothing (qI z fun r I1 => I1 = I ∧ (r = 0 ∨ r = 1) ∧ (r = 1 ↔ ∀ k : Int, 0 ≤ k → k < 1140 → I a (x + k) = 0)) 5 [some (vR 12 209), some (vR 20 a), some (vI x), some (vI b), some (vI k)] [] (I, z) := by
    intro n
    induction n with
    | zero =>
      intro k b k0 e hb hk
      refine mr_isNothing_5 hz ha ⟨fun q => ⟨hb, qI_mk ⟨rfl, hb, ?_⟩⟩, fun q => by omega⟩
      rw [hk, show k = 1140 by omega]
    | succ n ih =>
      intro k b k0 e hb hk
      refine mr_isNothing_5 hz ha ⟨fun q => by omega, fun q => ⟨fun q2 => ⟨hb, qI_mk ⟨rfl, hb, ?_⟩⟩, fun q2 => ⟨⟨by omega, by omega⟩, ⟨by omega, by omega⟩, fun q3 => ⟨⟨by omega, by omega⟩, ih (k + 1) 0 (by omega) (by omega) (Or.inl rfl) ?_⟩, fun q3 => ⟨⟨by omega, by omega⟩, ih (k + 1) 1 (by omega) (by omega) (Or.inr rfl) ?_⟩⟩⟩⟩
      · refine ⟨fun q => by omega, fun q => ?_⟩
        exact hk.mpr fun j j0 j1 => q j j0 (by omega)
      · exact ⟨fun q => absurd q (by decide), fun q => absurd (q k (by omega) (by omega)) q3⟩
      · refine ⟨fun _ j j0 j1 => ?_, fun _ => rfl⟩
        by_cases ej : j = k
        · rw [ej]; exact q3
        · exact hk.mp (by omega) j j0 (by omega)
  exact key 1140 0 1 (by omega) rfl (Or.inr rfl) ⟨fun _ j j0 j1 => by omega, fun _ => rfl⟩
/-- how many places are not nothing -/
def cntNZ (f : Int → Int) (x : Int) (n : Nat) : Int := sg n fun k => if f (x + k) = 0 then 0 else 1
theorem cntNZ_bd (f : Int → Int) (x : Int) (n : Nat) : 0 ≤ cntNZ f x n ∧ cntNZ f x n ≤ n := by
  refine ⟨sg_nonneg fun i _ => by split <;> omega, ?_⟩
  have := sg_le (n := n) (f := fun k => if f (x + k) = 0 then 0 else 1) (B := 1) (fun i _ => by split <;> omega)
  unfold cntNZ
  omega
theorem s_terms (hz : mz z) {x : Int} (h0 : 0 ≤ x) (h1 : x + 1140 ≤ 6840) : mI (d + 1) m_Model_terms [vR 12 209, vI x] z I fun r I1 => I1 = I ∧ r = cntNZ (I 213) x 1140 := by
  refine mr_terms hz ?_
  have key : ∀ (n : Nat) (k : Nat), k + n = 1140 → cw d cd_Model_terms (qI z fun r I1 => I1 = I ∧ r = cntNZ (I 213) x 1140) 4 [some (vR 12 209), some (vI x), some (vI (cntNZ (I 213) x k)), some (vI k)] [] (I, z) := by
    intro n
    induction n with
    | zero =>
      intro k e
      refine mr_terms_4 hz ⟨fun q => qI_mk ⟨rfl, ?_⟩, fun q => by omega⟩
      rw [show k = 1140 by omega]
    | succ n ih =>
      intro k e
      have hb := cntNZ_bd (I 213) x k
      refine mr_terms_4 hz ⟨fun q => by omega, fun q => ⟨⟨by omega, by omega⟩, ⟨by omega, by omega⟩, fun q3 => ⟨⟨by omega, by omega⟩, ⟨by omega, by omega⟩, ?_⟩, fun q3 => ⟨⟨by omega, by omega⟩, ⟨by omega, by omega⟩, ?_⟩⟩⟩
      · have := ih (k + 1) (by omega)
        rw [show cntNZ (I 213) x (k + 1) = cntNZ (I 213) x k + 1 from by unfold cntNZ; rw [sg, if_neg q3]] at this
        exact this
      · have := ih (k + 1) (by omega)
        rw [show cntNZ (I 213) x (k + 1) = cntNZ (I 213) x k + 0 from by unfold cntNZ; rw [sg, if_pos q3]] at this
        exact this
  exact key 1140 0 (by omega)
end MP
