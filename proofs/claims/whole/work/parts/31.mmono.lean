/-! MONOMIALS: the order of the rows -/
def mL (D : Nat) : List (Nat × Nat × Nat) := (List.range 18).flatMap fun t => (List.range (t + 1)).flatMap fun s => if D = 2 then [(t - s, s, 0)] else (List.range (s + 1)).map fun c => (t - s, s - c, c)
def mChk (D : Nat) : List (Nat × Nat × Nat) → Nat → Bool
  | [], _ => true
  | m :: l, k => decide (mAt (D : Int) (m.1 : Int) (m.2.1 : Int) (m.2.2 : Int) = (k : Int)) && (decide (m.1 + m.2.1 + m.2.2 ≤ 17) && (decide (D = 2 → m.2.2 = 0) && mChk D l (k + 1)))
theorem mChk_spec (D : Nat) : ∀ (l : List (Nat × Nat × Nat)) (k : Nat), mChk D l k = true → ∀ (i : Nat) (m : Nat × Nat × Nat), l[i]? = some m → mAt (D : Int) (m.1 : Int) (m.2.1 : Int) (m.2.2 : Int) = ((k + i : Nat) : Int) ∧ m.1 + m.2.1 + m.2.2 ≤ 17 ∧ (D = 2 → m.2.2 = 0) := by
  intro l
  induction l with
  | nil => intro k _ i m h; simp at h
  | cons x l ih =>
    intro k h i m hm
    simp only [mChk, Bool.and_eq_true, decide_eq_true_eq] at h
    cases i with
    | zero =>
      simp at hm
      subst hm
      exact ⟨h.1, h.2.1, h.2.2.1⟩
    | succ i =>
      simp at hm
      have := ih (k + 1) h.2.2.2 i m hm
      refine ⟨?_, this.2⟩
      rw [this.1]
      congr 1
      omega
theorem mChk2 : mChk 2 (mL 2) 0 = true := by decide +kernel
theorem mChk3 : mChk 3 (mL 3) 0 = true := by decide +kernel
theorem mL_len2 : (mL 2).length = 171 := by decide +kernel
theorem mL_len3 : (mL 3).length = 1140 := by decide +kernel
theorem mL_mem2 {a b c : Nat} (h : a + b + c ≤ 17) (hc : c = 0) : (a, b, c) ∈ mL 2 := by
  subst hc
  unfold mL
  rw [List.mem_flatMap]
  refine ⟨a + b, List.mem_range.mpr (by omega), ?_⟩
  rw [List.mem_flatMap]
  refine ⟨b, List.mem_range.mpr (by omega), ?_⟩
  simp
theorem mL_mem3 {a b c : Nat} (h : a + b + c ≤ 17) : (a, b, c) ∈ mL 3 := by
  unfold mL
  rw [List.mem_flatMap]
  refine ⟨a + b + c, List.mem_range.mpr (by omega), ?_⟩
  rw [List.mem_flatMap]
  refine ⟨b + c, List.mem_range.mpr (by omega), ?_⟩
  rw [if_neg (by omega), List.mem_map]
  refine ⟨c, List.mem_range.mpr (by omega), ?_⟩
  rw [show a + b + c - (b + c) = a by omega, show b + c - c = b by omega]
def mE (D k : Int) : Nat × Nat × Nat := ((mL D.toNat)[k.toNat]?).getD (0, 0, 0)
def mEa (D k : Int) : Int := ((mE D k).1 : Int)
def mEb (D k : Int) : Int := ((mE D k).2.1 : Int)
def mEc (D k : Int) : Int := ((mE D k).2.2 : Int)
def mSz (D : Int) : Int := if D = 2 then 171 else 1140
theorem mFrom18 {D : Int} : mFrom D 18 = mSz D := by
  unfold mFrom mSz
  split <;> rfl
theorem mE_at {D : Int} (hD : D = 2 ∨ D = 3) {k : Int} (h0 : 0 ≤ k) (h1 : k < mSz D) : mAt D (mEa D k) (mEb D k) (mEc D k) = k ∧ 0 ≤ mEa D k ∧ 0 ≤ mEb D k ∧ 0 ≤ mEc D k ∧ mEa D k + mEb D k + mEc D k ≤ 17 ∧ (D = 2 → mEc D k = 0) := by
  obtain ⟨n, rfl⟩ := Int.eq_ofNat_of_zero_le h0
  have key : ∀ (E : Nat), mChk E (mL E) 0 = true → n < (mL E).length → mAt (E : Int) (mEa E n) (mEb E n) (mEc E n) = n ∧ 0 ≤ mEa E n ∧ 0 ≤ mEb E n ∧ 0 ≤ mEc E n ∧ mEa E n + mEb E n + mEc E n ≤ 17 ∧ ((E : Int) = 2 → mEc E n = 0) := by
    intro E hE hn
    have e : (mL E)[n]? = some (mL E)[n] := List.getElem?_eq_getElem hn
    have hs := mChk_spec E (mL E) 0 hE n _ e
    have e2 : mE (E : Int) (n : Int) = (mL E)[n] := by
      unfold mE
      rw [Int.toNat_natCast, Int.toNat_natCast, e]
      rfl
    unfold mEa mEb mEc
    rw [e2]
    refine ⟨by rw [hs.1]; congr 1; omega, by omega, by omega, by omega, by omega, fun q => ?_⟩
    have := hs.2.2 (by omega)
    omega
  rcases hD with rfl | rfl
  · refine key 2 mChk2 ?_
    rw [mL_len2]
    have : mSz 2 = 171 := rfl
    omega
  · refine key 3 mChk3 ?_
    rw [mL_len3]
    have : mSz 3 = 1140 := rfl
    omega
theorem mAt_E {D : Int} (hD : D = 2 ∨ D = 3) {a b c : Int} (ha : 0 ≤ a) (hb : 0 ≤ b) (hc : 0 ≤ c) (h : a + b + c ≤ 17) (h2 : D = 2 → c = 0) : mEa D (mAt D a b c) = a ∧ mEb D (mAt D a b c) = b ∧ mEc D (mAt D a b c) = c ∧ 0 ≤ mAt D a b c ∧ mAt D a b c < mSz D := by
  obtain ⟨a, rfl⟩ := Int.eq_ofNat_of_zero_le ha
  obtain ⟨b, rfl⟩ := Int.eq_ofNat_of_zero_le hb
  obtain ⟨c, rfl⟩ := Int.eq_ofNat_of_zero_le hc
  have key : ∀ (E : Nat), mChk E (mL E) 0 = true → (a, b, c) ∈ mL E → mEa E (mAt E a b c) = a ∧ mEb E (mAt E a b c) = b ∧ mEc E (mAt E a b c) = c ∧ 0 ≤ mAt (E : Int) a b c ∧ mAt (E : Int) a b c < (mL E).length := by
    intro E hE hm
    obtain ⟨i, e⟩ := List.mem_iff_getElem?.mp hm
    have hs := mChk_spec E (mL E) 0 hE i _ e
    have e1 : mAt (E : Int) (a : Int) (b : Int) (c : Int) = (i : Int) := by
      rw [hs.1]
      congr 1
      omega
    rw [e1]
    have e2 : mE (E : Int) (i : Int) = (a, b, c) := by
      unfold mE
      rw [Int.toNat_natCast, Int.toNat_natCast, e]
      rfl
    unfold mEa mEb mEc
    rw [e2]
    refine ⟨rfl, rfl, rfl, by omega, ?_⟩
    have := (List.getElem?_eq_some_iff.mp e).1
    omega
  rcases hD with rfl | rfl
  · have := key 2 mChk2 (mL_mem2 (by omega) (by have := h2 rfl; omega))
    rw [mL_len2] at this
    exact this
  · have := key 3 mChk3 (mL_mem3 (by omega))
    rw [mL_len3] at this
    exact this
theorem mAt_inj {D : Int} (hD : D = 2 ∨ D = 3) {a b c a' b' c' : Int} (ha : 0 ≤ a) (hb : 0 ≤ b) (hc : 0 ≤ c) (h : a + b + c ≤ 17) (h2 : D = 2 → c = 0) (ha' : 0 ≤ a') (hb' : 0 ≤ b') (hc' : 0 ≤ c') (h' : a' + b' + c' ≤ 17) (h2' : D = 2 → c' = 0) (e : mAt D a b c = mAt D a' b' c') : a = a' ∧ b = b' ∧ c = c' := by
  have x := mAt_E hD ha hb hc h h2
  have y := mAt_E hD ha' hb' hc' h' h2'
  rw [e] at x
  exact ⟨x.1.symm.trans y.1, x.2.1.symm.trans y.2.1, x.2.2.1.symm.trans y.2.2.1⟩
/-- the monomials lie as they should -/
def mMon (I : cm_I) : Prop := ∀ k : Int, 0 ≤ k → k < mSz (I 209 1) → I 210 k = mEa (I 209 1) k ∧ I 211 k = mEb (I 209 1) k ∧ I 212 k = mEc (I 209 1) k
def mD (I : cm_I) : Prop := I 209 1 = 2 ∨ I 209 1 = 3
def iw3 (I : cm_I) (f g h : Int → Int) : cm_I := iw (iw (iw I 210 f) 211 g) 212 h
theorem iw3_209 (I : cm_I) (f g h : Int → Int) : iw3 I f g h 209 = I 209 := by
  unfold iw3
  rw [iw_ne _ _ (by decide), iw_ne _ _ (by decide), iw_ne _ _ (by decide)]
theorem iw3_up (I : cm_I) (f g h : Int → Int) (k x y w : Int) : iu (iu (iu (iw3 I f g h) 210 k x) 211 k y) 212 k w = iw3 I (fun j => if j = k then x else f j) (fun j => if j = k then y else g j) (fun j => if j = k then w else h j) := by
  unfold iw3 iu iw
  funext b
  by_cases h1 : b = 212
  · subst h1; simp
  · by_cases h2 : b = 211
    · subst h2; simp
    · by_cases h3 : b = 210
      · subst h3; simp
      · simp [h1, h2, h3]
section MM
variable {d : Nat} {z : cm_Z} {I : cm_I}
/-- what is laid up to a place -/
def mLaid (I I0 : cm_I) (t a b : Int) : Prop := ∃ f g h, I0 = iw3 I f g h ∧ ∀ a' b' c' : Int, 0 ≤ a' → 0 ≤ b' → 0 ≤ c' → a' + b' + c' ≤ 17 → (I 209 1 = 2 → c' = 0) → (a' + b' + c' < t ∨ (a' + b' + c' = t ∧ (a < a' ∨ (a' = a ∧ b < b')))) → f (mAt (I 209 1) a' b' c') = a' ∧ g (mAt (I 209 1) a' b' c') = b' ∧ h (mAt (I 209 1) a' b' c') = c'
theorem mLaid_mono {I I0 : cm_I} {t a b t' a' b' : Int} (h : mLaid I I0 t a b) (hh : ∀ x y w : Int, 0 ≤ x → 0 ≤ y → 0 ≤ w → (I 209 1 = 2 → w = 0) → (x + y + w < t' ∨ (x + y + w = t' ∧ (a' < x ∨ (x = a' ∧ b' < y)))) → (x + y + w < t ∨ (x + y + w = t ∧ (a < x ∨ (x = a ∧ b < y))))) : mLaid I I0 t' a' b' := by
  obtain ⟨f, g, k, e, q⟩ := h
  exact ⟨f, g, k, e, fun x y w h1 h2 h3 h4 h5 h6 => q x y w h1 h2 h3 h4 h5 (hh x y w h1 h2 h3 h5 h6)⟩
theorem s_laysMonomials (hz : mz z) (hD : mD I) : mU (d + 3) m_Model_laysMonomials [vR 12 209] z I fun I1 => (∃ f g h, I1 = iw3 I f g h) ∧ mMon I1 := by
  refine mr_laysMonomials hz ?_
  have fin : ∀ I0, mLaid I I0 18 18 0 → (∃ f g h, I0 = iw3 I f g h) ∧ mMon I0 := by
    intro I0 ⟨f, g, h, e, q⟩
    refine ⟨⟨f, g, h, e⟩, ?_⟩
    have e9 : I0 209 = I 209 := by rw [e, iw3_209]
    intro k k0 k1
    rw [e9] at k1 ⊢
    obtain ⟨x1, x2, x3, x4, x5, x6⟩ := mE_at hD k0 k1
    have := q _ _ _ x2 x3 x4 x5 x6 (Or.inl (by omega))
    rw [x1] at this
    rw [e]
    unfold iw3
    rw [iw_at, iw_ne _ _ (show (211 : Nat) ≠ 212 by decide), iw_at, iw_ne _ _ (show (210 : Nat) ≠ 212 by decide), iw_ne _ _ (show (210 : Nat) ≠ 211 by decide), iw_at]
    exact this
  have k18 : ∀ (m : Nat) (t a b lo : Int) (I0 : cm_I) (z4 : Option cm_V), 0 ≤ t → t ≤ 17 → 0 ≤ a → a ≤ t → lo = (if I 209 1 = 2 then t - a else 0) → b ≤ t - a → b + 1 = lo + m → mLaid I I0 t a b → (∀ (I1 : cm_I) (z3 z4' : Option cm_V), mLaid I I1 t (a - 1) (t - a + 1) → cw (d + 2) cd_Model_laysMonomials (qU z fun I1 => (∃ f g h, I1 = iw3 I f g h) ∧ mMon I1) 10 [some (vR 12 209), some (vI t), some (vI (a + (-1))), z3, z4'] [] (I1, z)) → cw (d + 2) cd_Model_laysMonomials (qU z fun I1 => (∃ f g h, I1 = iw3 I f g h) ∧ mMon I1) 18 [some (vR 12 209), some (vI t), some (vI a), some (vI b), z4] [] (I0, z) := by
    intro m
    induction m with
    | zero =>
      intro t a b lo I0 z4 t0 t1 a0 a1 elo b1 eb hl nxt
      have e9 : I0 209 = I 209 := by obtain ⟨f, g, h, e, q⟩ := hl; rw [e, iw3_209]
      have hl' : mLaid I I0 t (a - 1) (t - a + 1) := mLaid_mono hl (by
        intro x y w h1 h2 h3 h4 h5
        by_cases hc : I 209 1 = 2
        · have := h4 hc; rw [if_pos hc] at elo; omega
        · rw [if_neg hc] at elo; omega)
      have h34 : ∀ s0 : Int, s0 = lo → cw (d + 2) cd_Model_laysMonomials (qU z fun I1 => (∃ f g h, I1 = iw3 I f g h) ∧ mMon I1) 34 [some (vR 12 209), some (vI t), some (vI a), some (vI b), z4] [vI s0, vI b] (I0, z) := fun s0 es => mr_laysMonomials_34 hz ⟨fun q => ⟨⟨by omega, by omega⟩, nxt I0 _ _ hl'⟩, fun q => by omega⟩
      refine mr_laysMonomials_18 hz ⟨fun q => h34 0 ?_, fun q => ⟨⟨by omega, by omega⟩, h34 (t - a) ?_⟩⟩
      · rw [e9] at q; rw [if_neg q] at elo; omega
      · rw [e9] at q; rw [if_pos q] at elo; omega
    | succ m ih =>
      intro t a b lo I0 z4 t0 t1 a0 a1 elo b1 eb hl nxt
      have e9 : I0 209 = I 209 := by obtain ⟨f, g, h, e, q⟩ := hl; rw [e, iw3_209]
      have lo0 : 0 ≤ lo := by rw [elo]; split <;> omega
      have hc0 : I 209 1 = 2 → t - a - b = 0 := by intro q; rw [if_pos q] at elo; omega
      have h34 : ∀ s0 : Int, s0 = lo → cw (d + 2) cd_Model_laysMonomials (qU z fun I1 => (∃ f g h, I1 = iw3 I f g h) ∧ mMon I1) 34 [some (vR 12 209), some (vI t), some (vI a), some (vI b), z4] [vI s0, vI b] (I0, z) := by
        intro s0 es
        refine mr_laysMonomials_34 hz ⟨fun q => by omega, fun q => ⟨⟨by omega, by omega⟩, ⟨by omega, by omega⟩, mI_mono (s_at hz a0 (by omega) (by omega) (by omega)) fun v5 I4 ⟨e4, e5⟩ => ?_⟩⟩
        subst e4
        rw [e9] at e5
        have hb := mAt_E hD a0 (show 0 ≤ b by omega) (show 0 ≤ t - a - b by omega) (by omega) hc0
        rw [← e5] at hb
        have hsz : mSz (I 209 1) ≤ 1140 := by unfold mSz; split <;> omega
        refine ⟨⟨by omega, by omega⟩, fun I7 e7 I8 e8 I9' e9' => ⟨⟨by omega, by omega⟩, ih t a (b + (-1)) lo I9' _ t0 t1 a0 a1 elo (by omega) (by omega) ?_ nxt⟩⟩
        obtain ⟨f, g, h, e, q'⟩ := hl
        refine ⟨_, _, _, by rw [e9', e8, e7, e]; exact iw3_up I f g h v5 a b (t - a - b), ?_⟩
        intro x y w h1 h2 h3 h4 h5 h6
        by_cases hx : x = a ∧ y = b ∧ w = t - a - b
        · obtain ⟨rfl, rfl, hw⟩ := hx
          rw [hw, ← e5, if_pos rfl, if_pos rfl, if_pos rfl]
          exact ⟨rfl, rfl, rfl⟩
        · have hne : mAt (I 209 1) x y w ≠ v5 := by
            intro e0
            rw [e5] at e0
            exact hx (mAt_inj hD h1 h2 h3 h4 h5 a0 (by omega) (by omega) (by omega) hc0 e0)
          rw [if_neg hne, if_neg hne, if_neg hne]
          exact q' x y w h1 h2 h3 h4 h5 (by omega)
      refine mr_laysMonomials_18 hz ⟨fun q => h34 0 ?_, fun q => ⟨⟨by omega, by omega⟩, h34 (t - a) ?_⟩⟩
      · rw [e9] at q; rw [if_neg q] at elo; omega
      · rw [e9] at q; rw [if_pos q] at elo; omega
  have k10 : ∀ (m : Nat) (t a : Int) (I0 : cm_I) (z3 z4 : Option cm_V), 0 ≤ t → t ≤ 17 → a ≤ t → a + 1 = m → mLaid I I0 t a (t - a) → (∀ (I1 : cm_I) (z2 z3' z4' : Option cm_V), mLaid I I1 (t + 1) (t + 1) 0 → cw (d + 2) cd_Model_laysMonomials (qU z fun I1 => (∃ f g h, I1 = iw3 I f g h) ∧ mMon I1) 2 [some (vR 12 209), some (vI (t + 1)), z2, z3', z4'] [] (I1, z)) → cw (d + 2) cd_Model_laysMonomials (qU z fun I1 => (∃ f g h, I1 = iw3 I f g h) ∧ mMon I1) 10 [some (vR 12 209), some (vI t), some (vI a), z3, z4] [] (I0, z) := by
    intro m
    induction m with
    | zero =>
      intro t a I0 z3 z4 t0 t1 a1 ea hl nxt
      refine mr_laysMonomials_10 hz ⟨fun q => ⟨⟨by omega, by omega⟩, nxt I0 _ _ _ (mLaid_mono hl (by intro x y w h1 h2 h3 h4 h5; omega))⟩, fun q => by omega⟩
    | succ m ih =>
      intro t a I0 z3 z4 t0 t1 a1 ea hl nxt
      refine mr_laysMonomials_10 hz ⟨fun q => by omega, fun q => ⟨⟨by omega, by omega⟩, ?_⟩⟩
      refine k18 (t - a + 1 - (if I 209 1 = 2 then t - a else 0)).toNat t a (t - a) _ I0 _ t0 t1 (by omega) a1 rfl (by omega) (by split <;> omega) hl ?_
      intro I1 z3' z4' hl1
      exact ih t (a + (-1)) I1 z3' z4' t0 t1 (by omega) (by omega) (mLaid_mono hl1 (by intro x y w h1 h2 h3 h4 h5; omega)) nxt
  have k2 : ∀ (m : Nat) (t : Int) (I0 : cm_I) (z2 z3 z4 : Option cm_V), 0 ≤ t → t + m = 18 → mLaid I I0 t t 0 → cw (d + 2) cd_Model_laysMonomials (qU z fun I1 => (∃ f g h, I1 = iw3 I f g h) ∧ mMon I1) 2 [some (vR 12 209), some (vI t), z2, z3, z4] [] (I0, z) := by
    intro m
    induction m with
    | zero =>
      intro t I0 z2 z3 z4 t0 et hl
      refine mr_laysMonomials_2 hz ⟨fun q => qU_mk (fin I0 ?_), fun q => by omega⟩
      rw [show t = 18 by omega] at hl
      exact hl
    | succ m ih =>
      intro t I0 z2 z3 z4 t0 et hl
      refine mr_laysMonomials_2 hz ⟨fun q => by omega, fun q => ?_⟩
      exact k10 (t + 1).toNat t t I0 _ _ t0 q (by omega) (by omega) (mLaid_mono hl (by intro x y w h1 h2 h3 h4 h5; omega)) fun I1 z2' z3' z4' hl1 => ih (t + 1) I1 z2' z3' z4' (by omega) (by omega) hl1
  refine k2 18 0 I _ _ _ (by omega) rfl ⟨I 210, I 211, I 212, ?_, ?_⟩
  · unfold iw3; rw [iw_self, iw_self, iw_self]
  · intro x y w h1 h2 h3 h4 h5 h6; omega
end MM
