/-! THE BASES themselves; those that may be primary, one asked by the reference -/
noncomputable def bsX (D : Int) (T : Nat → cMat) (nt : Nat) (t : Int) : Nat × (Nat → Nat → cF) := @dite (Nat × (Nat → Nat → cF)) (∃ x : Nat × (Nat → Nat → cF), isBs D T nt t x.1 x.2) (Classical.propDecidable _) (fun h => Classical.choose h) (fun _ => (0, fun _ _ => 0))
theorem bsX_ok {D : Int} {T : Nat → cMat} {nt : Nat} {t : Int} {r : Nat} {B : Nat → Nat → cF} (h : isBs D T nt t r B) : isBs D T nt t (bsX D T nt t).1 (bsX D T nt t).2 ∧ (bsX D T nt t).1 = r ∧ ∀ i, i < r → ∀ k, k < (mMany D t).toNat → (bsX D T nt t).2 i k = B i k := by
  have ex : ∃ x : Nat × (Nat → Nat → cF), isBs D T nt t x.1 x.2 := ⟨(r, B), h⟩
  have e : bsX D T nt t = Classical.choose ex := dif_pos ex
  have s := Classical.choose_spec ex
  rw [← e] at s
  obtain ⟨a, b⟩ := isBs_uniq s h
  exact ⟨s, a, fun i hi => b i (by omega)⟩
theorem bRow_congr {D t : Int} (hD : D = 2 ∨ D = 3) (t0 : 0 ≤ t) (t1 : t ≤ 15) {u w : Nat → cF} (h : ∀ k, k < (mMany D t).toNat → u k = w k) : bRow D t u = bRow D t w := by
  obtain ⟨a, b, c, e, f, g⟩ := from_bds hD t0 t1
  funext j
  unfold bRow
  by_cases q : mFrom D t ≤ j ∧ j < mFrom D (t + 1)
  · rw [if_pos q, if_pos q, h _ (by omega)]
  · rw [if_neg q, if_neg q]
theorem mDeg_bRow {D t : Int} (hD : D = 2 ∨ D = 3) (t0 : 0 ≤ t) (t1 : t ≤ 15) {w : Nat → cF} {k : Nat} (hk : k < (mMany D t).toNat) (nz : w k ≠ 0) : mDeg D (bRow D t w) 0 = t := by
  obtain ⟨a, b, c, e, f, g⟩ := from_bds hD t0 t1
  have le : mDeg D (bRow D t w) 0 ≤ t := mDeg_le hD t0 fun j j0 j1 hj => by
    rw [show (0 : Int) + j = j by omega]
    unfold bRow
    rw [if_neg]
    intro x
    have := (mDg_lt hD (k := j) (t := t) j0 j1 t0).mp x.2
    omega
  have dk : mDg D (mFrom D t + k) = t := by
    have x := (mDg_lt hD (k := mFrom D t + k) (t := t) (by omega) (by omega) t0).mp (by omega)
    have y := (mDg_ge hD (k := mFrom D t + k) (t := t) (by omega) (by omega) t0).mp (by omega)
    omega
  apply Classical.byContradiction
  intro q
  have z := mDeg_z hD (f := bRow D t w) (x := 0) (k := mFrom D t + k) (by omega) (by omega) (by omega)
  rw [show (0 : Int) + (mFrom D t + k) = mFrom D t + k by omega] at z
  unfold bRow at z
  rw [if_pos (by omega), show (mFrom D t + (k : Int) - mFrom D t).toNat = k by omega] at z
  exact nz (fi_zero.mp z)
theorem isBs_nz {D : Int} {T : Nat → cMat} {nt : Nat} {t : Int} {r : Nat} {B : Nat → Nat → cF} (h : isBs D T nt t r B) {i : Nat} (hi : i < r) : ∃ k, k < (mMany D t).toNat ∧ B i k ≠ 0 := by
  obtain ⟨hh, a⟩ := h
  exact ⟨hh i, a.2.1 i hi, by rw [a.2.2.1 i hi]; exact f_one_ne⟩
/-- the e-th of those that may be primary: its degree, its row -/
def cDR (rows : Int → Nat) : Nat → Int → Nat → Int × Nat
  | 0, t, e => (t, e)
  | n + 1, t, e => if e < rows t then (t, e) else cDR rows n (t + 1) (e - rows t)
def cSum (rows : Int → Nat) : Nat → Int → Nat
  | 0, _ => 0
  | n + 1, t => rows t + cSum rows n (t + 1)
theorem cDR_bd (rows : Int → Nat) : ∀ (n : Nat) (t : Int) (e : Nat), e < cSum rows n t → t ≤ (cDR rows n t e).1 ∧ (cDR rows n t e).1 < t + n ∧ (cDR rows n t e).2 < rows (cDR rows n t e).1 := by
  intro n
  induction n with
  | zero => intro t e h; exact absurd h (by simp [cSum])
  | succ n ih =>
    intro t e h
    rw [cSum] at h
    rw [cDR]
    by_cases q : e < rows t
    · rw [if_pos q]
      exact ⟨Int.le_refl _, by show t < t + _; omega, q⟩
    · rw [if_neg q]
      obtain ⟨a, b, c⟩ := ih (t + 1) (e - rows t) (by omega)
      exact ⟨by omega, by omega, c⟩
noncomputable def bsRows (D : Int) (T : Nat → cMat) (nt : Nat) (t : Int) : Nat := (bsX D T nt t).1
noncomputable def cnd (D : Int) (T : Nat → cMat) (nt : Nat) (e : Nat) : Int × Nat := cDR (bsRows D T nt) 6 1 e
noncomputable def cndN (D : Int) (T : Nat → cMat) (nt : Nat) : Nat := cSum (bsRows D T nt) 6 1
/-- the e-th as a polynomial -/
noncomputable def cndP (D : Int) (T : Nat → cMat) (nt : Nat) (e : Nat) : Int → Int := bRow D (cnd D T nt e).1 ((bsX D T nt (cnd D T nt e).1).2 (cnd D T nt e).2)
def sel3n (i j k : Nat) (v : Nat) : Nat := if v = 0 then i else if v = 1 then j else k
noncomputable def isSys (D : Int) (T : Nat → cMat) (nt : Nat) (i j k : Nat) : Prop := isAll D (fun v => cndP D T nt (sel3n i j k v)) (fun v => (cnd D T nt (sel3n i j k v)).1)
/-- as far as the search stands: how many are asked, which one is found -/
abbrev sSt : Type := Nat × Option (Nat × Nat × Nat)
noncomputable def sAsk (sys : Nat → Nat → Nat → Prop) (i j k : Nat) (st : sSt) : sSt := if st.2.isSome = true ∨ 60 ≤ st.1 then st else (st.1 + 1, @ite (Option (Nat × Nat × Nat)) (sys i j k) (Classical.propDecidable _) (some (i, j, k)) none)
/-- what the search rests on -/
def caOk (T : Nat → cMat) (nt : Nat) (I : cm_I) : Prop := bsOk T nt I ∧ 7 ≤ I 209 37 ∧ (okR (I 233) ∧ okR (I 236)) ∧ I 209 46 = (cndN (I 209 1) T nt : Int) ∧ cndN (I 209 1) T nt ≤ 83 ∧ ∀ e, e < cndN (I 209 1) T nt → I 237 (e : Int) = (cnd (I 209 1) T nt e).1 ∧ I 238 (e : Int) = ((cnd (I 209 1) T nt e).2 : Int)
theorem bs_get {T : Nat → cMat} {nt : Nat} {I : cm_I} (hD : mD I) (hB : bsOk T nt I) {t : Int} (t0 : 0 ≤ t) (t1 : t < I 209 37) : I 228 t = (bsRows (I 209 1) T nt t : Int) ∧ bsRows (I 209 1) T nt t ≤ (mMany (I 209 1) t).toNat ∧ isBs (I 209 1) T nt t (bsRows (I 209 1) T nt t) (bsX (I 209 1) T nt t).2 ∧ 0 ≤ I 229 t ∧ I 229 t + mMany (I 209 1) t * (bsRows (I 209 1) T nt t : Int) ≤ 72000 ∧ ∀ i k : Nat, i < bsRows (I 209 1) T nt t → k < (mMany (I 209 1) t).toNat → I 230 (I 229 t + mMany (I 209 1) t * i + k) = fi ((bsX (I 209 1) T nt t).2 i k) := by
  obtain ⟨rows, B, a1, a2, a3, a4, a5, a6⟩ := bsOk_get hD hB t0 t1
  obtain ⟨x, y, w⟩ := bsX_ok a3
  unfold bsRows
  rw [y]
  refine ⟨a1, a2, by rw [← y]; exact x, a4, a5, fun i k hi hk => by rw [a6 i k hi hk, w i hi k hk]⟩
section MAK
variable {d : Nat} {z : cm_Z} {I : cm_I} {nt : Nat}
theorem s_asksThese (hz : mz z) (hD : mD I) (hm : mMon I) {T : Nat → cMat} (hC : caOk T nt I) {i j k : Nat} (hi : i < cndN (I 209 1) T nt) (hj : j < cndN (I 209 1) T nt) (hk : I 209 1 = 3 → k < cndN (I 209 1) T nt) (a0 : 0 ≤ I 209 49) (a1 : I 209 49 < 60) : mU (d + 4) m_Model_asksThese [vR 12 209, vI (i : Int), vI (j : Int), vI (k : Int)] z I fun I1 => fr [209, 226, 227, 233, 234, 235, 236] I I1 ∧ (∀ s, s ≠ 42 → s ≠ 49 → I1 209 s = I 209 s) ∧ I1 209 49 = I 209 49 + 1 ∧ okR (I1 226) ∧ (okR (I1 233) ∧ okR (I1 236)) ∧ ((isSys (I 209 1) T nt i j k ∧ I1 209 42 = 1 ∧ ∀ v : Nat, (v : Int) < I 209 1 → I1 234 (v : Int) = (cnd (I 209 1) T nt (sel3n i j k v)).1 ∧ I1 235 (v : Int) = ((cnd (I 209 1) T nt (sel3n i j k v)).2 : Int) ∧ isRow (I1 236) (1140 * (v : Int)) (cndP (I 209 1) T nt (sel3n i j k v))) ∨ (¬ isSys (I 209 1) T nt i j k ∧ I1 209 42 = 0)) := by
  obtain ⟨c1, c2, c3, c4, c5, c6⟩ := id hC
  have hD' : I 209 1 = 2 ∨ I 209 1 = 3 := hD
  generalize hX : (fun (I1 : cm_I) => fr [209, 226, 227, 233, 234, 235, 236] I I1 ∧ (∀ s, s ≠ 42 → s ≠ 49 → I1 209 s = I 209 s) ∧ I1 209 49 = I 209 49 + 1 ∧ okR (I1 226) ∧ (okR (I1 233) ∧ okR (I1 236)) ∧ ((isSys (I 209 1) T nt i j k ∧ I1 209 42 = 1 ∧ ∀ v : Nat, (v : Int) < I 209 1 → I1 234 (v : Int) = (cnd (I 209 1) T nt (sel3n i j k v)).1 ∧ I1 235 (v : Int) = ((cnd (I 209 1) T nt (sel3n i j k v)).2 : Int) ∧ isRow (I1 236) (1140 * (v : Int)) (cndP (I 209 1) T nt (sel3n i j k v))) ∨ (¬ isSys (I 209 1) T nt i j k ∧ I1 209 42 = 0))) = X
  have gets := fun (t : Int) (t0 : 0 ≤ t) (t1 : t < I 209 37) => bs_get hD c1 t0 t1
  have hm' := hm
  generalize hDD : I 209 1 = D at hD' c4 c5 c6 gets hX hi hj hk
  have sl : ∀ v : Nat, (v : Int) < D → sel3n i j k v < cndN D T nt := by
    intro v hv
    unfold sel3n
    by_cases e0 : v = 0
    · rw [if_pos e0]; exact hi
    · rw [if_neg e0]
      by_cases e1 : v = 1
      · rw [if_pos e1]; exact hj
      · rw [if_neg e1]; exact hk (by omega)
  have info : ∀ v : Nat, (v : Int) < D → 1 ≤ (cnd D T nt (sel3n i j k v)).1 ∧ (cnd D T nt (sel3n i j k v)).1 ≤ 6 ∧ (cnd D T nt (sel3n i j k v)).2 < bsRows D T nt (cnd D T nt (sel3n i j k v)).1 := by
    intro v hv
    obtain ⟨a, b, c⟩ := cDR_bd (bsRows D T nt) 6 1 (sel3n i j k v) (sl v hv)
    exact ⟨a, by show (cDR (bsRows D T nt) 6 1 (sel3n i j k v)).1 ≤ 6; omega, c⟩
  have l33 : mLen 233 = 3420 := rfl
  refine mr_asksThese hz ⟨⟨by omega, by omega⟩, fun I2 e2 => ?_⟩
  obtain ⟨f2, g2⟩ := fr_eq_iu e2
  have s2 : ∀ s, s ≠ 49 → I2 209 s = I 209 s := fun s hs => by rw [g2]; exact if_neg hs
  have e49 : I2 209 49 = I 209 49 + 1 := by rw [g2]; exact if_pos rfl
  -- taken over
  have k117 : ∀ (n x : Nat) (J I0 : cm_I) (z1 z2 z3 z5 : Option cm_V), x + n = 3420 → J 209 42 = 1 → fr [236] J I0 → okR (J 233) → okR (I0 236) → (∀ y : Int, 0 ≤ y → y < x → I0 236 y = J 233 y) → (∀ I9 : cm_I, fr [236] J I9 → okR (I9 236) → (∀ y : Int, 0 ≤ y → y < 3420 → I9 236 y = J 233 y) → X I9) → cw (d + 3) cd_Model_asksThese (qU z X) 117 [some (vR 12 209), z1, z2, z3, some (vI (x : Int)), z5] [] (I0, z) := by
    intro n
    induction n with
    | zero =>
      intro x J I0 z1 z2 z3 z5 ex h42 f0 oj oi put fin
      exact mr_asksThese_117 hz ⟨fun _ => qU_mk (fin I0 f0 oi fun y y0 y1 => put y y0 (by omega)), fun q => by omega⟩
    | succ n ih =>
      intro x J I0 z1 z2 z3 z5 ex h42 f0 oj oi put fin
      refine mr_asksThese_117 hz ⟨fun q => by omega, fun _ => ⟨fun q => ?_, fun _ => ⟨⟨by omega, by omega⟩, fun I3 e3 => ⟨⟨by omega, by omega⟩, ?_⟩⟩⟩⟩
      · rw [f0 209 (by decide), h42] at q
        exact absurd q (by decide)
      · obtain ⟨f3, g3⟩ := fr_eq_iu e3
        have := ih (x + 1) J I3 z1 z2 z3 z5 (by omega) h42 (fr_trans f0 f3) oj (by rw [g3, f0 233 (by decide)]; exact okR_st oi (oj _).1 (oj _).2) (fun y y0 y1 => ?_) fin
        · rw [show ((x + 1 : Nat) : Int) = (x : Int) + 1 by omega] at this
          exact this
        · rw [g3, f0 233 (by decide)]
          show (if y = (x : Int) then _ else _) = _
          by_cases e : y = (x : Int)
          · rw [if_pos e, e]
          · rw [if_neg e]
            exact put y y0 (by omega)
  have k13 : ∀ (n v : Nat) (I0 : cm_I) (z5 : Option cm_V), v + n = D.toNat → fr [233, 234, 235] I2 I0 → okR (I0 233) → (∀ w : Nat, w < v → I0 234 (w : Int) = (cnd D T nt (sel3n i j k w)).1 ∧ I0 235 (w : Int) = ((cnd D T nt (sel3n i j k w)).2 : Int) ∧ isRow (I0 233) (1140 * (w : Int)) (cndP D T nt (sel3n i j k w))) → cw (d + 3) cd_Model_asksThese (qU z X) 13 [some (vR 12 209), some (vI (i : Int)), some (vI (j : Int)), some (vI (k : Int)), some (vI (v : Int)), z5] [] (I0, z) := by
    intro n
    induction n with
    | zero =>
      intro v I0 z5 ev f0 o33 put
      have e1 : I0 209 1 = D := by rw [f0 209 (by decide), s2 1 (by decide), hDD]
      have fA : fr [209, 226, 227, 233, 234, 235, 236] I I0 := fr_trans (fr_mono f2 (by decide)) (fr_mono f0 (by decide))
      have hD0 : mD I0 := by unfold mD; rw [e1]; exact hD'
      have hm0 : mMon I0 := by
        unfold mMon at hm' ⊢
        rw [e1, ← hDD, fA 210 (by decide), fA 211 (by decide), fA 212 (by decide)]
        exact hm'
      have o26 : okR (I0 226) := by rw [f0 226 (by decide), f2 226 (by decide)]; exact c1.2.2.1
      have dgs : ∀ w : Nat, (w : Int) < D → mDeg D (cndP D T nt (sel3n i j k w)) 0 = (cnd D T nt (sel3n i j k w)).1 := by
        intro w hw
        obtain ⟨p1, p2, p3⟩ := info w hw
        obtain ⟨q1, q2, q3, q4, q5, q6⟩ := gets (cnd D T nt (sel3n i j k w)).1 (by omega) (by omega)
        obtain ⟨kk, hkk, nz⟩ := isBs_nz q3 p3
        exact mDeg_bRow hD' (by omega) (by omega) hkk nz
      have sB : sDg D (fun v => (cnd D T nt (sel3n i j k v)).1) ≤ 16 := by
        unfold sDg
        have p0 := info 0 (by omega)
        have p1 := info 1 (by omega)
        rcases hD' with e | e
        · rw [e]
          show 1 - 2 + (0 + (cnd 2 T nt (sel3n i j k 0)).1 + (cnd 2 T nt (sel3n i j k 1)).1) ≤ 16
          rw [e] at p0 p1
          omega
        · have p2 := info 2 (by omega)
          rw [e]
          show 1 - 3 + (0 + (cnd 3 T nt (sel3n i j k 0)).1 + (cnd 3 T nt (sel3n i j k 1)).1 + (cnd 3 T nt (sel3n i j k 2)).1) ≤ 16
          rw [e] at p0 p1 p2
          omega
      refine mr_asksThese_13 hz ⟨fun _ => mI_mono (s_areAll hz hD0 hm0 o26 o33 (P := fun v => cndP D T nt (sel3n i j k v)) (dg := fun v => (cnd D T nt (sel3n i j k v)).1) (by
        rw [e1]
        intro w hw
        obtain ⟨p1, p2, p3⟩ := info w hw
        exact ⟨(put w (by omega)).2.2, dgs w hw, p1, by show (cnd D T nt (sel3n i j k w)).1 ≤ 15; omega⟩) (by rw [e1]; exact Or.inl sB)) fun v2 I3 ⟨f3, o3, b3, i3⟩ => ⟨b3, fun I4 e4 => ?_⟩, fun q => by rw [e1] at q; omega⟩
      rw [e1] at i3
      obtain ⟨f4, g4⟩ := fr_eq_iu e4
      have e42 : I4 209 42 = v2 := by rw [g4]; exact if_pos rfl
      have s4 : ∀ s, s ≠ 42 → I4 209 s = I2 209 s := fun s hs => by rw [g4, f3 209 (by decide), f0 209 (by decide)]; exact if_neg hs
      have f04 : fr [209, 226, 227] I0 I4 := fr_trans (fr_mono f3 (by decide)) (fr_mono f4 (by decide))
      have f9 : fr [209, 226, 227, 233, 234, 235, 236] I I4 := fr_trans fA (fr_mono f04 (by decide))
      have o46 : okR (I4 226) := by rw [f4 226 (by decide)]; exact o3
      have o433 : okR (I4 233) := by rw [f04 233 (by decide)]; exact o33
      have o436 : okR (I4 236) := by rw [f04 236 (by decide), f0 236 (by decide), f2 236 (by decide)]; exact c3.2
      have slots : (∀ s, s ≠ 42 → s ≠ 49 → I4 209 s = I 209 s) ∧ I4 209 49 = I 209 49 + 1 := ⟨fun s h h' => by rw [s4 s h, s2 s h'], by rw [s4 49 (by decide), e49]⟩
      by_cases y : v2 = 1
      · have sy : isSys D T nt i j k := i3.mp y
        have := k117 3420 0 I4 I4 (some (vI (i : Int))) (some (vI (j : Int))) (some (vI (k : Int))) z5 (by omega) (by rw [e42]; exact y) (fr_refl _ _) o433 o436 (fun y0 h1 h2 => by omega) fun I9 f9' o936 put9 => ?_
        · exact this
        · rw [← hX]
          refine ⟨fr_trans f9 (fr_mono f9' (by decide)), fun s h h' => by rw [f9' 209 (by decide)]; exact slots.1 s h h', by rw [f9' 209 (by decide)]; exact slots.2, by rw [f9' 226 (by decide)]; exact o46, ⟨by rw [f9' 233 (by decide)]; exact o433, o936⟩, Or.inl ⟨sy, by rw [f9' 209 (by decide), e42]; exact y, fun w hw => ?_⟩⟩
          obtain ⟨p1, p2, p3⟩ := put w (by omega)
          refine ⟨by rw [f9' 234 (by decide), f04 234 (by decide)]; exact p1, by rw [f9' 235 (by decide), f04 235 (by decide)]; exact p2, fun x x0 x1 => ?_⟩
          rw [put9 _ (by omega) (by omega), f04 233 (by decide)]
          exact p3 x x0 x1
      · have sy : ¬ isSys D T nt i j k := fun h => y (i3.mpr h)
        refine mr_asksThese_117 hz ⟨fun q => by omega, fun _ => ⟨fun _ => qU_mk ?_, fun q => ?_⟩⟩
        · rw [← hX]
          exact ⟨f9, slots.1, slots.2, o46, ⟨o433, o436⟩, Or.inr ⟨sy, by rw [e42]; omega⟩⟩
        · rw [e42] at q
          omega
    | succ n ih =>
      intro v I0 z5 ev f0 o33 put
      have hv : (v : Int) < D := by omega
      obtain ⟨p1, p2, p3⟩ := info v hv
      have slv := sl v hv
      have e1 : I0 209 1 = D := by rw [f0 209 (by decide), s2 1 (by decide), hDD]
      have k42 : ∀ s0 : Int, s0 = (sel3n i j k v : Int) → cw (d + 3) cd_Model_asksThese (qU z X) 42 [some (vR 12 209), some (vI (i : Int)), some (vI (j : Int)), some (vI (k : Int)), some (vI (v : Int)), z5] [vI s0] (I0, z) := by
        intro s0 hs0
        rw [hs0]
        have e37 : I0 237 = I 237 := by rw [f0 237 (by decide), f2 237 (by decide)]
        have e38 : I0 238 = I 238 := by rw [f0 238 (by decide), f2 238 (by decide)]
        obtain ⟨q7, q8⟩ := c6 (sel3n i j k v) slv
        refine mr_asksThese_42 hz ⟨⟨by omega, by omega⟩, ⟨by omega, by omega⟩, fun I3 e3 I4 e4 => ⟨⟨by omega, by omega⟩, ?_⟩⟩
        obtain ⟨f3, g3⟩ := fr_eq_iu e3
        obtain ⟨f4, g4⟩ := fr_eq_iu e4
        have f04 : fr [234, 235] I0 I4 := fr_trans (fr_mono f3 (by decide)) (fr_mono f4 (by decide))
        rw [f04 237 (by decide), f04 238 (by decide), e37, e38, q7, q8]
        have e41 : I4 209 1 = D := by rw [f04 209 (by decide), e1]
        have e4b : ∀ a, a = 228 ∨ a = 229 ∨ a = 230 → I4 a = I a := by
          intro a ha
          rcases ha with rfl | rfl | rfl
          · rw [f04 228 (by decide), f0 228 (by decide), f2 228 (by decide)]
          · rw [f04 229 (by decide), f0 229 (by decide), f2 229 (by decide)]
          · rw [f04 230 (by decide), f0 230 (by decide), f2 230 (by decide)]
        obtain ⟨b1, b2, b3, b4, b5, b6⟩ := gets (cnd D T nt (sel3n i j k v)).1 (by omega) (by omega)
        refine mU_mono (s_laysBaseRow hz (by unfold mD; rw [e41]; exact hD') mA233 (by decide) (by decide) (by decide) (by omega) (by omega) (by omega) (by omega) (by omega) (i := (cnd D T nt (sel3n i j k v)).2) (rows := bsRows D T nt (cnd D T nt (sel3n i j k v)).1) (B := (bsX D T nt (cnd D T nt (sel3n i j k v)).1).2) p3 (by rw [e4b 229 (by omega)]; exact b4) (by rw [e4b 229 (by omega), e41]; exact b5) (by rw [e4b 229 (by omega), e4b 230 (by omega), e41]; exact b6)) fun I6 ⟨f6, r6, out6⟩ => ⟨⟨by omega, by omega⟩, ?_⟩
        rw [e41] at r6
        have r6' : isRow (I6 233) (1140 * (v : Int)) (cndP D T nt (sel3n i j k v)) := r6
        have := ih (v + 1) I6 (some (vI (sel3n i j k v : Int))) (by omega) (fr_trans f0 (fr_trans (fr_mono f04 (by decide)) (fr_mono f6 (by decide)))) ?_ (fun w hw => ?_)
        · rw [show ((v + 1 : Nat) : Int) = (v : Int) + 1 by omega] at this
          exact this
        · intro y
          by_cases q : 1140 * (v : Int) ≤ y ∧ y < 1140 * (v : Int) + 1140
          · have := r6' (y - 1140 * (v : Int)) (by omega) (by omega)
            rw [show 1140 * (v : Int) + (y - 1140 * (v : Int)) = y by omega] at this
            rw [this]
            exact (vOk_bRow hD' (by omega) (by omega) _).1 _
          · rw [out6 y q, f04 233 (by decide)]
            exact o33 y
        · have e634 : I6 234 = fun y => if y = (v : Int) then (cnd D T nt (sel3n i j k v)).1 else I0 234 y := by
            rw [f6 234 (by decide), f4 234 (by decide), g3, e37, q7]
          have e635 : I6 235 = fun y => if y = (v : Int) then ((cnd D T nt (sel3n i j k v)).2 : Int) else I0 235 y := by
            rw [f6 235 (by decide), g4, f3 238 (by decide), e38, q8, f3 235 (by decide)]
          rw [e634, e635]
          by_cases e : w = v
          · rw [e]
            exact ⟨if_pos rfl, if_pos rfl, r6'⟩
          · obtain ⟨x1, x2, x3⟩ := put w (by omega)
            refine ⟨?_, ?_, fun y y0 y1 => ?_⟩
            · show (if (w : Int) = (v : Int) then _ else _) = _
              rw [if_neg (by omega)]; exact x1
            · show (if (w : Int) = (v : Int) then _ else _) = _
              rw [if_neg (by omega)]; exact x2
            · rw [out6 _ (by omega), f04 233 (by decide)]
              exact x3 y y0 y1
      refine mr_asksThese_13 hz ⟨fun q => by rw [e1] at q; omega, fun _ => ⟨fun q0 => ⟨fun q1 => k42 _ ?_, fun q1 => k42 _ ?_⟩, fun q0 => k42 _ ?_⟩⟩
      · unfold sel3n; rw [if_neg (by omega), if_neg (by omega)]
      · unfold sel3n; rw [if_neg (by omega), if_pos (by omega)]
      · unfold sel3n; rw [if_pos (by omega)]
  exact k13 D.toNat 0 I2 none (by omega) (fr_refl _ _) (by rw [f2 233 (by decide)]; exact c3.1) fun w hw => by omega
end MAK
