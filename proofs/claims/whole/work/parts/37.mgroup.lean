/-! THE GROUP of the reference -/
theorem mA217 : mA 217 := ⟨by decide, by decide⟩
theorem mA218 : mA 218 := ⟨by decide, by decide⟩
def mMem (I : cm_I) : Nat → cMat := fun k => mat (I 209 1) (I 218) k
def mTab (I : cm_I) : Nat → cMat := fun k => mat (I 209 1) (I 217) k
/-- only the members differ -/
def mG (I I0 : cm_I) (n : Int) (F : Int → Int) : Prop := I0 = iw (iu I 209 11 n) 218 F ∧ okR F
theorem mG_at {I I0 : cm_I} {n : Int} {F : Int → Int} (h : mG I I0 n F) : I0 218 = F ∧ I0 217 = I 217 ∧ I0 209 1 = I 209 1 ∧ I0 209 9 = I 209 9 ∧ I0 209 11 = n ∧ mTab I0 = mTab I := by
  obtain ⟨e, _⟩ := h
  have e7 : I0 217 = I 217 := by rw [e, iw_ne _ _ (by decide), iu_ne _ _ _ (by decide)]
  have e1 : I0 209 1 = I 209 1 := by rw [e, iw_ne _ _ (by decide), iu_at]; rfl
  have e9 : I0 209 9 = I 209 9 := by rw [e, iw_ne _ _ (by decide), iu_at]; rfl
  have e11 : I0 209 11 = n := by rw [e, iw_ne _ _ (by decide), iu_at]; rfl
  refine ⟨by rw [e, iw_at], e7, e1, e9, e11, ?_⟩
  unfold mTab
  rw [e7, e1]
theorem mG_F {I I0 I1 : cm_I} {n : Int} {F G : Int → Int} (h : mG I I0 n F) (e : I1 = iw I0 218 G) (o : okR G) : mG I I1 n G := ⟨by rw [e, h.1, iw_iw], o⟩
theorem mG_n {I I0 I1 : cm_I} {n m : Int} {F : Int → Int} (h : mG I I0 n F) (e : I1 = iu I0 209 11 m) : mG I I1 m F := by
  refine ⟨?_, h.2⟩
  rw [e, h.1]
  funext b
  unfold iu iw
  by_cases h1 : b = 218
  · subst h1; simp
  · by_cases h2 : b = 209
    · subst h2; simp; funext j; split <;> rfl
    · simp [h1, h2]
def idRow (i j : Int) (f : Int → Int) : Int → Int := fun x => if 0 ≤ x ∧ x < 9 ∧ (x / 3 < i ∨ (x / 3 = i ∧ x % 3 < j)) then (if x / 3 = x % 3 then 1 else 0) else f x
theorem idRow_pos {i j : Int} {f : Int → Int} {x : Int} (h : 0 ≤ x ∧ x < 9 ∧ (x / 3 < i ∨ (x / 3 = i ∧ x % 3 < j))) : idRow i j f x = if x / 3 = x % 3 then 1 else 0 := if_pos h
theorem idRow_neg {i j : Int} {f : Int → Int} {x : Int} (h : ¬ (0 ≤ x ∧ x < 9 ∧ (x / 3 < i ∨ (x / 3 = i ∧ x % 3 < j)))) : idRow i j f x = f x := if_neg h
section MGR
variable {d : Nat} {z : cm_Z} {I : cm_I}
theorem s_find (hz : mz z) (hD : mD I) {n : Nat} (hn : I 209 11 = n) (h48 : n ≤ 48) (ok : okR (I 218)) : mI (d + 3) m_Model_find [vR 12 209] z I fun r I1 => I1 = I ∧ r = gFind (mMem I) (mMem I n) n := by
  refine mr_find hz ?_
  have key : ∀ (m k : Nat), k + m = n → (∀ i, i < k → mSame (mMem I i) (mMem I n) = false) → cw (d + 2) cd_Model_find (qI z fun r I1 => I1 = I ∧ r = gFind (mMem I) (mMem I n) n) 2 [some (vR 12 209), some (vI (k : Int))] [] (I, z) := by
    intro m
    induction m with
    | zero =>
      intro k e hk
      refine mr_find_2 hz (mI_mono (s_areSame hz hD mA218 mA218 (by omega) (by omega) (by omega) (by omega) (show _ ≤ (441 : Int) by omega) (show _ ≤ (441 : Int) by omega)) fun v I1 ⟨e1, e2, e3⟩ => ?_)
      rw [e1]
      have : v = 1 := e3.mpr fun i j _ _ _ _ => by rw [hn, show k = n by omega]
      refine ⟨fun q => qI_mk ⟨rfl, ?_⟩, fun q => by omega⟩
      rw [gFind_uniq (r := k) (by omega) hk (fun q => by omega)]
    | succ m ih =>
      intro k e hk
      refine mr_find_2 hz (mI_mono (s_areSame hz hD mA218 mA218 (by omega) (by omega) (by omega) (by omega) (show _ ≤ (441 : Int) by omega) (show _ ≤ (441 : Int) by omega)) fun v I1 ⟨e1, e2, e3⟩ => ?_)
      rw [e1]
      rw [mat_same hD ok ok, hn] at e3
      refine ⟨fun q => qI_mk ⟨rfl, ?_⟩, fun q => ⟨⟨by omega, by omega⟩, ih (k + 1) (by omega) ?_⟩⟩
      · have hs : mSame (mMem I k) (mMem I n) = true := (mSame_iff (isM_mat hD _ _) (isM_mat hD _ _)).mpr (e3.mp (by omega))
        rw [gFind_uniq (r := k) (by omega) hk (fun _ => hs)]
      · intro i hi
        by_cases ei : i = k
        · rw [ei]
          apply Bool.eq_false_iff.mpr
          intro hs
          have := e3.mpr ((mSame_iff (isM_mat hD _ _) (isM_mat hD _ _)).mp hs)
          omega
        · exact hk i (by omega)
  exact key n 0 (by omega) (fun i q => by omega)
/-- the state of the members -/
def mSt (I : cm_I) (s : Nat × (Nat → cMat)) : Prop := I 209 11 = s.1 ∧ ∀ k, k < s.1 → mMem I k = s.2 k
theorem s_laysGroup (hz : mz z) (hD : mD I) (ok : okR (I 218)) (okT : okR (I 217)) {nt : Nat} (hnt : I 209 9 = nt) (hn4 : nt ≤ 4) : mI (d + 4) m_Model_laysGroup [vR 12 209] z I fun r I1 => (∃ n F, mG I I1 n F) ∧ ((r = 1 ∧ ∃ s, gAll (mTab I) nt 48 = some s ∧ s.1 ≤ 48 ∧ mSt I1 s) ∨ (r = 0 ∧ gAll (mTab I) nt 48 = none)) := by
  have hD' : I 209 1 = 2 ∨ I 209 1 = 3 := hD
  refine mr_laysGroup hz fun I1 e1 => ?_
  have k63 : ∀ (m t g : Nat) (s0 s : Nat × (Nat → cMat)) (I0 : cm_I) (F : Int → Int), t + m = nt → gAll (mTab I) nt g = some s0 → g < s0.1 → gRow (mTab I) g t s0 = some s → s.1 ≤ 48 → s0.1 ≤ s.1 → mG I I0 s.1 F → mSt I0 s → (∀ (s' : Nat × (Nat → cMat)) (I3 : cm_I) (F' : Int → Int) (z2 : Option cm_V), gAll (mTab I) nt (g + 1) = some s' → s'.1 ≤ 48 → g < s'.1 → mG I I3 s'.1 F' → mSt I3 s' → cw (d + 3) cd_Model_laysGroup (qI z fun r I1 => (∃ n F, mG I I1 n F) ∧ ((r = 1 ∧ ∃ s, gAll (mTab I) nt 48 = some s ∧ s.1 ≤ 48 ∧ mSt I1 s) ∨ (r = 0 ∧ gAll (mTab I) nt 48 = none))) 53 [some (vR 12 209), some (vI ((g : Int) + 1)), z2] [] (I3, z)) → cw (d + 3) cd_Model_laysGroup (qI z fun r I1 => (∃ n F, mG I I1 n F) ∧ ((r = 1 ∧ ∃ s, gAll (mTab I) nt 48 = some s ∧ s.1 ≤ 48 ∧ mSt I1 s) ∨ (r = 0 ∧ gAll (mTab I) nt 48 = none))) 63 [some (vR 12 209), some (vI (g : Int)), some (vI (t : Int))] [] (I0, z) := by
    intro m
    induction m with
    | zero =>
      intro t g s0 s I0 F et hg hgs hr hs hs2 hG hS nxt
      obtain ⟨a1, a2, a3, a4, a5, a6⟩ := mG_at hG
      refine mr_laysGroup_63 hz ⟨fun q => ⟨⟨by omega, by omega⟩, nxt s I0 F _ ?_ hs (by omega) hG hS⟩, fun q => by omega⟩
      show (gAll (mTab I) nt g).bind _ = _
      rw [hg]
      show (if g < s0.1 then gRow (mTab I) g nt s0 else some s0) = _
      rw [if_pos hgs, ← show t = nt by omega, hr]
    | succ m ih =>
      intro t g s0 s I0 F et hg hgs hr hs hs2 hG hS nxt
      obtain ⟨a1, a2, a3, a4, a5, a6⟩ := mG_at hG
      have okF : okR (I0 218) := by rw [a1]; exact hG.2
      have hD0 : mD I0 := by unfold mD; rw [a3]; exact hD
      refine mr_laysGroup_63 hz ⟨fun q => by omega, fun q => mU_mono (s_times hz hD0 mA218 mA217 mA218 (by omega) (by omega) (by omega) (by omega) (by omega) (by omega) (show _ ≤ (441 : Int) by omega) (show _ ≤ (36 : Int) by omega) (show _ ≤ (441 : Int) by omega) (fun _ => by omega) (fun q => absurd q (by decide)) (by decide) okF (by rw [a2]; exact okT)) fun I2 e2 => ?_⟩
      have hG2 := mG_F hG e2 (tF_ok okF)
      obtain ⟨b1, b2, b3, b4, b5, b6⟩ := mG_at hG2
      have hD2 : mD I2 := by unfold mD; rw [b3]; exact hD
      have okF2 : okR (I2 218) := by rw [b1]; exact hG2.2
      have mem : ∀ k, k < s.1 → mMem I2 k = s.2 k := by
        intro k hk
        rw [← hS.2 k hk]
        unfold mMem
        rw [b1, b3, a3, mat_tF_ne hD' (by rw [a5]; omega)]
      have cand : mMem I2 s.1 = mm (s.2 g) (mTab I t) := by
        unfold mMem
        rw [b1, b3, a3, a5, mat_tF hD', ← hS.2 g (by omega)]
        unfold mMem mTab
        rw [a3, a2]
      refine mI_mono (s_find hz hD2 b5 hs okF2) fun v I3 ⟨e3, ev⟩ => ?_
      rw [e3]
      rw [cand, gFind_congr mem] at ev
      have hle := gFind_le s.2 (mm (s.2 g) (mTab I t)) s.1
      have hstep : gRow (mTab I) g (t + 1) s0 = gStep (mTab I) g t s := by
        show (gRow (mTab I) g t s0).bind _ = _
        rw [hr]
        rfl
      rw [b5]
      refine ⟨fun q2 => ⟨⟨by omega, by omega⟩, ?_⟩, fun q2 => ⟨fun q3 => ⟨⟨by omega, by omega⟩, fun I7 e7 => ⟨⟨by omega, by omega⟩, ?_⟩⟩, fun q3 => qI_mk ⟨⟨_, _, hG2⟩, Or.inr ⟨rfl, ?_⟩⟩⟩⟩
      · refine ih (t + 1) g s0 s I2 _ (by omega) hg hgs ?_ hs hs2 hG2 ⟨b5, mem⟩ nxt
        rw [hstep]
        unfold gStep
        rw [if_neg (by omega)]
      · have hG7 := mG_n hG2 e7
        obtain ⟨c1, c2, c3, c4, c5, c6⟩ := mG_at hG7
        have hG7' : mG I I7 ((s.1 + 1 : Nat) : Int) (tF (I0 209 1) (I0 209 11) (mEnt (I0 209 1) (I0 218) g (I0 217) t) (I0 209 1) 0 (I0 218)) := by
          have : ((s.1 + 1 : Nat) : Int) = (s.1 : Int) + 1 := by omega
          rw [this]
          exact hG7
        refine ih (t + 1) g s0 (s.1 + 1, fun k => if k = s.1 then mm (s.2 g) (mTab I t) else s.2 k) I7 _ (by omega) hg hgs ?_ (by show s.1 + 1 ≤ 48; omega) (by show s0.1 ≤ s.1 + 1; omega) hG7' ⟨by rw [c5]; show (s.1 : Int) + 1 = ((s.1 + 1 : Nat) : Int); omega, ?_⟩ nxt
        · rw [hstep]
          unfold gStep
          rw [if_pos (by omega), if_neg (by omega)]
        · intro k hk
          have hk' : k < s.1 + 1 := hk
          have e72 : mMem I7 k = mMem I2 k := by unfold mMem; rw [c1, c3, b1, b3]
          rw [e72]
          show _ = if k = s.1 then _ else _
          by_cases ek : k = s.1
          · rw [if_pos ek, ek]; exact cand
          · rw [if_neg ek]; exact mem k (by omega)
      · have h0 : gRow (mTab I) g (t + 1) s0 = none := by
          rw [hstep]
          unfold gStep
          rw [if_pos (by omega), if_pos (by omega)]
        have h1 := gRow_none h0 m
        rw [show t + 1 + m = nt by omega] at h1
        have h2 : gAll (mTab I) nt (g + 1) = none := by
          show (gAll (mTab I) nt g).bind _ = _
          rw [hg]
          show (if g < s0.1 then gRow (mTab I) g nt s0 else some s0) = _
          rw [if_pos hgs, h1]
        have h3 := gAll_none h2 (47 - g)
        rw [show g + 1 + (47 - g) = 48 by omega] at h3
        exact h3
  have k53 : ∀ (m g : Nat) (s : Nat × (Nat → cMat)) (I0 : cm_I) (F : Int → Int) (z2 : Option cm_V), g + m = 48 → gAll (mTab I) nt g = some s → s.1 ≤ 48 → g ≤ s.1 → mG I I0 s.1 F → mSt I0 s → cw (d + 3) cd_Model_laysGroup (qI z fun r I1 => (∃ n F, mG I I1 n F) ∧ ((r = 1 ∧ ∃ s, gAll (mTab I) nt 48 = some s ∧ s.1 ≤ 48 ∧ mSt I1 s) ∨ (r = 0 ∧ gAll (mTab I) nt 48 = none))) 53 [some (vR 12 209), some (vI (g : Int)), z2] [] (I0, z) := by
    intro m
    induction m with
    | zero =>
      intro g s I0 F z2 em hg hs hgs hG hS
      obtain ⟨a1, a2, a3, a4, a5, a6⟩ := mG_at hG
      refine mr_laysGroup_53 hz ⟨fun q => qI_mk ⟨⟨_, _, hG⟩, Or.inl ⟨rfl, s, ?_, hs, hS⟩⟩, fun q => by omega⟩
      rw [← show g = 48 by omega]; exact hg
    | succ m ih =>
      intro g s I0 F z2 em hg hs hgs hG hS
      obtain ⟨a1, a2, a3, a4, a5, a6⟩ := mG_at hG
      refine mr_laysGroup_53 hz ⟨fun q => qI_mk ⟨⟨_, _, hG⟩, Or.inl ⟨rfl, s, ?_, hs, hS⟩⟩, fun q => ?_⟩
      · have := gAll_stay hg (by omega) (48 - g)
        rw [show g + (48 - g) = 48 by omega] at this
        exact this
      · refine k63 nt 0 g s s I0 F (by omega) hg (by omega) rfl hs (Nat.le_refl _) hG hS fun s' I3 F' z2' hg' hs' hgs' hG' hS' => ?_
        exact ih (g + 1) s' I3 F' z2' (by omega) hg' hs' (by omega) hG' hS'
  have idF : ∀ (i j : Int), okR (idRow i j (I 218)) := by
    intro i j x
    unfold idRow
    split
    · split <;> omega
    · exact ok x
  have k14 : ∀ (m : Nat) (i j : Int) (I0 : cm_I), j + m = 3 → 0 ≤ i → i < 3 → 0 ≤ j → mG I I0 1 (idRow i j (I 218)) → (∀ (I3 : cm_I) (z2 : Option cm_V), mG I I3 1 (idRow (i + 1) 0 (I 218)) → cw (d + 3) cd_Model_laysGroup (qI z fun r I1 => (∃ n F, mG I I1 n F) ∧ ((r = 1 ∧ ∃ s, gAll (mTab I) nt 48 = some s ∧ s.1 ≤ 48 ∧ mSt I1 s) ∨ (r = 0 ∧ gAll (mTab I) nt 48 = none))) 7 [some (vR 12 209), some (vI (i + 1)), z2] [] (I3, z)) → cw (d + 3) cd_Model_laysGroup (qI z fun r I1 => (∃ n F, mG I I1 n F) ∧ ((r = 1 ∧ ∃ s, gAll (mTab I) nt 48 = some s ∧ s.1 ≤ 48 ∧ mSt I1 s) ∨ (r = 0 ∧ gAll (mTab I) nt 48 = none))) 14 [some (vR 12 209), some (vI i), some (vI j)] [] (I0, z) := by
    intro m
    induction m with
    | zero =>
      intro i j I0 em i0 i1 j0 hG nxt
      refine mr_laysGroup_14 hz ⟨fun q => ⟨⟨by omega, by omega⟩, nxt I0 _ ?_⟩, fun q => by omega⟩
      have e : (idRow i j (I 218)) = (idRow (i + 1) 0 (I 218)) := by
        funext x
        by_cases h : 0 ≤ x ∧ x < 9 ∧ (x / 3 < i ∨ (x / 3 = i ∧ x % 3 < j))
        · rw [idRow_pos h, idRow_pos (by omega)]
        · rw [idRow_neg h, idRow_neg (by omega)]
      rw [← e]
      exact hG
    | succ m ih =>
      intro i j I0 em i0 i1 j0 hG nxt
      have up : ∀ v : Int, v = (if i = j then 1 else 0) → ∀ I5 : cm_I, I5 = iu I0 218 (3 * i + j) v → mG I I5 1 (idRow i (j + 1) (I 218)) := by
        intro v ev I5 e5
        refine ⟨?_, idF i (j + 1)⟩
        rw [e5, hG.1, iu_iw]
        congr 1
        funext x
        by_cases hx : x = 3 * i + j
        · rw [if_pos hx, idRow_pos (by omega), ev, show x / 3 = i by omega, show x % 3 = j by omega]
        · rw [if_neg hx]
          by_cases h : 0 ≤ x ∧ x < 9 ∧ (x / 3 < i ∨ (x / 3 = i ∧ x % 3 < j))
          · rw [idRow_pos h, idRow_pos (by omega)]
          · rw [idRow_neg h, idRow_neg (by omega)]
      refine mr_laysGroup_14 hz ⟨fun q => by omega, fun q => ⟨⟨by omega, by omega⟩, ⟨by omega, by omega⟩, fun q2 => ⟨⟨by omega, by omega⟩, fun I5 e5 => ⟨⟨by omega, by omega⟩, ?_⟩⟩, fun q2 => ⟨⟨by omega, by omega⟩, fun I5 e5 => ⟨⟨by omega, by omega⟩, ?_⟩⟩⟩⟩
      · exact ih i (j + 1) I5 (by omega) i0 i1 (by omega) (up 0 (by rw [if_neg q2]) I5 e5) nxt
      · exact ih i (j + 1) I5 (by omega) i0 i1 (by omega) (up 1 (by rw [if_pos q2]) I5 e5) nxt
  have k7 : ∀ (m : Nat) (i : Int) (I0 : cm_I) (z2 : Option cm_V), i + m = 3 → 0 ≤ i → mG I I0 1 (idRow i 0 (I 218)) → cw (d + 3) cd_Model_laysGroup (qI z fun r I1 => (∃ n F, mG I I1 n F) ∧ ((r = 1 ∧ ∃ s, gAll (mTab I) nt 48 = some s ∧ s.1 ≤ 48 ∧ mSt I1 s) ∨ (r = 0 ∧ gAll (mTab I) nt 48 = none))) 7 [some (vR 12 209), some (vI i), z2] [] (I0, z) := by
    intro m
    induction m with
    | zero =>
      intro i I0 z2 em i0 hG
      obtain ⟨a1, a2, a3, a4, a5, a6⟩ := mG_at hG
      refine mr_laysGroup_7 hz ⟨fun q => ?_, fun q => by omega⟩
      refine k53 48 0 (1, fun _ => mId) I0 _ _ (by omega) rfl (by show 1 ≤ 48; omega) (by show 0 ≤ 1; omega) hG ⟨a5, ?_⟩
      intro k hk
      have hk0 : k = 0 := by have : k < 1 := hk; omega
      subst hk0
      show mMem I0 0 = mId
      unfold mMem
      rw [a1, a3]
      funext x y
      unfold mat mId
      by_cases h : (x : Int) < I 209 1 ∧ (y : Int) < I 209 1
      · rw [if_pos h, idRow_pos (by omega)]
        by_cases hxy : x = y
        · rw [if_pos (show (9 * ((0 : Nat) : Int) + 3 * x + y) / 3 = (9 * ((0 : Nat) : Int) + 3 * x + y) % 3 by omega), if_pos (show x = y ∧ x < 3 by omega)]; rfl
        · rw [if_neg (show ¬ (9 * ((0 : Nat) : Int) + 3 * x + y) / 3 = (9 * ((0 : Nat) : Int) + 3 * x + y) % 3 by omega), if_neg (show ¬ (x = y ∧ x < 3) by omega)]; rfl
      · rw [if_neg h]
    | succ m ih =>
      intro i I0 z2 em i0 hG
      refine mr_laysGroup_7 hz ⟨fun q => by omega, fun q => ?_⟩
      exact k14 3 i 0 I0 (by omega) i0 (by omega) (by omega) hG fun I3 z2' hG' => ih (i + 1) I3 z2' (by omega) (by omega) hG'
  refine k7 3 0 I1 _ (by omega) (by omega) ⟨?_, idF 0 0⟩
  have e : (idRow 0 0 (I 218)) = I1 218 := by
    rw [e1, iu_ne _ _ _ (by decide)]
    funext x
    rw [idRow_neg (by omega)]
  rw [e, ← e1, iw_self]
end MGR
