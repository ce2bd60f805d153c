/-! BOTH TOGETHER: texts, and the call that may throw -/
section JN2
variable {z z1 : cm_Z} {I I1 I2 : cm_I} {T : Nat → cMat} {nt n : Nat} {L : Nat → cMat} {D : Int} {K : Int → Int → Int} {B : Int → Int} {tp : Int} {rf rf' : Option (Int → Int)} {sh mb : Nat}
theorem j_feed (h : jW z I) (a b c e f : Int) : jStep m_Works_feed m_Model_feed [vR 11 1, vI a, vI b, vI c, vI e, vI f] [vR 12 209, vI a, vI b, vI c, vI e, vI f] z I := by
  obtain ⟨D, T, nt, n, L, K, B, tp, rf, sh, mb, h⟩ := h
  refine j_mk h (mI_zc (c_feed (d := 68) h.1 a b c e f)) fk5 (fun v I1 z1 p => by rw [p.1]; exact wI_N h.1) fun v I1 z1 ⟨ez, p⟩ m q r _ _ _ _ => mI_mono (q_feed (d := 68) r m a b c e f) fun w I2 ⟨f', r2⟩ => ?_
  subst ez
  rcases p with ⟨a, b, c⟩ | ⟨a, b, c⟩
  · rcases r2 with ⟨a', b', c'⟩ | ⟨a', b', c'⟩
    · exact ⟨c'.trans c.symm, jW_mk b f' b' m q, usW_refl _⟩
    · omega
  · rcases r2 with ⟨a', b', c'⟩ | ⟨a', b', c'⟩
    · omega
    · rw [b] at f'
      exact ⟨c'.trans c.symm, jW_mk h.1 f' b' m q, usW_refl _⟩
theorem j_polynomial (h : jW z I) (k a : Int) : jStep m_Works_polynomial m_Model_polynomial [vR 11 1, vI k, vI a] [vR 12 209, vI k, vI a] z I := by
  obtain ⟨D, T, nt, n, L, K, B, tp, rf, sh, mb, h⟩ := h
  have v := h.2.1.2.2.2.2.2.2.2.1
  refine j_mk h (c_polynomial (d := 20) h.1 (f := I 209) v.1 v.2 k a) fk2 (fun v I1 z1 p => by
    rcases p.2 with ⟨_, _, p⟩ | ⟨_, _, p⟩
    · exact wI_N p
    · exact wI_N p) fun v I1 z1 ⟨u, p⟩ m q r e9 _ _ _ => mI_mono (q_polynomial (d := 28) r m k a) fun w I2 ⟨f', r2⟩ => ?_
  rw [e9] at r2
  rcases p with ⟨a, b, c⟩ | ⟨a, b, c⟩
  · rcases r2 with ⟨a', b', c'⟩ | ⟨a', b', c'⟩
    · exact ⟨b'.trans b.symm, jW_mk c f' c' m q, u⟩
    · exact absurd a a'
  · rcases r2 with ⟨a', b', c'⟩ | ⟨a', b', c'⟩
    · exact absurd a' a
    · exact ⟨b'.trans b.symm, jW_mk c f' c' m q, u⟩
/-- a state of the reference with such tables -/
def exI (D : Int) (nt : Nat) (RT : Int → Int) : cm_I := fun c => if c = 209 then (fun s => if s = 1 then D else if s = 9 then (nt : Int) else 0) else if c = 210 then mEa D else if c = 211 then mEb D else if c = 212 then mEc D else if c = 217 then RT else fun _ => 0
theorem ex_bs (hz : mz z) (hD : D = 2 ∨ D = 3) {RT : Int → Int} (oR : okR RT) (h4 : nt ≤ 4) : ∀ t : Nat, t ≤ 15 → ∃ r X, isBs D (fun k : Nat => mat D RT (k : Int)) nt t r X := by
  have ok0 : okR (fun _ => (0 : Int)) := fun _ => ⟨Int.le_refl 0, by show (0 : Int) < 2521; decide⟩
  have e1 : exI D nt RT 209 1 = D := rfl
  have mv : mvOk (exI D nt RT) := ⟨hD, fun k _ _ => ⟨rfl, rfl, rfl⟩, ok0, oR, ok0, ok0⟩
  have eT : mTab (exI D nt RT) = fun k : Nat => mat D RT (k : Int) := rfl
  have b : bsOk (mTab (exI D nt RT)) nt (exI D nt RT) := by
    refine ⟨Int.le_refl _, (show (0 : Int) ≤ 16 by decide), ok0, ok0, Int.le_refl _, Int.le_refl _, fun t t0 t1 => ?_⟩
    have : exI D nt RT 209 37 = 0 := rfl
    omega
  intro t ht
  have := bs_ex (z := z) (I := exI D nt RT) (nt := nt) hz mv rfl h4 b (t : Int) (by omega) (by omega)
  rw [e1, eT] at this
  exact ⟨_, _, this⟩
theorem j_tables (h : jW z I) (a : Int) : jStep m_Works_tables m_Model_tables [vR 11 1, vI a] [vR 12 209, vI a] z I := by
  obtain ⟨D, T, nt, n, L, K, B, tp, rf, sh, mb, h⟩ := h
  have hr := h.2.1
  have v := hr.2.2.2.2.2.2.2.1
  have o := hr.2.2.2.2.2.2.2.2.2.1
  have oP := hr.2.2.2.2.2.2.2.2.2.2
  obtain ⟨t1, t2, t3⟩ := id hr.2.2.2.2.2.2.1
  obtain ⟨R, eR⟩ : ∃ R, R = pTabs B (tb0 B a (I 209)) (I 220) (I 221) := ⟨_, rfl⟩
  have tk : 0 ≤ a ∧ a ≤ tp → tbOk (tb0 B a (I 209)) R := fun q => by
    obtain ⟨b1, _⟩ := tb0_ok (B := B) (f := I 209) q.1 (by omega) v.1 v.2
    rw [eR]
    exact (pTabs_ok (B := B) (f := tb0 B a (I 209)) (RT := I 220) (RP := I 221) b1 (o 220 (by decide)) oP rfl rfl).2
  have eqm : ∀ t : Nat, (t : Int) < 4 → R.2.1 23 ≤ 3 → tdT R (I 217) t = mat (R.2.1 23) R.2.2.1 (t : Int) := fun t ht h3 => by
    unfold tdT
    funext i j
    unfold mat
    by_cases q : ((i : Nat) : Int) < R.2.1 23 ∧ ((j : Nat) : Int) < R.2.1 23
    · rw [if_pos q, if_pos q]
      show toF (if 0 ≤ 9 * (t : Int) + 3 * (i : Int) + (j : Int) ∧ 9 * (t : Int) + 3 * (i : Int) + (j : Int) < 36 then _ else _) = _
      rw [if_pos ⟨by omega, by omega⟩]
    · rw [if_neg q, if_neg q]
  have hEx : 0 ≤ a ∧ a ≤ tp → R.1 = true → (∀ t, t < (R.2.1 24).toNat → mDet (tdT R (I 217) t) ≠ 0) → ∀ t : Nat, t ≤ 15 → ∃ r X, isBs (R.2.1 23) (tdT R (I 217)) (R.2.1 24).toNat t r X := fun q r1 _ => by
    obtain ⟨k1, k2, k3, k4, k5, k6, k7⟩ := tk q
    refine ex_bs h.2.2.1 (k7 r1) (fun j => ?_) (by omega)
    show 0 ≤ (if 0 ≤ j ∧ j < 36 then R.2.2.1 j else I 217 j) ∧ (if 0 ≤ j ∧ j < 36 then R.2.2.1 j else I 217 j) < 2521
    split
    · exact k2 j
    · exact o 217 (by decide) j
  have hT' : 0 ≤ a ∧ a ≤ tp → R.1 = true → ∀ t : Nat, (t : Int) < R.2.1 24 → tdT R (I 217) t = mat (R.2.1 23) R.2.2.1 (t : Int) := fun q r1 t ht => by
    obtain ⟨k1, k2, k3, k4, k5, k6, k7⟩ := tk q
    exact eqm t (by omega) (by have := k7 r1; omega)
  refine j_mk h (c_tables (d := 63) h.1 (f := I 209) v.1 v.2 (o 220 (by decide)) oP a eR hT' hEx) fk1 (fun v I1 z1 p => ?_) fun v I1 z1 ⟨u, p⟩ m q r e9 e17 e20 e21 => mI_mono (q_tables (d := 64) r m a (R := R) (by rw [e9, e20, e21]; exact eR)) fun w I2 ⟨f', r2⟩ => ?_
  · rcases p.2 with ⟨_, p⟩ | ⟨_, _, p⟩
    · rcases p with ⟨_, _, p⟩ | ⟨_, ⟨_, _, _, _, _, p⟩ | ⟨_, _, _, p⟩ | ⟨_, _, _, _, p⟩⟩
      · exact wI_N p
      · exact wI_N p
      · exact wI_N p
      · exact wI_N p
    · exact wI_N p
  · rw [e17] at r2
    rcases p with ⟨a, p⟩ | ⟨a, b, c⟩
    · rcases r2 with ⟨_, r2⟩ | ⟨a', _⟩
      · rcases p with ⟨x, b, c⟩ | ⟨x, p⟩
        · rcases r2 with ⟨x', b', c'⟩ | ⟨x', _⟩
          · exact ⟨b'.trans b.symm, jW_mk c f' c' m q, u⟩
          · rw [x] at x'; exact absurd x' (by decide)
        · rcases r2 with ⟨x', _⟩ | ⟨x', r2⟩
          · rw [x] at x'; exact absurd x' (by decide)
          · rcases p with ⟨t, p1, p2, p3, b, c⟩ | ⟨p1, p2, b, c⟩ | ⟨p1, s, p2, b, c⟩
            · rcases r2 with ⟨t', y1, y2, y3, b', c'⟩ | ⟨y1, _⟩ | ⟨y1, _⟩
              · have : t = t' := by
                  rcases Nat.lt_trichotomy t t' with w | w | w
                  · exact absurd p2 (y3 t w)
                  · exact w
                  · exact absurd y2 (p3 t' w)
                subst this
                exact ⟨b'.trans b.symm, jW_mk c f' c' m q, u⟩
              · exact absurd p2 (y1 t p1)
              · exact absurd p2 (y1 t p1)
            · rcases r2 with ⟨t', y1, y2, _⟩ | ⟨y1, y2, b', c'⟩ | ⟨y1, s', y2, _⟩
              · exact absurd y2 (p1 t' y1)
              · exact ⟨b'.trans b.symm, jW_mk c f' c' m q, u⟩
              · rw [p2] at y2; exact absurd y2 (by simp)
            · rcases r2 with ⟨t', y1, y2, _⟩ | ⟨y1, y2, _⟩ | ⟨y1, s', y2, b', c'⟩
              · exact absurd y2 (p1 t' y1)
              · rw [p2] at y2; exact absurd y2 (by simp)
              · rw [p2] at y2
                have := Option.some.inj y2
                subst this
                exact ⟨b'.trans b.symm, jW_mk c f' c' m q, u⟩
      · exact absurd a a'
    · rcases r2 with ⟨a', _⟩ | ⟨a', b', c'⟩
      · exact absurd a' a
      · exact ⟨b'.trans b.symm, jW_mk c f' c' m q, u⟩
/-- the call that may throw -/
def jTerm (k i what : Int) (z : cm_Z) (I : cm_I) : Prop := (∃ v I2, cm_call 70 m_Works_term [vR 11 1, vI k, vI i, vI what] (I, z) (cm_qe (some (vI v)) (I, z)) ∧ cm_call 70 m_Model_term [vR 12 209, vI k, vI i, vI what] (I, z) (cm_qe (some (vI v)) (I2, z)) ∧ cm_call 70 m_Model_thrown [vR 12 209] (I2, z) (cm_qe (some (vI 0)) (I2, z)) ∧ jW z I2) ∨ (∃ v I2, cm_call 70 m_Works_term [vR 11 1, vI k, vI i, vI what] (I, z) (cm_qe cm_exc (ch_thr (I, z))) ∧ cm_call 70 m_Model_term [vR 12 209, vI k, vI i, vI what] (I, z) (cm_qe (some (vI v)) (I2, z)) ∧ cm_call 70 m_Model_thrown [vR 12 209] (I2, z) (cm_qe (some (vI 1)) (I2, z)) ∧ jW z I2)
theorem j_term (h : jW z I) (k i what : Int) (hi : i ≤ 2147483647) : jTerm k i what z I := by
  obtain ⟨D, T, nt, n, L, K, B, tp, rf, sh, mb, h⟩ := h
  obtain ⟨v, I2, c2, f, r2, p⟩ := mI_leaf (q_term (d := 67) h.2.1 h.2.2.1 k i what hi)
  have j := jW_mk h.1 f r2 h.2.2.1 h.2.2.2
  have th : cm_call 70 m_Model_thrown [vR 12 209] (I2, z) (cm_qe (some (vI (I2 209 0))) (I2, z)) := by
    obtain ⟨w, I3, c3, e3, e4⟩ := mI_leaf (s_thrown (d := 69) (I := I2) h.2.2.1)
    rw [e3, e4] at c3
    exact c3
  rcases p with ⟨a, b⟩ | ⟨a, b⟩
  · left
    refine ⟨v, I2, c_term (d := 68) h.1 k i what (fun r e => ?_) (fun e => ?_), c2, by rw [b] at th; exact th, j⟩
    · rw [a] at e
      rw [Option.some.inj e]
      exact ⟨rfl, rfl⟩
    · rw [a] at e; exact absurd e (by simp)
  · right
    refine ⟨v, I2, c_term (d := 68) h.1 k i what (fun r e => ?_) (fun e => ⟨rfl, rfl⟩), c2, by rw [b] at th; exact th, j⟩
    rw [a] at e; exact absurd e (by simp)
end JN2
