/-! READING of tables: a row -/
/-- whether a row goes on -/
def pMore (D n : Int) (f : Int → Int) : Prop := (D = 0 ∧ (n < 2 ∨ (n = 2 ∧ (f 18 = 1 ∨ (f 18 = 2 ∧ f 19 = 45))))) ∨ (D ≠ 0 ∧ n < D)
def pRow (B : Int → Int) (D a : Int) : Nat → Int → (Int → Int) → (Int → Int) → Bool × Int × (Int → Int) × (Int → Int)
  | 0, n, f, RT => (true, n, f, RT)
  | k + 1, n, f, RT => if (D = 0 ∧ (n < 2 ∨ (n = 2 ∧ (f 18 = 1 ∨ (f 18 = 2 ∧ f 19 = 45))))) ∨ (D ≠ 0 ∧ n < D) then (if (pNum B (a + n) f RT).1 = true then pRow B D a k (n + 1) (pNum B (a + n) f RT).2.1 (pNum B (a + n) f RT).2.2 else (false, n + 1, (pNum B (a + n) f RT).2.1, (pNum B (a + n) f RT).2.2)) else (true, n, f, RT)
theorem pRow_yes {B : Int → Int} {D a n : Int} {k : Nat} {f RT : Int → Int} (h : pMore D n f) : pRow B D a (k + 1) n f RT = if (pNum B (a + n) f RT).1 = true then pRow B D a k (n + 1) (pNum B (a + n) f RT).2.1 (pNum B (a + n) f RT).2.2 else (false, n + 1, (pNum B (a + n) f RT).2.1, (pNum B (a + n) f RT).2.2) := if_pos h
theorem pRow_no {B : Int → Int} {D a n : Int} {k : Nat} {f RT : Int → Int} (h : ¬ pMore D n f) : pRow B D a (k + 1) n f RT = (true, n, f, RT) := if_neg h
theorem pRow_ok {B : Int → Int} {D a : Int} : ∀ (k : Nat) (n : Int) (f RT : Int → Int), rOk f → okR RT → rOk (pRow B D a k n f RT).2.2.1 ∧ (∀ s, s < 16 ∨ 20 < s → (pRow B D a k n f RT).2.2.1 s = f s) ∧ okR (pRow B D a k n f RT).2.2.2 ∧ n ≤ (pRow B D a k n f RT).2.1 ∧ (pRow B D a k n f RT).2.1 ≤ n + k := by
  intro k
  induction k with
  | zero => intro n f RT h hR; exact ⟨h, fun s _ => rfl, hR, Int.le_refl n, by show n ≤ n + _; omega⟩
  | succ k ih =>
    intro n f RT h hR
    obtain ⟨x1, x2, x3⟩ := pNum_ok (B := B) (a := a + n) h hR
    by_cases q : pMore D n f
    · rw [pRow_yes q]
      by_cases g : (pNum B (a + n) f RT).1 = true
      · rw [if_pos g]
        obtain ⟨y1, y2, y3, y4, y5⟩ := ih (n + 1) _ _ x1 x3
        exact ⟨y1, fun s hs => (y2 s hs).trans (x2 s hs), y3, by omega, by omega⟩
      · rw [if_neg g]
        exact ⟨x1, x2, x3, by show n ≤ n + 1; omega, by show n + 1 ≤ n + _; omega⟩
    · rw [pRow_no q]
      exact ⟨h, fun s _ => rfl, hR, Int.le_refl n, by show n ≤ n + _; omega⟩
def rD (f : Int → Int) (v : Int) : Int → Int := fun s => if s = 23 then v else f s
/-- the whole row: whether it is good, the reader (with the number of variables), the cells -/
def pRowAll (B : Int → Int) (a : Int) (f RT : Int → Int) : Bool × (Int → Int) × (Int → Int) :=
  ((pRow B (f 23) a 3 0 f RT).1, rD (pRow B (f 23) a 3 0 f RT).2.2.1 (if f 23 = 0 then (pRow B (f 23) a 3 0 f RT).2.1 else f 23), (pRow B (f 23) a 3 0 f RT).2.2.2)
section MRO
variable {d : Nat} {z : cm_Z} {I : cm_I}
theorem s_rowOf (hz : mz z) (h : rOk (I 209)) (hR : okR (I 220)) (hD : I 209 23 = 0 ∨ I 209 23 = 2 ∨ I 209 23 = 3) {a : Int} (a0 : 0 ≤ a) (a1 : a + 3 ≤ 36) : mI (d + 4) m_Model_rowOf [vR 12 209, vI a] z I fun r I1 => I1 = mJ I (pRowAll (I 219) a (I 209) (I 220)).2.1 (pRowAll (I 219) a (I 209) (I 220)).2.2 ∧ r = if (pRowAll (I 219) a (I 209) (I 220)).1 = true then 1 else 0 := by
  refine mr_rowOf hz ?_
  have k57 : ∀ (n b : Int) (f RT : Int → Int) (I0 : cm_I) (z1 : Option cm_V) (g : Bool), I0 = mJ I f RT → f 23 = I 209 23 → (b = if g = true then 1 else 0) → pRow (I 219) (I 209 23) a 3 0 (I 209) (I 220) = (g, n, f, RT) → cw (d + 3) cd_Model_rowOf (qI z fun r I1 => I1 = mJ I (pRowAll (I 219) a (I 209) (I 220)).2.1 (pRowAll (I 219) a (I 209) (I 220)).2.2 ∧ r = if (pRowAll (I 219) a (I 209) (I 220)).1 = true then 1 else 0) 57 [some (vR 12 209), z1, some (vI n), some (vI b)] [] (I0, z) := by
    intro n b f RT I0 z1 g e e23 hb hp
    obtain ⟨m1, m2, m3⟩ := mJ_at I f RT
    rw [← e] at m1 m2 m3
    have b01 : b = 0 ∨ b = 1 := by rw [hb]; split <;> omega
    unfold pRowAll
    rw [hp]
    refine mr_rowOf_57 hz ⟨fun q I1 e1 => ⟨b01, qI_mk ⟨?_, hb⟩⟩, fun q I2 e2 => ⟨b01, qI_mk ⟨?_, hb⟩⟩⟩
    · rw [m1, e23] at q
      rw [e1, iu_def, m1, e, mJ_f, e23]
      congr 1
      rw [if_neg q]
      rfl
    · rw [m1, e23] at q
      rw [e2, iu_def, m1, e, mJ_f]
      congr 1
      rw [if_pos q]
      rfl
  have key : ∀ (k : Nat) (n : Int) (f RT : Int → Int) (I0 : cm_I), n + k = 3 → 0 ≤ n → I0 = mJ I f RT → rOk f → okR RT → f 23 = I 209 23 → pRow (I 219) (I 209 23) a 3 0 (I 209) (I 220) = pRow (I 219) (I 209 23) a k n f RT → cw (d + 3) cd_Model_rowOf (qI z fun r I1 => I1 = mJ I (pRowAll (I 219) a (I 209) (I 220)).2.1 (pRowAll (I 219) a (I 209) (I 220)).2.2 ∧ r = if (pRowAll (I 219) a (I 209) (I 220)).1 = true then 1 else 0) 4 [some (vR 12 209), some (vI a), some (vI n), some (vI 1)] [] (I0, z) := by
    intro k
    induction k with
    | zero =>
      intro n f RT I0 en n0 e hf hRT e23 hp
      obtain ⟨m1, m2, m3⟩ := mJ_at I f RT
      rw [← e] at m1 m2 m3
      have stop := k57 n 1 f RT I0 (some (vI a)) true e e23 rfl hp
      refine mr_rowOf_4 hz ⟨fun q => absurd q (by decide), fun _ => ⟨fun q => ⟨fun q2 => stop, fun q2 => ?_⟩, fun q => ⟨fun q2 => by omega, fun q2 => ⟨fun q3 => stop, fun q3 => by omega⟩⟩⟩⟩
      rw [m1, e23] at q2
      omega
    | succ k ih =>
      intro n f RT I0 en n0 e hf hRT e23 hp
      obtain ⟨m1, m2, m3⟩ := mJ_at I f RT
      rw [← e] at m1 m2 m3
      obtain ⟨x1, x2, x3⟩ := pNum_ok (B := I 219) (a := a + n) hf hRT
      have stop : ¬ pMore (I 209 23) n f → cw (d + 3) cd_Model_rowOf (qI z fun r I1 => I1 = mJ I (pRowAll (I 219) a (I 209) (I 220)).2.1 (pRowAll (I 219) a (I 209) (I 220)).2.2 ∧ r = if (pRowAll (I 219) a (I 209) (I 220)).1 = true then 1 else 0) 57 [some (vR 12 209), some (vI a), some (vI n), some (vI 1)] [] (I0, z) := by
        intro q
        rw [pRow_no q] at hp
        exact k57 n 1 f RT I0 _ true e e23 rfl hp
      have cont : pMore (I 209 23) n f → mI (d + 3) m_Model_tableNumber [vR 12 209, vI (a + n)] z I0 fun v I2 => (cm_i (n + 1) ∧ cw (d + 3) cd_Model_rowOf (qI z fun r I1 => I1 = mJ I (pRowAll (I 219) a (I 209) (I 220)).2.1 (pRowAll (I 219) a (I 209) (I 220)).2.2 ∧ r = if (pRowAll (I 219) a (I 209) (I 220)).1 = true then 1 else 0) 4 [some (vR 12 209), some (vI a), some (vI (n + 1)), some (vI v)] [] (I2, z)) := by
        intro q
        rw [pRow_yes q] at hp
        refine mI_mono (s_tableNumber hz (by rw [m1]; exact hf) (by omega) (by omega)) fun v I2 ⟨e2, ev⟩ => ⟨⟨by omega, by omega⟩, ?_⟩
        rw [m1, m2, m3, e, mJ_J] at e2
        rw [m1, m2, m3] at ev
        have f23 : (pNum (I 219) (a + n) f RT).2.1 23 = I 209 23 := (x2 23 (by omega)).trans e23
        by_cases g : (pNum (I 219) (a + n) f RT).1 = true
        · rw [if_pos g] at ev hp
          rw [ev]
          exact ih (n + 1) _ _ I2 (by omega) (by omega) e2 x1 x3 f23 hp
        · rw [if_neg g] at ev hp
          rw [ev]
          exact mr_rowOf_4 hz ⟨fun _ => k57 (n + 1) 0 _ _ I2 _ false e2 f23 rfl hp, fun q => absurd rfl q⟩
      refine mr_rowOf_4 hz ⟨fun q => absurd q (by decide), fun _ => ⟨fun q => ⟨fun q2 => stop ?_, fun q2 => ⟨⟨by omega, by omega⟩, cont ?_⟩⟩, fun q => ⟨fun q2 => ⟨⟨by omega, by omega⟩, cont ?_⟩, fun q2 => ⟨fun q3 => stop ?_, fun q3 => mI_mono (s_isNumberNext hz) fun v10 I9 ⟨e9, _, e10⟩ => ?_⟩⟩⟩⟩
      · rw [m1, e23] at q q2
        unfold pMore
        omega
      · rw [m1, e23] at q q2
        exact Or.inr ⟨q, q2⟩
      · rw [m1, e23] at q
        exact Or.inl ⟨q, Or.inl q2⟩
      · rw [m1, e23] at q
        unfold pMore
        omega
      · rw [m1, e23] at q
        rw [e9]
        rw [m1] at e10
        refine ⟨fun q4 => stop ?_, fun q4 => ⟨⟨by omega, by omega⟩, cont (Or.inl ⟨q, Or.inr ⟨q3, e10.mp (by omega)⟩⟩)⟩⟩
        intro hm
        rcases hm with hm | hm
        · rcases hm.2 with hx | hx
          · omega
          · have := e10.mpr hx.2; omega
        · exact hm.1 q
  exact key 3 0 (I 209) (I 220) I rfl (by omega) (mJ_self I).symm h hR rfl rfl
end MRO
