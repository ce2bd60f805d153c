/-! TABLES of the reference -/
/-- a table's product written into the slot k, up to the place (i0, j0) -/
def tF (D k : Int) (V : Nat → Nat → Int) (i0 j0 : Int) (f : Int → Int) : Int → Int := fun x => if 9 * k ≤ x ∧ x < 9 * k + 9 ∧ (x - 9 * k) % 3 < D ∧ ((x - 9 * k) / 3 < i0 ∨ ((x - 9 * k) / 3 = i0 ∧ (x - 9 * k) % 3 < j0)) then V ((x - 9 * k) / 3).toNat ((x - 9 * k) % 3).toNat else f x
theorem tF_out {D k i0 j0 : Int} {V : Nat → Nat → Int} {f : Int → Int} {x : Int} (h : ¬ (9 * k ≤ x ∧ x < 9 * k + 9)) : tF D k V i0 j0 f x = f x := by
  unfold tF
  rw [if_neg (by omega)]
def mEnt (D : Int) (f : Int → Int) (g : Int) (h : Int → Int) (k : Int) (i j : Nat) : Int := (sg D.toNat fun m => f (9 * g + 3 * i + m) * h (9 * k + 3 * m + j)) % 2521
section MT
variable {d : Nat} {z : cm_Z} {I : cm_I}
theorem s_entry (hz : mz z) {a : Nat} (ha : mA a) {g i j : Int} (g0 : 0 ≤ g) (g1 : g ≤ 1000) (i0 : 0 ≤ i) (i1 : i < 3) (j0 : 0 ≤ j) (j1 : j < 3) (hl : 9 * g + 9 ≤ mLen a) : mI (d + 1) m_Model_entry [vR 12 209, vR 20 a, vI g, vI i, vI j] z I fun r I1 => I1 = I ∧ r = I a (9 * g + 3 * i + j) := mr_entry hz ha ⟨⟨by omega, by omega⟩, ⟨by omega, by omega⟩, ⟨by omega, by omega⟩, ⟨by omega, by omega⟩, ⟨by omega, by omega⟩, qI_mk ⟨rfl, rfl⟩⟩
theorem s_times (hz : mz z) (hD : mD I) {a b c : Nat} (ha : mA a) (hb : mA b) (hc : mA c) {g h k : Int} (g0 : 0 ≤ g) (g1 : g ≤ 1000) (h0 : 0 ≤ h) (h1 : h ≤ 1000) (k0 : 0 ≤ k) (k1 : k ≤ 1000) (gl : 9 * g + 9 ≤ mLen a) (hl : 9 * h + 9 ≤ mLen b) (kl : 9 * k + 9 ≤ mLen c) (hac : a = c → g ≠ k) (hbc : b = c → h ≠ k) (c9 : c ≠ 209) (oa : okR (I a)) (ob : okR (I b)) : mU (d + 2) m_Model_times [vR 12 209, vR 20 a, vI g, vR 20 b, vI h, vR 20 c, vI k] z I fun I1 => I1 = iw I c (tF (I 209 1) k (mEnt (I 209 1) (I a) g (I b) h) (I 209 1) 0 (I c)) := by
  have hD' : I 209 1 = 2 ∨ I 209 1 = 3 := hD
  have ra : ∀ (i0 j0 y : Int), 9 * g ≤ y → y < 9 * g + 9 → iw I c (tF (I 209 1) k (mEnt (I 209 1) (I a) g (I b) h) i0 j0 (I c)) a y = I a y := by
    intro i0 j0 y q1 q2
    by_cases e : a = c
    · have := hac e
      rw [← e, iw_at, tF_out (by omega)]
    · rw [iw_ne _ _ e]
  have rb : ∀ (i0 j0 y : Int), 9 * h ≤ y → y < 9 * h + 9 → iw I c (tF (I 209 1) k (mEnt (I 209 1) (I a) g (I b) h) i0 j0 (I c)) b y = I b y := by
    intro i0 j0 y q1 q2
    by_cases e : b = c
    · have := hbc e
      rw [← e, iw_at, tF_out (by omega)]
    · rw [iw_ne _ _ e]
  have r9 : ∀ F, iw I c F 209 = I 209 := fun F => iw_ne _ _ (Ne.symm c9)
  refine mr_times hz ?_
  have k30 : ∀ (n m : Nat) (i j : Int) (I0 : cm_I) (z10 : Option cm_V), (m : Int) + n = I 209 1 → 0 ≤ i → i < I 209 1 → 0 ≤ j → j < I 209 1 → I0 = iw I c (tF (I 209 1) k (mEnt (I 209 1) (I a) g (I b) h) i j (I c)) → (∀ (I3 : cm_I) (z9 z10 z11 : Option cm_V), I3 = iw I c (tF (I 209 1) k (mEnt (I 209 1) (I a) g (I b) h) i (j + 1) (I c)) → cw (d + 1) cd_Model_times (qU z fun I1 => I1 = iw I c (tF (I 209 1) k (mEnt (I 209 1) (I a) g (I b) h) (I 209 1) 0 (I c))) 15 [some (vR 12 209), some (vR 20 a), some (vI g), some (vR 20 b), some (vI h), some (vR 20 c), some (vI k), some (vI i), some (vI (j + 1)), z9, z10, z11] [] (I3, z)) → cw (d + 1) cd_Model_times (qU z fun I1 => I1 = iw I c (tF (I 209 1) k (mEnt (I 209 1) (I a) g (I b) h) (I 209 1) 0 (I c))) 30 [some (vR 12 209), some (vR 20 a), some (vI g), some (vR 20 b), some (vI h), some (vR 20 c), some (vI k), some (vI i), some (vI j), some (vL (sg m fun m => I a (9 * g + 3 * i + m) * I b (9 * h + 3 * m + j))), z10, some (vI (m : Int))] [] (I0, z) := by
    intro n
    induction n with
    | zero =>
      intro m i j I0 z10 em i0 i1 j0 j1 e nxt
      have e9 : I0 209 = I 209 := by rw [e, r9]
      refine mr_times_30 hz hc ⟨fun q => ⟨⟨by omega, by omega⟩, ⟨by omega, by omega⟩, ⟨by omega, by omega⟩, ⟨by omega, by omega⟩, mI_mono (s_of hz _) fun v I5 ⟨e5, ev⟩ => ⟨⟨by omega, by omega⟩, fun I8 e8 => ⟨⟨by omega, by omega⟩, nxt I8 _ _ _ ?_⟩⟩⟩, fun q => by rw [e9] at q; omega⟩
      rw [e8, e5, e, iu_iw]
      congr 1
      funext x
      have hm : m = (I 209 1).toNat := by omega
      by_cases hx : x = 9 * k + 3 * i + j
      · rw [if_pos hx, ev]
        unfold tF
        rw [if_pos (by omega)]
        unfold mEnt
        rw [show ((x - 9 * k) / 3).toNat = i.toNat by omega, show ((x - 9 * k) % 3).toNat = j.toNat by omega, show ((i.toNat : Nat) : Int) = i by omega, show ((j.toNat : Nat) : Int) = j by omega, hm]
      · rw [if_neg hx]
        unfold tF
        by_cases hy : 9 * k ≤ x ∧ x < 9 * k + 9 ∧ (x - 9 * k) % 3 < I 209 1 ∧ ((x - 9 * k) / 3 < i ∨ ((x - 9 * k) / 3 = i ∧ (x - 9 * k) % 3 < j))
        · rw [if_pos hy, if_pos (by omega)]
        · rw [if_neg hy, if_neg (by omega)]
    | succ n ih =>
      intro m i j I0 z10 em i0 i1 j0 j1 e nxt
      have e9 : I0 209 = I 209 := by rw [e, r9]
      have S0 : 0 ≤ sg m (fun m => I a (9 * g + 3 * i + m) * I b (9 * h + 3 * m + j)) := sg_nonneg fun t _ => Int.mul_nonneg (oa _).1 (ob _).1
      have S1 := sg_le (n := m) (f := fun m => I a (9 * g + 3 * i + m) * I b (9 * h + 3 * m + j)) (B := 6350400) fun t _ => (mul_bd (oa _).1 (show I a _ ≤ 2520 by have := (oa (9 * g + 3 * i + t)).2; omega) (ob _).1 (show I b _ ≤ 2520 by have := (ob (9 * h + 3 * t + j)).2; omega)).2
      refine mr_times_30 hz hc ⟨fun q => by rw [e9] at q; omega, fun q => mI_mono (s_entry hz ha g0 g1 (by omega) (by omega) (by omega) (by omega) gl) fun v11 I10 ⟨e10, ev11⟩ => ?_⟩
      rw [e10]
      refine mI_mono (s_entry hz hb h0 h1 (by omega) (by omega) (by omega) (by omega) hl) fun v13 I12 ⟨e12, ev13⟩ => ?_
      rw [e12]
      rw [e, ra _ _ _ (by omega) (by omega)] at ev11
      rw [e, rb _ _ _ (by omega) (by omega)] at ev13
      have pr := mul_bd (oa (9 * g + 3 * i + m)).1 (show I a _ ≤ 2520 by have := (oa (9 * g + 3 * i + m)).2; omega) (ob (9 * h + 3 * m + j)).1 (show I b _ ≤ 2520 by have := (ob (9 * h + 3 * m + j)).2; omega)
      rw [← ev11, ← ev13] at pr
      refine ⟨⟨by omega, by omega⟩, ⟨by omega, by omega⟩, ⟨by omega, by omega⟩, ?_⟩
      have := ih (m + 1) i j I0 none (by omega) i0 i1 j0 j1 e nxt
      rw [sg_succ, ← ev11, ← ev13] at this
      exact this
  have k15 : ∀ (n : Nat) (i j : Int) (I0 : cm_I) (z9 z10 z11 : Option cm_V), j + n = I 209 1 → 0 ≤ i → i < I 209 1 → 0 ≤ j → I0 = iw I c (tF (I 209 1) k (mEnt (I 209 1) (I a) g (I b) h) i j (I c)) → (∀ (I3 : cm_I) (z8 z9 z10 z11 : Option cm_V), I3 = iw I c (tF (I 209 1) k (mEnt (I 209 1) (I a) g (I b) h) (i + 1) 0 (I c)) → cw (d + 1) cd_Model_times (qU z fun I1 => I1 = iw I c (tF (I 209 1) k (mEnt (I 209 1) (I a) g (I b) h) (I 209 1) 0 (I c))) 3 [some (vR 12 209), some (vR 20 a), some (vI g), some (vR 20 b), some (vI h), some (vR 20 c), some (vI k), some (vI (i + 1)), z8, z9, z10, z11] [] (I3, z)) → cw (d + 1) cd_Model_times (qU z fun I1 => I1 = iw I c (tF (I 209 1) k (mEnt (I 209 1) (I a) g (I b) h) (I 209 1) 0 (I c))) 15 [some (vR 12 209), some (vR 20 a), some (vI g), some (vR 20 b), some (vI h), some (vR 20 c), some (vI k), some (vI i), some (vI j), z9, z10, z11] [] (I0, z) := by
    intro n
    induction n with
    | zero =>
      intro i j I0 z9 z10 z11 en i0 i1 j0 e nxt
      have e9 : I0 209 = I 209 := by rw [e, r9]
      refine mr_times_15 hz ⟨fun q => ⟨⟨by omega, by omega⟩, nxt I0 _ _ _ _ ?_⟩, fun q => by rw [e9] at q; omega⟩
      rw [e]
      congr 1
      funext x
      unfold tF
      by_cases hy : 9 * k ≤ x ∧ x < 9 * k + 9 ∧ (x - 9 * k) % 3 < I 209 1 ∧ ((x - 9 * k) / 3 < i ∨ ((x - 9 * k) / 3 = i ∧ (x - 9 * k) % 3 < j))
      · rw [if_pos hy, if_pos (by omega)]
      · rw [if_neg hy, if_neg (by omega)]
    | succ n ih =>
      intro i j I0 z9 z10 z11 en i0 i1 j0 e nxt
      have e9 : I0 209 = I 209 := by rw [e, r9]
      refine mr_times_15 hz ⟨fun q => by rw [e9] at q; omega, fun q => ?_⟩
      exact k30 (I 209 1).toNat 0 i j I0 _ (by omega) i0 i1 j0 (by omega) e fun I3 z9' z10' z11' e3 => ih i (j + 1) I3 z9' z10' z11' (by omega) i0 i1 (by omega) e3 nxt
  have k3 : ∀ (n : Nat) (i : Int) (I0 : cm_I) (z8 z9 z10 z11 : Option cm_V), i + n = I 209 1 → 0 ≤ i → I0 = iw I c (tF (I 209 1) k (mEnt (I 209 1) (I a) g (I b) h) i 0 (I c)) → cw (d + 1) cd_Model_times (qU z fun I1 => I1 = iw I c (tF (I 209 1) k (mEnt (I 209 1) (I a) g (I b) h) (I 209 1) 0 (I c))) 3 [some (vR 12 209), some (vR 20 a), some (vI g), some (vR 20 b), some (vI h), some (vR 20 c), some (vI k), some (vI i), z8, z9, z10, z11] [] (I0, z) := by
    intro n
    induction n with
    | zero =>
      intro i I0 z8 z9 z10 z11 en i0 e
      have e9 : I0 209 = I 209 := by rw [e, r9]
      refine mr_times_3 hz ⟨fun q => qU_mk ?_, fun q => by rw [e9] at q; omega⟩
      rw [e, show i = I 209 1 by omega]
    | succ n ih =>
      intro i I0 z8 z9 z10 z11 en i0 e
      have e9 : I0 209 = I 209 := by rw [e, r9]
      refine mr_times_3 hz ⟨fun q => by rw [e9] at q; omega, fun q => ?_⟩
      exact k15 (I 209 1).toNat i 0 I0 _ _ _ (by omega) i0 (by omega) (by omega) e fun I3 z8' z9' z10' z11' e3 => ih (i + 1) I3 z8' z9' z10' z11' (by omega) (by omega) e3
  refine k3 (I 209 1).toNat 0 I _ _ _ _ (by omega) (by omega) ?_
  rw [show tF (I 209 1) k (mEnt (I 209 1) (I a) g (I b) h) 0 0 (I c) = I c from by funext x; unfold tF; rw [if_neg (by omega)], iw_self]
theorem s_areSame (hz : mz z) (hD : mD I) {a b : Nat} (ha : mA a) (hb : mA b) {g h : Int} (g0 : 0 ≤ g) (g1 : g ≤ 1000) (h0 : 0 ≤ h) (h1 : h ≤ 1000) (gl : 9 * g + 9 ≤ mLen a) (hl : 9 * h + 9 ≤ mLen b) : mI (d + 2) m_Model_areSame [vR 12 209, vR 20 a, vI g, vR 20 b, vI h] z I fun r I1 => I1 = I ∧ (r = 0 ∨ r = 1) ∧ (r = 1 ↔ ∀ i j : Int, 0 ≤ i → i < I 209 1 → 0 ≤ j → j < I 209 1 → I a (9 * g + 3 * i + j) = I b (9 * h + 3 * i + j)) := by
  have hD' : I 209 1 = 2 ∨ I 209 1 = 3 := hD
  refine mr_areSame hz ?_
  have k18 : ∀ (n : Nat) (i j r : Int), j + n = I 209 1 → 0 ≤ i → i < I 209 1 → 0 ≤ j → (r = 0 ∨ r = 1) → (r = 1 ↔ ∀ i' j' : Int, 0 ≤ i' → i' < I 209 1 → 0 ≤ j' → j' < I 209 1 → (i' < i ∨ (i' = i ∧ j' < j)) → I a (9 * g + 3 * i' + j') = I b (9 * h + 3 * i' + j')) → (∀ (r' : Int) (z7 : Option cm_V), (r' = 0 ∨ r' = 1) → (r' = 1 ↔ ∀ i' j' : Int, 0 ≤ i' → i' < I 209 1 → 0 ≤ j' → j' < I 209 1 → i' < i + 1 → I a (9 * g + 3 * i' + j') = I b (9 * h + 3 * i' + j')) → cw (d + 1) cd_Model_areSame (qI z fun r I1 => I1 = I ∧ (r = 0 ∨ r = 1) ∧ (r = 1 ↔ ∀ i j : Int, 0 ≤ i → i < I 209 1 → 0 ≤ j → j < I 209 1 → I a (9 * g + 3 * i + j) = I b (9 * h + 3 * i + j))) 6 [some (vR 12 209), some (vR 20 a), some (vI g), some (vR 20 b), some (vI h), some (vI r'), some (vI (i + 1)), z7] [] (I, z)) → cw (d + 1) cd_Model_areSame (qI z fun r I1 => I1 = I ∧ (r = 0 ∨ r = 1) ∧ (r = 1 ↔ ∀ i j : Int, 0 ≤ i → i < I 209 1 → 0 ≤ j → j < I 209 1 → I a (9 * g + 3 * i + j) = I b (9 * h + 3 * i + j))) 18 [some (vR 12 209), some (vR 20 a), some (vI g), some (vR 20 b), some (vI h), some (vI r), some (vI i), some (vI j)] [] (I, z) := by
    intro n
    induction n with
    | zero =>
      intro i j r en i0 i1 j0 hr hk nxt
      refine mr_areSame_18 hz ⟨fun q => ⟨⟨by omega, by omega⟩, nxt r _ hr ?_⟩, fun q => by omega⟩
      rw [hk]
      exact ⟨fun H i' j' q1 q2 q3 q4 q5 => H i' j' q1 q2 q3 q4 (by omega), fun H i' j' q1 q2 q3 q4 q5 => H i' j' q1 q2 q3 q4 (by omega)⟩
    | succ n ih =>
      intro i j r en i0 i1 j0 hr hk nxt
      refine mr_areSame_18 hz ⟨fun q => by omega, fun q => ⟨fun q2 => ⟨⟨by omega, by omega⟩, ih i (j + 1) 0 (by omega) i0 i1 (by omega) (Or.inl rfl) ?_ nxt⟩, fun q2 => mI_mono (s_entry hz ha g0 g1 i0 (by omega) j0 (by omega) gl) fun v4 I3 ⟨e3, ev4⟩ => ?_⟩⟩
      · refine ⟨fun q => absurd q (by decide), fun H => ?_⟩
        have := hk.mpr fun i' j' q1 q2 q3 q4 q5 => H i' j' q1 q2 q3 q4 (by omega)
        omega
      · rw [e3]
        refine mI_mono (s_entry hz hb h0 h1 i0 (by omega) j0 (by omega) hl) fun v6 I5 ⟨e5, ev6⟩ => ?_
        rw [e5]
        refine ⟨fun q3 => ⟨⟨by omega, by omega⟩, ih i (j + 1) 0 (by omega) i0 i1 (by omega) (Or.inl rfl) ?_ nxt⟩, fun q3 => ⟨⟨by omega, by omega⟩, ih i (j + 1) 1 (by omega) i0 i1 (by omega) (Or.inr rfl) ?_ nxt⟩⟩
        · refine ⟨fun q => absurd q (by decide), fun H => ?_⟩
          exact absurd (H i j i0 i1 j0 (by omega) (by omega)) (by rw [← ev4, ← ev6]; exact q3)
        · refine ⟨fun _ i' j' y1 y2 y3 y4 y5 => ?_, fun _ => rfl⟩
          by_cases hij : i' = i ∧ j' = j
          · rw [hij.1, hij.2, ← ev4, ← ev6]; exact q3
          · exact hk.mp (by omega) i' j' y1 y2 y3 y4 (by omega)
  have k6 : ∀ (n : Nat) (i r : Int) (z7 : Option cm_V), i + n = I 209 1 → 0 ≤ i → (r = 0 ∨ r = 1) → (r = 1 ↔ ∀ i' j' : Int, 0 ≤ i' → i' < I 209 1 → 0 ≤ j' → j' < I 209 1 → i' < i → I a (9 * g + 3 * i' + j') = I b (9 * h + 3 * i' + j')) → cw (d + 1) cd_Model_areSame (qI z fun r I1 => I1 = I ∧ (r = 0 ∨ r = 1) ∧ (r = 1 ↔ ∀ i j : Int, 0 ≤ i → i < I 209 1 → 0 ≤ j → j < I 209 1 → I a (9 * g + 3 * i + j) = I b (9 * h + 3 * i + j))) 6 [some (vR 12 209), some (vR 20 a), some (vI g), some (vR 20 b), some (vI h), some (vI r), some (vI i), z7] [] (I, z) := by
    intro n
    induction n with
    | zero =>
      intro i r z7 en i0 hr hk
      refine mr_areSame_6 hz ⟨fun q => ⟨hr, qI_mk ⟨rfl, hr, ?_⟩⟩, fun q => by omega⟩
      rw [hk]
      exact ⟨fun H i' j' q1 q2 q3 q4 => H i' j' q1 q2 q3 q4 (by omega), fun H i' j' q1 q2 q3 q4 q5 => H i' j' q1 q2 q3 q4⟩
    | succ n ih =>
      intro i r z7 en i0 hr hk
      refine mr_areSame_6 hz ⟨fun q => by omega, fun q => ?_⟩
      refine k18 (I 209 1).toNat i 0 r (by omega) i0 (by omega) (by omega) hr ?_ fun r' z7' hr' hk' => ih (i + 1) r' z7' (by omega) (by omega) hr' hk'
      rw [hk]
      exact ⟨fun H i' j' q1 q2 q3 q4 q5 => H i' j' q1 q2 q3 q4 (by omega), fun H i' j' q1 q2 q3 q4 q5 => H i' j' q1 q2 q3 q4 (by omega)⟩
  exact k6 (I 209 1).toNat 0 1 _ (by omega) (by omega) (Or.inr rfl) ⟨fun _ i' j' q1 q2 q3 q4 q5 => by omega, fun _ => rfl⟩
end MT
