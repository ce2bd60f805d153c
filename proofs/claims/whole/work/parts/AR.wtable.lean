/-! THE CLASS: reading a table, all tables -/
section WRT
variable {d : Nat} {z : cm_Z} {I : cm_I} {B f : Int → Int} {mb : Nat}
def tabP (B f RT : Int → Int) (mb : Nat) (t : Int) (I : cm_I) (r : Int) (I1 : cm_I) : Prop := fr [49, mb, mb + 1] I I1 ∧ rdF B (pTab0 B f RT).2.1 I1 ∧ (∀ j, j ≠ 0 → I1 mb j = I mb j) ∧ okR (I1 (mb + 1)) ∧ ((r = 1 ∧ (pTab0 B f RT).1 = true ∧ I1 mb 0 = (pTab0 B f RT).2.1 23 ∧ ((pTab0 B f RT).2.1 23 = 2 ∨ (pTab0 B f RT).2.1 23 = 3) ∧ (f 23 ≠ 0 → (pTab0 B f RT).2.1 23 = f 23) ∧ (∀ i j, 0 ≤ i → i < (pTab0 B f RT).2.1 23 → 0 ≤ j → j < (pTab0 B f RT).2.1 23 → I1 (mb + 1) (9 * t + (pTab0 B f RT).2.1 23 * i + j) = (pTab0 B f RT).2.2 (9 * t + 3 * i + j)) ∧ (∀ x, x < 9 * t → (pTab0 B f RT).2.2 x = RT x) ∧ (f 23 ≠ 0 → ∀ x, x < 9 * t → I1 (mb + 1) x = I (mb + 1) x)) ∨ (r = 0 ∧ (pTab0 B f RT).1 = false))
theorem t_readTable (hz : wz z) (pm : isMb mb) (h : rdF B f I) (hD : f 23 = 0 ∨ f 23 = 2 ∨ f 23 = 3) (e0 : I mb 0 = f 23) (ot : okR (I (mb + 1))) {RT : Int → Int} (oR : okR RT) {t : Int} (t0 : 0 ≤ t) (t1 : t ≤ 3) (e24 : f 24 = t) : mI (d + 5) m_Reader_readTable [vR 7 49, vR 3 mb, vI t] z I (tabP B f RT mb t I) := by
  have hmb := isMb_ge pm
  have L14 : ∀ (k : Nat) (i : Int) (g RT' : Int → Int) (J : cm_I), 1 ≤ i → i + k = 3 → i ≤ g 23 → pTabF B t k i g RT' = pTab0 B f RT → okR RT' → fr [49, mb, mb + 1] I J → rdF B g J → (g 23 = 2 ∨ g 23 = 3) → (f 23 ≠ 0 → g 23 = f 23) → J mb 0 = g 23 → (∀ j, j ≠ 0 → J mb j = I mb j) → okR (J (mb + 1)) → (∀ i' j, 0 ≤ i' → i' < i → 0 ≤ j → j < g 23 → J (mb + 1) (9 * t + g 23 * i' + j) = RT' (9 * t + 3 * i' + j)) → (∀ x, x < 9 * t → RT' x = RT x) → (f 23 ≠ 0 → ∀ x, x < 9 * t → J (mb + 1) x = I (mb + 1) x) → cw (d + 4) cd_Reader_readTable (qI z (tabP B f RT mb t I)) 14 [some (vR 7 49), some (vR 3 mb), some (vI t), some (vI i)] [] (J, z) := by
    intro k
    induction k with
    | zero =>
      intro i g RT' J i1 ik ig eR oR' hf hr g23 gf hm hj ok hc hR hx
      have e : pTab0 B f RT = (true, g, RT') := eR.symm
      refine wr_Reader_readTable_14 hz pm ?_
      rw [hm]
      refine ⟨fun _ => qI_mk ?_, fun q => by omega⟩
      unfold tabP
      rw [e]
      exact ⟨hf, hr, hj, ok, Or.inl ⟨rfl, rfl, hm, g23, gf, fun i' j a b c dd => hc i' j a (show i' < i by have : i' < g 23 := b; omega) c dd, hR, hx⟩⟩
    | succ k ih =>
      intro i g RT' J i1 ik ig eR oR' hf hr g23 gf hm hj ok hc hR hx
      have k5 : J 49 5 = kd g := hr.1.2.2.2.2.1
      rw [pTabF] at eR
      refine wr_Reader_readTable_14 hz pm ?_
      rw [hm, k5]
      refine ⟨fun q => ?_, fun q => ?_⟩
      · rw [if_neg (by omega)] at eR
        refine qI_mk ?_
        unfold tabP
        rw [← eR]
        exact ⟨hf, hr, hj, ok, Or.inl ⟨rfl, rfl, hm, g23, gf, fun i' j a b c dd => hc i' j a (show i' < i by have : i' < g 23 := b; omega) c dd, hR, hx⟩⟩
      · rw [if_pos q] at eR
        refine ⟨fun q5 => ?_, fun q5 => ?_⟩
        · have y := (kd_sg hr.2.2 (c := 47) (by decide)).mp q5
          rw [if_pos y] at eR
          refine mU_mono (t_adv (d := d + 1) hz hr) fun J1 ⟨a1, b1⟩ => ?_
          have tk23 : tok g B 23 = g 23 := (tok_ok' B hr.2.1).2 23 (by decide)
          obtain ⟨p1, p2, p3, p4, p5⟩ := pRowAll_ok (B := B) (a := 9 * t + 3 * i) (f := tok g B) (RT := RT') b1.2.1 oR' (by rw [tk23]; omega)
          refine mI_mono (t_readRow (d := d) hz pm b1 (by rw [tk23]; omega) (by rw [a1 mb (by simp; omega), tk23]; exact hm) (by rw [a1 (mb + 1) (by simp; omega)]; exact ok) t0 t1 (by omega) (fun _ => by rw [tk23]; exact q) (fun w => by rw [tk23] at w; omega) RT') fun v3 J2 hP => ?_
          obtain ⟨c1, c2, c3, c4, c5⟩ := hP
          have ff := fr_trans hf (fr_trans (fr_mono a1 (by simp)) c1)
          have m2 : ∀ j, j ≠ 0 → J2 mb j = I mb j := fun j hj' => by rw [c3 j hj', a1 mb (by simp; omega)]; exact hj j hj'
          have n23 : (pRowAll B (9 * t + 3 * i) (tok g B) RT').2.1 23 = g 23 := by rw [p5 (by rw [tk23]; omega), tk23]
          rcases c5 with ⟨v1, w1, w2, w3, w4⟩ | ⟨v0, w1⟩
          · rw [if_pos w1] at eR
            rw [n23] at w2 w3
            have w4' := w4 (by rw [tk23]; omega)
            rw [tk23] at w4'
            refine ⟨fun _ => ⟨⟨by omega, by omega⟩, ih (i + 1) _ _ J2 (by omega) (by omega) (by rw [n23]; omega) eR p2 ff c2 (by rw [n23]; exact g23) (fun w => by rw [n23]; exact gf w) (by rw [n23]; exact w2) m2 c4 (fun i' j x0 x1 x2 x3 => ?_) (fun x hx' => ?_) fun w x hx' => ?_⟩, fun w => by omega⟩
            · rw [n23] at x3 ⊢
              by_cases w : i' = i
              · rw [w]; exact w3 j x2 x3
              · have lt : g 23 * i' + g 23 ≤ g 23 * i := by
                  rcases g23 with u | u <;> rw [u] <;> omega
                rw [w4' _ (by omega), a1 (mb + 1) (by simp; omega), hc i' j x0 (by omega) x2 x3, pRowAll_RT (by omega)]
            · rw [pRowAll_RT (by omega)]; exact hR x hx'
            · have : 0 ≤ g 23 * i := by rcases g23 with u | u <;> rw [u] <;> omega
              rw [w4' x (by omega), a1 (mb + 1) (by simp; omega)]; exact hx w x hx'
          · rw [if_neg (by rw [w1]; exact Bool.false_ne_true)] at eR
            refine ⟨fun w => absurd v0 w, fun _ => qI_mk ?_⟩
            unfold tabP
            rw [← eR]
            exact ⟨ff, c2, m2, c4, Or.inr ⟨rfl, rfl⟩⟩
        · have n : ¬ (g 18 = 2 ∧ g 19 = 47) := fun w => q5 ((kd_sg hr.2.2 (by decide)).mpr w)
          rw [if_neg n] at eR
          refine mI_mono (t_ref (d := d + 3) hz hr (by decide) (by decide)) fun v I1 ⟨a, b, c⟩ => ?_
          subst a
          refine ⟨Or.inl rfl, qI_mk ?_⟩
          unfold tabP
          rw [← eR]
          exact ⟨fr_trans hf (fr_mono b (by simp)), c, fun j hj' => by rw [b mb (by simp; omega)]; exact hj j hj', by rw [b (mb + 1) (by simp; omega)]; exact ok, Or.inr ⟨rfl, rfl⟩⟩
  refine wr_Reader_readTable hz ?_
  obtain ⟨p1, p2, p3, p4, p5⟩ := pRowAll_ok (B := B) (a := 9 * t + 3 * 0) (f := f) (RT := RT) h.2.1 oR hD
  refine mI_mono (t_readRow (d := d) hz pm h hD e0 ot t0 t1 (Int.le_refl 0) (fun w => by omega) (fun _ => rfl) RT) fun v2 J1 hP => ?_
  obtain ⟨c1, c2, c3, c4, c5⟩ := hP
  have eT : pTab0 B f RT = if (pRowAll B (9 * t + 3 * 0) f RT).1 = true then pTabF B t 2 1 (pRowAll B (9 * t + 3 * 0) f RT).2.1 (pRowAll B (9 * t + 3 * 0) f RT).2.2 else (false, (pRowAll B (9 * t + 3 * 0) f RT).2) := by
    unfold pTab0
    rw [e24, show 9 * t + 3 * 0 = 9 * t by omega]
  rcases c5 with ⟨v1, w1, w2, w3, w4⟩ | ⟨v0, w1⟩
  · rw [if_pos w1] at eT
    have g23 := p4 w1
    refine ⟨fun _ => L14 2 1 _ _ J1 (by omega) (by omega) (by omega) eT.symm p2 c1 c2 g23 p5 w2 c3 c4 (fun i' j x0 x1 x2 x3 => ?_) (fun x hx => pRowAll_RT (by omega)) fun w x hx => ?_, fun w => by omega⟩
    · rw [show i' = 0 by omega]; exact w3 j x2 x3
    · exact w4 w x (by rw [Int.mul_zero]; omega)
  · rw [if_neg (by rw [w1]; exact Bool.false_ne_true)] at eT
    refine ⟨fun w => absurd v0 w, fun _ => qI_mk ?_⟩
    unfold tabP
    rw [eT]
    exact ⟨c1, c2, c3, c4, Or.inr ⟨rfl, rfl⟩⟩
theorem fi_0 {a : cF} : fi a = 0 ↔ a = 0 := by
  constructor
  · intro h
    rw [← toF_fi a, h]; rfl
  · intro h; rw [h]; rfl
theorem t_haveInv (hz : wz z) (pm : isMb mb) {D : Int} (hD : D = 2 ∨ D = 3) {n : Nat} (n4 : n ≤ 4) (e0 : I mb 0 = D) (e1 : I mb 1 = (n : Int)) (ot : okR (I (mb + 1))) (hP : ∀ t, 0 ≤ t → t < 4 → 0 ≤ I 50 t ∧ I 50 t ≤ 400) : mI (d + 3) m_Reader_haveInverses [vR 7 49, vR 3 mb] z I fun r I1 => (r = 1 ∧ I1 = I ∧ ∀ t : Nat, t < n → mDet (wmat D (I (mb + 1)) (t : Int)) ≠ 0) ∨ (r = 0 ∧ ∃ t : Nat, t < n ∧ mDet (wmat D (I (mb + 1)) (t : Int)) = 0 ∧ (∀ t' : Nat, t' < t → mDet (wmat D (I (mb + 1)) (t' : Int)) ≠ 0) ∧ I1 = iu I 49 8 (8 * I 50 (t : Int) + 3)) := by
  have hmb := isMb_ge pm
  have L : ∀ (c t : Nat), t + c = n → (∀ t' : Nat, t' < t → mDet (wmat D (I (mb + 1)) (t' : Int)) ≠ 0) → cw (d + 2) cd_Reader_haveInverses (qI z fun r I1 => (r = 1 ∧ I1 = I ∧ ∀ t : Nat, t < n → mDet (wmat D (I (mb + 1)) (t : Int)) ≠ 0) ∨ (r = 0 ∧ ∃ t : Nat, t < n ∧ mDet (wmat D (I (mb + 1)) (t : Int)) = 0 ∧ (∀ t' : Nat, t' < t → mDet (wmat D (I (mb + 1)) (t' : Int)) ≠ 0) ∧ I1 = iu I 49 8 (8 * I 50 (t : Int) + 3))) 2 [some (vR 7 49), some (vR 3 mb), some (vI (t : Int))] [] (I, z) := by
    intro c
    induction c with
    | zero =>
      intro t e al
      refine wr_Reader_haveInverses_2 hz pm ?_
      rw [e1]
      exact ⟨fun _ => qI_mk (Or.inl ⟨rfl, rfl, fun t' h => al t' (by omega)⟩), fun q => by omega⟩
    | succ c ih =>
      intro t e al
      refine wr_Reader_haveInverses_2 hz pm ?_
      rw [e1, e0]
      have ln := wz_mbL1 hz pm
      refine ⟨fun q => by omega, fun _ => ⟨⟨by omega, by omega⟩, mI_mono (t_determinant hz (by omega) (by omega) (by omega) (by omega) ot hD) fun v3 I2 ⟨a, b⟩ => ?_⟩⟩
      subst a
      have p := hP t (by omega) (by omega)
      refine ⟨fun nz => ⟨⟨by omega, by omega⟩, ih (t + 1) (by omega) fun t' h => ?_⟩, fun z0 => ⟨⟨by omega, by omega⟩, ⟨by omega, by omega⟩, ⟨by omega, by omega⟩, fun I8 e8 => qI_mk (Or.inr ⟨rfl, t, by omega, ?_, al, e8⟩)⟩⟩
      · by_cases w : t' = t
        · rw [w]; intro q; exact nz (by rw [b]; exact fi_0.mpr q)
        · exact al t' (by omega)
      · exact fi_0.mp (by rw [← b]; exact z0)
  refine wr_Reader_haveInverses hz ?_
  exact L n 0 (by omega) fun t' h => absurd h (Nat.not_lt_zero t')
end WRT
