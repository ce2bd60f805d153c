/-! THE CLASS: reading a row of a table -/
def rdF (B f : Int → Int) (J : cm_I) : Prop := rdR B f J ∧ rOk f ∧ (f 18 = 0 ∨ f 18 = 1 ∨ f 18 = 2)
theorem rdF_fr {B f : Int → Int} {J J1 : cm_I} (h : rdF B f J) (e2 : J1 2 = J 2) (e49 : J1 49 = J 49) : rdF B f J1 := ⟨rdR_fr h.1 e2 e49, h.2⟩
theorem rdF_st {B f g : Int → Int} {J : cm_I} (h : rdF B f J) (e : ∀ s, 15 ≤ s → s ≤ 20 → g s = f s) : rdF B g J := by
  refine ⟨rdR_st h.1 e, ?_, ?_⟩
  · unfold rOk
    rw [e 15 (by decide) (by decide), e 16 (by decide) (by decide), e 17 (by decide) (by decide), e 19 (by decide) (by decide)]
    exact h.2.1
  · rw [e 18 (by decide) (by decide)]; exact h.2.2
theorem isMb_ge {mb : Nat} (h : isMb mb) : mb = 29 ∨ mb = 39 := h
/-- the cells beyond a row's stay -/
theorem pRow_RT {B : Int → Int} {D a : Int} : ∀ (k : Nat) (n : Int) (f RT : Int → Int) (x : Int), (x < a + n ∨ a + n + k ≤ x) → (pRow B D a k n f RT).2.2.2 x = RT x := by
  intro k
  induction k with
  | zero => intro n f RT x _; rfl
  | succ k ih =>
    intro n f RT x h
    by_cases q : pMore D n f
    · rw [pRow_yes q]
      have nm : (pNum B (a + n) f RT).2.2 x = RT x := by
        unfold pNum
        split
        · show (if x = a + n then _ else _) = _
          rw [if_neg (by omega)]
        · rfl
      split
      · rw [ih (n + 1) _ _ x (by omega)]; exact nm
      · exact nm
    · rw [pRow_no q]
theorem pRowAll_RT {B : Int → Int} {a : Int} {f RT : Int → Int} {x : Int} (h : x < a ∨ a + 3 ≤ x) : (pRowAll B a f RT).2.2 x = RT x := pRow_RT 3 0 f RT x (by omega)
section WRW
variable {d : Nat} {z : cm_Z} {I : cm_I} {B f : Int → Int} {mb : Nat}
theorem t_adv (hz : wz z) (h : rdF B f I) : mU (d + 3) m_Reader_advance [vR 7 49] z I fun I1 => fr [49] I I1 ∧ rdF B (tok f B) I1 := by
  have o := h.2.1
  refine mU_mono (t_advance hz h.1 o) fun I1 ⟨a, b⟩ => ⟨a, b, ?_⟩
  unfold rOk at o
  have := tok_ok (f := f) B (by omega) (by omega) (by omega) (by omega) (by omega)
  exact ⟨this.1, this.2.2.2⟩
theorem t_ref (hz : wz z) (h : rdF B f I) {k : Int} (k0 : 0 ≤ k) (k1 : k ≤ 7) : mI (d + 1) m_Reader_refuse [vR 7 49, vI k] z I fun r I1 => r = 0 ∧ fr [49] I I1 ∧ rdF B (rBad f k) I1 := by
  refine mI_mono (t_refuse hz h.1 h.2.1 k0 k1) fun r I1 ⟨a, b, c⟩ => ⟨a, b, c, (rBad_ok k h.2.1).1, ?_⟩
  unfold rBad
  rw [if_neg (by decide)]
  exact h.2.2
/-- what a row has told -/
def rowP (B f RT : Int → Int) (mb : Nat) (t row : Int) (I : cm_I) (r : Int) (I1 : cm_I) : Prop := fr [49, mb, mb + 1] I I1 ∧ rdF B (pRowAll B (9 * t + 3 * row) f RT).2.1 I1 ∧ (∀ j, j ≠ 0 → I1 mb j = I mb j) ∧ okR (I1 (mb + 1)) ∧ ((r = 1 ∧ (pRowAll B (9 * t + 3 * row) f RT).1 = true ∧ I1 mb 0 = (pRowAll B (9 * t + 3 * row) f RT).2.1 23 ∧ (∀ j, 0 ≤ j → j < (pRowAll B (9 * t + 3 * row) f RT).2.1 23 → I1 (mb + 1) (9 * t + (pRowAll B (9 * t + 3 * row) f RT).2.1 23 * row + j) = (pRowAll B (9 * t + 3 * row) f RT).2.2 (9 * t + 3 * row + j)) ∧ (f 23 ≠ 0 → ∀ x, (x < 9 * t + f 23 * row ∨ 9 * t + f 23 * row + f 23 ≤ x) → I1 (mb + 1) x = I (mb + 1) x)) ∨ (r = 0 ∧ (pRowAll B (9 * t + 3 * row) f RT).1 = false))
theorem t_readRow (hz : wz z) (pm : isMb mb) (h : rdF B f I) (hD : f 23 = 0 ∨ f 23 = 2 ∨ f 23 = 3) (e0 : I mb 0 = f 23) (ot : okR (I (mb + 1))) {t row : Int} (t0 : 0 ≤ t) (t1 : t ≤ 3) (r0 : 0 ≤ row) (hrow : f 23 ≠ 0 → row < f 23) (h0 : f 23 = 0 → row = 0) (RT : Int → Int) : mI (d + 4) m_Reader_readRow [vR 7 49, vR 3 mb, vI t, vI row] z I (rowP B f RT mb t row I) := by
  have hmb := isMb_ge pm
  obtain ⟨W, eW, hW⟩ : ∃ W : Int, W = (if f 23 = 0 then 3 else f 23) ∧ (W = 2 ∨ W = 3) := ⟨_, rfl, by split <;> omega⟩
  have wr0 : 0 ≤ W * row ∧ W * row + W ≤ 9 ∧ (f 23 = 0 → W * row = 0) := by
    rcases hW with w | w <;> rw [w] at eW ⊢
    · split at eW
      · omega
      · next q => have := hrow q; omega
    · split at eW
      · next q => have := h0 q; omega
      · next q => have := hrow q; omega
  have L20 : ∀ (k : Nat) (c : Int) (g RT' : Int → Int) (J : cm_I) (z6 z7 : Option cm_V), 0 ≤ c → c + k = 3 → c ≤ W → pRow B (f 23) (9 * t + 3 * row) k c g RT' = pRow B (f 23) (9 * t + 3 * row) 3 0 f RT → fr [49, mb, mb + 1] I J → rdF B g J → J mb = I mb → okR (J (mb + 1)) → (∀ j, 0 ≤ j → j < c → J (mb + 1) (9 * t + W * row + j) = RT' (9 * t + 3 * row + j)) → (∀ x, (x < 9 * t + W * row ∨ 9 * t + W * row + W ≤ x) → J (mb + 1) x = I (mb + 1) x) → cw (d + 3) cd_Reader_readRow (qI z (rowP B f RT mb t row I)) 20 [some (vR 7 49), some (vR 3 mb), some (vI t), some (vI row), some (vI W), some (vI c), z6, z7] [] (J, z) := by
    intro k
    induction k with
    | zero =>
      intro c g RT' J z6 z7 c0 ck cW eR hf hr hm ok hc hx
      have cw3 : c = 3 ∧ W = 3 := by omega
      have e3 : pRow B (f 23) (9 * t + 3 * row) 3 0 f RT = (true, c, g, RT') := eR.symm
      refine wr_Reader_readRow_20 hz pm ⟨fun _ J1 e1 => qI_mk ?_, fun q => by omega⟩
      obtain ⟨f1, g1⟩ := fr_eq_iu e1
      have e23 : (pRowAll B (9 * t + 3 * row) f RT).2.1 23 = W := by
        unfold pRowAll rD
        rw [e3]
        show (if (23 : Int) = 23 then (if f 23 = 0 then c else f 23) else g 23) = W
        rw [if_pos rfl, eW]
        split <;> omega
      refine ⟨fr_trans hf (fr_mono f1 (by simp)), ?_, ?_, ?_, Or.inl ⟨rfl, ?_, ?_, ?_, ?_⟩⟩
      · unfold pRowAll
        rw [e3]
        refine rdF_st (rdF_fr hr (f1 2 (by simp; omega)) (f1 49 (by simp; omega))) fun s s0 s1 => ?_
        show (if s = 23 then _ else _) = _
        rw [if_neg (by omega)]
      · intro j hj
        rw [g1]
        show (if j = 0 then _ else _) = _
        rw [if_neg hj, hm]
      · rw [f1 (mb + 1) (by simp)]; exact ok
      · unfold pRowAll; rw [e3]
      · rw [e23, g1]
        show (if (0 : Int) = 0 then _ else _) = _
        rw [if_pos rfl]
      · rw [e23, f1 (mb + 1) (by simp)]
        unfold pRowAll
        rw [e3]
        intro j j0 j1
        exact hc j j0 (by omega)
      · intro q x hx'
        rw [if_neg q] at eW
        rw [f1 (mb + 1) (by simp)]
        exact hx x (by rw [eW]; exact hx')
    | succ k ih =>
      intro c g RT' J z6 z7 c0 ck cW eR hf hr hm ok hc hx
      obtain ⟨hr1, hr2, hr3⟩ := id hr
      have k5 : J 49 5 = kd g := hr1.2.2.2.2.1
      -- the end of the row
      have fin : ∀ v : Int, ¬ pMore (f 23) c g → (f 23 = 0 → v = c) → (f 23 ≠ 0 → v = f 23 ∧ c = f 23) → ∀ J1 : cm_I, J1 = iu J mb 0 v → rowP B f RT mb t row I 1 J1 := by
        intro v nm v0 v1 J1 e1
        rw [pRow_no nm] at eR
        obtain ⟨f1, g1⟩ := fr_eq_iu e1
        have e23 : (pRowAll B (9 * t + 3 * row) f RT).2.1 23 = v := by
          unfold pRowAll rD
          rw [← eR]
          show (if (23 : Int) = 23 then (if f 23 = 0 then c else f 23) else g 23) = v
          rw [if_pos rfl]
          by_cases q : f 23 = 0
          · rw [if_pos q, v0 q]
          · rw [if_neg q, (v1 q).1]
        have vr : v * row = W * row ∧ v ≤ c := by
          by_cases q : f 23 = 0
          · rw [h0 q, Int.mul_zero, Int.mul_zero]; exact ⟨rfl, by rw [v0 q]; exact Int.le_refl _⟩
          · rw [eW, if_neg q, (v1 q).1]; exact ⟨rfl, by have := v1 q; omega⟩
        refine ⟨fr_trans hf (fr_mono f1 (by simp)), ?_, ?_, ?_, Or.inl ⟨rfl, ?_, ?_, ?_, ?_⟩⟩
        · unfold pRowAll
          rw [← eR]
          refine rdF_st (rdF_fr hr (f1 2 (by simp; omega)) (f1 49 (by simp; omega))) fun s s0 s1 => ?_
          show (if s = 23 then _ else _) = _
          rw [if_neg (by omega)]
        · intro j hj
          rw [g1]
          show (if j = 0 then _ else _) = _
          rw [if_neg hj, hm]
        · rw [f1 (mb + 1) (by simp)]; exact ok
        · unfold pRowAll; rw [← eR]
        · rw [e23, g1]
          show (if (0 : Int) = 0 then _ else _) = _
          rw [if_pos rfl]
        · rw [e23, f1 (mb + 1) (by simp), vr.1]
          unfold pRowAll
          rw [← eR]
          intro j j0 j1
          exact hc j j0 (by omega)
        · intro q x hx'
          rw [if_neg q] at eW
          rw [f1 (mb + 1) (by simp)]
          exact hx x (by rw [eW]; exact hx')
      -- a number
      have num : pMore (f 23) c g → c < W → cw (d + 3) cd_Reader_readRow (qI z (rowP B f RT mb t row I)) 64 [some (vR 7 49), some (vR 3 mb), some (vI t), some (vI row), some (vI W), some (vI c), z6, z7] [] (J, z) := by
        intro pmr clt
        rw [pRow_yes pmr] at eR
        have at89 : ∀ (J2 : cm_I) (x6 : Int) (z7 : Option cm_V), (x6 = 0 ↔ ¬ (g 18 = 2 ∧ g 19 = 45)) → fr [49, mb, mb + 1] I J2 → rdF B (pNum1 B g) J2 → J2 mb = I mb → J2 (mb + 1) = J (mb + 1) → cw (d + 3) cd_Reader_readRow (qI z (rowP B f RT mb t row I)) 89 [some (vR 7 49), some (vR 3 mb), some (vI t), some (vI row), some (vI W), some (vI c), some (vI x6), z7] [] (J2, z) := by
          intro J2 x6 z7 hx6 hf2 hrd hm2 ht2
          obtain ⟨q1, q2, q3⟩ := id hrd
          have k52 : J2 49 5 = kd (pNum1 B g) := q1.2.2.2.2.1
          have bad : ¬ (pNum1 B g 18 = 1 ∧ pNum1 B g 17 - pNum1 B g 16 ≤ 4) → mI (d + 3) m_Reader_refuse [vR 7 49, vI 1] z J2 fun v2 I1 => (v2 = 0 ∨ v2 = 1) ∧ qI z (rowP B f RT mb t row I) (some (vI v2)) (I1, z) := by
            intro nb
            have pn : pNum B (9 * t + 3 * row + c) g RT' = (false, rBad (pNum1 B g) 1, RT') := by unfold pNum; rw [if_neg nb]
            rw [pn, if_neg (show ¬ ((false : Bool), rBad (pNum1 B g) 1, RT').1 = true from Bool.false_ne_true)] at eR
            refine mI_mono (t_ref (d := d + 2) hz hrd (by decide) (by decide)) fun v2 I1 ⟨a, b, c'⟩ => ?_
            subst a
            refine ⟨Or.inl rfl, qI_mk ⟨fr_trans hf2 (fr_mono b (by simp)), ?_, ?_, ?_, Or.inr ⟨rfl, ?_⟩⟩⟩
            · unfold pRowAll
              rw [← eR]
              refine rdF_st c' fun s s0 s1 => ?_
              show (if s = 23 then _ else _) = _
              rw [if_neg (by omega)]
            · intro j hj
              rw [b mb (by simp; omega), hm2]
            · rw [b (mb + 1) (by simp; omega), ht2]; exact ok
            · unfold pRowAll; rw [← eR]
          have good : pNum1 B g 18 = 1 → pNum1 B g 17 - pNum1 B g 16 ≤ 4 → ∀ (s0 : Int) (z6 z7 : Option cm_V), s0 = (if g 18 = 2 ∧ g 19 = 45 then -(pNum1 B g 19) else pNum1 B g 19) → cw (d + 3) cd_Reader_readRow (qI z (rowP B f RT mb t row I)) 128 [some (vR 7 49), some (vR 3 mb), some (vI t), some (vI row), some (vI W), some (vI c), z6, z7] [vI s0] (J2, z) := by
            intro n1 n2 s0 z6 z7 es
            have pn : pNum B (9 * t + 3 * row + c) g RT' = (true, tok (pNum1 B g) B, fun j => if j = 9 * t + 3 * row + c then s0 % 2521 else RT' j) := by
              unfold pNum
              rw [if_pos ⟨n1, n2⟩, es]
            rw [pn, if_pos rfl] at eR
            refine wr_Reader_readRow_128 hz pm ⟨⟨by omega, by omega⟩, ⟨by omega, by omega⟩, ⟨by omega, by omega⟩, ⟨by omega, by omega⟩, ⟨by omega, by omega⟩, fun J6 e6 => ?_⟩
            obtain ⟨f6, g6⟩ := fr_eq_iu e6
            refine mU_mono (t_adv (d := d) hz (rdF_fr hrd (f6 2 (by simp; omega)) (f6 49 (by simp; omega)))) fun J7 ⟨a7, b7⟩ => ⟨⟨by omega, by omega⟩, ?_⟩
            have t7 : J7 (mb + 1) = fun j => if j = 9 * t + W * row + c then s0 % 2521 else J (mb + 1) j := by rw [a7 (mb + 1) (by simp; omega), g6, ht2]
            refine ih (c + 1) _ _ J7 _ _ (by omega) (by omega) (by omega) eR (fr_trans hf2 (fr_trans (fr_mono f6 (by simp)) (fr_mono a7 (by simp)))) b7 (by rw [a7 mb (by simp; omega), f6 mb (by simp), hm2]) ?_ (fun j j0 j1 => ?_) fun x hx' => ?_
            · rw [t7]
              intro x
              show 0 ≤ (if x = _ then _ else _) ∧ (if x = _ then _ else _) < 2521
              split
              · omega
              · exact ok x
            · rw [t7]
              show (if 9 * t + W * row + j = 9 * t + W * row + c then _ else _) = if 9 * t + 3 * row + j = 9 * t + 3 * row + c then _ else _
              by_cases w : j = c
              · rw [w, if_pos rfl, if_pos rfl]
              · rw [if_neg (by omega), if_neg (by omega)]; exact hc j j0 (by omega)
            · rw [t7]
              show (if x = _ then _ else _) = _
              rw [if_neg (by omega)]; exact hx x hx'
          refine wr_Reader_readRow_89 hz ?_
          rw [k52]
          refine ⟨fun q => bad fun w => q ((kd_2 q3).mpr w.1), fun q => ?_⟩
          have n18 := (kd_2 q3).mp q
          obtain ⟨r6, r7⟩ := q1.2.2.2.2.2.1 n18
          rw [r6, r7]
          unfold rOk at q2
          refine ⟨fun le => ⟨fun z6 => good n18 le _ _ _ (by rw [if_neg (hx6.mp z6)]), fun n6 => ⟨⟨by omega, by omega⟩, good n18 le _ _ _ (by rw [if_pos (Classical.byContradiction fun w => n6 (hx6.mpr w))])⟩⟩, fun gt => bad fun w => by omega⟩
        refine wr_Reader_readRow_64 hz ?_
        rw [k5]
        refine ⟨fun q => ?_, fun q => ?_⟩
        · have nq : ¬ (g 18 = 2 ∧ g 19 = 45) := fun w => q ((kd_sg hr3 (by decide)).mpr w)
          refine wr_Reader_readRow_78 hz ⟨fun _ => at89 J 0 _ ⟨fun _ => nq, fun _ => rfl⟩ hf ?_ hm rfl, fun w => absurd rfl w⟩
          unfold pNum1
          rw [if_neg nq]
          exact hr
        · have yq := (kd_sg hr3 (c := 45) (by decide)).mp q
          refine wr_Reader_readRow_78 hz ⟨fun w => absurd w (by decide), fun _ => mU_mono (t_adv (d := d) hz hr) fun J1 ⟨a, b⟩ => at89 J1 1 _ ⟨fun w => absurd w (by decide), fun w => absurd yq w⟩ (fr_trans hf (fr_mono a (by simp))) ?_ (by rw [a mb (by simp; omega), hm]) (a (mb + 1) (by simp; omega))⟩
          unfold pNum1
          rw [if_pos yq]
          exact b
      refine wr_Reader_readRow_20 hz pm ?_
      rw [hm, e0, k5]
      refine ⟨fun q J1 e1 => qI_mk (fin W ?_ (fun q0 => ?_) (fun q0 => ?_) J1 e1), fun q => ⟨fun n0 => num ?_ q, fun z0 => ⟨fun n2 => num ?_ q, fun c2 => ⟨fun k2 => num ?_ q, fun nk2 => ⟨fun k45 => num ?_ q, fun nk45 J2 e2 => qI_mk (fin 2 ?_ (fun _ => c2.symm) (fun q0 => absurd z0 q0) J2 e2)⟩⟩⟩⟩⟩
      · unfold pMore
        rw [eW] at q cW
        split at q <;> omega
      · rw [eW, if_pos q0] at q cW ⊢
        omega
      · rw [eW, if_neg q0] at q cW ⊢
        omega
      · rw [eW, if_neg n0] at q
        exact Or.inr ⟨n0, q⟩
      · refine Or.inl ⟨z0, Or.inl ?_⟩
        omega
      · exact Or.inl ⟨z0, Or.inr ⟨c2, Or.inl ((kd_2 hr3).mp k2)⟩⟩
      · exact Or.inl ⟨z0, Or.inr ⟨c2, Or.inr ((kd_sg hr3 (by decide)).mp k45)⟩⟩
      · intro w
        rcases w with w | w
        · rcases w.2 with w2 | w2
          · omega
          · rcases w2.2 with w3 | w3
            · exact nk2 ((kd_2 hr3).mpr w3)
            · exact nk45 ((kd_sg hr3 (by decide)).mpr w3)
        · exact w.1 z0
  refine wr_Reader_readRow hz pm ?_
  rw [e0]
  have st := L20 3 0 f RT I none none (by omega) (by omega) (by omega) rfl (fr_refl _ _) h rfl ot (fun j j0 j1 => by omega) fun _ _ => rfl
  refine ⟨fun q => ?_, fun q => ?_⟩
  · rw [eW, if_neg q] at st; exact st
  · rw [eW, if_pos q] at st; exact st
end WRW
