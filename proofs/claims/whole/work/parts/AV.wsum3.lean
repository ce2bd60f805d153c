/-! THE CLASS: the reader of polynomials, parts and powers -/
def smI (D : Int) (sh q : Nat) (B f : Int → Int) (l p o r : Nat) (J : cm_I) (z : cm_Z) : Prop := smZ D sh q z ∧ smT D sh q p o r J ∧ rdF B f J ∧ pIn f ∧ f 28 = J 51 6 ∧ f 29 = (l : Int)
/-- what has been read -/
def smR (D : Int) (sh q : Nat) (S : Nat → Prop) (B : Int → Int) (I : cm_I) (z : cm_Z) (R : pQ) (row : Nat → Nat) (rv : Int) (I1 : cm_I) (z1 : cm_Z) : Prop := zf [sh + 3, sh + 5] z z1 ∧ smF sh q S I I1 ∧ rdF B R.2.1 I1 ∧ (∃ p o r, smT D sh q p o r I1 ∧ (rv = 1 → I1 51 6 = R.2.1 28 ∧ (R.2.1 28 = 0 → wRow D (I1 (q + 1 + row p)) R.2.2))) ∧ ((rv = 1 ∧ R.1 = true) ∨ (rv = 0 ∧ R.1 = false ∧ R.2.1 20 ≠ 0))
def Spw (l i : Nat) : Prop := (l < i ∧ i ≤ 8) ∨ 9 + l < i
def Spr (l i : Nat) : Prop := (l < i ∧ i ≤ 8) ∨ 9 + l ≤ i
def Ssm (l i : Nat) : Prop := (l ≤ i ∧ i ≤ 8) ∨ 9 + l ≤ i
section WSR
variable {d : Nat} {z : cm_Z} {I : cm_I} {D : Int} {sh q l p o r : Nat} {B f : Int → Int} {S : (Int → Int) → pQ}
theorem smR_bad {d : Nat} {z0 z : cm_Z} {I0 I : cm_I} {W : Nat → Prop} {R : pQ} {row : Nat → Nat} (hz0 : zf [sh + 3, sh + 5] z0 z) (hf0 : smF sh q W I0 I) (hZ : smZ D sh q z) (hT : smT D sh q p o r I) (hr : rdF B f I) (h20 : f 20 = 0) {k : Int} (k0 : 1 ≤ k) (k1 : k ≤ 7) (h1 : R.1 = false) (h2 : ∀ s, 15 ≤ s → s ≤ 20 → R.2.1 s = rBad f k s) : mI (d + 1) m_Reader_refuse [vR 7 49, vI k] z I fun v I1 => (v = 0 ∨ v = 1) ∧ kI (smR D sh q W B I0 z0 R row) (some (vI v)) (I1, z) := by
  have ro := hr.2.1
  unfold rOk at ro
  refine mI_mono (t_ref hZ.1 hr (by omega) k1) fun v I1 ⟨a, b, c⟩ => ?_
  subst a
  exact ⟨Or.inl rfl, kI_mk ⟨hz0, smF_trans hf0 (smF_49 b), rdF_st c h2, ⟨p, o, r, smT_49 hZ.2.2.2.1 hT b, fun w => absurd w (by decide)⟩, Or.inr ⟨rfl, h1, by rw [h2 20 (by decide) (by decide)]; unfold rBad; rw [if_pos rfl, if_pos h20]; omega⟩⟩⟩
theorem m1_eq (hD : D = 2 ∨ D = 3) : mFrom D 1 = 1 ∧ 4 ≤ mFrom D 16 := by rcases hD with e | e <;> rw [e] <;> decide
theorem vIx_eq (hD : D = 2 ∨ D = 3) {j : Int} (j0 : 0 ≤ j) (j1 : j ≤ D - 1) : vIx D j = 1 + j := by
  unfold vIx
  have hj : j = 0 ∨ j = 1 ∨ (j = 2 ∧ D = 3) := by omega
  rcases hj with e | e | ⟨e, e3⟩
  · subst e; rcases hD with w | w <;> subst w <;> decide
  · subst e; rcases hD with w | w <;> subst w <;> decide
  · subst e; subst e3; decide
theorem t_readPart (hI : smI D sh q B f l p o r I z) (l8 : l ≤ 8) (hB : f 18 = 2 → f 19 = 40 → zcI (d + 4) m_Sum_readBracket [vR 10 51, vI (l : Int)] z I fun v I1 z1 => (v = 0 ∨ v = 1) ∧ smR D sh q (Spw l) B I z (pPart D B S f) id v I1 z1) : zcI (d + 5) m_Sum_readPart [vR 10 51, vI (l : Int)] z I (smR D sh q (Spw l) B I z (pPart D B S f) id) := by
  obtain ⟨hZ, hT, hr, hp, h28, h29⟩ := id hI
  obtain ⟨hz, z1, z2, z3, z4, z5, z6⟩ := id hZ
  obtain ⟨a1, ⟨p1, p2, p3, p4, p5, p6⟩, a3, a4⟩ := id hT
  have hD := shOk_D a1
  have hs := sh_lt a1
  obtain ⟨m1, m16⟩ := m1_eq hD
  have k5 : I 49 5 = kd f := hr.1.2.2.2.2.1
  have ro := hr.2.1
  unfold rOk at ro
  have tk28 : tok (st1 f 27 (f 27 + 1)) B 28 = f 28 := by
    have := (tok_ok' (f := st1 f 27 (f 27 + 1)) B (rdF_st hr (fun s s0 s1 => by unfold st1; rw [if_neg (by omega)])).2.1).2 28 (by decide)
    rw [this]
    unfold st1
    rw [if_neg (by decide)]
  -- a part that is put
  have put : ∀ (x c : Int) (v : Int → Int), 0 ≤ x → x < mFrom D 16 → 0 ≤ c → c < 2521 → (∀ k, (if k = x then c else 0) = v k) → pPart D B S f = (true, tok (st1 f 27 (f 27 + 1)) B, v) → mU (d + 4) m_Sum_putPart [vR 10 51, vI x, vI c] z I fun I1 => mU (d + 4) m_Reader_advance [vR 7 49] z I1 fun I2 => kI (smR D sh q (Spw l) B I z (pPart D B S f) id) (some (vI 1)) (I2, z) := by
    intro x c v x0 x1 c0 c1 hv eR
    refine mU_mono (t_putPart (d := d + 2) hZ hT x0 x1 c0 c1) fun I1 ⟨f1, o1, g1⟩ => ?_
    have t1 := smT_row z3 hT f1 fun _ => o1
    have r1 : rdF B (st1 f 27 (f 27 + 1)) I1 := rdF_st (rdF_fr hr (f1 2 (by simp; omega)) (f1 49 (by simp; omega))) fun s s0 s1 => by unfold st1; rw [if_neg (by omega)]
    refine mU_mono (t_adv (d := d + 1) hz r1) fun I2 ⟨f2, r2⟩ => kI_mk ?_
    rw [eR]
    have n51 : I2 51 = I 51 := by rw [f2 51 (by simp), f1 51 (by simp; omega)]
    refine ⟨zf_refl _ _, smF_trans (smF_row (i := p) p5 (Or.inr (by omega)) f1) (smF_49 f2), r2, ⟨p, o, r, smT_49 z3 t1 f2, fun _ => ⟨?_, fun _ k k0 k1 => ?_⟩⟩, Or.inl ⟨rfl, rfl⟩⟩
    · show _ = tok (st1 f 27 (f 27 + 1)) B 28
      rw [n51, tk28, h28]
    · show I2 (q + 1 + p) k = v k
      rw [f2 (q + 1 + p) (by simp; omega), g1 k k0 k1]; exact hv k
  have at55 : kd f ≠ 40 → ¬ (f 18 = 1 ∧ f 17 - f 16 ≤ 4) → cw (d + 4) cd_Sum_readPart (kI (smR D sh q (Spw l) B I z (pPart D B S f) id)) 55 [some (vR 10 51), some (vI (l : Int)), some (vI (kd f))] [] (I, z) := by
    intro n40 nn
    have n40' : ¬ (f 18 = 2 ∧ f 19 = 40) := fun w => n40 ((kd_sg hr.2.2 (by decide)).mpr w)
    have bad : ¬ (f 18 = 2 ∧ 120 ≤ f 19 ∧ f 19 - 120 ≤ D - 1) → mI (d + 4) m_Reader_refuse [vR 7 49, vI 1] z I fun v I1 => (v = 0 ∨ v = 1) ∧ kI (smR D sh q (Spw l) B I z (pPart D B S f) id) (some (vI v)) (I1, z) := by
      intro nv
      have eR : pPart D B S f = (false, rBad f 1, vK 1) := by
        unfold pPart
        by_cases c1 : f 18 = 1
        · rw [if_pos c1, if_neg (fun w => nn ⟨c1, w⟩)]
        · rw [if_neg c1, if_neg nv, if_neg n40']
      exact smR_bad (d := d + 3) (zf_refl _ _) (smF_refl _ _ _ _) hZ hT hr hp.2.1 (by decide) (by decide) (by rw [eR]) (fun s _ _ => by rw [eR])
    have var : ∀ j : Int, 0 ≤ j → j ≤ D - 1 → kd f = 120 + j → isSg (120 + j) → mU (d + 4) m_Sum_putPart [vR 10 51, vI (1 + j), vI 1] z I fun I1 => mU (d + 4) m_Reader_advance [vR 7 49] z I1 fun I2 => kI (smR D sh q (Spw l) B I z (pPart D B S f) id) (some (vI 1)) (I2, z) := by
      intro j j0 j1 ej sg
      have y := (kd_sg hr.2.2 sg).mp ej
      refine put (1 + j) 1 (vVar D j) (by omega) (by omega) (by decide) (by decide) (fun k => ?_) ?_
      · unfold vVar
        rw [vIx_eq hD j0 j1]
      · unfold pPart
        rw [if_neg (by omega), if_pos ⟨y.1, by omega, by omega⟩, show f 19 - 120 = j by omega]
    refine wr_Sum_readPart_55 hz z1 (shOk_sh a1) ?_
    rw [a1.2.2.2.2.1 1 (by decide) (by decide), m1, a1.2.1]
    refine ⟨fun nx => ⟨fun ny => ⟨fun nz => bad fun w => ?_, fun ez => ⟨fun n3 => bad fun w => ?_, fun e3 => ⟨⟨by omega, by omega⟩, var 2 (by omega) (by omega) ez (by decide)⟩⟩⟩, fun ey => ⟨⟨by omega, by omega⟩, var 1 (by omega) (by omega) ey (by decide)⟩⟩, fun ex => var 0 (by omega) (by omega) ex (by decide)⟩
    · have hv : f 19 = 120 ∨ f 19 = 121 ∨ f 19 = 122 := by omega
      rcases hv with e | e | e
      · exact nx ((kd_sg hr.2.2 (by decide)).mpr ⟨w.1, e⟩)
      · exact ny ((kd_sg hr.2.2 (by decide)).mpr ⟨w.1, e⟩)
      · exact nz ((kd_sg hr.2.2 (by decide)).mpr ⟨w.1, e⟩)
    · have := (kd_sg hr.2.2 (by decide)).mp ez
      omega
  refine wr_Sum_readPart hz ?_
  rw [k5]
  refine ⟨fun n40 => ⟨fun n2 => at55 n40 fun w => n2 ((kd_2 hr.2.2).mpr w.1), fun e2 => ?_⟩, fun e40 => ?_⟩
  · have n18 := (kd_2 hr.2.2).mp e2
    obtain ⟨r6, r7⟩ := hr.1.2.2.2.2.2.1 n18
    rw [r6, r7, tmod_pos (by omega)]
    refine ⟨fun gt => ?_, fun le => ?_⟩
    · exact at55 n40 fun w => by omega
    · refine put 0 (f 19 % 2521) (vK (f 19 % 2521)) (by omega) (by omega) (by omega) (by omega) (fun k => rfl) ?_
      unfold pPart
      rw [if_pos n18, if_pos le]
  · have y := (kd_sg hr.2.2 (by decide)).mp e40
    exact zcI_mono (hB y.1 y.2) fun v I1 z1 ⟨a, b⟩ => ⟨a, kI_mk b⟩
theorem t_readBracket (hI : smI D sh q B f l p o r I z) (l8 : l ≤ 8) (e18 : f 18 = 2) (e19 : f 19 = 40) (hS : ∀ g, pIn g → pKp D g (g 16 + 1) (g 27 + 1) (S g)) (HS : l < 8 → ∀ (g : Int → Int) (J : cm_I) (p o r : Nat), smI D sh q B g (l + 1) p o r J z → zcI (d + 3) m_Sum_readSum [vR 10 51, vI ((l + 1 : Nat) : Int)] z J (smR D sh q (Ssm (l + 1)) B J z (S g) fun _ => l + 1)) : zcI (d + 4) m_Sum_readBracket [vR 10 51, vI (l : Int)] z I fun v I1 z1 => (v = 0 ∨ v = 1) ∧ smR D sh q (Spw l) B I z (pPart D B S f) id v I1 z1 := by
  obtain ⟨hZ, hT, hr, hp, h28, h29⟩ := id hI
  obtain ⟨hz, z1, z2, z3, z4, z5, z6⟩ := id hZ
  have a1 := hT.1
  have hD := shOk_D a1
  have hs := sh_lt a1
  obtain ⟨s1, s2, s3⟩ := m16_bd hD
  have eR : pPart D B S f = if f 29 = 8 then (false, rBad f 2, vK 1) else pClose B (S (tok (st1 f 29 (f 29 + 1)) B)) := by
    unfold pPart
    rw [if_neg (by omega), if_neg (by omega), if_pos ⟨e18, e19⟩]
  refine wr_Sum_readBracket hz (shOk_sh a1) ⟨fun n8 => ?_, fun e8 => ?_⟩
  · rw [if_neg (by omega)] at eR
    have r0 : rdF B (st1 f 29 (f 29 + 1)) I := rdF_st hr fun s s0 s1 => by unfold st1; rw [if_neg (by omega)]
    refine mU_mono (t_adv (d := d) hz r0) fun I1 ⟨f1, r1⟩ => ⟨⟨by omega, by omega⟩, ?_⟩
    rw [show (l : Int) + 1 = ((l + 1 : Nat) : Int) by omega]
    obtain ⟨k1, k2, k3⟩ := tok_ok2 (f := st1 f 29 (f 29 + 1)) B r0.2.1
    have st20 : st1 f 29 (f 29 + 1) 20 = f 20 := by unfold st1; rw [if_neg (by decide)]
    have st28 : st1 f 29 (f 29 + 1) 28 = f 28 := by unfold st1; rw [if_neg (by decide)]
    have st29 : st1 f 29 (f 29 + 1) 29 = f 29 + 1 := by unfold st1; rw [if_pos rfl]
    have pg : pIn (tok (st1 f 29 (f 29 + 1)) B) := ⟨k1, by rw [k3 20 (by decide), st20]; exact hp.2.1, by rw [k3 28 (by decide), st28]; exact hp.2.2⟩
    have g1 : smI D sh q B (tok (st1 f 29 (f 29 + 1)) B) (l + 1) p o r I1 z := ⟨hZ, smT_49 z3 hT f1, r1, pg, by rw [k3 28 (by decide), st28, f1 51 (by simp)]; exact h28, by rw [k3 29 (by decide), st29]; omega⟩
    have kp := hS _ pg
    generalize hG : S (tok (st1 f 29 (f 29 + 1)) B) = R at *
    refine zcI_mono (HS (by omega) _ I1 p o r g1) fun v5 I3 Z4 hQ => ?_
    rw [hG] at hQ
    obtain ⟨b1, b2, b3, ⟨p', o', r', b4, b5⟩, b6⟩ := hQ
    have hZ4 := smZ_zf hZ (shOk_sh a1) b1
    obtain ⟨y1, y2, y3, y4, y5, y6, y7⟩ := id hZ4
    have F3 : smF sh q (Spw l) I I3 := smF_trans (smF_49 f1) (smF_mono b2 fun i hi hs => by unfold Ssm at hs; unfold Spw; omega)
    rcases b6 with ⟨v1, R1⟩ | ⟨v0, R0, R20⟩
    · obtain ⟨c6, cw_⟩ := b5 v1
      have k5 : I3 49 5 = kd R.2.1 := b3.1.2.2.2.2.1
      have eP : pPart D B S f = if R.2.1 18 = 2 ∧ R.2.1 19 = 41 then (true, st1 (tok R.2.1 B) 29 (R.2.1 29 - 1), R.2.2) else (false, st1 (rBad R.2.1 1) 29 (R.2.1 29 - 1), R.2.2) := by
        rw [eR]
        unfold pClose
        rw [if_pos R1]
      refine ⟨fun _ => ⟨y1, ?_, fun n41 => ?_⟩, fun w => by omega⟩
      · rw [k5]
        intro e41
        have y := (kd_sg b3.2.2 (by decide)).mp e41
        rw [if_pos y] at eP
        obtain ⟨d1, ⟨q1, q2, q3, q4, q5, q6⟩, d3, d4⟩ := id b4
        rw [y3, q1, rws_at y5 y6 q5, rws_at y5 y6 (show l + 1 < 21 by omega), y6, d1.2.2.1]
        have l1 := y7 p' q5
        have l2 := y7 (l + 1) (by omega)
        refine ⟨by omega, ⟨by omega, by omega⟩, ⟨by omega, by omega⟩, y2, by omega, by omega, ⟨by omega, by omega, by omega, by omega, by omega⟩, fun I14 e14 => ?_⟩
        obtain ⟨f14, g14⟩ := fr_eq_iw e14
        have cp : ∀ k, 0 ≤ k → k < mFrom D 16 → I14 (q + 1 + p') k = I3 (q + 1 + (l + 1)) k := fun k k0 k1 => by
          rw [g14]
          unfold cpyF
          rw [if_pos (by omega), show (0 : Int) + (k - 0) = k by omega]
        have t14 := smT_row z3 b4 f14 fun _ => by rw [g14]; exact okR_cpyF (d4 (l + 1) (by omega)) (d4 p' q5) _ _ _
        refine mU_mono (t_adv (d := d) y1 (rdF_fr b3 (f14 2 (by simp; omega)) (f14 49 (by simp; omega)))) fun I15 ⟨f15, r15⟩ => kI_mk ⟨Or.inr rfl, ?_⟩
        rw [eP]
        refine ⟨b1, smF_trans F3 (smF_trans (smF_row (i := p') q5 (by unfold Spw; omega) f14) (smF_49 f15)), rdF_st r15 (fun s s0 s1 => by show st1 _ 29 _ s = _; unfold st1; rw [if_neg (by omega)]), ⟨p', o', r', smT_49 z3 t14 f15, fun _ => ⟨?_, fun w k k0 k1 => ?_⟩⟩, Or.inl ⟨rfl, rfl⟩⟩
        · show _ = st1 (tok R.2.1 B) 29 (R.2.1 29 - 1) 28
          unfold st1
          rw [if_neg (by decide), (tok_ok' B b3.2.1).2 28 (by decide), f15 51 (by simp), f14 51 (by simp; omega), c6]
        · have w' : st1 (tok R.2.1 B) 29 (R.2.1 29 - 1) 28 = 0 := w
          unfold st1 at w'
          rw [if_neg (by decide), (tok_ok' B b3.2.1).2 28 (by decide)] at w'
          show I15 (q + 1 + p') k = R.2.2 k
          rw [f15 (q + 1 + p') (by simp; omega), cp k k0 k1]
          exact cw_ w' k k0 k1
      · rw [k5] at n41
        have n : ¬ (R.2.1 18 = 2 ∧ R.2.1 19 = 41) := fun w => n41 ((kd_sg b3.2.2 (by decide)).mpr w)
        rw [if_neg n] at eP
        refine mI_mono (smR_bad (d := d + 2) (W := Spw l) (R := pPart D B S f) (row := id) b1 F3 hZ4 b4 b3 (kp.2.2.2.1.1 R1) (k := 1) (by decide) (by decide) (by rw [eP]) fun s s0 s1 => ?_) fun v I16 ⟨a, b⟩ => ⟨a, ?_⟩
        · rw [eP]
          show st1 _ 29 _ s = _
          unfold st1
          rw [if_neg (by omega)]
        · obtain ⟨v', I', z', x1, x2, x3⟩ := b
          injection x1 with x1
          injection x1 with x1
          injection x2 with x2 x2'
          subst x1; subst x2; subst x2'
          exact kI_mk ⟨a, x3⟩
    · refine ⟨fun w => absurd v0 w, fun _ => kI_mk ⟨Or.inl rfl, b1, F3, ?_, ⟨p', o', r', b4, fun w => absurd w (by decide)⟩, Or.inr ⟨rfl, ?_, ?_⟩⟩⟩
      · rw [eR]
        unfold pClose
        rw [if_neg (by rw [R0]; exact Bool.false_ne_true)]
        exact rdF_st b3 fun s s0 s1 => by show st1 _ 29 _ s = _; unfold st1; rw [if_neg (by omega)]
      · rw [eR]
        unfold pClose
        rw [if_neg (by rw [R0]; exact Bool.false_ne_true)]
      · rw [eR]
        unfold pClose
        rw [if_neg (by rw [R0]; exact Bool.false_ne_true)]
        show st1 R.2.1 29 (R.2.1 29 - 1) 20 ≠ 0
        unfold st1
        rw [if_neg (by decide)]
        exact R20
  · rw [if_pos (by omega)] at eR
    refine mI_mono (smR_bad (d := d + 2) (W := Spw l) (R := pPart D B S f) (row := id) (zf_refl _ _) (smF_refl _ _ _ _) hZ hT hr hp.2.1 (k := 2) (by decide) (by decide) (by rw [eR]) (fun s _ _ => by rw [eR])) fun v I18 ⟨a, b⟩ => ⟨a, ?_⟩
    obtain ⟨v', I', z', x1, x2, x3⟩ := b
    injection x1 with x1
    injection x1 with x1
    injection x2 with x2 x2'
    subst x1; subst x2; subst x2'
    exact kI_mk ⟨a, x3⟩
end WSR
