/-! THE CLASS: the reader of polynomials, powers and products -/
section WSP
variable {d : Nat} {z : cm_Z} {I : cm_I} {D : Int} {sh q l p o r : Nat} {B f : Int → Int} {S : (Int → Int) → pQ}
theorem kI_or {P : Int → cm_I → cm_Z → Prop} {v : Int} {I : cm_I} {z : cm_Z} (h : (v = 0 ∨ v = 1) ∧ kI P (some (vI v)) (I, z)) : P v I z := by
  obtain ⟨v', I', z', x1, x2, x3⟩ := h.2
  injection x1 with x1
  injection x1 with x1
  injection x2 with x2 x2'
  subst x1; subst x2; subst x2'
  exact x3
theorem t_readPower (hI : smI D sh q B f l p o r I z) (l8 : l ≤ 8) (hS : ∀ g, pIn g → pKp D g (g 16 + 1) (g 27 + 1) (S g)) (HP : zcI (d + 5) m_Sum_readPart [vR 10 51, vI (l : Int)] z I (smR D sh q (Spw l) B I z (pPart D B S f) id)) : zcI (d + 6) m_Sum_readPower [vR 10 51, vI (l : Int)] z I (smR D sh q (Spw l) B I z (pPower D B S f) id) := by
  obtain ⟨hZ, hT, hr, hp, h28, h29⟩ := id hI
  have hz := hZ.1
  have a1 := hT.1
  have hD := shOk_D a1
  have hs := sh_lt a1
  have kp := pPart_kp (B := B) hD hS hp
  refine wr_Sum_readPower hz (zcI_mono HP fun v3 I1 Z2 hQ => ?_)
  have eW : pPower D B S f = pPow2 D B (pPart D B S f) := rfl
  generalize hG : pPart D B S f = R at *
  obtain ⟨b1, b2, b3, ⟨p', o', r', b4, b5⟩, b6⟩ := hQ
  have hZ2 := smZ_zf hZ (shOk_sh a1) b1
  obtain ⟨y1, y2, y3, y4, y5, y6, y7⟩ := id hZ2
  rcases b6 with ⟨v1, R1⟩ | ⟨v0, R0, R20⟩
  · obtain ⟨c6, cw_⟩ := b5 v1
    obtain ⟨kp1, kp2, kp3, kp4, kp5, kp6⟩ := kp
    obtain ⟨kq1, kq2, kq3, kq4, kq5⟩ := kp6 R1
    have k5 : I1 49 5 = kd R.2.1 := b3.1.2.2.2.2.1
    refine ⟨fun _ => ⟨y1, fun e94 => ?_, fun n94 => kI_mk ?_⟩, fun w => by omega⟩
    · rw [k5] at e94
      have y := (kd_sg b3.2.2 (by decide)).mp e94
      have eP : pPower D B S f = pExp D B (tok R.2.1 B) R.2.2 := by
        rw [eW]
        unfold pPow2
        rw [if_pos R1, if_pos y]
      refine mU_mono (t_adv (d := d + 2) y1 b3) fun I5 ⟨f5, r5⟩ => ?_
      have t5 := smT_49 y4 b4 f5
      have F5 : smF sh q (Spw l) I I5 := smF_trans b2 (smF_49 f5)
      have tk := (tok_ok' B b3.2.1).2
      have k55 : I5 49 5 = kd (tok R.2.1 B) := r5.1.2.2.2.2.1
      have n51 : I5 51 = I1 51 := f5 51 (by simp)
      have bad : ∀ k : Int, 1 ≤ k → k ≤ 7 → pExp D B (tok R.2.1 B) R.2.2 = (false, rBad (tok R.2.1 B) k, R.2.2) → mI (d + 5) m_Reader_refuse [vR 7 49, vI k] Z2 I5 fun v I1 => (v = 0 ∨ v = 1) ∧ kI (smR D sh q (Spw l) B I z (pPower D B S f) id) (some (vI v)) (I1, Z2) := by
        intro k k0 k1 e
        exact smR_bad (d := d + 4) b1 F5 hZ2 t5 r5 (by rw [tok20 b3.2.1]; exact kp4.1 R1) k0 k1 (by rw [eP, e]) fun s _ _ => by rw [eP, e]
      rw [k55]
      refine ⟨fun n2 => bad 1 (by decide) (by decide) ?_, fun e2 => ?_⟩
      · unfold pExp
        rw [if_neg fun w => n2 ((kd_2 r5.2.2).mpr w.1)]
      · have n18 := (kd_2 r5.2.2).mp e2
        obtain ⟨x6, x7⟩ := r5.1.2.2.2.2.2.1 n18
        have ro := r5.2.1
        unfold rOk at ro
        rw [x6, x7]
        refine ⟨fun le2 => ⟨fun le15 => ?_, fun gt => bad 2 (by decide) (by decide) ?_⟩, fun gt => bad 1 (by decide) (by decide) ?_⟩
        · have eE : pPower D B S f = (true, tok (pRaise D (tok R.2.1 B 19) (tok R.2.1 B) R.2.2).1 B, (pRaise D (tok R.2.1 B 19) (tok R.2.1 B) R.2.2).2) := by
            rw [eP]
            unfold pExp
            rw [if_pos ⟨n18, le2⟩, if_pos le15]
          refine zcU_mono (t_raisePart (d := d + 1) hZ2 t5 (by omega) le15) fun I8 Z9 hU => ?_
          obtain ⟨u1, u2, u3, p2, o2, r2, u4, u5, u6⟩ := hU
          have hZ9 := smZ_zf hZ2 (shOk_sh a1) u1
          have z3q := y4
          have n2' : I8 2 = I5 2 := u2 2 (by decide) (by decide) (by omega) (by omega) fun i hi hs => by omega
          have g28 : tok R.2.1 B 28 = I5 51 6 := by rw [tk 28 (by decide), n51, c6]
          have raise : ∀ s, s ≠ 28 → (pRaise D (tok R.2.1 B 19) (tok R.2.1 B) R.2.2).1 s = tok R.2.1 B s := by
            intro s hs'
            unfold pRaise
            split
            · show st1 _ 28 1 s = _; unfold st1; rw [if_neg hs']
            · show st1 _ 28 0 s = _; unfold st1; rw [if_neg hs']
          have rr : rdF B (pRaise D (tok R.2.1 B 19) (tok R.2.1 B) R.2.2).1 I8 := rdF_st (rdF_fr r5 n2' u3) fun s s0 s1 => raise s (by omega)
          refine ⟨hZ9.1, mU_mono (t_adv (d := d + 2) hZ9.1 rr) fun I11 ⟨f11, r11⟩ => kI_mk ?_⟩
          rw [eE]
          have tk2 := (tok_ok' B rr.2.1).2
          have val : I8 51 6 = (pRaise D (tok R.2.1 B 19) (tok R.2.1 B) R.2.2).1 28 ∧ ((pRaise D (tok R.2.1 B 19) (tok R.2.1 B) R.2.2).1 28 = 0 → wRow D (I8 (q + 1 + p2)) (pRaise D (tok R.2.1 B 19) (tok R.2.1 B) R.2.2).2) := by
            by_cases hh : tok R.2.1 B 28 ≠ 0
            · have e : pRaise D (tok R.2.1 B 19) (tok R.2.1 B) R.2.2 = (st1 (tok R.2.1 B) 28 1, R.2.2) := by
                unfold pRaise
                rw [if_pos (Or.inl hh)]
              rw [e]
              refine ⟨u5 (Or.inl (by rw [← g28]; exact hh)), fun w => ?_⟩
              have w' : (1 : Int) = 0 := w
              exact absurd w' (by decide)
            · have h0 : tok R.2.1 B 28 = 0 := Classical.byContradiction hh
              have R28 : R.2.1 28 = 0 := by rw [← tk 28 (by decide)]; exact h0
              have ct : cut D (I5 (q + 1 + p')) = R.2.2 := wRow_cut hD (fun k k0 k1 => by rw [f5 (q + 1 + p') (by simp; omega)]; exact cw_ R28 k k0 k1) (kq5 R28)
              rw [ct] at u5 u6
              by_cases h15 : 15 < mDeg D R.2.2 0 * tok R.2.1 B 19
              · have e : pRaise D (tok R.2.1 B 19) (tok R.2.1 B) R.2.2 = (st1 (tok R.2.1 B) 28 1, R.2.2) := by
                  unfold pRaise
                  rw [if_pos (Or.inr h15)]
                rw [e]
                refine ⟨u5 (Or.inr h15), fun w => ?_⟩
                have w' : (1 : Int) = 0 := w
                exact absurd w' (by decide)
              · have e : pRaise D (tok R.2.1 B 19) (tok R.2.1 B) R.2.2 = (st1 (tok R.2.1 B) 28 0, vPow D R.2.2 (tok R.2.1 B 19).toNat) := by
                  unfold pRaise
                  rw [if_neg (by omega)]
                rw [e]
                obtain ⟨x1, x2⟩ := u6 (by omega)
                exact ⟨x1, fun _ => x2⟩
          refine ⟨zf_trans b1 u1, smF_trans F5 (smF_trans (smF_mono u2 fun i hi hs => by unfold Spw; omega) (smF_49 f11)), r11, ⟨p2, o2, r2, smT_49 z3q u4 f11, fun _ => ⟨?_, fun w k k0 k1 => ?_⟩⟩, Or.inl ⟨rfl, rfl⟩⟩
          · show _ = tok (pRaise D (tok R.2.1 B 19) (tok R.2.1 B) R.2.2).1 B 28
            rw [tk2 28 (by decide), f11 51 (by simp)]; exact val.1
          · have w' : tok (pRaise D (tok R.2.1 B 19) (tok R.2.1 B) R.2.2).1 B 28 = 0 := w
            rw [tk2 28 (by decide)] at w'
            show I11 (q + 1 + p2) k = _
            rw [f11 (q + 1 + p2) (by simp; omega)]
            exact val.2 w' k k0 k1
        · unfold pExp
          rw [if_pos ⟨n18, le2⟩, if_neg (by omega)]
        · unfold pExp
          rw [if_neg (by omega)]
    · rw [k5] at n94
      have n : ¬ (R.2.1 18 = 2 ∧ R.2.1 19 = 94) := fun w => n94 ((kd_sg b3.2.2 (by decide)).mpr w)
      have eP : pPower D B S f = R := by
        rw [eW]
        unfold pPow2
        rw [if_pos R1, if_neg n]
      rw [eP]
      exact ⟨b1, b2, b3, ⟨p', o', r', b4, fun _ => ⟨c6, cw_⟩⟩, Or.inl ⟨rfl, R1⟩⟩
  · have eP : pPower D B S f = (false, R.2) := by
      rw [eW]
      unfold pPow2
      rw [if_neg (by rw [R0]; exact Bool.false_ne_true)]
    refine ⟨fun w => absurd v0 w, fun _ => kI_mk ?_⟩
    rw [eP]
    exact ⟨b1, b2, b3, ⟨p', o', r', b4, fun w => absurd w (by decide)⟩, Or.inr ⟨rfl, rfl, R20⟩⟩
theorem t_readProduct (hI : smI D sh q B f l p o r I z) (l8 : l ≤ 8) (hS : ∀ g, pIn g → pKp D g (g 16 + 1) (g 27 + 1) (S g)) (HW : ∀ (g : Int → Int) (J : cm_I) (zz : cm_Z) (p o r : Nat), smI D sh q B g l p o r J zz → zcI (d + 6) m_Sum_readPower [vR 10 51, vI (l : Int)] zz J (smR D sh q (Spw l) B J zz (pPower D B S g) id)) : zcI (d + 7) m_Sum_readProduct [vR 10 51, vI (l : Int)] z I (smR D sh q (Spr l) B I z (pProd D B S f) fun _ => 9 + l) := by
  obtain ⟨hZ, hT, hr, hp, h28, h29⟩ := id hI
  have hz := hZ.1
  have hq := hZ.2.2.2.1
  have a1 := hT.1
  have hD := shOk_D a1
  have hs := sh_lt a1
  obtain ⟨s1, s2, s3⟩ := m16_bd hD
  -- behind a power: the products so far are v
  have L63 : ∀ (n i : Nat) (g v : Int → Int) (J : cm_I) (zz : cm_Z) (p o r : Nat), i + n = 401 → pProdF D B S n g v = pProd D B S f → (i : Int) + 1 ≤ g 16 → zf [sh + 3, sh + 5] z zz → smF sh q (Spr l) I J → smI D sh q B g l p o r J zz → (g 28 = 0 → vOk D v ∧ wRow D (J (q + 1 + (9 + l))) v) → cw (d + 6) cd_Sum_readProduct (kI (smR D sh q (Spr l) B I z (pProd D B S f) fun _ => 9 + l)) 63 [some (vR 10 51), some (vI (l : Int)), some (vI (9 + (l : Int))), some (vI (i : Int))] [] (J, zz) := by
    intro n
    induction n with
    | zero =>
      intro i g v J zz p o r ei eR pos hzf hF hJ hv
      have ro := hJ.2.2.1.2.1
      unfold rOk at ro
      omega
    | succ n ih =>
      intro i g v J zz p o r ei eR pos hzf hF hJ hv
      obtain ⟨jZ, jT, jr, jp, j28, j29⟩ := id hJ
      have ro := jr.2.1
      unfold rOk at ro
      have k5 : J 49 5 = kd g := jr.1.2.2.2.2.1
      rw [pProdF] at eR
      refine wr_Sum_readProduct_63 jZ.1 ?_
      rw [k5]
      refine ⟨fun e42 => ?_, fun n42 => kI_mk ?_⟩
      · have y := (kd_sg jr.2.2 (by decide)).mp e42
        rw [if_pos y] at eR
        have lt := jp.1.2 (by omega)
        refine mU_mono (t_adv (d := d + 3) jZ.1 jr) fun J1 ⟨f1, r1⟩ => ⟨⟨by omega, by omega⟩, ?_⟩
        obtain ⟨k1, k2, k3⟩ := tok_ok2 (f := g) B jr.2.1
        have pg : pIn (tok g B) := ⟨k1, by rw [k3 20 (by decide)]; exact jp.2.1, by rw [k3 28 (by decide)]; exact jp.2.2⟩
        have g1 : smI D sh q B (tok g B) l p o r J1 zz := ⟨jZ, smT_49 hq jT f1, r1, pg, by rw [k3 28 (by decide), f1 51 (by simp)]; exact j28, by rw [k3 29 (by decide)]; exact j29⟩
        have kp := pPower_kp (B := B) hD hS pg
        have hw := HW _ J1 zz p o r g1
        generalize hG : pPower D B S (tok g B) = R at *
        refine wr_Sum_readProduct_7 jZ.1 (shOk_sh a1) ⟨fun w => by omega, fun _ => zcI_mono hw fun v3 I1 Z2 hQ => ?_⟩
        obtain ⟨b1, b2, b3, ⟨p', o', r', b4, b5⟩, b6⟩ := hQ
        have hZ2 := smZ_zf jZ (shOk_sh a1) b1
        have F1 : smF sh q (Spr l) I I1 := smF_trans hF (smF_trans (smF_49 f1) (smF_mono b2 fun i hi hs => by unfold Spw at hs; unfold Spr; omega))
        rcases b6 with ⟨v1, R1⟩ | ⟨v0, R0, R20⟩
        · rw [if_pos R1] at eR
          obtain ⟨c6, cw_⟩ := b5 v1
          obtain ⟨kp1, kp2, kp3, kp4, kp5, kp6⟩ := kp
          obtain ⟨kq1, kq2, kq3, kq4, kq5⟩ := kp6 R1
          refine ⟨fun _ => ⟨fun _ => ?_, fun w => by omega⟩, fun w => by omega⟩
          rw [show 9 + (l : Int) = ((9 + l : Nat) : Int) by omega]
          refine zcU_mono (t_multiplyBy (d := d + 2) (m := 9 + l) hZ2 b4 (by omega)) fun I4 Z5 hU => ?_
          obtain ⟨u1, u2, u4, u3, u5, u6⟩ := hU
          rw [show ((9 + l : Nat) : Int) = 9 + (l : Int) by omega]
          have hZ5 := smZ_zf hZ2 (shOk_sh a1) u1
          have jn := fun s (h8 : s ≠ 28) (h7 : s ≠ 27) => (pJoin_kp (v := v) (w := R.2.2) hD (f := R.2.1) kp3).1 s h8 h7
          have n2' : I4 2 = I1 2 := u2 2 (by decide) (by decide) (by omega) (by omega) fun i hi hs => by omega
          have r4 : rdF B (pJoin D R.2.1 v R.2.2).1 I4 := rdF_st (rdF_fr b3 n2' u3) fun s s0 s1 => jn s (by omega) (by omega)
          obtain ⟨ja, jb, jc, jd, je⟩ := pJoin_kp (v := v) (w := R.2.2) hD (f := R.2.1) kp3
          have val : I4 51 6 = (pJoin D R.2.1 v R.2.2).1 28 ∧ ((pJoin D R.2.1 v R.2.2).1 28 = 0 → wRow D (I4 (q + 1 + (9 + l))) (pJoin D R.2.1 v R.2.2).2) := by
            by_cases hh : R.2.1 28 ≠ 0
            · have e : pJoin D R.2.1 v R.2.2 = (st1 (st1 R.2.1 28 1) 27 (R.2.1 27 - 1), v) := by
                unfold pJoin
                rw [if_pos (Or.inl hh)]
              rw [e]
              refine ⟨u5 (Or.inl (by rw [c6]; exact hh)), fun w => ?_⟩
              have w' : (1 : Int) = 0 := w
              exact absurd w' (by decide)
            · have h0 : R.2.1 28 = 0 := Classical.byContradiction hh
              have g0 : g 28 = 0 := by
                apply Classical.byContradiction
                intro w
                exact kq4 (by rw [k3 28 (by decide)]; exact w) h0
              obtain ⟨ov, wv⟩ := hv g0
              have c1 : cut D (I1 (q + 1 + p')) = R.2.2 := wRow_cut hD (cw_ h0) (kq5 h0)
              have c2 : cut D (I1 (q + 1 + (9 + l))) = v := wRow_cut hD (by
                have : I1 (q + 1 + (9 + l)) = J (q + 1 + (9 + l)) := by
                  rw [b2 (q + 1 + (9 + l)) (by omega) (by omega) (by omega) (by omega) fun i hi hs => by unfold Spw at hs; omega, f1 (q + 1 + (9 + l)) (by simp; omega)]
                rw [this]; exact wv) ov
              rw [c1, c2] at u5 u6
              by_cases h15 : 15 < mDeg D v 0 + mDeg D R.2.2 0
              · have e : pJoin D R.2.1 v R.2.2 = (st1 (st1 R.2.1 28 1) 27 (R.2.1 27 - 1), v) := by
                  unfold pJoin
                  rw [if_pos (Or.inr h15)]
                rw [e]
                refine ⟨u5 (Or.inr h15), fun w => ?_⟩
                have w' : (1 : Int) = 0 := w
                exact absurd w' (by decide)
              · have e : pJoin D R.2.1 v R.2.2 = (st1 (st1 R.2.1 28 0) 27 (R.2.1 27 - 1), vMul D v R.2.2) := by
                  unfold pJoin
                  rw [if_neg (by omega)]
                rw [e]
                obtain ⟨x1, x2⟩ := u6 (by omega)
                exact ⟨x1, fun _ => x2⟩
          have j16 := jn 16 (by decide) (by decide)
          have j17 := jn 17 (by decide) (by decide)
          have j18 := jn 18 (by decide) (by decide)
          exact ih (i + 1) _ _ I4 Z5 p' o' r' (by omega) eR (by rw [j16]; omega) (zf_trans hzf (zf_trans b1 u1)) (smF_trans F1 (smF_mono u2 fun i hi hs => by unfold Spr; omega)) ⟨hZ5, u4, r4, ⟨⟨r4.2.1, fun w => by rw [j16, j17]; exact kq1.2 (by rw [← j18]; exact w)⟩, by rw [jn 20 (by decide) (by decide)]; exact kp4.1 R1, jc⟩, val.1.symm, by rw [jn 29 (by decide) (by decide), kp5, k3 29 (by decide)]; exact j29⟩ fun w => ⟨je w, val.2 w⟩
        · rw [if_neg (by rw [R0]; exact Bool.false_ne_true)] at eR
          refine ⟨fun w => absurd v0 w, fun _ => kI_mk ?_⟩
          rw [← eR]
          exact ⟨zf_trans hzf b1, F1, b3, ⟨p', o', r', b4, fun w => absurd w (by decide)⟩, Or.inr ⟨rfl, rfl, R20⟩⟩
      · have n : ¬ (g 18 = 2 ∧ g 19 = 42) := fun w => n42 ((kd_sg jr.2.2 (by decide)).mpr w)
        rw [if_neg n] at eR
        rw [← eR]
        exact ⟨hzf, hF, jr, ⟨p, o, r, jT, fun _ => ⟨j28.symm, fun w => (hv w).2⟩⟩, Or.inl ⟨rfl, rfl⟩⟩
  have kp := pPower_kp (B := B) hD hS hp
  have hw := HW f I z p o r hI
  have eR : pProd D B S f = if (pPower D B S f).1 = true then pProdF D B S 401 (pPower D B S f).2.1 (pPower D B S f).2.2 else (false, (pPower D B S f).2) := rfl
  refine wr_Sum_readProduct hz ⟨⟨by omega, by omega⟩, wr_Sum_readProduct_7 hz (shOk_sh a1) ⟨fun w => by omega, fun _ => ?_⟩⟩
  generalize hG : pPower D B S f = R at *
  refine zcI_mono hw fun v3 I1 Z2 hQ => ?_
  obtain ⟨b1, b2, b3, ⟨p', o', r', b4, b5⟩, b6⟩ := hQ
  have hZ2 := smZ_zf hZ (shOk_sh a1) b1
  obtain ⟨y1, y2, y3, y4, y5, y6, y7⟩ := id hZ2
  have F1 : smF sh q (Spr l) I I1 := smF_mono b2 fun i hi hs => by unfold Spw at hs; unfold Spr; omega
  rcases b6 with ⟨v1, R1⟩ | ⟨v0, R0, R20⟩
  · rw [if_pos R1] at eR
    obtain ⟨c6, cw_⟩ := b5 v1
    obtain ⟨kp1, kp2, kp3, kp4, kp5, kp6⟩ := kp
    obtain ⟨kq1, kq2, kq3, kq4, kq5⟩ := kp6 R1
    refine ⟨fun _ => ⟨fun w => absurd rfl w, fun _ => ?_⟩, fun w => by omega⟩
    obtain ⟨d1, ⟨q1, q2, q3, q4, q5, q6⟩, d3, d4⟩ := id b4
    have l1 := y7 p' q5
    have l2 := y7 (9 + l) (by omega)
    rw [show 9 + (l : Int) = ((9 + l : Nat) : Int) by omega, y3, q1, rws_at y5 y6 q5, rws_at y5 y6 (show 9 + l < 21 by omega), y6, d1.2.2.1]
    refine ⟨by omega, ⟨by omega, by omega⟩, ⟨by omega, by omega⟩, y2, by omega, by omega, ⟨by omega, by omega, by omega, by omega, by omega⟩, fun I13 e13 => ?_⟩
    obtain ⟨f13, g13⟩ := fr_eq_iw e13
    have cp : ∀ k, 0 ≤ k → k < mFrom D 16 → I13 (q + 1 + (9 + l)) k = I1 (q + 1 + p') k := fun k k0 k1 => by
      rw [g13]
      unfold cpyF
      rw [if_pos (by omega), show (0 : Int) + (k - 0) = k by omega]
    have t13 := smT_row y4 b4 f13 fun _ => by rw [g13]; exact okR_cpyF (d4 p' q5) (d4 (9 + l) (by omega)) _ _ _
    rw [show ((9 + l : Nat) : Int) = 9 + (l : Int) by omega]
    have ro := hr.2.1
    unfold rOk at ro
    exact L63 401 0 _ _ I13 Z2 p' o' r' (by omega) eR.symm (by omega) b1 (smF_trans F1 (smF_row (i := 9 + l) (by omega) (Or.inr (Nat.le_refl _)) f13)) ⟨hZ2, t13, rdF_fr b3 (f13 2 (by simp; omega)) (f13 49 (by simp; omega)), ⟨kq1, kp4.1 R1, kp3⟩, by rw [f13 51 (by simp; omega)]; exact c6.symm, by rw [kp5]; exact h29⟩ fun w => ⟨kq5 w, fun k k0 k1 => by rw [cp k k0 k1]; exact cw_ w k k0 k1⟩
  · rw [if_neg (by rw [R0]; exact Bool.false_ne_true)] at eR
    refine ⟨fun w => absurd v0 w, fun _ => kI_mk ?_⟩
    rw [eR]
    exact ⟨b1, F1, b3, ⟨p', o', r', b4, fun w => absurd w (by decide)⟩, Or.inr ⟨rfl, rfl, R20⟩⟩
end WSP
