/-! THE REFERENCE's calls that ask what is rewritten -/
section MW
variable {d : Nat} {z : cm_Z} {T : Nat → cMat} {nt n : Nat} {L : Nat → cMat} {I : cm_I} {K : Int → Int → Int}
theorem rwOk_thr {rf : Option (Int → Int)} {J : cm_I} (h : rwOk T nt n rf I) (e : J = iu I 209 0 0) : rwOk T nt n rf J := by
  obtain ⟨f, g⟩ := fr_eq_iu e
  have s9 : ∀ s, s ≠ 0 → J 209 s = I 209 s := fun s hs => by rw [g]; exact if_neg hs
  rcases h with ⟨a, b⟩ | ⟨f', q, a, b, c, e, g, i, j⟩
  · exact Or.inl ⟨a, by rw [s9 58 (by decide)]; exact b⟩
  · refine Or.inr ⟨f', q, a, ?_⟩
    rw [s9 1 (by decide), s9 41 (by decide), s9 58 (by decide)]
    exact ⟨b, c, e, g, i, fdSt_fr j (f 245 (by decide))⟩
theorem s_rewritten (hz : mz z) (h : pmIn T nt n L I) {rf : Option (Int → Int)} (hR : rwOk T nt n rf I) (j a b c : Int) : mI (d + 3) m_Model_rewritten [vR 12 209, vI j, vI a, vI b, vI c] z I fun r I1 => I1 = iu I 209 0 0 ∧ r = aRewritten (I 209 1) T nt n rf j a b c := by
  refine mr_rewritten hz fun J eJ => ?_
  obtain ⟨hJ, fJ⟩ := pmIn_thr h eJ
  have s9 : ∀ s, s ≠ 0 → J 209 s = I 209 s := fun s hs => by rw [(fr_eq_iu eJ).2]; exact if_neg hs
  rw [s9 58 (by decide)]
  rcases hR with ⟨e1, e2⟩ | ⟨f, q, e1, eq, x41, vf, iv, e58, fd⟩
  · refine ⟨fun _ => qI_mk ⟨eJ, ?_⟩, fun x => absurd e2 x⟩
    rw [e1]
    rfl
  · have st : pmSt T nt n I := by
      rcases h.2.2.2.2.2.2.2.2.2.2.2 with w | w
      · rw [x41] at w; exact absurd w (by decide)
      · exact w.2
    obtain ⟨rs, sy, x42⟩ := pm_rwSt h st eq
    obtain ⟨S, l216⟩ := pmL_216 hz h sy
    have l816 := pmF_len S f
    have hq : rwK (I 209 1) T nt (pmV (I 209 1) T nt q) (pmD (I 209 1) T nt q) (pmL (I 209 1) T nt q) f (pmX (I 209 1) T nt q f) := rw_ok S vf iv
    have D1 := s9 1 (by decide)
    have e50 : J 209 50 = ((pmL (I 209 1) T nt q).length : Int) := by rw [s9 50 (by decide)]; exact rs.2.2.2.2.2.2.2.1
    refine ⟨fun x => by rw [e58] at x; omega, fun _ => mI_mono (s_arePowers (d := d) hz e50 l216 hJ.1.1 j a b c) fun v3 I2 ⟨e3, b3, i3⟩ => ?_⟩
    subst e3
    rw [D1] at i3
    have ans : aRewritten (I 209 1) T nt n rf j a b c = @ite Int (isPws (I 209 1) (pmL (I 209 1) T nt q).length j a b c) (Classical.propDecidable _) (fi (pmX (I 209 1) T nt q f (j, a, b, c))) (-1) := by
      rw [e1]
      unfold aRewritten
      rw [eq]
    refine ⟨fun x => ?_, fun x => qI_mk ⟨eJ, ?_⟩⟩
    · have e58' : I2 209 58 = ((pmF (I 209 1) T nt q f).length : Int) := by rw [s9 58 (by decide)]; exact e58
      rw [e58']
      refine mI_mono (s_told (d := d + 1) hz (ar := 245) ⟨by decide, by decide⟩ (by decide) l816 (fdSt_fr fd (fJ.1 245 (by decide))) j a b c) fun v5 I4 ⟨e4, w5⟩ => ?_
      subst e4
      refine qI_mk ⟨eJ, ?_⟩
      rw [ans, if_pos (i3.mp (by omega)), w5]
      exact rwTold_all hq _
    · rw [ans, if_neg]
      intro w
      have := i3.mpr w
      omega
/-- a product of two left alone -/
theorem inv_vMul {D : Int} (hD : D = 2 ∨ D = 3) (hT : ∀ t, t < nt → isD D (T t)) {u w : Int → Int} (hu : vOk D u) (hw : vOk D w) (iu' : isInv D T nt u) (iw' : isInv D T nt w) (h : mDeg D u 0 + mDeg D w 0 ≤ 15) (ok : vOk D (vMul D u w)) : isInv D T nt (vMul D u w) := by
  refine (isInv_iff hD hT ok).mpr ?_
  rw [toP_mul hD h]
  exact inv_mul ((isInv_iff hD hT hu).mp iu') ((isInv_iff hD hT hw).mp iw')
theorem s_relation (hz : mz z) (h : pmIn T nt n L I) (o15 : okR (I 215)) {rf : Option (Int → Int)} (hR : rwOk T nt n rf I) (i g j a b c : Int) : mI (d + 10) m_Model_relation [vR 12 209, vI i, vI g, vI j, vI a, vI b, vI c] z I fun r I1 => rcFr I I1 ∧ okR (I1 215) ∧ pmIn T nt n L I1 ∧ rwOk T nt n rf I1 ∧ r = aRelation (I 209 1) T nt n i g j a b c := by
  have hD' : I 209 1 = 2 ∨ I 209 1 = 3 := h.1.1
  refine mr_relation hz fun J eJ => thr_primary hz h eJ fun I2 f2 p2 D2 x2 st => ?_
  have hR2 : rwOk T nt n rf I2 := rwOk_pc hR D2 x2 (f2.2.1 58 (by decide) (by decide) (by decide) (by decide) (by decide) (by decide) (by decide) (by decide)) (f2.1 245 (by decide))
  have o2 : okR (I2 215) := by rw [f2.1 215 (by decide)]; exact o15
  refine ⟨fun x42 => qI_mk ⟨rcFr_pc f2, o2, p2, hR2, ?_⟩, fun x42 => ?_⟩
  · rcases id st with ⟨en, -⟩ | ⟨q, eq, sy, x, -⟩
    · rw [D2] at en
      unfold aRelation; rw [en]
    · rw [x42] at x; exact absurd x (by decide)
  · rcases id st with ⟨-, x⟩ | ⟨q, eq, sy, -⟩
    · exact absurd x x42
    · have rs := (pm_rwSt p2 st eq).1
      rw [D2] at eq sy rs
      obtain ⟨S, l216⟩ := pmL_216 hz h sy
      have ok := seAll_ok (D := I 209 1) (T := T) (nt := nt) (v := pmV (I 209 1) T nt q) (dg := pmD (I 209 1) T nt q) 16 (Nat.le_refl _)
      have hl : sx_L (I 209 1) T nt (pmL (I 209 1) T nt q) := ok.1.1
      have se : seSt (pmL (I 209 1) T nt q) I2 := rs.2.2.2.2.2.2.2
      have e50 : I2 209 50 = ((pmL (I 209 1) T nt q).length : Int) := se.1
      have ans : aRelation (I 209 1) T nt n i g j a b c = @ite Int (((0 ≤ i ∧ i < ((pmL (I 209 1) T nt q).length : Int)) ∧ (0 ≤ g ∧ g < ((pmL (I 209 1) T nt q).length : Int))) ∧ isPws (I 209 1) (pmL (I 209 1) T nt q).length j a b c) (Classical.propDecidable _) (if (sx_x (pmL (I 209 1) T nt q) i.toNat).1 + (sx_x (pmL (I 209 1) T nt q) g.toNat).1 ≤ 15 then fi (pmX (I 209 1) T nt q (vMul (I 209 1) (sx_b (I 209 1) T nt (sx_x (pmL (I 209 1) T nt q) i.toNat)) (sx_b (I 209 1) T nt (sx_x (pmL (I 209 1) T nt q) g.toNat))) (j, a, b, c)) else -2) (-1) := by
        unfold aRelation
        rw [eq]
      rw [e50]
      refine ⟨⟨by omega, by omega⟩, mI_mono (s_within (d := d + 8) hz i 0 _) fun v5 I4 ⟨e4, w5⟩ => ?_⟩
      subst e4
      refine ⟨fun v0 => qI_mk ⟨rcFr_pc f2, o2, p2, hR2, ?_⟩, fun v0 => ?_⟩
      · rw [ans, if_neg]
        intro w
        rw [w5, if_pos (by have := w.1.1; omega)] at v0
        exact absurd v0 (by decide)
      · have ii : 0 ≤ i ∧ i < ((pmL (I 209 1) T nt q).length : Int) := by
          apply Classical.byContradiction
          intro w
          rw [w5, if_neg (by omega)] at v0
          exact v0 rfl
        rw [e50]
        refine ⟨⟨by omega, by omega⟩, mI_mono (s_within (d := d + 8) hz g 0 _) fun v8 I7 ⟨e7, w8⟩ => ?_⟩
        subst e7
        refine ⟨fun v0' => qI_mk ⟨rcFr_pc f2, o2, p2, hR2, ?_⟩, fun v0' => ?_⟩
        · rw [ans, if_neg]
          intro w
          rw [w8, if_pos (by have := w.1.2; omega)] at v0'
          exact absurd v0' (by decide)
        · have gg : 0 ≤ g ∧ g < ((pmL (I 209 1) T nt q).length : Int) := by
            apply Classical.byContradiction
            intro w
            rw [w8, if_neg (by omega)] at v0'
            exact v0' rfl
          refine mI_mono (s_arePowers (d := d + 7) hz e50 l216 p2.1.1 j a b c) fun v10 I9 ⟨e9, b9, i9⟩ => ?_
          subst e9
          rw [D2] at i9
          refine ⟨fun x => ?_, fun x => qI_mk ⟨rcFr_pc f2, o2, p2, hR2, ?_⟩⟩
          · have pw : isPws (I 209 1) (pmL (I 209 1) T nt q).length j a b c := i9.mp (by omega)
            have hi' : i.toNat < (pmL (I 209 1) T nt q).length := by omega
            have hg' : g.toNat < (pmL (I 209 1) T nt q).length := by omega
            obtain ⟨d1, r1⟩ := se.2 i.toNat hi'
            obtain ⟨d2, r2⟩ := se.2 g.toNat hg'
            rw [show ((i.toNat : Nat) : Int) = i by omega] at d1 r1
            rw [show ((g.toNat : Nat) : Int) = g by omega] at d2 r2
            obtain ⟨y0, y1, y2⟩ := hl _ (sx_at hi').1
            obtain ⟨y3, y4, y5⟩ := hl _ (sx_at hg').1
            rw [d1, d2, r1]
            refine ⟨⟨by omega, by omega⟩, ⟨by omega, by omega⟩, ⟨by omega, by omega⟩, fun le => ?_, fun gt => qI_mk ⟨rcFr_pc f2, o2, p2, hR2, ?_⟩⟩
            · have hB := p2.2.2.2.2.1
              have b16 := rs.2.2.2.2.2.1
              obtain ⟨-, -, -, g4, g5, g6⟩ := bs_get p2.1.1 hB y0 (by omega)
              obtain ⟨-, -, -, g4', g5', g6'⟩ := bs_get p2.1.1 hB y3 (by omega)
              rw [D2] at g5 g6 g5' g6'
              refine mU_mono (s_laysBaseRow (d := d + 7) hz p2.1.1 mA214 (by decide) (by decide) (by decide) (x := 0) (by omega) (show _ ≤ (1140 : Int) by omega) (by omega) y0 y1 (i := (sx_x (pmL (I 209 1) T nt q) i.toNat).2) (rows := bsRows (I 209 1) T nt (sx_x (pmL (I 209 1) T nt q) i.toNat).1) (B := (bsX (I 209 1) T nt (sx_x (pmL (I 209 1) T nt q) i.toNat).1).2) y2 g4 (by rw [D2]; exact g5) (by rw [D2]; exact g6)) fun Ia ha => ?_
              obtain ⟨fa, ra, na⟩ := ha
              rw [D2] at ra
              have ra' : isRow (Ia 214) 0 (sx_b (I 209 1) T nt (sx_x (pmL (I 209 1) T nt q) i.toNat)) := ra
              rw [fa 239 (by decide), fa 240 (by decide), d2, r2]
              have Da : Ia 209 1 = I 209 1 := by rw [fa 209 (by decide), D2]
              refine mU_mono (s_laysBaseRow (d := d + 7) hz (by unfold mD; rw [Da]; exact hD') (ha := (⟨by decide, by decide⟩ : mA 215)) (by decide) (by decide) (by decide) (x := 0) (by omega) (show _ ≤ (1140 : Int) by omega) (by omega) y3 y4 (i := (sx_x (pmL (I 209 1) T nt q) g.toNat).2) (rows := bsRows (I 209 1) T nt (sx_x (pmL (I 209 1) T nt q) g.toNat).1) (B := (bsX (I 209 1) T nt (sx_x (pmL (I 209 1) T nt q) g.toNat).1).2) y5 (by rw [fa 229 (by decide)]; exact g4') (by rw [fa 229 (by decide), Da]; exact g5') (by rw [fa 229 (by decide), fa 230 (by decide), Da]; exact g6')) fun Ib hb => ?_
              obtain ⟨fb, rb, nb⟩ := hb
              rw [Da] at rb
              have rb' : isRow (Ib 215) 0 (sx_b (I 209 1) T nt (sx_x (pmL (I 209 1) T nt q) g.toNat)) := rb
              have Db : Ib 209 1 = I 209 1 := by rw [fb 209 (by decide), Da]
              have fab : fr [214, 215] I9 Ib := fr_trans (fr_mono fa (by decide)) (fr_mono fb (by decide))
              have v1 : vOk (I 209 1) (sx_b (I 209 1) T nt (sx_x (pmL (I 209 1) T nt q) i.toNat)) := vOk_bRow hD' y0 y1 _
              have v2 : vOk (I 209 1) (sx_b (I 209 1) T nt (sx_x (pmL (I 209 1) T nt q) g.toNat)) := vOk_bRow hD' y3 y4 _
              have g1 : mDeg (I 209 1) (sx_b (I 209 1) T nt (sx_x (pmL (I 209 1) T nt q) i.toNat)) 0 ≤ (sx_x (pmL (I 209 1) T nt q) i.toNat).1 := mDeg_bRow_le hD' y0 y1 _
              have g2 : mDeg (I 209 1) (sx_b (I 209 1) T nt (sx_x (pmL (I 209 1) T nt q) g.toNat)) 0 ≤ (sx_x (pmL (I 209 1) T nt q) g.toNat).1 := mDeg_bRow_le hD' y3 y4 _
              have okrow : ∀ {f : Int → Int} {v : Int → Int}, isRow f 0 v → okR v → (∀ x, ¬ (0 ≤ x ∧ x < 0 + 1140) → 0 ≤ f x ∧ f x < 2521) → okR f := by
                intro f v hr ov out x
                by_cases w : 0 ≤ x ∧ x < 0 + 1140
                · have := hr x w.1 (by omega)
                  rw [show (0 : Int) + x = x by omega] at this
                  rw [this]; exact ov x
                · exact out x w
              have ob4 : okR (Ib 214) := by
                rw [fb 214 (by decide)]
                exact okrow ra' v1.1 fun x w => by rw [na x w]; exact p2.2.2.2.2.2.1 x
              have ob5 : okR (Ib 215) := okrow rb' v2.1 fun x w => by rw [nb x w, fa 215 (by decide)]; exact o2 x
              have hmb : mMon Ib := mMon_fr p2.1.2.1 fab (by decide) (by decide) (by decide) (by decide)
              have rab : isRow (Ib 214) 0 (sx_b (I 209 1) T nt (sx_x (pmL (I 209 1) T nt q) i.toNat)) := by rw [fb 214 (by decide)]; exact ra'
              refine mU_mono (s_multiplies (d := d + 6) hz (by unfold mD; rw [Db]; exact hD') hmb mA214 (⟨by decide, by decide⟩ : mA 215) mA216 (by decide) (by decide) (by decide) (x := 0) (y := 0) (w := 0) (by omega) (show _ ≤ (1140 : Int) by omega) (by omega) (by omega) (show _ ≤ (1140 : Int) by omega) (by omega) (by omega) (show _ ≤ (1140 : Int) by omega) (by omega) ob4 ob5 (by rw [Db, isRow_deg rab, isRow_deg rb']; omega)) fun Ic ec => ?_
              obtain ⟨fc, gc⟩ := fr_eq_iw ec
              rw [Db, isRow_mul rab rb'] at gc
              refine mU_mono (s_copies (d := d + 8) hz mA216 (⟨by decide, by decide⟩ : mA 215) (by omega) (show _ ≤ (1140 : Int) by omega) (by omega) (by omega) (show _ ≤ (1140 : Int) by omega) (by omega) (by decide)) fun Id ed => ?_
              obtain ⟨fd, gd⟩ := fr_eq_iw ed
              have fbd : fr [215, 216] Ib Id := fr_trans (fr_mono fc (by decide)) (fr_mono fd (by decide))
              have f9d : fr [214, 215, 216] I9 Id := fr_trans (fr_mono fab (by decide)) (fr_mono fbd (by decide))
              have D9 : Id 209 = I9 209 := f9d 209 (by decide)
              have rd : isRow (Id 215) 0 (vMul (I 209 1) (sx_b (I 209 1) T nt (sx_x (pmL (I 209 1) T nt q) i.toNat)) (sx_b (I 209 1) T nt (sx_x (pmL (I 209 1) T nt q) g.toNat))) := by
                intro x x0 x1
                rw [gd, gc]
                unfold cpyF setR vMul
                rw [if_pos (by omega), if_pos (by omega), if_pos ⟨x0, x1⟩]
                congr 1
                omega
              have od5 : okR (Id 215) := by
                rw [gd, fc 215 (by decide)]
                refine okR_cpy ob5 _ _ _ fun x x0 x1 => ?_
                rw [gc]
                unfold setR
                rw [if_pos (by omega)]
                exact pMul_bd _ _ _ _ _ _
              have od6 : okR (Id 216) := by
                rw [fd 216 (by decide), gc]
                intro x
                unfold setR
                by_cases w : (0 : Int) ≤ x ∧ x < 0 + 1140
                · rw [if_pos w]; exact pMul_bd _ _ _ _ _ _
                · rw [if_neg w, fab 216 (by decide)]; exact p2.1.2.2.1 x
              have vm : vOk (I 209 1) (vMul (I 209 1) (sx_b (I 209 1) T nt (sx_x (pmL (I 209 1) T nt q) i.toNat)) (sx_b (I 209 1) T nt (sx_x (pmL (I 209 1) T nt q) g.toNat))) := (vOk_mul hD' (by omega)).1
              have binv : ∀ {k : Nat}, k < (pmL (I 209 1) T nt q).length → isInv (I 209 1) T nt (sx_b (I 209 1) T nt (sx_x (pmL (I 209 1) T nt q) k)) := by
                intro k hk
                obtain ⟨u0, u1, u2⟩ := hl _ (sx_at hk).1
                obtain ⟨hh, -, -, -, -, -, a6, -⟩ := S.2.2.2.2.2.2.2 _ u0 u1
                exact (iV_inv hD' u0 u1 T nt _).mp (a6 _ u2)
              have im : isInv (I 209 1) T nt (vMul (I 209 1) (sx_b (I 209 1) T nt (sx_x (pmL (I 209 1) T nt q) i.toNat)) (sx_b (I 209 1) T nt (sx_x (pmL (I 209 1) T nt q) g.toNat))) := inv_vMul hD' (sx_T S) v1 v2 (binv hi') (binv hg') (by omega) vm
              have hq := rw_ok S vm im
              obtain ⟨pd, xd, std⟩ := pmIn_rw p2 x2 st (fr_mono f9d (by decide)) (fun s _ _ _ _ => by rw [D9]) (by rw [fbd 214 (by decide)]; exact ob4) od6 (by rw [f9d 224 (by decide)]; exact p2.1.2.2.2.2.2) (by rw [f9d 226 (by decide)]; exact p2.2.2.2.2.1.2.2.1)
              have Dd : Id 209 1 = I 209 1 := by rw [D9, D2]
              have rsd := (pm_rwSt pd std (by rw [Dd]; exact eq)).1
              rw [Dd] at rsd
              refine mU_mono (s_solves (d := d + 1) hz S rsd (⟨by decide, by decide⟩ : mA 215) (by decide) (by decide) (by decide) (by decide) (by decide) (by decide) (by decide) (by decide) (by decide) (by decide) (by decide) od5 (x := 0) (by omega) (show _ ≤ (1140 : Int) by omega) (by omega) rd vm hq) fun Ie he => ?_
              obtain ⟨we, oe, oe6, fde, ne⟩ := he
              have fde' : fdSt 246 (pmF (I 209 1) T nt q (vMul (I 209 1) (sx_b (I 209 1) T nt (sx_x (pmL (I 209 1) T nt q) i.toNat)) (sx_b (I 209 1) T nt (sx_x (pmL (I 209 1) T nt q) g.toNat)))) Ie := fde
              have ne' : Ie 209 60 = ((pmF (I 209 1) T nt q (vMul (I 209 1) (sx_b (I 209 1) T nt (sx_x (pmL (I 209 1) T nt q) i.toNat)) (sx_b (I 209 1) T nt (sx_x (pmL (I 209 1) T nt q) g.toNat)))).length : Int) := ne
              have l816 := pmF_len S (vMul (I 209 1) (sx_b (I 209 1) T nt (sx_x (pmL (I 209 1) T nt q) i.toNat)) (sx_b (I 209 1) T nt (sx_x (pmL (I 209 1) T nt q) g.toNat)))
              rw [ne']
              refine mI_mono (s_told (d := d + 8) hz (ar := 246) ⟨by decide, by decide⟩ (by decide) l816 fde' j a b c) fun v20 If ⟨ef, w20⟩ => ?_
              subst ef
              have f9e : fr [209, 214, 215, 216, 226, 227, 241, 242, 243, 244, 246, 247] I9 If := fr_trans (fr_mono f9d (by decide)) (fr_mono we.1 (by decide))
              have s9e : ∀ s, s ≠ 53 → s ≠ 60 → If 209 s = I9 209 s := fun s a' b' => by rw [we.2 s a' b', D9]
              obtain ⟨pe, xe, ste⟩ := pmIn_rw p2 x2 st (fr_mono f9e (by decide)) (fun s _ a' _ b' => s9e s a' b') oe.1 oe.2 (by rw [f9e 224 (by decide)]; exact p2.1.2.2.2.2.2) oe6
              refine qI_mk ⟨⟨fr_trans (rcFr_pc f2).1 (fr_mono f9e (by decide)), fun s a0 a1 a2 a3 a4 a5 a6 a7 a8 a9 => by rw [s9e s a7 a9]; exact (rcFr_pc f2).2.1 s a0 a1 a2 a3 a4 a5 a6 a7 a8 a9, by rw [s9e 0 (by decide) (by decide)]; exact f2.2.2⟩, by rw [we.1 215 (by decide)]; exact od5, pe, rwOk_pc hR2 (s9e 1 (by decide) (by decide)) xe (s9e 58 (by decide) (by decide)) (f9e 245 (by decide)), ?_⟩
              rw [ans, if_pos ⟨⟨ii, gg⟩, pw⟩, if_pos le, w20]
              exact rwTold_all hq _
            · rw [ans, if_pos ⟨⟨ii, gg⟩, pw⟩, if_neg (by omega)]
          · rw [ans, if_neg]
            intro w
            have := i9.mpr w.2
            omega
end MW
