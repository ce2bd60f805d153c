/-! THE CLASS: the reader of polynomials, sums -/
section WSS
variable {d : Nat} {z : cm_Z} {I : cm_I} {D : Int} {sh q l p o r : Nat} {B f : Int → Int} {S : (Int → Int) → pQ}
theorem vAdd_at (s : Int) (v w : Int → Int) {D k : Int} (hD : D = 2 ∨ D = 3) (k0 : 0 ≤ k) (k1 : k < mFrom D 16) : vAdd s v w k = (v k + s * w k) % 2521 := by
  obtain ⟨s1, s2, s3⟩ := m16_bd hD
  have := mSz_bd D
  exact if_pos (by omega)
theorem t_readSum (hI : smI D sh q B f l p o r I z) (l8 : l ≤ 8) (hS : ∀ g, pIn g → pKp D g (g 16 + 1) (g 27 + 1) (S g)) (HP : ∀ (g : Int → Int) (J : cm_I) (zz : cm_Z) (p o r : Nat), smI D sh q B g l p o r J zz → zcI (d + 7) m_Sum_readProduct [vR 10 51, vI (l : Int)] zz J (smR D sh q (Spr l) B J zz (pProd D B S g) fun _ => 9 + l)) : zcI (d + 8) m_Sum_readSum [vR 10 51, vI (l : Int)] z I (smR D sh q (Ssm l) B I z (pSum D B S f) fun _ => l) := by
  obtain ⟨hZ, hT, hr, hp, h28, h29⟩ := id hI
  obtain ⟨hz, z1, z2, hq, z4, z5, z6⟩ := id hZ
  have a1 := hT.1
  have hD := shOk_D a1
  have hs := sh_lt a1
  obtain ⟨s1, s2, s3⟩ := m16_bd hD
  -- one more product: sign x2, sum so far v
  have L41 : ∀ (n i : Nat) (x2 : Int) (g v : Int → Int) (J : cm_I) (zz : cm_Z) (p o r : Nat), i + n = 401 → (if (pProd D B S g).1 = true then pSumF D B S n (dn27 (pProd D B S g).2.1) (vAdd (if x2 = 0 then 1 else -1) v (pProd D B S g).2.2) else (false, (pProd D B S g).2.1, v)) = pSum D B S f → (x2 = 0 ∨ x2 = 1) → (i : Int) ≤ g 16 → zf [sh + 3, sh + 5] z zz → smF sh q (Ssm l) I J → smI D sh q B g l p o r J zz → (g 28 = 0 → vOk D v ∧ wRow D (J (q + 1 + l)) v) → cw (d + 7) cd_Sum_readSum (kI (smR D sh q (Ssm l) B I z (pSum D B S f) fun _ => l)) 41 [some (vR 10 51), some (vI (l : Int)), some (vI x2), some (vI (i : Int))] [] (J, zz) := by
    intro n
    induction n with
    | zero =>
      intro i x2 g v J zz p o r ei eR hx pos hzf hF hJ hv
      have ro := hJ.2.2.1.2.1
      unfold rOk at ro
      omega
    | succ n ih =>
      intro i x2 g v J zz p o r ei eR hx pos hzf hF hJ hv
      obtain ⟨jZ, jT, jr, jp, j28, j29⟩ := id hJ
      have ro := jr.2.1
      unfold rOk at ro
      have kp := pProd_kp (B := B) hD hS jp
      have hw := HP g J zz p o r hJ
      generalize hG : pProd D B S g = R at *
      refine wr_Sum_readSum_41 jZ.1 ⟨fun w => by omega, fun _ => zcI_mono hw fun v3 I1 Z2 hQ => ?_⟩
      obtain ⟨b1, b2, b3, ⟨p', o', r', b4, b5⟩, b6⟩ := hQ
      have hZ2 := smZ_zf jZ (shOk_sh a1) b1
      obtain ⟨y1, y2, y3, y4, y5, y6, y7⟩ := id hZ2
      have F1 : smF sh q (Ssm l) I I1 := smF_trans hF (smF_mono b2 fun i hi hs => by unfold Spr at hs; unfold Ssm; omega)
      rcases b6 with ⟨v1, R1⟩ | ⟨v0, R0, R20⟩
      · rw [if_pos R1] at eR
        obtain ⟨c6, cw_⟩ := b5 v1
        obtain ⟨kp1, kp2, kp3, kp4, kp5, kp6⟩ := kp
        obtain ⟨kq1, kq2, kq3, kq4, kq5⟩ := kp6 R1
        refine ⟨fun _ => ?_, fun w => by omega⟩
        rw [y3, show 9 + (l : Int) = ((9 + l : Nat) : Int) by omega, rws_at y5 y6 (show 9 + l < 21 by omega), y6]
        have l1 := y7 l (by omega)
        have l2 := y7 (9 + l) (by omega)
        have row_l : I1 (q + 1 + l) = J (q + 1 + l) := b2 (q + 1 + l) (by omega) (by omega) (by omega) (by omega) fun i hi hs => by unfold Spr at hs; omega
        -- the sum is told
        have at79 : ∀ c : Int, 0 ≤ c → c < 2521 → (∀ x : Int, c * x % 2521 = (if x2 = 0 then 1 else -1) * x % 2521) → ∀ z2' : Option cm_V, cw (d + 7) cd_Sum_readSum (kI (smR D sh q (Ssm l) B I z (pSum D B S f) fun _ => l)) 79 [some (vR 10 51), some (vI (l : Int)), z2', some (vI (i : Int))] [vI c, vR 20 (q + 1 + (9 + l)), vR 10 51] (I1, Z2) := by
          intro c c0 c1 hc z2'
          refine wr_Sum_readSum_79 y1 y3 (by omega) y5 ?_
          rw [y6, Int.toNat_natCast]
          refine ⟨⟨by omega, by omega⟩, mU_mono (t_sumAdd (d := d + 6) y1 b4.1 y2 (by omega) (by omega) l2.1 l1.1 (by simp; omega) c0 c1 (b4.2.2.2 (9 + l) (by omega)) (b4.2.2.2 l (by omega))) fun I2 ⟨f2, o2, g2⟩ => ?_⟩
          have t2 := smT_row y4 b4 f2 fun _ => o2
          have r2 : rdF B (dn27 R.2.1) I2 := rdF_st (rdF_fr b3 (f2 2 (by simp; omega)) (f2 49 (by simp; omega))) fun s s0 s1 => by unfold dn27 st1; rw [if_neg (by omega)]
          have dn : ∀ s, s ≠ 27 → dn27 R.2.1 s = R.2.1 s := fun s hs' => by unfold dn27 st1; rw [if_neg hs']
          have F2 : smF sh q (Ssm l) I I2 := smF_trans F1 (smF_row (i := l) (by omega) (Or.inl ⟨Nat.le_refl _, l8⟩) f2)
          have v2 : dn27 R.2.1 28 = 0 → vOk D (vAdd (if x2 = 0 then 1 else -1) v R.2.2) ∧ wRow D (I2 (q + 1 + l)) (vAdd (if x2 = 0 then 1 else -1) v R.2.2) := by
            intro w
            rw [dn 28 (by decide)] at w
            have g0 : g 28 = 0 := by
              apply Classical.byContradiction
              intro w2
              exact kq4 w2 w
            obtain ⟨ov, wv⟩ := hv g0
            refine ⟨vOk_add hD _ ov (kq5 w), fun k k0 k1 => ?_⟩
            rw [g2 k k0 k1, vAdd_at _ _ _ hD k0 k1, row_l, wv k k0 k1, cw_ w k k0 k1, Int.add_emod, hc, ← Int.add_emod]
          have p2 : pIn (dn27 R.2.1) := ⟨⟨r2.2.1, fun w => by rw [dn 16 (by decide), dn 17 (by decide)]; exact kq1.2 (by rw [← dn 18 (by decide)]; exact w)⟩, by rw [dn 20 (by decide)]; exact kp4.1 R1, by rw [dn 28 (by decide)]; exact kp3⟩
          have n51 : I2 51 = I1 51 := f2 51 (by simp; omega)
          have i2 : smI D sh q B (dn27 R.2.1) l p' o' r' I2 Z2 := ⟨hZ2, t2, r2, p2, by rw [dn 28 (by decide), n51]; exact c6.symm, by rw [dn 29 (by decide), kp5]; exact j29⟩
          have k5 : I2 49 5 = kd (dn27 R.2.1) := r2.1.2.2.2.2.1
          have k16 := dn 16 (by decide)
          have k17 := dn 17 (by decide)
          rw [pSumF] at eR
          have at114 : (dn27 R.2.1 18 = 2 ∧ (dn27 R.2.1 19 = 43 ∨ dn27 R.2.1 19 = 45)) → cw (d + 7) cd_Sum_readSum (kI (smR D sh q (Ssm l) B I z (pSum D B S f) fun _ => l)) 114 [some (vR 10 51), some (vI (l : Int)), z2', some (vI (i : Int))] [] (I2, Z2) := by
            intro y
            rw [if_pos y] at eR
            have lt := p2.1.2 (by omega)
            obtain ⟨k1, k2, k3⟩ := tok_ok2 (f := dn27 R.2.1) B r2.2.1
            have pg : pIn (tok (dn27 R.2.1) B) := ⟨k1, by rw [k3 20 (by decide)]; exact p2.2.1, by rw [k3 28 (by decide)]; exact p2.2.2⟩
            have ro1 := kp1
            unfold rOk at ro1
            have nxt : ∀ (x : Int) (J1 : cm_I), (x = 0 ∨ x = 1) → (x = 0 ↔ dn27 R.2.1 19 = 43) → fr [49] I2 J1 → rdF B (tok (dn27 R.2.1) B) J1 → cw (d + 7) cd_Sum_readSum (kI (smR D sh q (Ssm l) B I z (pSum D B S f) fun _ => l)) 41 [some (vR 10 51), some (vI (l : Int)), some (vI x), some (vI ((i : Int) + 1))] [] (J1, Z2) := by
              intro x J1 hx1 hx2 f1 r1
              have e : (if x = 0 then (1 : Int) else -1) = if dn27 R.2.1 19 = 43 then 1 else -1 := by
                by_cases w : x = 0
                · rw [if_pos w, if_pos (hx2.mp w)]
                · rw [if_neg w, if_neg (fun w2 => w (hx2.mpr w2))]
              refine ih (i + 1) x (tok (dn27 R.2.1) B) (vAdd (if x2 = 0 then 1 else -1) v R.2.2) J1 Z2 p' o' r' (by omega) (by rw [e]; exact eR) hx1 (by omega) (zf_trans hzf b1) (smF_trans F2 (smF_49 f1)) ⟨hZ2, smT_49 y4 t2 f1, r1, pg, by rw [k3 28 (by decide), dn 28 (by decide), f1 51 (by simp), n51]; exact c6.symm, by rw [k3 29 (by decide), dn 29 (by decide), kp5]; exact j29⟩ fun w => ?_
              rw [k3 28 (by decide)] at w
              rw [f1 (q + 1 + l) (by simp; omega)]
              exact v2 w
            refine wr_Sum_readSum_114 y1 ?_
            rw [k5]
            refine ⟨fun n45 => mU_mono (t_adv (d := d + 4) y1 r2) fun J1 ⟨f1, r1⟩ => ⟨⟨by omega, by omega⟩, nxt 0 J1 (Or.inl rfl) ⟨fun _ => ?_, fun _ => rfl⟩ f1 r1⟩, fun e45 => mU_mono (t_adv (d := d + 4) y1 r2) fun J1 ⟨f1, r1⟩ => ⟨⟨by omega, by omega⟩, nxt 1 J1 (Or.inr rfl) ⟨fun w => absurd w (by decide), fun w => ?_⟩ f1 r1⟩⟩
            · rcases y.2 with w | w
              · exact w
              · exact absurd ((kd_sg r2.2.2 (by decide)).mpr ⟨y.1, w⟩) n45
            · have := ((kd_sg r2.2.2 (by decide)).mp e45).2
              omega
          rw [k5]
          refine ⟨fun e43 => at114 ?_, fun n43 => ⟨fun e45 => at114 ?_, fun n45 => kI_mk ?_⟩⟩
          · have := (kd_sg r2.2.2 (by decide)).mp e43
            exact ⟨this.1, Or.inl this.2⟩
          · have := (kd_sg r2.2.2 (by decide)).mp e45
            exact ⟨this.1, Or.inr this.2⟩
          · rw [if_neg] at eR
            · rw [← eR]
              exact ⟨zf_trans hzf b1, F2, r2, ⟨p', o', r', t2, fun _ => ⟨by rw [n51, c6]; exact (dn 28 (by decide)).symm, fun w => (v2 w).2⟩⟩, Or.inl ⟨rfl, rfl⟩⟩
            · intro w
              rcases w.2 with w2 | w2
              · exact n43 ((kd_sg r2.2.2 (by decide)).mpr ⟨w.1, w2⟩)
              · exact n45 ((kd_sg r2.2.2 (by decide)).mpr ⟨w.1, w2⟩)
        refine ⟨⟨by omega, by omega⟩, by omega, ⟨by omega, by omega⟩, fun e0 => at79 1 (by decide) (by decide) (fun x => by rw [if_pos e0]) _, fun n0 => at79 2520 (by decide) (by decide) (fun x => by rw [if_neg n0]; omega) _⟩
      · rw [if_neg (by rw [R0]; exact Bool.false_ne_true)] at eR
        refine ⟨fun w => absurd v0 w, fun _ => kI_mk ?_⟩
        rw [← eR]
        exact ⟨zf_trans hzf b1, F1, b3, ⟨p', o', r', b4, fun w => absurd w (by decide)⟩, Or.inr ⟨rfl, rfl, R20⟩⟩
  have ll := z6 l (by omega)
  refine wr_Sum_readSum hz z2 (by omega) z4 ?_
  rw [z5, Int.toNat_natCast]
  refine ⟨⟨by omega, by omega⟩, mU_mono (t_fill (d := d + 6) hz (by omega) rfl (by omega) (by omega)) fun I2 e2 => ?_⟩
  obtain ⟨f2, g2⟩ := fr_eq_iw e2
  have w2 : wRow D (I2 (q + 1 + l)) (vK 0) := fun k k0 k1 => by
    rw [g2]
    unfold fillF vK
    rw [if_pos (by omega), ite_self]
  have o0 : vOk D (vK 0) := vOk_K hD (by decide) (by decide)
  have t2 := smT_row hq hT f2 fun _ => by rw [g2]; exact okR_fillF (hT.2.2.2 l (by omega)) _ _ (by decide) (by decide)
  have r2 : rdF B f I2 := rdF_fr hr (f2 2 (by simp; omega)) (f2 49 (by simp; omega))
  have F2 : smF sh q (Ssm l) I I2 := smF_row (i := l) (by omega) (Or.inl ⟨Nat.le_refl _, l8⟩) f2
  have k5 : I2 49 5 = kd f := r2.1.2.2.2.2.1
  obtain ⟨q1, q2, q3⟩ := pSum1_ok (B := B) hp
  have n51 : I2 51 = I 51 := f2 51 (by simp; omega)
  have p0 : ∀ s, s ≠ 27 → pSum0 B f s = pSum1 B f s := fun s hs' => by unfold pSum0 st1; rw [if_neg hs']
  have pin0 : pIn (pSum0 B f) := by
    refine ⟨⟨?_, ?_⟩, by rw [p0 20 (by decide)]; exact q1.2.1, by rw [p0 28 (by decide)]; exact q1.2.2⟩
    · have := q1.1.1
      unfold rOk at this ⊢
      rw [p0 15 (by decide), p0 16 (by decide), p0 17 (by decide), p0 19 (by decide)]
      exact this
    · rw [p0 16 (by decide), p0 17 (by decide), p0 18 (by decide)]
      exact q1.1.2
  have ro := hp.1.1
  unfold rOk at ro
  have go : ∀ (x : Int) (J : cm_I), (x = 0 ∨ x = 1) → (x = 0 ↔ ¬ (f 18 = 2 ∧ f 19 = 45)) → fr [49] I2 J → rdF B (pSum1 B f) J → cw (d + 7) cd_Sum_readSum (kI (smR D sh q (Ssm l) B I z (pSum D B S f) fun _ => l)) 41 [some (vR 10 51), some (vI (l : Int)), some (vI x), some (vI 0)] [] (J, z) := by
    intro x J hx1 hx2 f1 r1
    have e : (if x = 0 then (1 : Int) else -1) = if f 18 = 2 ∧ f 19 = 45 then -1 else 1 := by
      by_cases w : x = 0
      · rw [if_pos w, if_neg (hx2.mp w)]
      · rw [if_neg w, if_pos (Classical.byContradiction fun w2 => w (hx2.mpr w2))]
    refine L41 401 0 x (pSum0 B f) (vK 0) J z p o r (by omega) (by rw [e]; rfl) hx1 (by rw [p0 16 (by decide)]; omega) (zf_refl _ _) (smF_trans F2 (smF_49 f1)) ⟨hZ, smT_49 hq t2 f1, rdF_st r1 fun s s0 s1 => p0 s (by omega), pin0, by rw [p0 28 (by decide), q3 28 (by decide), f1 51 (by simp), n51]; exact h28, by rw [p0 29 (by decide), q3 29 (by decide)]; exact h29⟩ fun _ => ⟨o0, by rw [f1 (q + 1 + l) (by simp; omega)]; exact w2⟩
  rw [k5]
  refine ⟨fun n45 => wr_Sum_readSum_27 hz ⟨fun _ => go 0 I2 (Or.inl rfl) ⟨fun _ w => n45 ((kd_sg r2.2.2 (by decide)).mpr w), fun _ => rfl⟩ (fr_refl _ _) ?_, fun w => absurd rfl w⟩, fun e45 => wr_Sum_readSum_27 hz ⟨fun w => absurd w (by decide), fun _ => mU_mono (t_adv (d := d + 4) hz r2) fun J1 ⟨f1, r1⟩ => go 1 J1 (Or.inr rfl) ⟨fun w => absurd w (by decide), fun w => absurd ((kd_sg r2.2.2 (by decide)).mp e45) w⟩ f1 ?_⟩⟩
  · unfold pSum1
    rw [if_neg fun w => n45 ((kd_sg r2.2.2 (by decide)).mpr w)]
    exact r2
  · unfold pSum1
    rw [if_pos ((kd_sg r2.2.2 (by decide)).mp e45)]
    exact r1
/-- all levels -/
theorem t_level (hD : D = 2 ∨ D = 3) (d : Nat) : ∀ (m l : Nat), l + m = 9 → 1 ≤ m → ∀ (f : Int → Int) (I : cm_I) (z : cm_Z) (p o r : Nat), smI D sh q B f l p o r I z → zcI (d + 3 + 5 * m) m_Sum_readSum [vR 10 51, vI (l : Int)] z I (smR D sh q (Ssm l) B I z (pLev D B m f) fun _ => l) := by
  intro m
  induction m with
  | zero => intro l _ h; omega
  | succ m ih =>
    intro l hl _ f I z p o r hI
    have kp : ∀ g, pIn g → pKp D g (g 16 + 1) (g 27 + 1) (pLev D B m g) := fun g hg => pLev_kp hD m g hg
    have HW : ∀ (g : Int → Int) (J : cm_I) (zz : cm_Z) (p o r : Nat), smI D sh q B g l p o r J zz → zcI ((d + 5 * m) + 6) m_Sum_readPower [vR 10 51, vI (l : Int)] zz J (smR D sh q (Spw l) B J zz (pPower D B (pLev D B m) g) id) := by
      intro g J zz p o r hJ
      refine t_readPower hJ (by omega) kp (t_readPart hJ (by omega) fun e18 e19 => t_readBracket hJ (by omega) e18 e19 kp fun l8 g' J' p' o' r' hJ' => ?_)
      have := ih (l + 1) (by omega) (by omega) g' J' zz p' o' r' hJ'
      rw [show d + 5 * m + 3 = d + 3 + 5 * m by omega]
      exact this
    have := t_readSum (d := d + 5 * m) hI (by omega) kp fun g J zz p o r hJ => t_readProduct hJ (by omega) kp HW
    rw [show d + 3 + 5 * (m + 1) = d + 5 * m + 8 by omega]
    exact this
end WSS
