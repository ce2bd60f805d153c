section MPP
variable {d l : Nat} {z : cm_Z} {I : cm_I}
theorem s_powerOfX (hz : mz z) (hS : 1 ≤ l → ∀ (d : Nat) (I : cm_I), pAtX I l 0 → mI (d + 4 * l + 5) m_Model_sum [vR 12 209] z I (pPostX I (pLev (I 209 1) (I 219) l (I 209)))) (hA : pAtX I (l + 1) 2) : mI (d + 4 * l + 7) m_Model_powerOf [vR 12 209] z I (pPostX I (pPower (I 209 1) (I 219) (pLev (I 209 1) (I 219) l) (I 209))) := by
  obtain ⟨hP, hi, hl, hb0, hn0, hn1⟩ := id hA
  have hD' : I 209 1 = 2 ∨ I 209 1 = 3 := hP.1
  have kp := pPart_kp (B := I 219) hD' (pLev_kp (D := I 209 1) (B := I 219) hD' l) hi
  refine mr_powerOf hz (mI_mono (s_partX hz hS hA) fun v2 I1 ⟨f1, o3, o4, g9, ev, hr⟩ => ?_)
  unfold pPower pPow2
  generalize pPart (I 209 1) (I 219) (pLev (I 209 1) (I 219) l) (I 209) = r at kp g9 ev hr
  obtain ⟨a1, a2, a3, a4, a5, a6⟩ := kp
  have e19 : I1 219 = I 219 := f1 219 (by decide)
  refine ⟨fun q => ?_, fun q => qI_mk ?_⟩
  · have yr : r.1 = true := Classical.byContradiction fun x => q (by rw [ev, if_neg x])
    obtain ⟨b1, b2, b3, b4, b5⟩ := a6 yr
    obtain ⟨rl, rr⟩ := hr yr
    rw [if_pos yr]
    refine mI_mono (s_is hz 94) fun v4 I3 ⟨e3, b4', i4⟩ => ?_
    rw [e3]
    unfold rIs at i4
    rw [g9] at i4
    refine ⟨fun q4 => ?_, fun q4 => qI_mk ?_⟩
    · have c2 : r.2.1 18 = 2 ∧ r.2.1 19 = 94 := i4.mp (by omega)
      rw [if_pos c2]
      refine go_frX hz (by rw [g9]; exact a1) fun I5 f5 g5 => ?_
      rw [g9, e19] at g5
      obtain ⟨t1, t2, t3⟩ := tok_ok2 (I 219) a1
      obtain ⟨p1, p2, p3, p4, p5, p6⟩ := id t1.1
      have fA : fr [209, 214, 216, 223] I I5 := fr_trans f1 (fr_mono f5 (by decide))
      have e53 : I5 223 = I1 223 := f5 223 (by decide)
      have e54 : I5 214 = I1 214 := f5 214 (by decide)
      have u1 : tok r.2.1 (I 219) 1 = I 209 1 := by rw [t3 1 (by omega), a2 1 (by omega) (by decide) (by decide) (by decide)]
      have u27 : tok r.2.1 (I 219) 27 = I 209 27 + 1 := by rw [t3 27 (by omega), b3]
      have u28 : tok r.2.1 (I 219) 28 = r.2.1 28 := t3 28 (by omega)
      rw [g5]
      unfold pExp
      refine ⟨fun q6 => bad_postX hz (by omega) (by omega) fA (by rw [e53]; exact o3) (by unfold o46; rw [e54, f5 216 (by decide)]; exact o4) g5 t1.1 (v := r.2.2) (by rw [if_neg (fun x => q6 x.1)]), fun q6 => ⟨⟨by omega, by omega⟩, fun q7 => ⟨fun q8 => ?_, fun q8 => bad_postX hz (by omega) (by omega) fA (by rw [e53]; exact o3) (by unfold o46; rw [e54, f5 216 (by decide)]; exact o4) g5 t1.1 (v := r.2.2) (by rw [if_pos ⟨q6, q7⟩, if_neg (by omega)])⟩, fun q7 => bad_postX hz (by omega) (by omega) fA (by rw [e53]; exact o3) (by unfold o46; rw [e54, f5 216 (by decide)]; exact o4) g5 t1.1 (v := r.2.2) (by rw [if_neg (fun x => by have := x.2; omega)])⟩⟩
      rw [if_pos ⟨q6, q7⟩, if_pos q8]
      have w1 : I5 209 1 = I 209 1 := by rw [g5, u1]
      have w27 : I5 209 27 = I 209 27 + 1 := by rw [g5, u27]
      have w28 : I5 209 28 = r.2.1 28 := by rw [g5, u28]
      have hP5 : mPaX I5 := mPa_frX hP fA w1 (by rw [e53]; exact o3) (by unfold o46; rw [e54, f5 216 (by decide)]; exact o4)
      have kr := pRaise_kp (D := I 209 1) hD' (e := tok r.2.1 (I 219) 19) p5 (f := tok r.2.1 (I 219)) (v := r.2.2) (by rw [u28]; exact a3) (by rw [u28]; exact b5)
      refine mU_mono (s_raisesX hz hP5 (by omega) (by omega) (by rw [w28]; exact a3) p5 q8 (v := r.2.2) (fun x => ⟨?_, by rw [w1]; exact b5 (by rw [← w28]; exact x)⟩)) fun I9 ⟨f9, s1, s2, s3, s4, s5⟩ => ?_
      · rw [e53, w27, show I 209 27 + 1 - 1 = I 209 27 by omega]
        exact rr (by rw [← w28]; exact x)
      · rw [w27, show I 209 27 + 1 - 1 = I 209 27 by omega] at s4 s5
        rw [w1, g5] at s3 s5
        obtain ⟨k1, k2, k3, k4⟩ := kr
        generalize pRaise (I 209 1) (tok r.2.1 (I 219) 19) (tok r.2.1 (I 219)) r.2.2 = y at s3 s5 k1 k2 k3 k4
        have oy : rOk y.1 := by
          refine ⟨?_, ?_, ?_, ?_, ?_, ?_⟩ <;> simp only [k1 15 (by decide), k1 16 (by decide), k1 17 (by decide), k1 19 (by decide)] <;> assumption
        refine go_frX hz (by rw [s3]; exact oy) fun I10 f10 g10 => qI_mk ?_
        have e10 : I10 223 = I9 223 := f10 223 (by decide)
        have fB : fr [209, 214, 216, 223] I I9 := fr_trans fA f9
        refine ⟨fr_trans fB (fr_mono f10 (by decide)), by rw [e10]; exact s1, by unfold o46; rw [f10 214 (by decide), f10 216 (by decide)]; exact s2, by rw [g10, s3, fB 219 (by decide)], rfl, fun _ => ⟨fun k hk => by rw [e10, s4 k hk, e53, rl k hk], fun x => ?_⟩⟩
        rw [e10]
        have z28 := (tok_ok2 (I 219) oy).2.2 28 (by omega)
        exact s5 (by rw [← z28]; exact x)
    · have c2 : ¬ (r.2.1 18 = 2 ∧ r.2.1 19 = 94) := fun x => by have := i4.mpr x; omega
      rw [if_neg c2]
      exact ⟨f1, o3, o4, g9, by rw [if_pos yr], hr⟩
  · have nr : ¬ r.1 = true := fun x => by rw [if_pos x] at ev; omega
    rw [if_neg nr]
    exact ⟨f1, o3, o4, g9, rfl, fun x => ff x⟩
theorem s_productOfX (hz : mz z) (hS : 1 ≤ l → ∀ (d : Nat) (I : cm_I), pAtX I l 0 → mI (d + 4 * l + 5) m_Model_sum [vR 12 209] z I (pPostX I (pLev (I 209 1) (I 219) l (I 209)))) (hA : pAtX I (l + 1) 1) : mI (d + 4 * l + 8) m_Model_productOf [vR 12 209] z I (pPostX I (pProd (I 209 1) (I 219) (pLev (I 209 1) (I 219) l) (I 209))) := by
  obtain ⟨hP, hi, hl, hb0, hn0, hn1⟩ := id hA
  have hD' : I 209 1 = 2 ∨ I 209 1 = 3 := hP.1
  have kL := pLev_kp (D := I 209 1) (B := I 219) hD' l
  have kp := pPower_kp (B := I 219) hD' kL hi
  have fail : ∀ (I0 : cm_I) (f w : Int → Int), fr [209, 214, 216, 223] I I0 → okR (I0 223) → o46 I0 → I0 209 = f → pProd (I 209 1) (I 219) (pLev (I 209 1) (I 219) l) (I 209) = (false, f, w) → cw (d + 4 * l + 7) cd_Model_productOf (qI z (pPostX I (pProd (I 209 1) (I 219) (pLev (I 209 1) (I 219) l) (I 209)))) 5 [some (vR 12 209), some (vI 0)] [] (I0, z) := by
    intro I0 f w hf o3 o4 g9 e
    refine mr_productOf_5 hz ⟨fun _ => ⟨Or.inl rfl, qI_mk ?_⟩, fun q => absurd rfl q⟩
    rw [e]
    exact ⟨hf, o3, o4, g9, rfl, fun x => ff x⟩
  have key : ∀ (n : Nat) (f v : Int → Int) (I0 : cm_I), 401 ≤ n + f 16 → fr [209, 214, 216, 223] I I0 → okR (I0 223) → o46 I0 → I0 209 = f → pIn f → (f 28 = 0 → vOk (I 209 1) v) → (∀ s, (s < 16 ∨ 20 < s) → s ≠ 27 → s ≠ 28 → s ≠ 29 → f s = I 209 s) → f 27 = I 209 27 + 1 → f 29 = I 209 29 → (∀ k, k < 1140 * I 209 27 → I0 223 k = I 223 k) → (f 28 = 0 → isRow (I0 223) (1140 * I 209 27) v) → pProd (I 209 1) (I 219) (pLev (I 209 1) (I 219) l) (I 209) = pProdF (I 209 1) (I 219) (pLev (I 209 1) (I 219) l) n f v → cw (d + 4 * l + 7) cd_Model_productOf (qI z (pPostX I (pProd (I 209 1) (I 219) (pLev (I 209 1) (I 219) l) (I 209)))) 5 [some (vR 12 209), some (vI 1)] [] (I0, z) := by
    intro n
    induction n with
    | zero =>
      intro f v I0 hn hf o3 o4 g9 hin
      obtain ⟨⟨⟨q1, q2, q3, q4, q5, q6⟩, _⟩, _, _⟩ := hin
      omega
    | succ n ih =>
      intro f v I0 hn hf o3 o4 g9 hin hvo hfs h27 h29 hlo hrow hp
      obtain ⟨h1, h2, h3⟩ := id hin
      have e19 : I0 219 = I 219 := hf 219 (by decide)
      rw [pProdF] at hp
      refine mr_productOf_5 hz ⟨fun q => absurd q (by decide), fun _ => mI_mono (s_is hz 42) fun v2 I1 ⟨e1, b2, i2⟩ => ?_⟩
      rw [e1]
      unfold rIs at i2
      rw [g9] at i2
      refine ⟨fun q => ⟨Or.inr rfl, qI_mk ?_⟩, fun q => ?_⟩
      · rw [if_neg (fun x => by have := i2.mpr x; omega)] at hp
        rw [hp]
        exact ⟨hf, o3, o4, g9, rfl, fun _ => ⟨hlo, hrow⟩⟩
      · have c : f 18 = 2 ∧ f 19 = 42 := i2.mp (by omega)
        rw [if_pos c] at hp
        have r1 := h1.2 (by omega)
        refine go_frX hz (by rw [g9]; exact h1.1) fun I3 f3 g3 => ?_
        rw [g9, e19] at g3
        obtain ⟨t1, t2, t3⟩ := tok_ok2 (I 219) h1.1
        have u27 : tok f (I 219) 27 = I 209 27 + 1 := by rw [t3 27 (by omega), h27]
        have u29 : tok f (I 219) 29 = I 209 29 := by rw [t3 29 (by omega), h29]
        have u28 := t3 28 (by omega)
        have u1 : tok f (I 219) 1 = I 209 1 := by rw [t3 1 (by omega), hfs 1 (by omega) (by decide) (by decide) (by decide)]
        have fA : fr [209, 214, 216, 223] I I3 := fr_trans hf (fr_mono f3 (by decide))
        have e33 : I3 223 = I0 223 := f3 223 (by decide)
        have e319 : I3 219 = I 219 := fA 219 (by decide)
        have hin3 : pIn (tok f (I 219)) := ⟨t1, by rw [t3 20 (by omega)]; exact h2, by rw [u28]; exact h3⟩
        have hA3 : pAtX I3 (l + 1) 2 := ⟨mPa_frX hP fA (by rw [g3, u1]) (by rw [e33]; exact o3) (by unfold o46; rw [f3 214 (by decide), f3 216 (by decide)]; exact o4), by rw [g3]; exact hin3, by rw [g3, u29]; exact hl, by rw [g3, u29]; exact hb0, by rw [g3, u27]; omega, by rw [g3, u27, u29]; omega⟩
        have kq := pPower_kp (B := I 219) hD' kL hin3
        refine mI_mono (s_powerOfX hz hS hA3) fun v5 I4 ⟨f4, x3, x4, x9, xv, xr⟩ => ?_
        rw [g3, u1, e319] at x9 xv xr
        generalize pPower (I 209 1) (I 219) (pLev (I 209 1) (I 219) l) (tok f (I 219)) = r at kq x9 xv xr hp
        obtain ⟨a1, a2, a3, a4, a5, a6⟩ := kq
        have fB : fr [209, 214, 216, 223] I I4 := fr_trans fA f4
        by_cases yr : r.1 = true
        · rw [if_pos yr] at xv hp
          obtain ⟨b1, b2', b3, b4, b5⟩ := a6 yr
          obtain ⟨xl, xr⟩ := xr yr
          rw [u27] at xl xr b3
          have w27 : I4 209 27 = I 209 27 + 2 := by rw [x9]; omega
          have w1 : I4 209 1 = I 209 1 := by rw [x9, a2 1 (by omega) (by decide) (by decide) (by decide), u1]
          have hP4 : mPaX I4 := mPa_frX hP fB w1 x3 x4
          rw [xv]
          refine ⟨fun q0 => absurd q0 (by decide), fun _ => mU_mono (s_joinsX hz hP4 (by omega) (by omega) (by rw [x9]; exact a3) (v := v) (w := r.2.2) (fun x => ?_) (fun x => ?_)) fun I6 ⟨f6, y3, y4, y9, yl, yrw⟩ => ?_⟩
          · rw [x9] at x
            have f28 : f 28 = 0 := Classical.byContradiction fun c0 => b4 (by rw [u28]; exact c0) x
            rw [w27, w1, show I 209 27 + 2 - 2 = I 209 27 by omega]
            refine ⟨fun k k0 k1 => ?_, hvo f28⟩
            rw [xl _ (by omega), e33]
            exact hrow f28 k k0 k1
          · rw [x9] at x
            rw [w27, w1, show I 209 27 + 2 - 1 = I 209 27 + 1 by omega]
            exact ⟨xr x, b5 x⟩
          · rw [w27, show I 209 27 + 2 - 2 = I 209 27 by omega] at yl yrw
            rw [w1, x9] at y9 yrw
            obtain ⟨j1, j2, j3, j4, j5⟩ := pJoin_kp hD' (f := r.2.1) (v := v) (w := r.2.2) a3
            generalize pJoin (I 209 1) r.2.1 v r.2.2 = y at y9 yrw j1 j2 j3 j4 j5 hp
            have o1 : rOk2 y.1 := by
              obtain ⟨⟨p1, p2, p3, p4, p5, p6⟩, p7⟩ := b1
              refine ⟨⟨?_, ?_, ?_, ?_, ?_, ?_⟩, ?_⟩ <;> simp only [j1 15 (by decide) (by decide), j1 16 (by decide) (by decide), j1 17 (by decide) (by decide), j1 18 (by decide) (by decide), j1 19 (by decide) (by decide)] <;> assumption
            have e16 := j1 16 (by decide) (by decide)
            refine ih y.1 y.2 I6 (by omega) (fr_trans fB f6) y3 y4 y9 ⟨o1, by rw [j1 20 (by decide) (by decide)]; exact a4.1 yr, j3⟩ j5 (fun s hs c1 c2 c3 => by rw [j1 s c2 c1, a2 s hs c1 c2 c3, t3 s (by omega), hfs s hs c1 c2 c3]) (by omega) (by rw [j1 29 (by decide) (by decide), a5, u29]) (fun k hk => by rw [yl k hk, xl k (by omega), e33, hlo k hk]) yrw hp
        · rw [if_neg yr] at xv hp
          rw [xv]
          exact ⟨fun _ => fail I4 _ _ fB x3 x4 x9 hp, fun q0 => absurd rfl q0⟩
  refine mr_productOf hz (mI_mono (s_powerOfX hz hS ⟨hP, hi, hl, hb0, hn0, by omega⟩) fun v2 I1 ⟨f1, o3, o4, g9, ev, hr⟩ => ?_)
  have hq : pProd (I 209 1) (I 219) (pLev (I 209 1) (I 219) l) (I 209) = if (pPower (I 209 1) (I 219) (pLev (I 209 1) (I 219) l) (I 209)).1 = true then pProdF (I 209 1) (I 219) (pLev (I 209 1) (I 219) l) 401 (pPower (I 209 1) (I 219) (pLev (I 209 1) (I 219) l) (I 209)).2.1 (pPower (I 209 1) (I 219) (pLev (I 209 1) (I 219) l) (I 209)).2.2 else (false, (pPower (I 209 1) (I 219) (pLev (I 209 1) (I 219) l) (I 209)).2) := rfl
  generalize pPower (I 209 1) (I 219) (pLev (I 209 1) (I 219) l) (I 209) = r at kp g9 ev hr hq
  obtain ⟨a1, a2, a3, a4, a5, a6⟩ := kp
  by_cases yr : r.1 = true
  · obtain ⟨b1, b2, b3, b4, b5⟩ := a6 yr
    obtain ⟨rl, rr⟩ := hr yr
    rw [if_pos yr] at ev hq
    rw [ev]
    obtain ⟨p1, p2, p3, p4, p5, p6⟩ := id b1.1
    exact key 401 r.2.1 r.2.2 I1 (by omega) f1 o3 o4 g9 ⟨b1, a4.1 yr, a3⟩ b5 a2 b3 a5 rl rr hq
  · rw [if_neg yr] at ev hq
    rw [ev]
    exact fail I1 _ _ f1 o3 o4 g9 hq
theorem s_sum1X (hz : mz z) (hS : 1 ≤ l → ∀ (d : Nat) (I : cm_I), pAtX I l 0 → mI (d + 4 * l + 5) m_Model_sum [vR 12 209] z I (pPostX I (pLev (I 209 1) (I 219) l (I 209)))) (hA : pAtX I (l + 1) 0) : mI (d + 4 * l + 9) m_Model_sum [vR 12 209] z I (pPostX I (pSum (I 209 1) (I 219) (pLev (I 209 1) (I 219) l) (I 209))) := by
  obtain ⟨hP, hi, hl, hb0, hn0, hn1⟩ := id hA
  have hD' : I 209 1 = 2 ∨ I 209 1 = 3 := hP.1
  have kL := pLev_kp (D := I 209 1) (B := I 219) hD' l
  generalize hPo : qI z (pPostX I (pSum (I 209 1) (I 219) (pLev (I 209 1) (I 219) l) (I 209))) = Po
  have ret : ∀ (v : Int) (I1 : cm_I), pPostX I (pSum (I 209 1) (I 219) (pLev (I 209 1) (I 219) l) (I 209)) v I1 → Po (some (vI v)) (I1, z) := fun v I1 h => by rw [← hPo]; exact qI_mk h
  show cm_call _ _ _ _ (qI z _)
  rw [hPo]
  have fail : ∀ (I0 : cm_I) (f w : Int → Int) (z1 z3 : Option cm_V), fr [209, 214, 216, 223] I I0 → okR (I0 223) → o46 I0 → I0 209 = f → pSum (I 209 1) (I 219) (pLev (I 209 1) (I 219) l) (I 209) = (false, f, w) → cw (d + 4 * l + 8) cd_Model_sum Po 42 [some (vR 12 209), z1, some (vI 0), z3] [] (I0, z) := by
    intro I0 f w z1 z3 hf o3 o4 g9 e
    refine mr_sum_42 hz ⟨fun _ => ⟨Or.inl rfl, ret 0 I0 ?_⟩, fun q => absurd rfl q⟩
    rw [e]
    exact ⟨hf, o3, o4, g9, rfl, fun x => ff x⟩
  -- behind a product
  have add : ∀ (I2 I4 : cm_I) (v w : Int → Int) (s : Int) (f : Int → Int), (s = 1 ∨ s = -1) → fr [209, 214, 216, 223] I I2 → okR (I2 223) → o46 I2 → I2 209 = f → f 27 = I 209 27 + 2 → (∀ k, k < 1140 * I 209 27 → I2 223 k = I 223 k) → (f 28 = 0 → isRow (I2 223) (1140 * I 209 27) v) → (f 28 = 0 → isRow (I2 223) (1140 * (I 209 27 + 1)) w) → (fr [209, 223] I2 I4 ∧ I4 209 = dn27 (I2 209) ∧ okR (I4 223) ∧ (∀ k, k < 1140 * (I2 209 27 - 2) → I4 223 k = I2 223 k) ∧ (∀ k, 0 ≤ k → k < 1140 → I4 223 (1140 * (I2 209 27 - 2) + k) = (I2 223 (1140 * (I2 209 27 - 2) + k) + s * I2 223 (1140 * (I2 209 27 - 1) + k)) % 2521)) → fr [209, 214, 216, 223] I I4 ∧ okR (I4 223) ∧ o46 I4 ∧ I4 209 = dn27 f ∧ (∀ k, k < 1140 * I 209 27 → I4 223 k = I 223 k) ∧ (f 28 = 0 → isRow (I4 223) (1140 * I 209 27) (vAdd s v w)) := by
    intro I2 I4 v w s f hs hf o3 o4 g9 h27 hlo hv hw ⟨f4, g4, o43, l4, r4⟩
    rw [g9, h27, show I 209 27 + 2 - 2 = I 209 27 by omega, show I 209 27 + 2 - 1 = I 209 27 + 1 by omega] at r4
    rw [g9, h27, show I 209 27 + 2 - 2 = I 209 27 by omega] at l4
    refine ⟨fr_trans hf (fr_mono f4 (by decide)), o43, by unfold o46; rw [f4 214 (by decide), f4 216 (by decide)]; exact o4, by rw [g4, g9], fun k hk => by rw [l4 k hk, hlo k hk], fun x k k0 k1 => ?_⟩
    rw [r4 k k0 k1, hv x k k0 k1, hw x k k0 k1]
    unfold vAdd
    rw [if_pos ⟨k0, k1⟩]
  have key : ∀ (n : Nat) (f v : Int → Int) (I0 : cm_I) (z1 z3 : Option cm_V), 401 ≤ n + f 16 → fr [209, 214, 216, 223] I I0 → okR (I0 223) → o46 I0 → I0 209 = f → pIn f → (f 28 = 0 → vOk (I 209 1) v) → (∀ s, (s < 16 ∨ 20 < s) → s ≠ 27 → s ≠ 28 → s ≠ 29 → f s = I 209 s) → f 27 = I 209 27 + 1 → f 29 = I 209 29 → (∀ k, k < 1140 * I 209 27 → I0 223 k = I 223 k) → (f 28 = 0 → isRow (I0 223) (1140 * I 209 27) v) → pSum (I 209 1) (I 219) (pLev (I 209 1) (I 219) l) (I 209) = pSumF (I 209 1) (I 219) (pLev (I 209 1) (I 219) l) n f v → cw (d + 4 * l + 8) cd_Model_sum Po 42 [some (vR 12 209), z1, some (vI 1), z3] [] (I0, z) := by
    intro n
    induction n with
    | zero =>
      intro f v I0 z1 z3 hn hf o3 o4 g9 hin
      obtain ⟨⟨⟨q1, q2, q3, q4, q5, q6⟩, _⟩, _, _⟩ := hin
      omega
    | succ n ih =>
      intro f v I0 z1 z3 hn hf o3 o4 g9 hin hvo hfs h27 h29 hlo hrow hp
      obtain ⟨h1, h2, h3⟩ := id hin
      have e19 : I0 219 = I 219 := hf 219 (by decide)
      rw [pSumF] at hp
      -- one more
      have k78 : ∀ (s0 : Int) (z2 z3 : Option cm_V), f 18 = 2 ∧ (f 19 = 43 ∨ f 19 = 45) → (s0 = if f 19 = 43 then 1 else -1) → cw (d + 4 * l + 8) cd_Model_sum Po 78 [some (vR 12 209), z1, z2, z3] [vI s0] (I0, z) := by
        intro s0 z2 z3 c hs0
        have hs1 : s0 = 1 ∨ s0 = -1 := by rw [hs0]; split <;> omega
        rw [if_pos c, ← hs0] at hp
        have r1 := h1.2 (by omega)
        refine mr_sum_78 hz (go_frX hz (by rw [g9]; exact h1.1) fun I3 f3 g3 => ?_)
        rw [g9, e19] at g3
        obtain ⟨t1, t2, t3⟩ := tok_ok2 (I 219) h1.1
        have u27 : tok f (I 219) 27 = I 209 27 + 1 := by rw [t3 27 (by omega), h27]
        have u29 : tok f (I 219) 29 = I 209 29 := by rw [t3 29 (by omega), h29]
        have u28 := t3 28 (by omega)
        have u1 : tok f (I 219) 1 = I 209 1 := by rw [t3 1 (by omega), hfs 1 (by omega) (by decide) (by decide) (by decide)]
        have fA : fr [209, 214, 216, 223] I I3 := fr_trans hf (fr_mono f3 (by decide))
        have e33 : I3 223 = I0 223 := f3 223 (by decide)
        have e319 : I3 219 = I 219 := fA 219 (by decide)
        have hin3 : pIn (tok f (I 219)) := ⟨t1, by rw [t3 20 (by omega)]; exact h2, by rw [u28]; exact h3⟩
        have hA3 : pAtX I3 (l + 1) 1 := ⟨mPa_frX hP fA (by rw [g3, u1]) (by rw [e33]; exact o3) (by unfold o46; rw [f3 214 (by decide), f3 216 (by decide)]; exact o4), by rw [g3]; exact hin3, by rw [g3, u29]; exact hl, by rw [g3, u29]; exact hb0, by rw [g3, u27]; omega, by rw [g3, u27, u29]; omega⟩
        have kq := pProd_kp (B := I 219) hD' kL hin3
        refine mI_mono (s_productOfX hz hS hA3) fun v5 I4 ⟨f4, x3, x4, x9, xv, xr⟩ => ?_
        rw [g3, u1, e319] at x9 xv xr
        generalize pProd (I 209 1) (I 219) (pLev (I 209 1) (I 219) l) (tok f (I 219)) = r at kq x9 xv xr hp
        obtain ⟨a1, a2, a3, a4, a5, a6⟩ := kq
        have fB : fr [209, 214, 216, 223] I I4 := fr_trans fA f4
        by_cases yr : r.1 = true
        · rw [if_pos yr] at xv hp
          obtain ⟨b1, b2', b3, b4, b5⟩ := a6 yr
          obtain ⟨xl, xr⟩ := xr yr
          rw [u27] at xl xr b3
          rw [xv]
          have f28 : r.2.1 28 = 0 → f 28 = 0 := fun x => Classical.byContradiction fun c0 => b4 (by rw [u28]; exact c0) x
          refine ⟨fun q0 => absurd q0 (by decide), fun _ => mU_mono (s_adds hz hs1 (by rw [x9]; omega) (by rw [x9]; omega) x3) fun I6 hh => ?_⟩
          obtain ⟨y1, y3, y4, y9, yl, yw⟩ := add I4 I6 v r.2.2 s0 r.2.1 hs1 fB x3 x4 x9 (by omega) (fun k hk => by rw [xl k (by omega), e33, hlo k hk]) (fun x k k0 k1 => by rw [xl _ (by omega), e33]; exact hrow (f28 x) k k0 k1) xr hh
          exact ih (dn27 r.2.1) _ I6 _ _ (by show 401 ≤ n + r.2.1 16; omega) y1 y3 y4 y9 ⟨b1, a4.1 yr, a3⟩ (fun x => vOk_add hD' _ (hvo (f28 x)) (b5 x)) (fun s hs c1 c2 c3 => by
            show st1 r.2.1 27 _ s = _
            unfold st1
            rw [if_neg c1, a2 s hs c1 c2 c3, t3 s (by omega), hfs s hs c1 c2 c3]) (by show r.2.1 27 - 1 = _; omega) (by show r.2.1 29 = _; rw [a5, u29]) yl yw hp
        · rw [if_neg yr] at xv hp
          rw [xv]
          exact ⟨fun _ => fail I4 _ _ _ _ fB x3 x4 x9 hp, fun q0 => absurd rfl q0⟩
      have k64 : ∀ (z2 z3 : Option cm_V), f 18 = 2 ∧ (f 19 = 43 ∨ f 19 = 45) → cw (d + 4 * l + 8) cd_Model_sum Po 64 [some (vR 12 209), z1, z2, z3] [] (I0, z) := by
        intro z2 z3 c
        refine mr_sum_64 hz (mI_mono (s_is hz 43) fun v2 I1 ⟨e1, b2, i2⟩ => ?_)
        rw [e1]
        unfold rIs at i2
        rw [g9] at i2
        refine ⟨fun q => k78 (-1) _ _ c ?_, fun q => k78 1 _ _ c ?_⟩
        · rw [if_neg (fun x => by have := i2.mpr ⟨c.1, x⟩; omega)]
        · rw [if_pos (i2.mp (by omega)).2]
      refine mr_sum_42 hz ⟨fun q => absurd q (by decide), fun _ => mI_mono (s_is hz 43) fun v2 I1 ⟨e1, b2, i2⟩ => ?_⟩
      rw [e1]
      unfold rIs at i2
      rw [g9] at i2
      refine ⟨fun q => k64 _ _ ⟨(i2.mp (by omega)).1, Or.inl (i2.mp (by omega)).2⟩, fun q => mI_mono (s_is hz 45) fun v4 I3 ⟨e3, b4, i4⟩ => ?_⟩
      rw [e3]
      unfold rIs at i4
      rw [g9] at i4
      refine ⟨fun q4 => ⟨Or.inr rfl, ret 1 I0 ?_⟩, fun q4 => k64 _ _ ⟨(i4.mp (by omega)).1, Or.inr (i4.mp (by omega)).2⟩⟩
      rw [if_neg] at hp
      · rw [hp]
        exact ⟨hf, o3, o4, g9, rfl, fun _ => ⟨hlo, hrow⟩⟩
      · intro x
        rcases x.2 with y | y
        · have := i2.mpr ⟨x.1, y⟩; omega
        · have := i4.mpr ⟨x.1, y⟩; omega
  have k15 : ∀ (x1 : Int) (I1 : cm_I) (z2 z3 : Option cm_V), (x1 = if I 209 18 = 2 ∧ I 209 19 = 45 then 1 else 0) → fr [209] I I1 → I1 209 = pSum1 (I 219) (I 209) → cw (d + 4 * l + 8) cd_Model_sum Po 15 [some (vR 12 209), some (vI x1), z2, z3] [] (I1, z) := by
    intro x1 I1 z2 z3 hx f1 g1
    obtain ⟨s1, s2, s3⟩ := pSum1_ok (B := I 219) hi
    have u27 := s3 27 (by omega)
    have u29 := s3 29 (by omega)
    have u1 := s3 1 (by omega)
    have u28 := s3 28 (by omega)
    have o3 := hP.2.2.1
    have o4 := hP.2.2.2
    have e13 : I1 223 = I 223 := f1 223 (by decide)
    refine mr_sum_15 hz (mU_mono (s_pushes hz (by rw [g1, u27]; exact hn0) (by rw [g1, u27]; omega)) fun I2 ⟨f2, g2, w2⟩ => ?_)
    have g2' : I2 209 = pSum0 (I 219) (I 209) := by rw [g2, g1]; rfl
    rw [g1, u27, e13] at w2
    have fA : fr [209, 214, 216, 223] I I2 := fr_trans (fr_mono f1 (by decide)) (fr_mono f2 (by decide))
    have v27 : pSum0 (I 219) (I 209) 27 = I 209 27 + 1 := by show pSum1 (I 219) (I 209) 27 + 1 = _; rw [u27]
    have v1 : pSum0 (I 219) (I 209) 1 = I 209 1 := u1
    have v29 : pSum0 (I 219) (I 209) 29 = I 209 29 := u29
    have v28 : pSum0 (I 219) (I 209) 28 = I 209 28 := u28
    have o23 : okR (I2 223) := by rw [w2]; exact okR_st (okR_fill o3 _ _) (by omega) (by omega)
    have o24 : o46 I2 := by unfold o46; rw [f2 214 (by decide), f1 214 (by decide), f2 216 (by decide), f1 216 (by decide)]; exact o4
    have hin2 : pIn (pSum0 (I 219) (I 209)) := ⟨s1.1, s1.2.1, s1.2.2⟩
    have hA2 : pAtX I2 (l + 1) 1 := ⟨mPa_frX hP fA (by rw [g2', v1]) o23 o24, by rw [g2']; exact hin2, by rw [g2', v29]; exact hl, by rw [g2', v29]; exact hb0, by rw [g2', v27]; omega, by rw [g2', v27, v29]; omega⟩
    have e219 : I2 219 = I 219 := fA 219 (by decide)
    have kq := pProd_kp (B := I 219) hD' kL hin2
    have hq : pSum (I 209 1) (I 219) (pLev (I 209 1) (I 219) l) (I 209) = if (pProd (I 209 1) (I 219) (pLev (I 209 1) (I 219) l) (pSum0 (I 219) (I 209))).1 = true then pSumF (I 209 1) (I 219) (pLev (I 209 1) (I 219) l) 401 (dn27 (pProd (I 209 1) (I 219) (pLev (I 209 1) (I 219) l) (pSum0 (I 219) (I 209))).2.1) (vAdd (if I 209 18 = 2 ∧ I 209 19 = 45 then -1 else 1) (vK 0) (pProd (I 209 1) (I 219) (pLev (I 209 1) (I 219) l) (pSum0 (I 219) (I 209))).2.2) else (false, (pProd (I 209 1) (I 219) (pLev (I 209 1) (I 219) l) (pSum0 (I 219) (I 209))).2.1, vK 0) := rfl
    refine mI_mono (s_productOfX hz hS hA2) fun v3 I3 ⟨f3, x3, x4, x9, xv, xr⟩ => ?_
    rw [g2', v1, e219] at x9 xv xr
    generalize pProd (I 209 1) (I 219) (pLev (I 209 1) (I 219) l) (pSum0 (I 219) (I 209)) = r at kq x9 xv xr hq
    obtain ⟨a1, a2, a3, a4, a5, a6⟩ := kq
    have fB : fr [209, 214, 216, 223] I I3 := fr_trans fA f3
    by_cases yr : r.1 = true
    · rw [if_pos yr] at xv hq
      obtain ⟨b1, b2', b3, b4, b5⟩ := a6 yr
      obtain ⟨xl, xr⟩ := xr yr
      rw [v27] at xl xr b3
      rw [xv]
      have go2 : ∀ (s : Int) (I6 : cm_I), (s = 1 ∨ s = -1) → (s = if I 209 18 = 2 ∧ I 209 19 = 45 then -1 else 1) → (fr [209, 223] I3 I6 ∧ I6 209 = dn27 (I3 209) ∧ okR (I6 223) ∧ (∀ k, k < 1140 * (I3 209 27 - 2) → I6 223 k = I3 223 k) ∧ (∀ k, 0 ≤ k → k < 1140 → I6 223 (1140 * (I3 209 27 - 2) + k) = (I3 223 (1140 * (I3 209 27 - 2) + k) + s * I3 223 (1140 * (I3 209 27 - 1) + k)) % 2521)) → cw (d + 4 * l + 8) cd_Model_sum Po 42 [some (vR 12 209), some (vI x1), some (vI 1), z3] [] (I6, z) := by
        intro s I6 hs hs2 hh
        obtain ⟨y1, y3, y4, y9, yl, yw⟩ := add I3 I6 (vK 0) r.2.2 s r.2.1 hs fB x3 x4 x9 (by omega) (fun k hk => by
          rw [xl k (by omega), w2]
          unfold st1 fillF
          rw [if_neg (by omega), if_neg (by omega)]) (fun x k k0 k1 => by
          rw [xl _ (by omega), w2]
          unfold st1 fillF vK
          by_cases ek : k = 0
          · rw [if_pos (by omega), if_pos ek]; rfl
          · rw [if_neg (by omega), if_pos (by omega), if_neg ek]) xr hh
        rw [← hs2] at hq
        obtain ⟨p1, p2, p3, p4, p5, p6⟩ := id b1.1
        exact key 401 (dn27 r.2.1) _ I6 _ _ (by show 401 ≤ _ + r.2.1 16; omega) y1 y3 y4 y9 ⟨b1, a4.1 yr, a3⟩ (fun x => vOk_add hD' _ (vOk_K hD' (by omega) (by omega)) (b5 x)) (fun s hs c1 c2 c3 => by
          show st1 r.2.1 27 _ s = _
          unfold st1
          rw [if_neg c1, a2 s hs c1 c2 c3]
          unfold pSum0 st1
          rw [if_neg c1, s3 s (by omega)]) (by show r.2.1 27 - 1 = _; omega) (by show r.2.1 29 = _; rw [a5, v29]) yl yw hq
      refine ⟨fun q0 => absurd q0 (by decide), fun _ => ⟨fun q1 => mU_mono (s_adds hz (Or.inl rfl) (by rw [x9]; omega) (by rw [x9]; omega) x3) fun I6 hh => go2 1 I6 (Or.inl rfl) ?_ hh, fun q1 => mU_mono (s_adds hz (Or.inr rfl) (by rw [x9]; omega) (by rw [x9]; omega) x3) fun I6 hh => go2 (-1) I6 (Or.inr rfl) ?_ hh⟩⟩
      · rw [if_neg]
        intro x
        rw [if_pos x] at hx
        omega
      · rw [if_pos]
        apply Classical.byContradiction
        intro x
        rw [if_neg x] at hx
        exact q1 hx
    · rw [if_neg yr] at xv hq
      rw [xv]
      exact ⟨fun _ => fail I3 _ _ _ _ fB x3 x4 x9 hq, fun q0 => absurd rfl q0⟩
  refine mr_sum hz (mI_mono (s_is hz 45) fun v2 I1 ⟨e1, b2, i2⟩ => ?_)
  rw [e1]
  unfold rIs at i2
  refine ⟨fun q => ?_, fun q => go_frX hz hi.1.1 fun I3 f3 g3 => ?_⟩
  · have c : ¬ (I 209 18 = 2 ∧ I 209 19 = 45) := fun x => by have := i2.mpr x; omega
    exact k15 v2 I _ _ (by rw [if_neg c]; exact q) (fr_refl _ _) (by unfold pSum1; rw [if_neg c])
  · have c : I 209 18 = 2 ∧ I 209 19 = 45 := i2.mp (by omega)
    exact k15 v2 I3 _ _ (by rw [if_pos c]; omega) f3 (by unfold pSum1; rw [if_pos c]; exact g3)
end MPP
theorem s_sumX {z : cm_Z} (hz : mz z) : ∀ (l : Nat), 1 ≤ l → ∀ (d : Nat) (I : cm_I), pAtX I l 0 → mI (d + 4 * l + 5) m_Model_sum [vR 12 209] z I (pPostX I (pLev (I 209 1) (I 219) l (I 209))) := by
  intro l
  induction l with
  | zero => intro h; omega
  | succ l ih => intro _ d I hA; exact s_sum1X hz ih hA
