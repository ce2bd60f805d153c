def pPostX (I : cm_I) (r : pQ) : Int → cm_I → Prop := fun v I1 => fr [209, 214, 216, 223] I I1 ∧ okR (I1 223) ∧ o46 I1 ∧ I1 209 = r.2.1 ∧ v = (if r.1 = true then 1 else 0) ∧ (r.1 = true → (∀ k, k < 1140 * I 209 27 → I1 223 k = I 223 k) ∧ (r.2.1 28 = 0 → isRow (I1 223) (1140 * I 209 27) r.2.2))
/-- where it is begun: so many brackets are open, so much may stand on the stack -/
def pAtX (I : cm_I) (l : Nat) (m : Int) : Prop := mPaX I ∧ pIn (I 209) ∧ I 209 29 + l = 9 ∧ 0 ≤ I 209 29 ∧ 0 ≤ I 209 27 ∧ I 209 27 ≤ 2 * I 209 29 + m
section MPO
variable {d l : Nat} {z : cm_Z} {I : cm_I}
theorem go_frX (hz : mz z) (h : rOk (I 209)) {P : cm_I → Prop} (k : ∀ I1, fr [209] I I1 → I1 209 = tok (I 209) (I 219) → P I1) : mU (d + 2) m_Model_go [vR 12 209] z I P := by
  obtain ⟨r1, r2, r3, r4, r5, r6⟩ := h
  refine mU_mono (s_go hz (by omega) (by omega) (by omega)) fun I1 e => ?_
  obtain ⟨f1, g1⟩ := fr_eq_iw e
  exact k I1 f1 g1
theorem bad_postX {J : cm_I} (hz : mz z) {f : Int → Int} {v : Int → Int} {k : Int} (k0 : 0 ≤ k) (k1 : k ≤ 7) (hf : fr [209, 214, 216, 223] I J) (o3 : okR (J 223)) (o4 : o46 J) (h9 : J 209 = f) (h : rOk f) {r : pQ} (e : r = (false, rBad f k, v)) : mI (d + 1) m_Model_bad [vR 12 209, vI k] z J fun u I1 => (u = 0 ∨ u = 1) ∧ qI z (pPostX I r) (some (vI u)) (I1, z) := by
  refine mI_mono (s_bad hz (by rw [h9]; exact h) k0 k1) fun u I1 ⟨e1, ev⟩ => ⟨Or.inl ev, qI_mk ?_⟩
  obtain ⟨f1, g1⟩ := fr_eq_iw e1
  rw [e]
  exact ⟨fr_trans hf (fr_mono f1 (by decide)), by rw [f1 223 (by decide)]; exact o3, by unfold o46; rw [f1 214 (by decide), f1 216 (by decide)]; exact o4, by rw [g1, h9], by rw [ev]; rfl, fun q => ff q⟩
theorem s_partX (hz : mz z) (hS : 1 ≤ l → ∀ (d : Nat) (I : cm_I), pAtX I l 0 → mI (d + 4 * l + 5) m_Model_sum [vR 12 209] z I (pPostX I (pLev (I 209 1) (I 219) l (I 209)))) (hA : pAtX I (l + 1) 2) : mI (d + 4 * l + 6) m_Model_part [vR 12 209] z I (pPostX I (pPart (I 209 1) (I 219) (pLev (I 209 1) (I 219) l) (I 209))) := by
  obtain ⟨hP, hi, hl, hb0, hn0, hn1⟩ := id hA
  obtain ⟨hD, hm, o3, o4⟩ := id hP
  have hD' : I 209 1 = 2 ∨ I 209 1 = 3 := hD
  obtain ⟨h1, h2, h3⟩ := id hi
  obtain ⟨q1, q2, q3, q4, q5, q6⟩ := id h1.1
  -- behind a push
  have ps : ∀ (I3 I4 : cm_I) (v : Int → Int), fr [209, 223] I I3 → I3 209 = st1 (I 209) 27 (I 209 27 + 1) → okR (I3 223) → (∀ k, k < 1140 * I 209 27 → I3 223 k = I 223 k) → isRow (I3 223) (1140 * I 209 27) v → fr [209] I3 I4 → I4 209 = tok (I3 209) (I3 219) → pPart (I 209 1) (I 219) (pLev (I 209 1) (I 219) l) (I 209) = (true, tok (st1 (I 209) 27 (I 209 27 + 1)) (I 219), v) → qI z (pPostX I (pPart (I 209 1) (I 219) (pLev (I 209 1) (I 219) l) (I 209))) (some (vI 1)) (I4, z) := by
    intro I3 I4 v f3 g3 o33 lo hr f4 g4 e
    rw [e]
    have e3 : I4 223 = I3 223 := f4 223 (by decide)
    refine qI_mk ⟨fr_trans (fr_mono f3 (by decide)) (fr_mono f4 (by decide)), by rw [e3]; exact o33, by unfold o46; rw [f4 214 (by decide), f3 214 (by decide), f4 216 (by decide), f3 216 (by decide)]; exact o4, by rw [g4, g3, f3 219 (by decide)], rfl, fun _ => ⟨by rw [e3]; exact lo, fun _ => by rw [e3]; exact hr⟩⟩
  have k60 : ∀ (s0 : Int) (z1 z2 : Option cm_V), I 209 18 ≠ 1 → (s0 = if I 209 18 = 2 then I 209 19 - 120 else -1) → cw (d + 4 * l + 5) cd_Model_part (qI z (pPostX I (pPart (I 209 1) (I 219) (pLev (I 209 1) (I 219) l) (I 209)))) 60 [some (vR 12 209), z1, z2] [vI s0] (I, z) := by
    intro s0 z1 z2 c1 hs0
    refine mr_part_60 hz ⟨⟨by omega, by omega⟩, mI_mono (s_within hz s0 0 (I 209 1 - 1)) fun v3 I2 ⟨e2, ev⟩ => ?_⟩
    rw [e2]
    have hiff : (I 209 18 = 2 ∧ 120 ≤ I 209 19 ∧ I 209 19 - 120 ≤ I 209 1 - 1) ↔ (0 ≤ s0 ∧ s0 ≤ I 209 1 - 1) := by
      rw [hs0]
      by_cases c : I 209 18 = 2
      · rw [if_pos c]; omega
      · rw [if_neg c]; omega
    by_cases cv : 0 ≤ s0 ∧ s0 ≤ I 209 1 - 1
    · rw [if_pos cv] at ev
      have c2 := hiff.mpr cv
      have es : s0 = I 209 19 - 120 := by rw [hs0, if_pos c2.1]
      have ee : pPart (I 209 1) (I 219) (pLev (I 209 1) (I 219) l) (I 209) = (true, tok (st1 (I 209) 27 (I 209 27 + 1)) (I 219), vVar (I 209 1) s0) := by
        unfold pPart
        rw [if_neg c1, if_pos c2, es]
      refine ⟨fun q => by omega, fun _ => mU_mono (s_pushes hz hn0 (by omega)) fun I3 ⟨f3, g3, w3⟩ => ?_⟩
      have e27 : I3 209 27 - 1 = I 209 27 := by rw [g3]; show I 209 27 + 1 - 1 = _; omega
      have e1 : I3 209 1 = I 209 1 := by rw [g3]; rfl
      rw [e27]
      obtain ⟨b0, b1, b2⟩ := vIx_bd hD' cv.1 cv.2
      have hsz := mSz_bd (I 209 1)
      have l3 : mLen 223 = 34200 := rfl
      -- the variable is put
      have put : ∀ (I5 I6 : cm_I) (v2 : Int), v2 = vIx (I 209 1) s0 → I5 = iu I3 223 (1140 * I 209 27 + v2) 1 → fr [209] I5 I6 → I6 209 = tok (I5 209) (I5 219) → qI z (pPostX I (pPart (I 209 1) (I 219) (pLev (I 209 1) (I 219) l) (I 209))) (some (vI 1)) (I6, z) := by
        intro I5 I6 v2 hv2 e5 f6 g6
        obtain ⟨f5, g5⟩ := fr_eq_iu e5
        have g53 : I5 223 = st1 (I3 223) (1140 * I 209 27 + v2) 1 := g5
        refine ps I5 I6 (vVar (I 209 1) s0) (fr_trans f3 (fr_mono f5 (by decide))) (by rw [f5 209 (by decide), g3]) ?_ (fun k hk => ?_) (fun k k0 k1 => ?_) f6 g6 ee
        · rw [g53, w3]
          exact okR_st (okR_st (okR_fill o3 _ _) (by omega) (by omega)) (by omega) (by omega)
        · rw [g53, w3]
          unfold st1 fillF
          rw [if_neg (by omega), if_neg (by omega), if_neg (by omega)]
        · rw [g53, w3]
          unfold st1 fillF vVar
          by_cases ek : k = vIx (I 209 1) s0
          · rw [if_pos (by omega), if_pos ek]
          · rw [if_neg (by omega), if_neg ek]
            by_cases ek0 : k = 0
            · rw [if_pos (by omega)]; rfl
            · rw [if_neg (by omega), if_pos (by omega)]
      have k114 : ∀ (a b : Int), (a = if s0 = 0 then 1 else 0) → (b = if s0 = 1 then 1 else 0) → cw (d + 4 * l + 5) cd_Model_part (qI z (pPostX I (pPart (I 209 1) (I 219) (pLev (I 209 1) (I 219) l) (I 209)))) 114 [some (vR 12 209), some (vI s0), z2] [vI b, vI a, vR 12 209, vI (1140 * I 209 27), vR 20 223] (I3, z) := by
        intro a b ha hb
        have ab : 0 ≤ a ∧ 0 ≤ b ∧ a + b ≤ 2 := by rw [ha, hb]; split <;> split <;> omega
        have ro : ∀ v2 I5, I5 = iu I3 223 (1140 * I 209 27 + v2) 1 → rOk (I5 209) := fun v2 I5 e5 => by
          obtain ⟨f5, g5⟩ := fr_eq_iu e5
          rw [f5 209 (by decide), g3]
          exact h1.1
        refine mr_part_114 hz mA223 ⟨fun q => mI_mono (s_at hz ab.1 ab.2.1 (by omega) (by omega)) fun v2 I1 ⟨e1', ev2⟩ => ?_, fun q => mI_mono (s_at hz ab.1 ab.2.1 (by omega) (by omega)) fun v2 I1 ⟨e1', ev2⟩ => ?_⟩
        · rw [e1']
          have hv2 : v2 = vIx (I 209 1) s0 := by
            rw [ev2, e1, ha, hb]
            unfold vIx
            rw [if_neg q]
          refine ⟨⟨by omega, by omega⟩, ⟨by omega, by omega⟩, fun I5 e5 => go_frX hz (ro v2 I5 e5) fun I6 f6 g6 => put I5 I6 v2 hv2 e5 f6 g6⟩
        · rw [e1']
          have hv2 : v2 = vIx (I 209 1) s0 := by
            rw [ev2, e1, ha, hb]
            unfold vIx
            rw [if_pos q]
          refine ⟨⟨by omega, by omega⟩, ⟨by omega, by omega⟩, fun I5 e5 => go_frX hz (ro v2 I5 e5) fun I6 f6 g6 => put I5 I6 v2 hv2 e5 f6 g6⟩
      have k104 : ∀ (a : Int), (a = if s0 = 0 then 1 else 0) → cw (d + 4 * l + 5) cd_Model_part (qI z (pPostX I (pPart (I 209 1) (I 219) (pLev (I 209 1) (I 219) l) (I 209)))) 104 [some (vR 12 209), some (vI s0), z2] [vI a, vR 12 209, vI (1140 * I 209 27), vR 20 223] (I3, z) := by
        intro a ha
        exact mr_part_104 hz ⟨fun q => k114 a 0 ha (by rw [if_neg q]), fun q => k114 a 1 ha (by rw [if_pos q])⟩
      exact ⟨⟨by omega, by omega⟩, ⟨by omega, by omega⟩, fun q => k104 0 (by rw [if_neg q]), fun q => k104 1 (by rw [if_pos q])⟩
    · rw [if_neg cv] at ev
      have c2 : ¬ (I 209 18 = 2 ∧ 120 ≤ I 209 19 ∧ I 209 19 - 120 ≤ I 209 1 - 1) := fun x => cv (hiff.mp x)
      refine ⟨fun _ => mI_mono (s_is hz 40) fun v5 I4 ⟨e4, b5, i5⟩ => ?_, fun q => absurd ev q⟩
      rw [e4]
      refine ⟨fun q => ?_, fun q => ?_⟩
      · have c3 : I 209 18 = 2 ∧ I 209 19 = 40 := i5.mp (by omega)
        refine ⟨fun q8 => ⟨⟨by omega, by omega⟩, fun I7 e7 => ?_⟩, fun q8 => ?_⟩
        · have ee : pPart (I 209 1) (I 219) (pLev (I 209 1) (I 219) l) (I 209) = pClose (I 219) (pLev (I 209 1) (I 219) l (tok (st1 (I 209) 29 (I 209 29 + 1)) (I 219))) := by
            unfold pPart
            rw [if_neg c1, if_neg c2, if_pos c3, if_neg q8]
          obtain ⟨f7, g7⟩ := fr_eq_iu e7
          have g7' : I7 209 = st1 (I 209) 29 (I 209 29 + 1) := g7
          refine go_frX hz (by rw [g7']; exact h1.1) fun I8 f8 g8 => ?_
          rw [g7', f7 219 (by decide)] at g8
          obtain ⟨t1, t2, t3⟩ := tok_ok2 (I 219) (f := st1 (I 209) 29 (I 209 29 + 1)) h1.1
          have u29 : I8 209 29 = I 209 29 + 1 := by rw [g8, t3 29 (by omega)]; rfl
          have u27 : I8 209 27 = I 209 27 := by rw [g8, t3 27 (by omega)]; rfl
          have u1 : I8 209 1 = I 209 1 := by rw [g8, t3 1 (by omega)]; rfl
          have u19 : I8 219 = I 219 := (f8 219 (by decide)).trans (f7 219 (by decide))
          have f9 : fr [209] I I8 := fr_trans f7 f8
          have hA8 : pAtX I8 l 0 := ⟨mPa_frX hP (fr_mono f9 (by decide)) u1 (by rw [f9 223 (by decide)]; exact o3) (by unfold o46; rw [f9 214 (by decide), f9 216 (by decide)]; exact o4), by rw [g8]; exact ⟨t1, by rw [t3 20 (by omega)]; exact h2, by rw [t3 28 (by omega)]; exact h3⟩, by omega, by omega, by omega, by omega⟩
          have kp := pLev_kp (D := I 209 1) (B := I 219) hD' l (tok (st1 (I 209) 29 (I 209 29 + 1)) (I 219)) (by rw [← g8]; exact hA8.2.1)
          have sm := hS (by omega) d I8 hA8
          refine mI_mono sm fun v10 I9 ⟨f10, w3, w4, w9, wv, wr⟩ => ?_
          rw [u1, u19, g8] at w9 wv wr
          generalize hr : pLev (I 209 1) (I 219) l (tok (st1 (I 209) 29 (I 209 29 + 1)) (I 219)) = r at kp w9 wv wr ee
          obtain ⟨a1, a2, a3, a4, a5, a6⟩ := kp
          have a29 : r.2.1 29 = I 209 29 + 1 := by rw [a5, t3 29 (by omega)]; rfl
          have fA : fr [209, 214, 216, 223] I I9 := fr_trans (fr_mono f9 (by decide)) f10
          rw [w9]
          refine ⟨fun q10 => ⟨⟨by omega, by omega⟩, fun I12 e12 => qI_mk ?_⟩, fun q10 => ?_⟩
          · obtain ⟨f12, g12⟩ := fr_eq_iu e12
            have nr : ¬ r.1 = true := fun x => by rw [if_pos x] at wv; omega
            rw [ee]
            unfold pClose
            rw [if_neg nr]
            exact ⟨fr_trans fA (fr_mono f12 (by decide)), by rw [f12 223 (by decide)]; exact w3, by unfold o46; rw [f12 214 (by decide), f12 216 (by decide)]; exact w4, by rw [g12, w9]; rfl, rfl, fun q => ff q⟩
          · have yr : r.1 = true := Classical.byContradiction fun x => q10 (by rw [wv, if_neg x])
            obtain ⟨b1, b2, b3, b4, b5⟩ := a6 yr
            obtain ⟨wl, wr⟩ := wr yr
            rw [← g8, u27] at wl wr
            refine mI_mono (s_sign hz (by rw [w9]; exact a1) 41) fun v14 I13 hs => ?_
            have e919 : I9 219 = I 219 := fA 219 (by decide)
            rw [w9, e919] at hs
            unfold rIs at hs
            rw [ee]
            unfold pClose
            rw [if_pos yr]
            rcases hs with ⟨s1, s2, s3⟩ | ⟨s1, s2, s3⟩
            · obtain ⟨f13, g13⟩ := fr_eq_iw s3
              obtain ⟨x1, x2, x3⟩ := tok_ok2 (I 219) a1
              rw [if_pos s2]
              refine ⟨fun q => by omega, fun _ => ?_⟩
              rw [g13, x3 29 (by omega)]
              refine ⟨⟨by omega, by omega⟩, fun I18 e18 => qI_mk ?_⟩
              obtain ⟨f18, g18⟩ := fr_eq_iu e18
              have e183 : I18 223 = I9 223 := (f18 223 (by decide)).trans (f13 223 (by decide))
              refine ⟨fr_trans fA (fr_trans (fr_mono f13 (by decide)) (fr_mono f18 (by decide))), by rw [e183]; exact w3, by unfold o46; rw [f18 214 (by decide), f13 214 (by decide), f18 216 (by decide), f13 216 (by decide)]; exact w4, by rw [g18, g13]; rfl, rfl, fun _ => ⟨fun k hk => ?_, fun y => ?_⟩⟩
              · rw [e183, wl k hk, f9 223 (by decide)]
              · rw [e183]
                exact wr (by rw [← x3 28 (by omega)]; exact y)
            · obtain ⟨f13, g13⟩ := fr_eq_iw s3
              obtain ⟨x1, x2⟩ := rBad_ok 1 a1
              rw [if_neg s2]
              refine ⟨fun _ => ?_, fun q => absurd s1 q⟩
              rw [g13, x2 29 (by omega)]
              refine ⟨⟨by omega, by omega⟩, fun I16 e16 => qI_mk ?_⟩
              obtain ⟨f16, g16⟩ := fr_eq_iu e16
              exact ⟨fr_trans fA (fr_trans (fr_mono f13 (by decide)) (fr_mono f16 (by decide))), by rw [f16 223 (by decide), f13 223 (by decide)]; exact w3, by unfold o46; rw [f16 214 (by decide), f13 214 (by decide), f16 216 (by decide), f13 216 (by decide)]; exact w4, by rw [g16, g13]; rfl, rfl, fun q => ff q⟩
        · exact bad_postX hz (by omega) (by omega) (fr_refl _ _) o3 o4 rfl h1.1 (v := vK 1) (by unfold pPart; rw [if_neg c1, if_neg c2, if_pos c3, if_pos q8])
      · have c3 : ¬ (I 209 18 = 2 ∧ I 209 19 = 40) := fun x => by have := i5.mpr x; omega
        exact bad_postX hz (by omega) (by omega) (fr_refl _ _) o3 o4 rfl h1.1 (v := vK 1) (by unfold pPart; rw [if_neg c1, if_neg c2, if_neg c3])
  refine mr_part hz ⟨fun c1 => ⟨fun c2 => k60 (-1) _ _ c1 (by rw [if_neg c2]), fun c2 => ⟨⟨by omega, by omega⟩, k60 _ _ _ c1 (by rw [if_pos c2])⟩⟩, fun c1 => ⟨⟨by omega, by omega⟩, fun c2 => mU_mono (s_pushes hz hn0 (by omega)) fun I3 ⟨f3, g3, w3⟩ => go_frX hz (by rw [g3]; exact h1.1) fun I4 f4 g4 => ps I3 I4 (vK (I 209 19 % 2521)) f3 g3 ?_ (fun k hk => ?_) (fun k k0 k1 => ?_) f4 g4 ?_, fun c2 => bad_postX hz (by omega) (by omega) (fr_refl _ _) o3 o4 rfl h1.1 (v := vK 1) (by unfold pPart; rw [if_pos c1, if_neg (by omega)])⟩⟩
  · rw [w3]
    exact okR_st (okR_fill o3 _ _) (by omega) (by omega)
  · rw [w3]
    unfold st1 fillF
    rw [if_neg (by omega), if_neg (by omega)]
  · rw [w3]
    unfold st1 fillF vK
    by_cases ek : k = 0
    · rw [if_pos (by omega), if_pos ek]
    · rw [if_neg (by omega), if_pos (by omega), if_neg ek]
  · unfold pPart
    rw [if_pos c1, if_pos c2]
end MPO
