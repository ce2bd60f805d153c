/-! the call isSystem of the reference -/
def sel3 (a b c : Int) (i : Nat) : Int := if i = 0 then a else if i = 1 then b else c
def canBe (D : Int) (T : Nat → cMat) (nt : Nat) (v : Int → Int) : Prop := 1 ≤ mDeg D v 0 ∧ vOne1 D v ∧ isInv D T nt v
noncomputable def aSystem (D : Int) (T : Nat → cMat) (nt : Nat) (K : Int → Int → Int) (a b c : Int) : Int :=
  if (0 ≤ a ∧ a ≤ 5) ∧ (0 ≤ b ∧ b ≤ 5) ∧ (D = 3 → 0 ≤ c ∧ c ≤ 5) then (if 18 < sg D.toNat (fun i => mDeg D (K (sel3 a b c i)) 0) then -1 else @ite Int ((∀ i : Nat, (i : Int) < D → canBe D T nt (K (sel3 a b c i))) ∧ isAll D (fun i => K (sel3 a b c i)) (fun i => mDeg D (K (sel3 a b c i)) 0)) (Classical.propDecidable _) 1 0) else -1
section MSY
variable {d : Nat} {z : cm_Z} {I : cm_I} {K : Int → Int → Int} {nt : Nat}
theorem s_isSystem (hz : mz z) (hO : mvOk I) (hK : kOk I K) (ok6 : okR (I 226)) (ok33 : okR (I 233)) (hnt : I 209 9 = nt) (hn4 : nt ≤ 4) (a b c : Int) : mI (d + 6) m_Model_isSystem [vR 12 209, vI a, vI b, vI c] z I fun r I1 => fr [209, 216, 224, 226, 227, 233] I I1 ∧ I1 209 = st1 (I 209) 0 0 ∧ okR (I1 216) ∧ okR (I1 224) ∧ okR (I1 226) ∧ okR (I1 233) ∧ r = aSystem (I 209 1) (mTab I) nt K a b c := by
  have hD' : I 209 1 = 2 ∨ I 209 1 = 3 := hO.1
  refine mr_isSystem hz fun I1 e1 => ?_
  obtain ⟨f1, g1⟩ := fr_eq_iu e1
  have h1 : I1 209 1 = I 209 1 := by rw [g1]; rfl
  generalize hX : (fun (r : Int) (I1 : cm_I) => fr [209, 216, 224, 226, 227, 233] I I1 ∧ I1 209 = st1 (I 209) 0 0 ∧ okR (I1 216) ∧ okR (I1 224) ∧ okR (I1 226) ∧ okR (I1 233) ∧ r = aSystem (I 209 1) (mTab I) nt K a b c) = X
  have hO1 : mvOk I1 := mvOk_of hO h1 (f1 210 (by decide)) (f1 211 (by decide)) (f1 212 (by decide)) (by rw [f1 216 (by decide)]; exact hO.2.2.1) (f1 217 (by decide)) (by rw [f1 218 (by decide)]; exact hO.2.2.2.2.1) (by rw [f1 224 (by decide)]; exact hO.2.2.2.2.2)
  have no : ¬ ((0 ≤ a ∧ a ≤ 5) ∧ (0 ≤ b ∧ b ≤ 5) ∧ (I 209 1 = 3 → 0 ≤ c ∧ c ≤ 5)) → qI z X (some (vI (-1))) (I1, z) := fun hn => qI_mk (by
    rw [← hX]
    refine ⟨fr_mono f1 (by decide), g1, hO1.2.2.1, hO1.2.2.2.2.2, by rw [f1 226 (by decide)]; exact ok6, by rw [f1 233 (by decide)]; exact ok33, ?_⟩
    unfold aSystem
    rw [if_neg hn])
  have main : ((0 ≤ a ∧ a ≤ 5) ∧ (0 ≤ b ∧ b ≤ 5) ∧ (I 209 1 = 3 → 0 ≤ c ∧ c ≤ 5)) → cw (d + 5) cd_Model_isSystem (qI z X) 48 [some (vR 12 209), some (vI a), some (vI b), some (vI c), some (vI 0), some (vI 1), some (vI 0), none] [] (I1, z) := by
    intro hok
    generalize hDD : I 209 1 = D at hD' h1 hX hok
    generalize hQ : (fun i => K (sel3 a b c i)) = Q
    have hsel : ∀ i : Nat, (i : Int) < D → 0 ≤ sel3 a b c i ∧ sel3 a b c i ≤ 5 := by
      intro i hi
      unfold sel3
      by_cases e0 : i = 0
      · rw [if_pos e0]; exact hok.1
      · rw [if_neg e0]
        by_cases e1 : i = 1
        · rw [if_pos e1]; exact hok.2.1
        · rw [if_neg e1]; exact hok.2.2 (by omega)
    have hk : ∀ i : Nat, (i : Int) < D → isRow (I 213) (1140 * sel3 a b c i) (Q i) ∧ vOk D (Q i) := by
      intro i hi
      have := hK.2 (sel3 a b c i) (hsel i hi).1 (hsel i hi).2
      rw [hDD] at this
      rw [← hQ]
      exact this
    generalize hdg : (fun i => mDeg D (Q i) 0) = dg
    have hdg' : ∀ i, mDeg D (Q i) 0 = dg i := fun i => by rw [← hdg]
    have dgb : ∀ i : Nat, (i : Int) < D → 0 ≤ dg i ∧ dg i ≤ 15 := fun i hi => by
      have x := mDeg_bd hD' (Q i) 0
      have y := (hk i hi).2.2.2
      rw [hdg'] at x y
      omega
    have l33 : mLen 233 = 3420 := rfl
    have l13 : mLen 213 = 6840 := rfl
    have ans : aSystem D (mTab I) nt K a b c = if 18 < sg D.toNat dg then -1 else @ite Int ((∀ i : Nat, (i : Int) < D → canBe D (mTab I) nt (Q i)) ∧ isAll D Q dg) (Classical.propDecidable _) 1 0 := by
      unfold aSystem
      rw [if_pos hok, ← hdg, ← hQ]
    -- the common part of the end
    have fin : ∀ (r : Int) (I0 : cm_I), fr [216, 224, 226, 227, 233] I1 I0 → okR (I0 216) → okR (I0 224) → okR (I0 226) → okR (I0 233) → r = aSystem D (mTab I) nt K a b c → qI z X (some (vI r)) (I0, z) := by
      intro r I0 f0 o6 o4 o26 o33 hr
      refine qI_mk ?_
      rw [← hX]
      exact ⟨fr_trans (fr_mono f1 (by decide)) (fr_mono f0 (by decide)), by rw [f0 209 (by decide), g1]; rfl, o6, o4, o26, o33, hr⟩
    have mv0 : ∀ I0 : cm_I, fr [216, 224, 226, 227, 233] I1 I0 → okR (I0 216) → okR (I0 224) → mvOk I0 := fun I0 f0 o6 o4 => mvOk_of hO1 (by rw [f0 209 (by decide)]) (f0 210 (by decide)) (f0 211 (by decide)) (f0 212 (by decide)) o6 (f0 217 (by decide)) (by rw [f0 218 (by decide)]; exact hO1.2.2.2.2.1) o4
    have eD : ∀ I0 : cm_I, fr [216, 224, 226, 227, 233] I1 I0 → I0 209 1 = D := fun I0 f0 => by rw [f0 209 (by decide), h1]
    have eT : ∀ I0 : cm_I, fr [216, 224, 226, 227, 233] I1 I0 → mTab I0 = mTab I := fun I0 f0 => by
      unfold mTab
      rw [eD I0 f0, f0 217 (by decide), f1 217 (by decide), hDD]
    -- left alone, one by one
    have k173 : ∀ (n2 i : Nat) (g : Int) (I0 : cm_I) (z1 z2 z3 z4 z7 : Option cm_V), i + n2 = D.toNat → sg D.toNat dg ≤ 18 → (g = 0 ∨ g = 1) → fr [216, 224, 226, 227, 233] I1 I0 → okR (I0 216) → okR (I0 224) → okR (I0 226) → okR (I0 233) → (∀ j : Nat, (j : Int) < D → isRow (I0 233) (1140 * (j : Int)) (Q j)) → (g = 1 ↔ (∀ j : Nat, (j : Int) < D → 1 ≤ dg j ∧ vOne1 D (Q j)) ∧ ∀ j : Nat, j < i → isInv D (mTab I) nt (Q j)) → cw (d + 5) cd_Model_isSystem (qI z X) 173 [some (vR 12 209), z1, z2, z3, z4, some (vI g), some (vI (i : Int)), z7] [] (I0, z) := by
      intro n2
      induction n2 with
      | zero =>
        intro i g I0 z1 z2 z3 z4 z7 ei h18 hg f0 o6 o4 o26 o33 row iff
        have bad : ¬ (∀ i : Nat, (i : Int) < D → canBe D (mTab I) nt (Q i)) ↔ g = 0 := by
          constructor
          · intro h
            rcases hg with h0 | h0
            · exact h0
            · obtain ⟨x, y⟩ := iff.mp h0
              exact absurd (fun j hj => ⟨by rw [hdg']; exact (x j hj).1, (x j hj).2, y j (by omega)⟩) h
          · intro h0 h
            have := iff.mpr ⟨fun j hj => ⟨by rw [← hdg']; exact (h j hj).1, (h j hj).2.1⟩, fun j hj => (h j (by omega)).2.2⟩
            omega
        refine mr_isSystem_173 hz ⟨fun _ => ⟨fun q => fin 0 I0 f0 o6 o4 o26 o33 ?_, fun q => ?_⟩, fun q => ?_⟩
        · rw [ans, if_neg (by omega), if_neg (fun x => bad.mpr q x.1)]
        · have all : ∀ i : Nat, (i : Int) < D → canBe D (mTab I) nt (Q i) := Classical.byContradiction fun x => q (bad.mp x)
          have hO0 := mv0 I0 f0 o6 o4
          have hsD : sDg D dg ≤ 16 ∨ (D = 2 ∧ sDg D dg ≤ 17) := by
            unfold sDg
            rcases hD' with e | e
            · right; omega
            · left; omega
          refine mI_mono (s_areAll hz hO0.1 hO0.2.1 o26 o33 (P := Q) (dg := dg) (by
            rw [eD I0 f0]
            intro j hj
            refine ⟨row j hj, hdg' j, ?_, (dgb j hj).2⟩
            rw [← hdg']
            exact (all j hj).1) (by rw [eD I0 f0]; exact hsD)) fun v2 I2 ⟨f2, o2, b2, i2⟩ => ?_
          rw [eD I0 f0] at i2
          have f02 : fr [216, 224, 226, 227, 233] I1 I2 := fr_trans f0 (fr_mono f2 (by decide))
          have oo : okR (I2 216) ∧ okR (I2 224) ∧ okR (I2 233) := ⟨by rw [f2 216 (by decide)]; exact o6, by rw [f2 224 (by decide)]; exact o4, by rw [f2 233 (by decide)]; exact o33⟩
          refine ⟨fun y => fin 0 I2 f02 oo.1 oo.2.1 o2 oo.2.2 ?_, fun y => fin 1 I2 f02 oo.1 oo.2.1 o2 oo.2.2 ?_⟩
          · rw [ans, if_neg (by omega), if_neg (fun x => by have := i2.mpr x.2; omega)]
          · rw [ans, if_neg (by omega), if_pos ⟨all, i2.mp (by omega)⟩]
        · rw [eD I0 f0] at q
          omega
      | succ n2 ih =>
        intro i g I0 z1 z2 z3 z4 z7 ei h18 hg f0 o6 o4 o26 o33 row iff
        have hi : (i : Int) < D := by omega
        have nxt : ∀ (g2 : Int) (I2 : cm_I), (g2 = 0 ∨ g2 = 1) → fr [216, 224, 226, 227, 233] I1 I2 → okR (I2 216) → okR (I2 224) → okR (I2 226) → okR (I2 233) → (∀ j : Nat, (j : Int) < D → isRow (I2 233) (1140 * (j : Int)) (Q j)) → (g2 = 1 ↔ (∀ j : Nat, (j : Int) < D → 1 ≤ dg j ∧ vOne1 D (Q j)) ∧ ∀ j : Nat, j < i + 1 → isInv D (mTab I) nt (Q j)) → cw (d + 5) cd_Model_isSystem (qI z X) 173 [some (vR 12 209), z1, z2, z3, z4, some (vI g2), some (vI ((i : Int) + 1)), z7] [] (I2, z) := by
          intro g2 I2 h1 h2 h3 h4 h5 h6 h7 h8
          have := ih (i + 1) g2 I2 z1 z2 z3 z4 z7 (by omega) h18 h1 h2 h3 h4 h5 h6 h7 h8
          rw [show ((i + 1 : Nat) : Int) = (i : Int) + 1 by omega] at this
          exact this
        refine mr_isSystem_173 hz ⟨fun q => by rw [eD I0 f0] at q; omega, fun _ => ⟨fun q => ⟨⟨by omega, by omega⟩, nxt 0 I0 (Or.inl rfl) f0 o6 o4 o26 o33 row ⟨fun y => absurd y (by decide), fun y => ?_⟩⟩, fun q => ⟨⟨by omega, by omega⟩, mI_mono (s_isAlone hz (mv0 I0 f0 o6 o4) mA233 (by decide) (by decide) o33 (by omega) (by omega) (by omega) (row i hi) (by rw [eD I0 f0]; exact (hk i hi).2) (nt := nt) (by rw [f0 209 (by decide), g1]; exact hnt) hn4) fun v6 I5 ⟨f5, o56, o54, b6, i6⟩ => ?_⟩⟩⟩
        · have := iff.mpr ⟨y.1, fun j hj => y.2 j (by omega)⟩
          omega
        · rw [eD I0 f0, eT I0 f0] at i6
          have f05 : fr [216, 224, 226, 227, 233] I1 I5 := fr_trans f0 (fr_mono f5 (by decide))
          have row5 : ∀ j : Nat, (j : Int) < D → isRow (I5 233) (1140 * (j : Int)) (Q j) := fun j hj => by rw [f5 233 (by decide)]; exact row j hj
          obtain ⟨x, y⟩ := iff.mp (by omega)
          refine ⟨fun q6 => ⟨⟨by omega, by omega⟩, nxt 0 I5 (Or.inl rfl) f05 o56 o54 (by rw [f5 226 (by decide)]; exact o26) (by rw [f5 233 (by decide)]; exact o33) row5 ⟨fun w => absurd w (by decide), fun w => ?_⟩⟩, fun q6 => ⟨⟨by omega, by omega⟩, nxt 1 I5 (Or.inr rfl) f05 o56 o54 (by rw [f5 226 (by decide)]; exact o26) (by rw [f5 233 (by decide)]; exact o33) row5 ⟨fun _ => ⟨x, fun j hj => ?_⟩, fun _ => rfl⟩⟩⟩
          · have := i6.mpr (w.2 i (by omega))
            omega
          · by_cases e : j = i
            · rw [e]; exact i6.mp (by omega)
            · exact y j (by omega)
    -- copied, one by one
    have k48 : ∀ (n2 i : Nat) (g : Int) (I0 : cm_I) (z7 : Option cm_V), i + n2 = D.toNat → (g = 0 ∨ g = 1) → fr [233] I1 I0 → okR (I0 233) → (∀ j : Nat, j < i → isRow (I0 233) (1140 * (j : Int)) (Q j)) → (g = 1 ↔ ∀ j : Nat, j < i → 1 ≤ dg j ∧ vOne1 D (Q j)) → 0 ≤ sg i dg → sg i dg ≤ 15 * i → cw (d + 5) cd_Model_isSystem (qI z X) 48 [some (vR 12 209), some (vI a), some (vI b), some (vI c), some (vI (sg i dg)), some (vI g), some (vI (i : Int)), z7] [] (I0, z) := by
      intro n2
      induction n2 with
      | zero =>
        intro i g I0 z7 ei hg f0 o33 row iff s0 s1
        have f0' : fr [216, 224, 226, 227, 233] I1 I0 := fr_mono f0 (by decide)
        have oo : okR (I0 216) ∧ okR (I0 224) ∧ okR (I0 226) := ⟨by rw [f0 216 (by decide)]; exact hO1.2.2.1, by rw [f0 224 (by decide)]; exact hO1.2.2.2.2.2, by rw [f0 226 (by decide), f1 226 (by decide)]; exact ok6⟩
        have ei' : i = D.toNat := by omega
        refine mr_isSystem_48 hz ⟨fun _ => ⟨fun q => ?_, fun q => fin (-1) I0 f0' oo.1 oo.2.1 oo.2.2 o33 ?_⟩, fun q => ?_⟩
        · rw [ei'] at q
          exact k173 D.toNat 0 g I0 _ _ _ _ _ (by omega) q hg f0' oo.1 oo.2.1 oo.2.2 o33 (fun j hj => row j (by omega)) ⟨fun h => ⟨fun j hj => iff.mp h j (by omega), fun j hj => by omega⟩, fun h => iff.mpr fun j hj => h.1 j (by omega)⟩
        · rw [ei'] at q
          rw [ans, if_pos q]
        · rw [f0 209 (by decide), h1] at q
          omega
      | succ n2 ih =>
        intro i g I0 z7 ei hg f0 o33 row iff s0 s1
        have hi : (i : Int) < D := by omega
        obtain ⟨rk, vk⟩ := hk i hi
        have hse := hsel i hi
        have dgi := dgb i hi
        have f0' : fr [216, 224, 226, 227, 233] I1 I0 := fr_mono f0 (by decide)
        have hD0 : ∀ J : cm_I, fr [233] I1 J → mD J := fun J fJ => by unfold mD; rw [fJ 209 (by decide), h1]; exact hD'
        have hm0 : ∀ J : cm_I, fr [233] I1 J → mMon J := fun J fJ => by
          have := hO1.2.1
          unfold mMon at this ⊢
          rw [fJ 209 (by decide), fJ 210 (by decide), fJ 211 (by decide), fJ 212 (by decide)]
          exact this
        have eD1 : ∀ J : cm_I, fr [233] I1 J → J 209 1 = D := fun J fJ => by rw [fJ 209 (by decide), h1]
        have k80 : ∀ s : Int, s = sel3 a b c i → cw (d + 5) cd_Model_isSystem (qI z X) 80 [some (vR 12 209), some (vI a), some (vI b), some (vI c), some (vI (sg i dg)), some (vI g), some (vI (i : Int)), z7] [vI s, vI 1140] (I0, z) := by
          intro s hs
          rw [hs]
          refine mr_isSystem_80 hz ⟨⟨by omega, by omega⟩, ⟨by omega, by omega⟩, mU_mono (s_copies hz mA213 mA233 (by omega) (by omega) (by omega) (by omega) (by omega) (by omega) (by decide)) fun I3 e3 => ?_⟩
          obtain ⟨f3, g3⟩ := fr_eq_iw e3
          have f13 : fr [233] I1 I3 := fr_trans f0 f3
          have e03 : I0 213 = I 213 := (f0 213 (by decide)).trans (f1 213 (by decide))
          rw [e03] at g3
          have r3 : isRow (I3 213) (1140 * sel3 a b c i) (Q i) := by rw [f13 213 (by decide), f1 213 (by decide)]; exact rk
          have o3 : okR (I3 233) := by rw [g3]; exact okR_cpy o33 _ _ _ fun j _ _ => hK.1 _
          have rows3 : ∀ j : Nat, j < i + 1 → isRow (I3 233) (1140 * (j : Int)) (Q j) := by
            intro j hj k k0 k1
            rw [g3]
            unfold cpyF
            by_cases e : j = i
            · rw [if_pos (by omega), e, ← rk k k0 k1]
              congr 1
              omega
            · rw [if_neg (by omega)]
              exact row j (by omega) k k0 k1
          have nxt : ∀ (g2 : Int), (g2 = 0 ∨ g2 = 1) → (g2 = 1 ↔ ∀ j : Nat, j < i + 1 → 1 ≤ dg j ∧ vOne1 D (Q j)) → cw (d + 5) cd_Model_isSystem (qI z X) 48 [some (vR 12 209), some (vI a), some (vI b), some (vI c), some (vI (sg i dg + dg i)), some (vI g2), some (vI ((i : Int) + 1)), some (vI (1140 * sel3 a b c i))] [] (I3, z) := by
            intro g2 h1 h2
            have := ih (i + 1) g2 I3 (some (vI (1140 * sel3 a b c i))) (by omega) h1 f13 o3 rows3 h2 (by rw [sg_succ]; omega) (by rw [sg_succ]; omega)
            rw [sg_succ, show ((i + 1 : Nat) : Int) = (i : Int) + 1 by omega] at this
            exact this
          refine mI_mono (s_degree hz (hD0 I3 f13) (hm0 I3 f13) mA213 (by omega) (by omega) (by omega)) fun v5 I4 ⟨e4, ev5⟩ => ?_
          rw [e4]
          rw [eD1 I3 f13, isRow_deg r3, hdg'] at ev5
          rw [ev5]
          refine ⟨⟨by omega, by omega⟩, fun q => ⟨⟨by omega, by omega⟩, nxt 0 (Or.inl rfl) ⟨fun y => absurd y (by decide), fun y => ?_⟩⟩, fun q => mI_mono (s_degree hz (hD0 I3 f13) (hm0 I3 f13) mA213 (by omega) (by omega) (by omega)) fun v9 I8 ⟨e8, ev9⟩ => ?_⟩
          · have := iff.mpr fun j hj => y j (by omega)
            omega
          · rw [e8]
            rw [eD1 I3 f13, isRow_deg r3, hdg'] at ev9
            have g1' := iff.mp (by omega)
            refine ⟨fun q9 => ⟨⟨by omega, by omega⟩, nxt 0 (Or.inl rfl) ⟨fun y => absurd y (by decide), fun y => by have := (y i (by omega)).1; omega⟩⟩, fun q9 => mI_mono (s_isOfOne hz (hD0 I3 f13) (hm0 I3 f13) mA213 (by omega) (by omega) (by omega) r3) fun v12 I11 ⟨e11, b12, i12⟩ => ?_⟩
            rw [e11]
            rw [eD1 I3 f13] at i12
            refine ⟨fun q12 => ⟨⟨by omega, by omega⟩, nxt 0 (Or.inl rfl) ⟨fun y => absurd y (by decide), fun y => by have := i12.mpr (y i (by omega)).2; omega⟩⟩, fun q12 => ⟨⟨by omega, by omega⟩, nxt 1 (Or.inr rfl) ⟨fun _ j hj => ?_, fun _ => rfl⟩⟩⟩
            by_cases e : j = i
            · rw [e]; exact ⟨by omega, i12.mp (by omega)⟩
            · exact g1' j (by omega)
        refine mr_isSystem_48 hz ⟨fun q => by rw [f0 209 (by decide), h1] at q; omega, fun _ => ⟨fun q0 => ⟨fun q1 => k80 c ?_, fun q1 => k80 b ?_⟩, fun q0 => k80 a ?_⟩⟩
        · unfold sel3; rw [if_neg (by omega), if_neg (by omega)]
        · unfold sel3; rw [if_neg (by omega), if_pos (by omega)]
        · unfold sel3; rw [if_pos (by omega)]
    have o331 : okR (I1 233) := by rw [f1 233 (by decide)]; exact ok33
    exact k48 D.toNat 0 1 I1 none (by omega) (Or.inr rfl) (fr_refl _ _) o331 (fun j hj => by omega) ⟨fun _ j hj => by omega, fun _ => rfl⟩ (Int.le_refl _) (Int.le_refl _)
  refine mI_mono (s_isKept hz a) fun v3 I2 ⟨e2, ev3⟩ => ?_
  rw [e2]
  refine ⟨fun q => no fun x => by rw [if_pos x.1] at ev3; omega, fun q3 => mI_mono (s_isKept hz b) fun v5 I4 ⟨e4, ev5⟩ => ?_⟩
  rw [e4]
  refine ⟨fun q => no fun x => by rw [if_pos x.2.1] at ev5; omega, fun q5 => ?_⟩
  have ca : 0 ≤ a ∧ a ≤ 5 := Classical.byContradiction fun x => q3 (by rw [ev3, if_neg x])
  have cb : 0 ≤ b ∧ b ≤ 5 := Classical.byContradiction fun x => q5 (by rw [ev5, if_neg x])
  rw [h1]
  refine ⟨fun q => main ⟨ca, cb, fun x => absurd x q⟩, fun q => mI_mono (s_isKept hz c) fun v7 I6 ⟨e6, ev7⟩ => ?_⟩
  rw [e6]
  refine ⟨fun q7 => main ⟨ca, cb, fun _ => Classical.byContradiction fun x => q7 (by rw [ev7, if_neg x])⟩, fun q7 => no fun x => by rw [if_pos (x.2.2 q)] at ev7; omega⟩
end MSY
