/-! THE REFERENCE finds primary ones -/
section MP
variable {d : Nat} {z : cm_Z} {T : Nat → cMat} {nt n : Nat} {L : Nat → cMat} {I : cm_I}
/-- what the reference needs to find primary and secondary ones -/
def pmIn (T : Nat → cMat) (nt n : Nat) (L : Nat → cMat) (I : cm_I) : Prop := mvOk I ∧ mTab I = T ∧ I 209 9 = nt ∧ nt ≤ 4 ∧ bsOk T nt I ∧ okR (I 214) ∧ okR (I 233) ∧ okR (I 236) ∧ isG T nt n L ∧ (∀ t, t < nt → mDet (T t) ≠ 0) ∧ I 209 11 = n ∧ pmOk T nt n I
theorem pm_isZ {I : cm_I} (t : Nat) : isZ (I 209 1) (mTab I t) := isZ_mat _ _ _
theorem pm_bs (hz : mz z) (h : pmIn T nt n L I) : ∀ t, 0 ≤ t → t ≤ 15 → isBs (I 209 1) T nt t (bsRows (I 209 1) T nt t) (bsX (I 209 1) T nt t).2 := by
  obtain ⟨h1, h2, h3, h4, h5, -⟩ := h
  subst h2
  exact bs_ex hz h1 h3 h4 h5
theorem s_laysPrimary (hz : mz z) (h : pmIn T nt n L I) : mU (d + 9) m_Model_laysPrimary [vR 12 209] z I fun I1 => pmFr I I1 ∧ pmIn T nt n L I1 ∧ I1 209 41 = 1 ∧ pmSt T nt n I1 := by
  have bex := pm_bs hz h
  obtain ⟨hO, eT, hnt, hn4, hB, o14, o33, o36, G, hT, h11, h41⟩ := id h
  have hD : I 209 1 = 2 ∨ I 209 1 = 3 := hO.1
  refine mr_laysPrimary hz ⟨fun q41 I1 e1 I2 e2 => ?_, fun q41 => qU_mk ⟨pmFr_refl I, h, ?_⟩⟩
  · obtain ⟨f1, g1⟩ := fr_eq_iu e1
    obtain ⟨f2, g2⟩ := fr_eq_iu e2
    have s2 : ∀ s, s ≠ 41 → s ≠ 42 → I2 209 s = I 209 s := fun s a b => by
      rw [g2]
      show (if _ then _ else _) = _
      rw [if_neg b, g1]
      exact if_neg a
    have z41 : I2 209 41 = 1 := by
      rw [g2]
      show (if _ then _ else _) = _
      rw [if_neg (by decide), g1]
      exact if_pos rfl
    have z42 : I2 209 42 = 0 := by rw [g2]; exact if_pos rfl
    have f12 : fr [209] I I2 := fr_trans f1 f2
    have D2 := s2 1 (by decide) (by decide)
    have T2 : mTab I2 = T := by rw [← eT]; unfold mTab; rw [D2, f12 217 (by decide)]
    have hO2 : mvOk I2 := mvOk_of hO D2 (f12 210 (by decide)) (f12 211 (by decide)) (f12 212 (by decide)) (by rw [f12 216 (by decide)]; exact hO.2.2.1) (f12 217 (by decide)) (by rw [f12 218 (by decide)]; exact hO.2.2.2.2.1) (by rw [f12 224 (by decide)]; exact hO.2.2.2.2.2)
    have hB2 : bsOk T nt I2 := bsOk_thr hB D2 (s2 37 (by decide) (by decide)) (f12 226 (by decide)) (f12 228 (by decide)) (f12 229 (by decide)) (f12 230 (by decide))
    have lb := s_laysBases (d := d + 3) hz hO2 (nt := nt) (by rw [s2 9 (by decide) (by decide)]; exact hnt) hn4 (by rw [T2]; exact hB2) (up := 6) (by omega) (by omega)
    rw [T2] at lb
    refine mU_mono lb fun I3 h3 => ?_
    obtain ⟨f3, o34, s3, b1, b2, hB3⟩ := h3
    intro I4 e4
    obtain ⟨f4, g4⟩ := fr_eq_iu e4
    have s4 : ∀ s, s ≠ 41 → s ≠ 42 → s ≠ 37 → s ≠ 46 → I4 209 s = I 209 s := fun s a b c e => by
      rw [g4]
      show (if _ then _ else _) = _
      rw [if_neg e, s3 s c, s2 s a b]
    have x4 : ∀ s, s ≠ 46 → I4 209 s = I3 209 s := fun s e => by rw [g4]; exact if_neg e
    have D4 : I4 209 1 = I 209 1 := s4 1 (by decide) (by decide) (by decide) (by decide)
    have f34 : fr [209, 224, 226, 227, 228, 229, 230, 231, 232] I I4 := fr_trans (fr_mono f12 (by decide)) (fr_trans f3 (fr_mono f4 (by decide)))
    have hB4 : bsOk T nt I4 := bsOk_thr hB3 (x4 1 (by decide)) (x4 37 (by decide)) (f4 226 (by decide)) (f4 228 (by decide)) (f4 229 (by decide)) (f4 230 (by decide))
    have hD4 : mD I4 := by unfold mD; rw [D4]; exact hD
    have b37 : 7 ≤ I4 209 37 := by rw [x4 37 (by decide)]; omega
    have gets := fun (t : Int) (t0 : 0 ≤ t) (t1 : t ≤ 6) => bs_get hD4 hB4 t0 (by omega)
    rw [D4] at gets
    have n83 : cndN (I 209 1) T nt ≤ 83 := cnd_83 hD fun t t0 t1 => (gets t (by omega) t1).2.1
    have n48 := G.2.1
    have l31 := s_lp31 (d := d + 8) hz (I := I4) (T := T) (nt := nt) (D := I 209 1) (Q := qU z fun I1 => pmFr I I1 ∧ pmIn T nt n L I1 ∧ I1 209 41 = 1 ∧ pmSt T nt n I1) (fun t t0 t1 => (gets t (by omega) t1).1) n83 (fun J z2 hJ => ?_) 6 0 I4 none rfl ⟨fr_refl _ _, fun _ _ => rfl, by rw [g4]; exact if_pos rfl, fun e he => absurd he (Nat.not_lt_zero e)⟩
    · exact l31
    · obtain ⟨jf, js, j46, je⟩ := hJ
      refine mr_laysPrimary_31 hz ⟨fun _ J1 ej => ?_, fun q => by omega⟩
      obtain ⟨jf1, jg1⟩ := fr_eq_iu ej
      have js1 : ∀ s, s ≠ 46 → s ≠ 49 → J1 209 s = I4 209 s := fun s a b => by
        rw [jg1]
        show (if _ then _ else _) = _
        rw [if_neg b]
        exact js s a
      have jff : fr [209, 237, 238] I4 J1 := fr_trans jf (fr_mono jf1 (by decide))
      have DJ : J1 209 1 = I 209 1 := by rw [js1 1 (by decide) (by decide), D4]
      have fJ : fr [209, 224, 226, 227, 228, 229, 230, 231, 232, 237, 238] I J1 := fr_trans (fr_mono f34 (by decide)) (fr_mono jff (by decide))
      have mJ : mMon J1 := by
        have hm := hO.2.1
        unfold mMon at hm ⊢
        rw [DJ, fJ 210 (by decide), fJ 211 (by decide), fJ 212 (by decide)]
        exact hm
      have j11 : J1 209 11 = (n : Int) := by rw [js1 11 (by decide) (by decide), s4 11 (by decide) (by decide) (by decide) (by decide)]; exact h11
      have hBJ : bsOk T nt J1 := bsOk_thr hB4 (by rw [DJ, D4]) (js1 37 (by decide) (by decide)) (jff 226 (by decide)) (jff 228 (by decide)) (jff 229 (by decide)) (jff 230 (by decide))
      have e237 : J1 237 = J 237 := jf1 237 (by decide)
      have e238 : J1 238 = J 238 := jf1 238 (by decide)
      have z46 : J1 209 46 = (cndN (I 209 1) T nt : Int) := by
        rw [jg1]
        show (if _ then _ else _) = _
        rw [if_neg (by decide)]
        exact j46
      have hca : caOk T nt J1 := ⟨hBJ, by rw [js1 37 (by decide) (by decide)]; exact b37, ⟨by rw [fJ 233 (by decide)]; exact o33, by rw [fJ 236 (by decide)]; exact o36⟩, by rw [DJ]; exact z46, by rw [DJ]; exact n83, by rw [DJ, e237, e238]; exact je⟩
      have i42 : I4 209 42 = 0 := by rw [x4 42 (by decide), s3 42 (by decide)]; exact z42
      have hsr : sRel T nt (0, none) J1 := ⟨by rw [jg1]; exact if_pos rfl, by show 0 ≤ 60; omega, Or.inl ⟨rfl, by rw [js1 42 (by decide) (by decide)]; exact i42⟩⟩
      -- the end
      have fin : ∀ (J2 : cm_I) (z1 z2 : Option cm_V), sFr J1 J2 → caOk T nt J2 → sRel T nt (KP (isSys (I 209 1) T nt) (fun e => (cnd (I 209 1) T nt e).1) (I 209 1) (cndN (I 209 1) T nt) (n : Int) (if I 209 1 = 2 then 36 else 216) 217 (n : Int) (0, none)) J2 → cw (d + 8) cd_Model_laysPrimary (qU z fun I1 => pmFr I I1 ∧ pmIn T nt n L I1 ∧ I1 209 41 = 1 ∧ pmSt T nt n I1) 154 [some (vR 12 209), z1, z2] [] (J2, z) := by
        intro J2 z1 z2 hf2 hc2 hr2
        have D2' : J2 209 1 = I 209 1 := by rw [hf2.2 1 (by decide) (by decide), DJ]
        have f2' : fr [209, 224, 226, 227, 228, 229, 230, 231, 232, 233, 234, 235, 236, 237, 238] I J2 := fr_trans (fr_mono fJ (by decide)) (fr_mono hf2.1 (by decide))
        have s2' : ∀ s, s ≠ 37 → s ≠ 41 → s ≠ 42 → s ≠ 46 → s ≠ 49 → J2 209 s = I 209 s := fun s a b c e g => by rw [hf2.2 s c g, js1 s e g, s4 s b c a e]
        have pf : pmFr I J2 := ⟨fr_mono f2' (by decide), fun s a b c e g _ _ => s2' s a b c e g⟩
        have j41 : J2 209 41 = 1 := by rw [hf2.2 41 (by decide) (by decide), js1 41 (by decide) (by decide), x4 41 (by decide), s3 41 (by decide)]; exact z41
        have o224 : okR (J2 224) := by rw [hf2.1 224 (by decide), jff 224 (by decide), f4 224 (by decide)]; exact o34
        have hO2' : mvOk J2 := mvOk_of hO D2' (f2' 210 (by decide)) (f2' 211 (by decide)) (f2' 212 (by decide)) (by rw [f2' 216 (by decide)]; exact hO.2.2.1) (f2' 217 (by decide)) (by rw [f2' 218 (by decide)]; exact hO.2.2.2.2.1) o224
        have T2' : mTab J2 = T := by rw [← eT]; unfold mTab; rw [D2', f2' 217 (by decide)]
        have nt2 : J2 209 9 = nt := by rw [s2' 9 (by decide) (by decide) (by decide) (by decide) (by decide)]; exact hnt
        have m2 : J2 209 11 = n := by rw [s2' 11 (by decide) (by decide) (by decide) (by decide) (by decide)]; exact h11
        have o14' : okR (J2 214) := by rw [f2' 214 (by decide)]; exact o14
        obtain ⟨r1, r2, r3⟩ := hr2
        rw [D2'] at r3
        refine mr_laysPrimary_154 hz ⟨fun x42 => qU_mk ?_, fun x42 => ?_⟩
        · rcases r3 with ⟨en, -⟩ | ⟨i, j, k, -, -, -, -, -, x1, -⟩
          · have st : pmSt T nt n J2 := Or.inl ⟨by rw [D2']; exact en, x42⟩
            exact ⟨pf, ⟨hO2', T2', nt2, hn4, hc2.1, o14', hc2.2.2.1.1, hc2.2.2.1.2, G, hT, m2, Or.inr ⟨j41, st⟩⟩, j41, st⟩
          · rw [x42] at x1
            exact absurd x1 (by decide)
        · rcases r3 with ⟨-, x0⟩ | ⟨i, j, k, es, sy, hi, hj, hk, x1, xv⟩
          · exact absurd x0 x42
          · have S := pm_S (L := L) hD G hT (fun t _ => by rw [← eT]; exact pm_isZ t) bex (q := (i, j, k)) sy hi hj hk
            have hP : prSt (I 209 1) (pmV (I 209 1) T nt (i, j, k)) (pmD (I 209 1) T nt (i, j, k)) J2 := ⟨hc2.2.2.1.2, fun v hv => ⟨by rw [pmD_at hv]; exact (xv v hv).1, (xv v hv).2.2⟩⟩
            refine mU_mono (s_laysSecondary (d := d + 1) hz S D2' hO2' T2' nt2 hn4 hc2.1 ⟨o14', hO2'.2.2.1⟩ hP) fun J3 h3 => qU_mk ?_
            have D3 := slSt_D h3
            obtain ⟨⟨k1, k2, k3, k4⟩, k5, k6, k7, k8⟩ := id h3
            have hO3 : mvOk J3 := mvOk_of hO2' D3 (k1 210 (by decide)) (k1 211 (by decide)) (k1 212 (by decide)) k3.2 (k1 217 (by decide)) (by rw [k1 218 (by decide)]; exact hO2'.2.2.2.2.1) k8
            have st : pmSt T nt n J3 := by
              refine Or.inr ⟨(i, j, k), by rw [D3, D2']; exact es, ?_⟩
              rw [D3, D2']
              exact ⟨⟨sy, hi, hj, hk⟩, by rw [k2 42 (by decide) (by decide) (by decide)]; exact x1, slSt_pr h3 hP, fun v hv => by rw [k1 235 (by decide)]; exact (xv v hv).2.1, k6, k7⟩
            have j41' : J3 209 41 = 1 := by rw [k2 41 (by decide) (by decide) (by decide)]; exact j41
            refine ⟨pmFr_trans pf ⟨fr_mono k1 (by decide), fun s a _ _ _ _ b c => k2 s a b c⟩, ⟨hO3, by unfold mTab; rw [D3, k1 217 (by decide)]; exact T2', by rw [k2 9 (by decide) (by decide) (by decide)]; exact nt2, hn4, k5, k3.1, by rw [k1 233 (by decide)]; exact hc2.2.2.1.1, by rw [k1 236 (by decide)]; exact hc2.2.2.1.2, G, hT, by rw [k2 11 (by decide) (by decide) (by decide)]; exact m2, Or.inr ⟨j41', st⟩⟩, j41', st⟩
      have n1 := G.1
      refine ⟨fun x => ?_, fun x => ?_⟩
      · rw [j11]
        rw [DJ] at x
        rw [if_neg x] at fin
        exact s_lp118 (d := d + 3) hz hD DJ mJ j11 n1 n48 (by omega) fin 217 (n : Int) (0, none) J1 (by omega) (by omega) (by omega) (sFr_refl _) hca hsr rfl
      · rw [j11]
        rw [DJ] at x
        rw [if_pos x] at fin
        exact s_lp118 (d := d + 3) hz hD DJ mJ j11 n1 n48 (by omega) fin 217 (n : Int) (0, none) J1 (by omega) (by omega) (by omega) (sFr_refl _) hca hsr rfl
  · rcases h41 with e | e
    · exact absurd e q41
    · exact e
end MP
