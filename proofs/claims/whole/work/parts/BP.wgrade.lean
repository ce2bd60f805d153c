/-! Bases.begin, Bases.grade: the bases of the class -/
def bsG (D : Int) (T : Nat → cMat) (nt t : Nat) (z : cm_Z) (J : cm_I) : Prop := J (73 + 7 * t) 0 = (t : Int) ∧ okR (J (gG z t 0)) ∧ (J (73 + 7 * t) 1 = 0 ∨ (J (73 + 7 * t) 1 = 1 ∧ gdA D T nt t z J))
/-- the bases stand, or will be made when they are asked for -/
def bsE (D : Int) (sh mb : Nat) (T : Nat → cMat) (nt n : Nat) (L : Nat → cMat) (z : cm_Z) (J : cm_I) : Prop := mvE D sh mb T nt n L z J ∧ gw z ∧ (∀ g, g < nt → isD D (T g)) ∧ z.1 66 2 = sh ∧ z.1 66 3 = mb ∧ (∀ p : Int, 0 ≤ p → p < 136 → J 69 p = 0) ∧ okR (J (z.1 63 2)) ∧ (∀ t : Nat, t < 16 → ∃ R B, isBs D T nt t R B ∧ J 67 (t : Int) = (R : Int)) ∧ ∀ t, t < 16 → bsG D T nt t z J
theorem gdA_fr {D : Int} {T : Nat → cMat} {nt t : Nat} {z z1 : cm_Z} {I I1 : cm_I} (h : gdA D T nt t z I) (e0 : gG z1 t 0 = gG z t 0) (e1 : gG z1 t 1 = gG z t 1) (l0 : z1.2.1 (gG z t 0) = z.2.1 (gG z t 0)) (l1 : z1.2.1 (gG z t 1) = z.2.1 (gG z t 1)) (i0 : I1 (gG z t 0) = I (gG z t 0)) (i1 : I1 (gG z t 1) = I (gG z t 1)) (j2 : I1 (73 + 7 * t) 2 = I (73 + 7 * t) 2) (j3 : I1 (73 + 7 * t) 3 = I (73 + 7 * t) 3) : gdA D T nt t z1 I1 := by
  obtain ⟨N, R, h1, h2, h3, h4, h5, h6⟩ := h
  unfold gdR at h6
  refine ⟨N, R, h1, by rw [j2]; exact h2, by rw [j3]; exact h3, by rw [e0, l0]; exact h4, by rw [e1, l1]; exact h5, ?_⟩
  unfold gdR
  rw [e0, e1, i0, i1]
  exact h6
theorem bsG_fr {D : Int} {T : Nat → cMat} {nt t : Nat} {z z1 : cm_Z} {I I1 : cm_I} (h : bsG D T nt t z I) (e0 : gG z1 t 0 = gG z t 0) (e1 : gG z1 t 1 = gG z t 1) (l0 : z1.2.1 (gG z t 0) = z.2.1 (gG z t 0)) (l1 : z1.2.1 (gG z t 1) = z.2.1 (gG z t 1)) (i0 : I1 (gG z t 0) = I (gG z t 0)) (i1 : I1 (gG z t 1) = I (gG z t 1)) (jj : ∀ j : Int, 0 ≤ j → j ≤ 3 → I1 (73 + 7 * t) j = I (73 + 7 * t) j) : bsG D T nt t z1 I1 := by
  obtain ⟨h1, h2, h3⟩ := h
  refine ⟨by rw [jj 0 (by decide) (by decide)]; exact h1, by rw [e0, i0]; exact h2, ?_⟩
  rw [jj 1 (by decide) (by decide)]
  rcases h3 with h3 | ⟨h3, h4⟩
  · exact Or.inl h3
  · exact Or.inr ⟨h3, gdA_fr h4 e0 e1 l0 l1 i0 i1 (jj 2 (by decide) (by decide)) (jj 3 (by decide) (by decide))⟩
theorem zr_ne {z : cm_Z} {a : Nat} {i j : Int} {v : Nat} (h : j ≠ i) : (zr z a i v).1 a j = z.1 a j := by
  show (if a = a then (fun j => if j = i then v else z.1 a j) else z.1 a) j = _
  rw [if_pos rfl]
  exact if_neg h
section WGR
variable {d : Nat} {z : cm_Z} {I : cm_I} {D : Int} {sh mb : Nat} {T : Nat → cMat} {nt n : Nat} {L : Nat → cMat}
theorem gdP_refl (t : Nat) (z : cm_Z) (I : cm_I) : gdP t z I I z := ⟨zg_refl _ _, us_refl z, fun _ _ _ _ _ => rfl, fun _ _ _ => rfl, fun _ _ => rfl, fun _ _ _ _ _ _ _ _ => rfl, fun _ _ _ _ => rfl, grS_refl z⟩
theorem t_grade (hE : bsE D sh mb T nt n L z I) {t : Nat} (t15 : t < 16) : zcA (d + 8) m_Bases_grade [vR 0 66, vI (t : Int)] z I 2 fun v I1 z1 => v = 73 + 7 * t ∧ bsE D sh mb T nt n L z1 I1 ∧ I1 (73 + 7 * t) 1 = 1 ∧ gdP t z I I1 z1 := by
  obtain ⟨h1, h2, h3, h4, h5, h6, h7, h8, h9⟩ := id hE
  have hz := h1.1
  have w6 : 248 ≤ zN z := hz.2.2.2.2.2
  obtain ⟨g1, g2, g3⟩ := h9 t t15
  have et : Int.toNat (t : Int) = t := by omega
  refine wr_Bases_grade hz ⟨⟨by omega, by omega⟩, ?_⟩
  rw [et]
  refine ⟨fun ne => kA_mk ⟨rfl, hE, ?_, gdP_refl t z I⟩, fun e => ?_⟩
  · rcases g3 with w | w
    · exact absurd w ne
    · exact w.1
  · obtain ⟨R, B, hB, e67⟩ := h8 t t15
    refine zcU_mono (t_build (d := d) h1 h2 h3 h4 h5 t15 g1 hB e67 h6 h7 g2) fun I1 z1 ⟨k1, k2, k3, k4, k5, k6⟩ => kA_mk ⟨rfl, ?_, k4, k6⟩
    obtain ⟨p1, p2, p3, p4, p5, p6, p7, p8⟩ := id k6
    have c0 : 1 + 6 * t + 0 < 97 := by omega
    have c1 : 1 + 6 * t + 1 < 97 := by omega
    have z66 : z1.1 66 = z.1 66 := p1.1 66 (by omega) (by simp; omega)
    have ne0 : ∀ c, c ∈ blo → c ≠ z.1 63 2 ∧ c ≠ gG z t 0 ∧ c ≠ gG z t 1 := fun c hc => ⟨fun m => (gw_blo h2 (k := 0) (by decide)).1 (by show z.1 63 2 ∈ _; rw [← m]; exact hc), fun m => (gw_blo h2 c0).1 (by show gG z t 0 ∈ _; rw [← m]; exact hc), fun m => (gw_blo h2 c1).1 (by show gG z t 1 ∈ _; rw [← m]; exact hc)⟩
    have i69 : I1 69 = I 69 := p6 69 (by omega) (by decide) (by decide) (by omega) (ne0 69 (by decide)).1 (ne0 69 (by decide)).2.1 (ne0 69 (by decide)).2.2
    have i67 : I1 67 = I 67 := p6 67 (by omega) (by decide) (by decide) (by omega) (ne0 67 (by decide)).1 (ne0 67 (by decide)).2.1 (ne0 67 (by decide)).2.2
    refine ⟨k2, k1, h3, by rw [z66]; exact h4, by rw [z66]; exact h5, by rw [i69]; exact h6, k3, by rw [i67]; exact h8, fun t' t15' => ?_⟩
    by_cases w : t' = t
    · rw [w]
      refine ⟨by rw [p7 0 (by decide) (by decide) (by decide)]; exact g1, ?_, Or.inr ⟨k4, k5⟩⟩
      obtain ⟨N, R, _, _, _, _, _, o, _⟩ := k5
      exact o
    · have row : ∀ j, j < 2 → gG z1 t' j = gG z t' j ∧ z1.2.1 (gG z t' j) = z.2.1 (gG z t' j) ∧ I1 (gG z t' j) = I (gG z t' j) := by
        intro j hj
        have cj : 1 + 6 * t' + j < 97 := by omega
        have lt : gG z t' j < zN z := (h2.2.1 _ cj).2.1
        have bo : gG z t' j ∉ blo := (gw_blo h2 cj).1
        refine ⟨p3 _ cj (by omega) (by omega) (by omega), p1.2.1 _ lt, p6 _ lt (nin_sub bo (by simp [bll, blo])) (fun m => bo (by rw [m]; decide)) (gw_gr h2 t15 cj) ?_ ?_ ?_⟩
        · exact h2.2.2.1 _ 0 cj (by decide) (by omega)
        · exact h2.2.2.1 _ _ cj c0 (by omega)
        · exact h2.2.2.1 _ _ cj c1 (by omega)
      obtain ⟨r1, r2, r3⟩ := row 0 (by decide)
      obtain ⟨s1, s2, s3⟩ := row 1 (by decide)
      have ia : I1 (73 + 7 * t') = I (73 + 7 * t') := p6 _ (by omega) (by simp [bll]; omega) (by omega) (by omega) (Ne.symm (gw_gr h2 t15' (k := 0) (by decide))) (Ne.symm (gw_gr h2 t15' c0)) (Ne.symm (gw_gr h2 t15' c1))
      exact bsG_fr (h9 t' t15') r1 s1 r2 s2 r3 s3 fun j _ _ => by rw [ia]
theorem t_basesBegin (hz : wz z) (hS : shOk D sh I) (pm : isMb mb) (hM : mbOk D T nt n L mb I) (hTD : ∀ g, g < nt → isD D (T g)) (hTM : ∀ g, g < nt → isM (T g)) {R : Nat → Nat} {B : Nat → Nat → Nat → cF} (hB : ∀ t : Nat, t ≤ 15 → isBs D T nt t (R t) (B t)) : zcU (d + 4) m_Bases_begin [vR 0 66, vR 9 sh, vR 3 mb] z I fun I1 z1 => wz z1 ∧ zf [66] z z1 ∧ z1.1 66 2 = sh ∧ z1.1 66 3 = mb ∧ (∀ c, c ≠ 67 → (∀ t, t < 16 → c ≠ 73 + 7 * t) → I1 c = I c) ∧ (∀ t, t < 16 → I1 (73 + 7 * t) = fun j => if j = 1 then 0 else I (73 + 7 * t) j) ∧ ∀ t : Nat, t ≤ 15 → I1 67 (t : Int) = R t := by
  refine wr_Bases_begin hz fun Z1 e1 Z2 e2 => ?_
  have f1 := zf_zr e1
  have f2 := zf_zr e2
  have f : zf [66] z Z2 := zf_trans f1.1 f2.1
  have y2 : Z2.1 66 2 = sh := by
    rw [e2]
    show (if (66 : Nat) = 66 then (fun j => if j = (3 : Int) then mb else Z1.1 66 j) else Z1.1 66) 2 = sh
    rw [if_pos rfl]
    show (if (2 : Int) = 3 then mb else Z1.1 66 2) = sh
    rw [if_neg (by decide)]
    exact f1.2
  have y3 : Z2.1 66 3 = mb := f2.2
  have oth : ∀ j : Nat, j ≠ 2 → j ≠ 3 → Z2.1 66 (j : Int) = z.1 66 (j : Int) := by
    intro j j2 j3
    rw [e2, zr_ne (by omega), e1, zr_ne (by omega)]
  have hw : wz Z2 := by
    refine wz_keep hz (fun a j ha hj hA => ?_) (f.1 3 (by decide)) (f.1 68 (by decide)) (f.1 189 (by decide)) (fun a _ => by rw [f.2]) (by rw [zN, zN, f.2]; exact Nat.le_refl _)
    by_cases e : a = 66
    · rw [e] at hA ⊢
      refine oth j (fun w => ?_) (fun w => ?_)
      · rw [w] at hA; exact hA (by decide)
      · rw [w] at hA; exact hA (by decide)
    · rw [f.1 a (by simpa using e)]
  have hs : sh = 11 ∨ sh = 20 := shOk_sh hS
  have hm : mb = 29 ∨ mb = 39 := pm
  have Lp : ∀ (u t : Nat) (J : cm_I) (x1 x2 : Option cm_V), t + u = 16 → (∀ c, (∀ t', t' < t → c ≠ 73 + 7 * t') → J c = I c) → (∀ t', t' < t → J (73 + 7 * t') = fun j => if j = 1 then 0 else I (73 + 7 * t') j) → cw (d + 3) cd_Bases_begin (kU fun I1 z1 => wz z1 ∧ zf [66] z z1 ∧ z1.1 66 2 = sh ∧ z1.1 66 3 = mb ∧ (∀ c, c ≠ 67 → (∀ t, t < 16 → c ≠ 73 + 7 * t) → I1 c = I c) ∧ (∀ t, t < 16 → I1 (73 + 7 * t) = fun j => if j = 1 then 0 else I (73 + 7 * t) j) ∧ ∀ t : Nat, t ≤ 15 → I1 67 (t : Int) = R t) 12 [some (vR 0 66), x1, x2, some (vI (t : Int))] [] (J, Z2) := by
    intro u
    induction u with
    | zero =>
      intro t J x1 x2 et ho hg
      have e16 : t = 16 := by omega
      rw [e16] at ho hg ⊢
      refine wr_Bases_begin_12 hw ⟨fun _ => ?_, fun w => absurd w (by omega)⟩
      have low : ∀ c, c < 73 → J c = I c := fun c hc => ho c fun t' _ => by omega
      have hS' : shOk D sh J := shOk_fr hS (low _ (by omega)) (low _ (by omega)) (low _ (by omega)) (low _ (by omega)) (low _ (by omega))
      have hM' : mbOk D T nt n L mb J := mbOk_fr hM fun c c0 c1 => low c (by omega)
      refine mU_mono (t_fillSizes (d := d) hw hS' y2 y3 pm hM' hTD hTM hB) fun I1 ⟨k1, k2⟩ => kU_mk ⟨hw, f, y2, y3, fun c h1 h2 => ?_, fun t' h' => ?_, k2⟩
      · rw [k1 c (by simpa using h1)]; exact ho c h2
      · rw [k1 _ (by simp; omega)]; exact hg t' h'
    | succ u ih =>
      intro t J x1 x2 et ho hg
      have e : Int.toNat (t : Int) = t := by omega
      refine wr_Bases_begin_12 hw ⟨fun w => absurd w (by omega), fun _ => ⟨⟨by omega, by omega⟩, fun J1 k1 => ⟨by unfold cm_i; omega, ?_⟩⟩⟩
      rw [e] at k1
      obtain ⟨f1, g1⟩ := fr_eq_iu k1
      have := ih (t + 1) J1 x1 x2 (by omega) (fun c hc => ?_) (fun t' h' => ?_)
      · exact this
      · rw [f1 c (by simpa using hc t (by omega))]
        exact ho c fun t' h' => hc t' (by omega)
      · by_cases w : t' = t
        · rw [w, g1, ho (73 + 7 * t) fun t' h' => by omega]
        · rw [f1 _ (by simp; omega)]
          exact hg t' (by omega)
  exact Lp 16 0 I _ _ (by omega) (fun _ _ => rfl) fun t' h' => absurd h' (by omega)
end WGR
