/-! Bases.build: the sum over the members of a monomial, moved -/
theorem mvE_keep {D : Int} {sh mb : Nat} {T : Nat → cMat} {nt n : Nat} {L : Nat → cMat} {z z1 : cm_Z} {I I1 : cm_I} (h : mvE D sh mb T nt n L z I) (hz : wz z1) (e1 : z1.1 1 = z.1 1) (e2 : z1.1 53 = z.1 53) (hf : ∀ c, 11 ≤ c → c ≤ 47 → I1 c = I c) (hO : mvO I1) : mvE D sh mb T nt n L z1 I1 := by
  obtain ⟨a1, a2, a3, a4, a5, a6, a7, a8, a9, a10, a11⟩ := h
  have hs : sh = 11 ∨ sh = 20 := shOk_sh a2
  have hm : mb = 29 ∨ mb = 39 := a7
  refine ⟨hz, shOk_fr a2 (hf _ (by omega) (by omega)) (hf _ (by omega) (by omega)) (hf _ (by omega) (by omega)) (hf _ (by omega) (by omega)) (hf _ (by omega) (by omega)), by rw [e1]; exact a3, by rw [e1]; exact a4, by rw [e2]; exact a5, by rw [e2]; exact a6, a7, mbOk_fr a8 fun c c0 c1 => hf c (by omega) (by omega), a9, a10, hO⟩
def bsl : List Nat := [53, 54, 55, 56, 57, 58, 59, 60, 70]
def bsJ (D : Int) (L : Nat → cMat) (t i g : Nat) (I J : cm_I) : Prop := fr bsl I J ∧ mvO J ∧ ∀ o : Nat, o < (mMany D t).toNat → 0 ≤ J 70 (o : Int) ∧ J 70 (o : Int) ≤ 2520 * g ∧ toF (J 70 (o : Int)) = gs g fun g' => imgM D (L g') t i o
theorem mMany_136 {D : Int} (hD : D = 2 ∨ D = 3) {t : Nat} (h : t ≤ 15) : 0 ≤ mMany D (t : Int) ∧ mMany D (t : Int) ≤ 136 := by
  have k2 : ∀ t : Nat, t < 16 → 0 ≤ mMany 2 (t : Int) ∧ mMany 2 (t : Int) ≤ 136 := by decide
  have k3 : ∀ t : Nat, t < 16 → 0 ≤ mMany 3 (t : Int) ∧ mMany 3 (t : Int) ≤ 136 := by decide
  rcases hD with e | e <;> rw [e]
  · exact k2 t (by omega)
  · exact k3 t (by omega)
section WBS
variable {d : Nat} {z : cm_Z} {I : cm_I} {D : Int} {sh mb : Nat} {T : Nat → cMat} {nt n : Nat} {L : Nat → cMat}
theorem mvL_one {A : cMat} {t i : Nat} {F : Int → Int} (hi : i < (fF D (t + 1)).toNat) (h : ∀ p : Nat, p < (fF D (t + 1)).toNat → F (p : Int) = if p = i then 1 else 0) (o : Nat) : mvL D A t F (o : Int) = imgM D A t i o := by
  unfold mvL
  rw [gs_one (k := i) hi fun j hj ne => by rw [h j hj, if_neg ne]; exact gs_z1 _, h i hi, if_pos rfl]
  exact gs_z2 _
theorem t_bsum (hE : mvE D sh mb T nt n L z I) (y3 : z.1 66 3 = mb) (y71 : z.1 71 0 = 69) {t i : Nat} (t15 : t ≤ 15) (hi : i < (mMany D t).toNat) (e1 : I 71 1 = 0) (e2 : I 71 2 = (t : Int)) (e69 : ∀ p : Int, 0 ≤ p → p < 136 → I 69 p = if p = (i : Int) then 1 else 0) (e70 : ∀ p : Int, 0 ≤ p → p < 136 → I 70 p = 0) {Q : cm_Q} {a1 : Nat} {z2 : Option cm_V} {x3 : Int} (K : ∀ J, bsJ D L t i n I J → ∀ I2, I2 = iu J 69 (i : Int) 0 → mU (d + 6) m_Echelon_insert [vR 1 63, vR 20 70] z I2 fun I3 => cw (d + 6) cd_Bases_build Q 68 [some (vR 0 66), some (vR 2 a1), z2, some (vI x3), some (vI ((i : Int) + 1)), some (vI (n : Int))] [] (I3, z)) : cw (d + 6) cd_Bases_build Q 107 [some (vR 0 66), some (vR 2 a1), z2, some (vI x3), some (vI (i : Int)), some (vI 0)] [] (I, z) := by
  obtain ⟨hz, hS, c3, c4, y0, y1, pm, hM, hdet, hisM, hO⟩ := id hE
  obtain ⟨hD, b2, b3, b4, b5, b6, G, b8, Gr, n48, en, b9⟩ := id hM
  have hs : sh = 11 ∨ sh = 20 := shOk_sh hS
  have hm : mb = 29 ∨ mb = 39 := pm
  have fb := from_bds hD (t := (t : Int)) (by omega) (by omega)
  have mn := fF_many D (t : Int)
  have m136 : 0 ≤ mMany D (t : Int) ∧ mMany D (t : Int) ≤ 136 := mMany_136 hD t15
  have l69 : z.2.1 69 = 136 := wz_L hz 69 136 rfl (by decide)
  have l70 : z.2.1 70 = 136 := wz_L hz 70 136 rfl (by decide)
  have n8 : (70 : Nat) ∉ mvN8 sh := by rcases hs with e | e <;> rw [e] <;> decide
  have Lp : ∀ (u g : Nat) (J : cm_I), g + u = n → bsJ D L t i g I J → cw (d + 6) cd_Bases_build Q 107 [some (vR 0 66), some (vR 2 a1), z2, some (vI x3), some (vI (i : Int)), some (vI (g : Int))] [] (J, z) := by
    intro u
    induction u with
    | zero =>
      intro g J eg hJ
      have e : g = n := by omega
      rw [e] at hJ ⊢
      have fm : J mb = I mb := hJ.1 mb (by rcases hm with e | e <;> rw [e] <;> decide)
      refine wr_Bases_build_107 hz y3 pm ⟨fun _ => ⟨⟨by omega, by omega⟩, fun I2 h2 => mU_mono (K J hJ I2 h2) fun I3 h3 => ⟨by unfold cm_i; omega, h3⟩⟩, fun w => ?_⟩
      rw [fm, en] at w
      omega
    | succ u ih =>
      intro g J eg hJ
      have gn : g < n := by omega
      obtain ⟨j1, j2, j3⟩ := id hJ
      have keep : ∀ c, 11 ≤ c → c ≤ 47 → J c = I c := fun c h1 h2 => j1 c (by simp [bsl]; omega)
      have hE1 := mvE_keep hE hz rfl rfl keep j2
      obtain ⟨_, hS1, _, _, _, _, _, hM1, _, _, _⟩ := id hE1
      obtain ⟨_, _, _, _, b5', b6', _⟩ := hM1
      have fm : J mb = I mb := keep mb (by omega) (by omega)
      refine wr_Bases_build_107 hz y3 pm ⟨fun w => by rw [fm, en] at w; omega, fun _ => ?_⟩
      refine mU_mono (t_use (d := d + 5) hz hS1 y0 y1 pm b6' (by omega) (by omega) (b5' g gn) (mDet_mem G hdet gn) j2) fun I5 ⟨p1, p2, p3⟩ => ?_
      have k5 : fr bsl I I5 := fr_trans j1 (fr_mono p1 (by simp [bsl]))
      have hS5 : shOk D sh I5 := shOk_fr hS (k5 _ (by simp [bsl]; omega)) (k5 _ (by simp [bsl]; omega)) (k5 _ (by simp [bsl]; omega)) (k5 _ (by simp [bsl]; omega)) (k5 _ (by simp [bsl]; omega))
      have e71 : I5 71 = I 71 := k5 71 (by decide)
      have e69' : I5 69 = I 69 := k5 69 (by decide)
      have e70' : I5 70 = J 70 := p1 70 (by decide)
      have d69 : ∀ p : Int, 0 ≤ p → p < fF D ((t : Int) + 1) → I5 69 (0 + p) = if p = (i : Int) then 1 else 0 := fun p h0 h1 => by
        rw [Int.zero_add, e69']; exact e69 p h0 (by omega)
      refine mU_mono (t_addMoved (d := d) hz hS5 y0 p3 (a1 := 71) (a2 := 70) (q := 69) (by decide) (by decide) y71 (by decide) (by decide) (by decide) n8 (xf := 0) (x := 0) (t := (t : Int)) (by rw [e71]; exact e1) (by rw [e71]; exact e2) (by omega) (by omega) (by omega) (by rw [l69]; omega) (fun p h0 h1 => by rw [d69 p h0 h1]; split <;> omega) (by omega) (by rw [l70]; omega) (fun k h0 h1 => ?_)) fun I6 ⟨q1, q2, q3, q4, q5⟩ => ⟨by unfold cm_i; omega, ?_⟩
      · obtain ⟨o, eo⟩ : ∃ o : Nat, (o : Int) = k := ⟨k.toNat, by omega⟩
        rw [e70', ← eo]
        have := j3 o (by omega)
        omega
      · have := ih (g + 1) I6 (by omega) ⟨fr_trans k5 (fr_mono q1 (by simp [bsl])), mvR_O q3, fun o ho => ?_⟩
        · exact this
        · have v := q4 (o : Int) (by omega) (by omega)
          rw [Int.zero_add, e70', mvL_one (i := i) (by omega) (fun p hp => by
            have := d69 (p : Int) (by omega) (by omega)
            rw [this]
            by_cases w : p = i
            · rw [if_pos w, if_pos (by omega)]
            · rw [if_neg w, if_neg (by omega)]) o] at v
          obtain ⟨r1, r2, r3⟩ := j3 o ho
          have fb := fi_bd (imgM D (L g) t i o)
          rw [v]
          refine ⟨by omega, by omega, ?_⟩
          rw [toF_add, r3, toF_fi]
          rfl
  have := Lp n 0 I (by omega) ⟨fr_refl _ _, hO, fun o ho => by
    rw [e70 o (by omega) (by omega)]
    exact ⟨by omega, by omega, rfl⟩⟩
  exact this
end WBS
