/-! THE CLASS: a whole polynomial is read -/
def raP2 (D : Int) (sh : Nat) (B f : Int → Int) (z : cm_Z) (I : cm_I) (a : Nat) (I1 : cm_I) (z1 : cm_Z) : Prop := wz z1 ∧ smV z1 I1 ∧ zg [51, sh + 3, sh + 5] z z1 ∧ zC z1 + smC z ≤ zC z + smC z1 ∧ zS z1 + smS z ≤ zS z + smS z1 ∧ (∀ c, c < zN z → c ≠ 49 → c ≠ 51 → c ≠ sh + 3 → c ≠ sh + 5 → (∀ i : Nat, i < 21 → 248 ≤ z.1 51 2 → c ≠ z.1 51 2 + 1 + i) → I1 c = I c) ∧ a = z1.1 51 2 + 1 ∧ 248 ≤ z1.1 51 2 ∧ mFrom D 16 ≤ z1.2.1 a ∧ raF D B f a I1 ∧ (z1.1 51 2 = z.1 51 2 ∨ zN z ≤ z1.1 51 2)
section WSA
variable {d : Nat} {z : cm_Z} {I : cm_I} {D : Int} {sh : Nat} {B f : Int → Int}
theorem t_readAll2 (hz : wz z) (hS : shOk D sh I) (hV : smV z I) (hr : rdF B f I) (hp : pIn f) (h28 : f 28 = 0) (h29 : f 29 = 0) : zcA (d + 49) m_Sum_readAll [vR 10 51, vR 9 sh] z I 20 (raP2 D sh B f z I) := by
  have hD := shOk_D hS
  have hs := sh_lt hS
  obtain ⟨s1, s2, s3⟩ := m16_bd hD
  have m16 := m16_eq hD
  have L47 : ∀ (J : cm_I) (Z : cm_Z) (q : Nat) (z1' : Option cm_V), smZ D sh q Z → shOk D sh J → (∀ i : Nat, i < 21 → okR (J (q + 1 + i))) → rdF B f J → (∀ I1 z1, smZ D sh q z1 → zf [sh + 3, sh + 5] Z z1 → smF sh q (fun _ => True) J I1 → (∀ i : Nat, i < 21 → okR (I1 (q + 1 + i))) → raF D B f (q + 1) I1 → raP2 D sh B f z I (q + 1) I1 z1) → cw (d + 48) cd_Sum_readAll (kA 20 (raP2 D sh B f z I)) 47 [some (vR 10 51), z1'] [] (J, Z) := by
    intro J Z q z1' hZ sJ oJ rJ hK
    have hq := hZ.2.2.2.1
    refine wr_Sum_readAll_47 hZ.1 fun J1 e1 => ?_
    obtain ⟨f1, g1⟩ := fr_eq_iu e1
    have x1 : J1 51 3 = 18 := by rw [g1]; simp
    rw [x1]
    refine ⟨⟨by omega, by omega⟩, fun J3 e3 => ?_⟩
    obtain ⟨f3, g3⟩ := fr_eq_iu e3
    have x3 : J3 51 3 = 18 := by rw [g3]; simp; exact x1
    rw [x3]
    refine ⟨⟨by omega, by omega⟩, fun J5 e5 J6 e6 => ?_⟩
    obtain ⟨f5, g5⟩ := fr_eq_iu e5
    obtain ⟨f6, g6⟩ := fr_eq_iu e6
    have ff := fr_trans f1 (fr_trans f3 (fr_trans f5 f6))
    have hT : smT D sh q 18 19 20 J6 := by
      refine ⟨shOk_fr sJ (ff _ (by simp; omega)) (ff _ (by simp; omega)) (ff _ (by simp; omega)) (ff _ (by simp; omega)) (ff _ (by simp; omega)), ⟨?_, ?_, ?_, by omega, by omega, by omega, by omega, by omega, by omega, by omega, by omega, by omega⟩, ?_, fun i hi => by rw [ff (q + 1 + i) (by simp; omega)]; exact oJ i hi⟩
      · rw [g6, g5]; simp; exact x3
      · rw [g6, g5, g3]; simp
      · rw [g6, g5]; simp
      · left; rw [g6]; simp
    have h6 : J6 51 6 = 0 := by rw [g6]; simp
    have r6 : rdF B f J6 := rdF_fr rJ (ff 2 (by simp)) (ff 49 (by simp))
    have hI : smI D sh q B f 0 18 19 20 J6 Z := ⟨hZ, hT, r6, hp, by rw [h28, h6], h29⟩
    have lev := t_level (B := B) (sh := sh) (q := q) hD d 9 0 rfl (by decide) f J6 Z 18 19 20 hI
    rw [show d + 3 + 5 * 9 = d + 48 by omega] at lev
    refine zcI_mono lev fun v9 I7 Z8 hQ => ?_
    have kp := pLev_kp (B := B) hD 9 f hp
    have eA : pAll D B f = if (pLev D B 9 f).1 = true ∧ (pLev D B 9 f).2.1 18 ≠ 0 then (false, rBad (pLev D B 9 f).2.1 1, (pLev D B 9 f).2.2) else pLev D B 9 f := rfl
    generalize hG : pLev D B 9 f = R at *
    obtain ⟨b1, b2, b3, ⟨p', o', r', b4, b5⟩, b6⟩ := hQ
    have hZ8 := smZ_zf hZ (shOk_sh hS) b1
    obtain ⟨y1, y2, y3, y4, y5, y6, y7⟩ := id hZ8
    have F7 : smF sh q (fun _ => True) J I7 := smF_trans (smF_51 ff) (smF_mono b2 fun _ _ _ => trivial)
    -- the end
    have at105 : ∀ (J8 : cm_I) (z1' : Option cm_V), smF sh q (fun _ => True) J J8 → (∀ i : Nat, i < 21 → okR (J8 (q + 1 + i))) → (J8 51 6 = 0 ∨ J8 51 6 = 1) → ((pAll D B f).1 = false ∧ J8 49 8 = (pAll D B f).2.1 20 ∧ J8 49 8 ≠ 0) ∨ ((pAll D B f).1 = true ∧ J8 49 8 = 0 ∧ J8 51 6 = (pAll D B f).2.1 28 ∧ ((pAll D B f).2.1 28 = 0 → wRow D (J8 (q + 1)) (pAll D B f).2.2 ∧ vOk D (pAll D B f).2.2)) → cw (d + 48) cd_Sum_readAll (kA 20 (raP2 D sh B f z I)) 105 [some (vR 10 51), z1'] [] (J8, Z8) := by
      intro J8 z1' F8 o8 h68 hh
      refine wr_Sum_readAll_105 y1 y3 (by omega) y5 ?_
      rw [y6, show q + 1 + Int.toNat 0 = q + 1 from rfl]
      rcases hh with ⟨x1, x2, x3⟩ | ⟨x1, x2, x3, x4⟩
      · exact ⟨fun _ => ⟨⟨by omega, by omega⟩, kA_mk (hK J8 Z8 hZ8 b1 F8 o8 (Or.inl ⟨x1, x2, x3⟩))⟩, fun w => absurd w x3⟩
      · refine ⟨fun w => absurd x2 w, fun _ => ⟨fun e0 => ⟨⟨by omega, by omega⟩, kA_mk (hK J8 Z8 hZ8 b1 F8 o8 (Or.inr (Or.inr ⟨x1, by rw [← x3]; exact e0, x2, (x4 (by rw [← x3]; exact e0)).1, (x4 (by rw [← x3]; exact e0)).2⟩)))⟩, fun n0 I3 e3 => ⟨⟨by omega, by omega⟩, kA_mk ?_⟩⟩⟩
        obtain ⟨f3, g3⟩ := fr_eq_iu e3
        exact hK I3 Z8 hZ8 b1 (smF_trans F8 (smF_49 f3)) (fun i hi => by rw [f3 (q + 1 + i) (by simp; omega)]; exact o8 i hi) (Or.inr (Or.inl ⟨x1, by rw [← x3]; exact n0, by rw [g3]; simp⟩))
    rcases b6 with ⟨v1, R1⟩ | ⟨v0, R0, R20⟩
    · obtain ⟨c6, cw_⟩ := b5 v1
      obtain ⟨kp1, kp2, kp3, kp4, kp5, kp6⟩ := kp
      obtain ⟨kq1, kq2, kq3, kq4, kq5⟩ := kp6 R1
      have k5 : I7 49 5 = kd R.2.1 := b3.1.2.2.2.2.1
      have k8 : I7 49 8 = R.2.1 20 := b3.1.2.2.2.2.2.2
      refine ⟨fun w => by omega, fun _ => ⟨y1, fun e0 => ?_, fun n0 => ?_⟩⟩
      · rw [k5] at e0
        have z18 := (kd_0 b3.2.2).mp e0
        have eA' : pAll D B f = R := by rw [eA, if_neg fun w => w.2 z18]
        refine at105 I7 _ F7 b4.2.2.2 b4.2.2.1 (Or.inr ?_)
        rw [eA']
        exact ⟨R1, by rw [k8]; exact kp4.1 R1, c6, fun w => ⟨cw_ w, kq5 w⟩⟩
      · rw [k5] at n0
        have n18 : R.2.1 18 ≠ 0 := fun w => n0 ((kd_0 b3.2.2).mpr w)
        have eA' : pAll D B f = (false, rBad R.2.1 1, R.2.2) := by rw [eA, if_pos ⟨R1, n18⟩]
        refine mI_mono (t_ref (d := d + 47) y1 b3 (by decide) (by decide)) fun v I11 ⟨a, b, c⟩ => ?_
        refine at105 I11 _ (smF_trans F7 (smF_49 b)) (fun i hi => by rw [b (q + 1 + i) (by simp; omega)]; exact b4.2.2.2 i hi) (by rw [b 51 (by simp)]; exact b4.2.2.1) (Or.inl ?_)
        rw [eA']
        have k8' : I11 49 8 = rBad R.2.1 1 20 := c.1.2.2.2.2.2.2
        refine ⟨rfl, k8', ?_⟩
        rw [k8']
        have ro := kp1
        unfold rOk at ro
        unfold rBad
        rw [if_pos rfl, if_pos (kp4.1 R1)]
        omega
    · have eA' : pAll D B f = R := by rw [eA, if_neg fun w => Bool.false_ne_true (R0.symm.trans w.1)]
      have k8 : I7 49 8 = R.2.1 20 := b3.1.2.2.2.2.2.2
      refine ⟨fun _ => at105 I7 _ F7 b4.2.2.2 b4.2.2.1 (Or.inl ?_), fun w => absurd v0 w⟩
      rw [eA']
      exact ⟨R0, k8, by rw [k8]; exact R20⟩
  refine wr_Sum_readAll hz (shOk_sh hS) fun Z1 e1 => ?_
  obtain ⟨f1, g1⟩ := zf_zr e1
  have z52 : Z1.1 51 2 = z.1 51 2 := by
    rw [e1, zr_at, if_neg (by decide)]
  have z50 : Z1.1 51 0 = z.1 51 0 := by
    rw [e1, zr_at, if_neg (by decide)]
  have zn : ∀ a, a ≠ 51 → Z1.1 a = z.1 a := fun a ha => f1.1 a (by simpa using ha)
  have zl : Z1.2 = z.2 := f1.2
  have wz1 : wz Z1 := wz_zg51 hz (fun a _ h => zn a h) z50 (fun a _ => by rw [zl]) (by rw [zN, zN, zl]; exact Nat.le_refl _)
  have zN1 : zN Z1 = zN z := by rw [zN, zN, zl]
  have n248 : 248 ≤ zN z := hz.2.2.2.2.2
  -- new rows
  have alloc : (z.1 51 2 = 52 ∨ (248 ≤ z.1 51 2 ∧ z.2.1 (z.1 51 2 + 1) < mFrom D 16 ∧ (z.2.1 (z.1 51 2 + 1) = 136 ∨ z.2.1 (z.1 51 2 + 1) = 816))) → ∀ (I5 : cm_I) (Z6 : cm_Z), (I5, Z6) = nwM (I, Z1) 21 (mFrom D 16) → ∀ Z7 : cm_Z, Z7 = zr Z6 51 2 (zN Z1) → ∀ z1' : Option cm_V, cw (d + 48) cd_Sum_readAll (kA 20 (raP2 D sh B f z I)) 47 [some (vR 10 51), z1'] [] (I5, Z7) := by
    intro hold I5 Z6 e6 Z7 e7 z1'
    obtain ⟨m1, m2, m3, m4, m5, m6, m7, m8, m9, m10⟩ := nwM_spec s1 e6
    rw [zN1] at m1 m2 m3 m4 m5 m6 m7 m8
    obtain ⟨f7, g7⟩ := zf_zr e7
    rw [zN1] at g7
    have l7 : Z7.2 = Z6.2 := f7.2
    have r51 : ∀ j : Int, j ≠ 2 → Z7.1 51 j = Z1.1 51 j := fun j hj => by
      rw [e7, zr_at, if_neg hj, m3 51 (by omega)]
    have r7 : ∀ a, a < zN z → a ≠ 51 → Z7.1 a = z.1 a := fun a ha hn => by rw [f7.1 a (by simpa using hn), m3 a ha, zn a hn]
    have wz7 : wz Z7 := wz_zg51 hz (fun a ha hn => r7 a (by omega) hn) (by rw [r51 0 (by decide), z50]) (fun a ha => by rw [l7, m5 a (by omega), zl]) (by rw [zN, zN, l7]; show zN z ≤ zN Z6; omega)
    have hZ7 : smZ D sh (zN z) Z7 := by
      refine ⟨wz7, by rw [r51 1 (by decide)]; exact g1, g7, n248, fun i hi => ?_, by rw [l7]; exact m6, fun i hi => by rw [l7, m7 i hi]; omega⟩
      rw [l7, m6] at hi
      have := m4 i.toNat (by omega)
      rw [show ((i.toNat : Nat) : Int) = i by omega] at this
      rw [f7.1 (zN z) (by simp; omega), this]
    have sI5 : shOk D sh I5 := shOk_fr hS (m1 _ (by omega)) (m1 _ (by omega)) (m1 _ (by omega)) (m1 _ (by omega)) (m1 _ (by omega))
    have ok0 : okR (fun _ : Int => (0 : Int)) := fun k => ⟨Int.le_refl 0, by show (0 : Int) < 2521; decide⟩
    refine L47 I5 Z7 (zN z) z1' hZ7 sI5 (fun i hi => by rw [m2 _ (by omega) (by omega)]; exact ok0) (rdF_fr hr (m1 2 (by omega)) (m1 49 (by omega))) fun I1 z1 hZ1 hzf hF ok hraF => ?_
    have t2 : z1.1 51 2 = zN z := hZ1.2.2.1
    have lz1 : z1.2 = Z6.2 := by rw [hzf.2, l7]
    have ln1 : z1.2.1 (zN z + 1) = mFrom D 16 := by rw [lz1]; exact m7 0 (by decide)
    have c1 : zC z1 = zC z + 22 := by
      show z1.2.2.2.2.1 = _
      rw [lz1]
      show zC Z6 = _
      rw [m9]
      show Z1.2.2.2.2.1 + 22 = _
      rw [zl]
    have c2 : zS z1 = zS z + 21 + 21 * (mFrom D 16).toNat := by
      show z1.2.2.2.2.2 = _
      rw [lz1]
      show zS Z6 = _
      rw [m10]
      show Z1.2.2.2.2.2 + 21 + _ = _
      rw [zl]
    have d1 : zN z1 = zN z + 22 := by
      show z1.2.2.2.1 = _
      rw [lz1]
      exact m8
    have smC1 : smC z1 = if mFrom D 16 = 136 then 22 else 44 := by
      unfold smC
      rw [t2, if_neg (by omega), ln1]
    have smS1 : smS z1 = if mFrom D 16 = 136 then 2877 else 20034 := by
      unfold smS
      rw [t2, if_neg (by omega), ln1]
    refine ⟨hZ1.1, Or.inr ?_, ⟨fun a ha hl => ?_, fun a ha => ?_, by omega⟩, ?_, ?_, fun c hc n1 n2 n3 n4 _ => ?_, by rw [t2], by rw [t2]; exact n248, by rw [ln1]; exact Int.le_refl _, hraF, Or.inr (by rw [t2]; exact Nat.le_refl _)⟩
    · rw [t2]
      exact ⟨n248, by omega, hZ1.2.2.2.2.1, hZ1.2.2.2.2.2.1, ⟨mFrom D 16, by omega, fun i hi => by rw [lz1]; exact m7 i hi⟩, ok⟩
    · simp only [List.mem_cons, List.not_mem_nil, or_false, not_or] at hl
      rw [hzf.1 a (by simp; omega), r7 a ha hl.1]
    · rw [lz1, m5 a ha, zl]
    · rw [smC1, c1]
      rcases hold with h | ⟨h1, h2, h3⟩
      · have : smC z = 0 := by unfold smC; rw [if_pos h]
        rw [this]; split <;> omega
      · have : smC z = 22 := by
          unfold smC
          rw [if_neg (by omega), if_pos (by omega)]
        rw [this, if_neg (by omega)]; omega
    · rw [smS1, c2]
      rcases hold with h | ⟨h1, h2, h3⟩
      · have : smS z = 0 := by unfold smS; rw [if_pos h]
        rw [this]; split <;> omega
      · have : smS z = 2877 := by
          unfold smS
          rw [if_neg (by omega), if_pos (by omega)]
        rw [this, if_neg (by omega)]; omega
    · rw [hF c n1 n2 n3 n4 (fun i hi _ => by omega), m1 c hc]
  rw [z52, hS.2.2.1]
  rcases hV with ⟨v1, v2⟩ | ⟨v1, v2, v3, v4, ⟨len, v5, v6⟩, v7⟩
  · rw [v1, zl, v2]
    exact ⟨by decide, fun _ => ⟨g1, ⟨by decide, by decide, by omega, by omega⟩, fun I5 Z6 e6 Z7 e7 => alloc (Or.inl v1) I5 Z6 e6 Z7 e7 _⟩, fun w => absurd rfl w⟩
  · have r0 : Z1.1 (z.1 51 2) 0 = z.1 51 2 + 1 := by
      rw [zn _ (by omega)]
      have := v3 0 ⟨Int.le_refl 0, by rw [v4]; decide⟩
      rw [this]; rfl
    have l0 := v6 0 (by decide)
    rw [Nat.add_zero] at l0
    rw [zl, v4, r0, l0]
    refine ⟨by omega, fun w => absurd w (by decide), fun _ => ⟨⟨by decide, by decide⟩, by omega, g1, fun le => ?_, fun lt => ⟨⟨by decide, by decide, by omega, by omega⟩, fun I5 Z6 e6 Z7 e7 => alloc (Or.inr ⟨v1, by omega, by omega⟩) I5 Z6 e6 Z7 e7 _⟩⟩⟩
    have hZ1 : smZ D sh (z.1 51 2) Z1 := by
      refine ⟨wz1, g1, z52, v1, ?_, by rw [zl]; exact v4, fun i hi => by rw [zl, v6 i hi]; omega⟩
      unfold isRws
      rw [zn _ (by omega), zl]
      exact v3
    refine L47 I Z1 (z.1 51 2) _ hZ1 hS v7 hr fun I1 z1 hZ1 hzf hF ok hraF => ?_
    have t2 : z1.1 51 2 = z.1 51 2 := hZ1.2.2.1
    have lz1 : z1.2 = z.2 := by rw [hzf.2, zl]
    refine ⟨hZ1.1, Or.inr ?_, ⟨fun a ha hl => ?_, fun a ha => by rw [lz1], by rw [zN, zN, lz1]; exact Nat.le_refl _⟩, ?_, ?_, fun c hc n1 n2 n3 n4 n5 => hF c n1 n2 n3 n4 fun i hi _ => n5 i hi v1, by rw [t2], by rw [t2]; exact v1, ?_, hraF, Or.inl t2⟩
    · rw [t2]
      exact ⟨v1, by rw [zN, lz1]; exact v2, hZ1.2.2.2.2.1, hZ1.2.2.2.2.2.1, ⟨len, v5, fun i hi => by rw [lz1]; exact v6 i hi⟩, ok⟩
    · simp only [List.mem_cons, List.not_mem_nil, or_false, not_or] at hl
      rw [hzf.1 a (by simp; omega), zn a hl.1]
    · unfold smC
      rw [t2, lz1]
      show z1.2.2.2.2.1 + _ ≤ _
      rw [lz1]
      exact Nat.le_refl _
    · unfold smS
      rw [t2, lz1]
      show z1.2.2.2.2.2 + _ ≤ _
      rw [lz1]
      exact Nat.le_refl _
    · rw [lz1, l0]; exact le
end WSA
