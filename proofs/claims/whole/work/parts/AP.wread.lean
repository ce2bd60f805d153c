/-! THE CLASS: tokens -/
abbrev isSg (c : Int) : Prop := c = 40 ∨ c = 41 ∨ c = 42 ∨ c = 43 ∨ c = 45 ∨ c = 47 ∨ c = 59 ∨ c = 94 ∨ c = 120 ∨ c = 121 ∨ c = 122
/-- the class's kind of a token -/
def kd (f : Int → Int) : Int := if f 18 = 0 then 0 else if f 18 = 1 then 2 else if isSg (f 19) then f 19 else 1
def tpR (B : Int → Int) (J : cm_I) : Prop := ∀ k, 0 ≤ k → k < 400 → J 2 k = B k ∧ -128 ≤ B k ∧ B k ≤ 127
/-- the class's reader stands as the reference's -/
def rdR (B f : Int → Int) (J : cm_I) : Prop := tpR B J ∧ J 49 2 = f 15 ∧ J 49 3 = f 17 ∧ J 49 4 = f 16 ∧ J 49 5 = kd f ∧ (f 18 = 1 → J 49 6 = f 19 ∧ J 49 7 = f 17 - f 16) ∧ J 49 8 = f 20
theorem rdR_fr {B f : Int → Int} {J J1 : cm_I} (h : rdR B f J) (e2 : J1 2 = J 2) (e49 : J1 49 = J 49) : rdR B f J1 := by
  unfold rdR tpR
  rw [e2, e49]
  exact h
theorem rdR_st {B f g : Int → Int} {J : cm_I} (h : rdR B f J) (e : ∀ s, 15 ≤ s → s ≤ 20 → g s = f s) : rdR B g J := by
  unfold rdR kd
  rw [e 15 (by decide) (by decide), e 16 (by decide) (by decide), e 17 (by decide) (by decide), e 18 (by decide) (by decide), e 19 (by decide) (by decide), e 20 (by decide) (by decide)]
  exact h
theorem kd_sg {f : Int → Int} (h18 : f 18 = 0 ∨ f 18 = 1 ∨ f 18 = 2) {c : Int} (hc : isSg c) : kd f = c ↔ (f 18 = 2 ∧ f 19 = c) := by
  unfold kd
  rcases h18 with e | e | e <;> rw [e]
  · rw [if_pos rfl]; constructor
    · intro h; omega
    · intro h; omega
  · rw [if_neg (by decide), if_pos rfl]; constructor
    · intro h; omega
    · intro h; omega
  · rw [if_neg (by decide), if_neg (by decide)]
    by_cases q : isSg (f 19)
    · rw [if_pos q]; constructor
      · intro h; exact ⟨rfl, h⟩
      · intro h; exact h.2
    · rw [if_neg q]; constructor
      · intro h; omega
      · intro h; exact absurd (by rw [h.2]; exact hc) q
theorem kd_0 {f : Int → Int} (h18 : f 18 = 0 ∨ f 18 = 1 ∨ f 18 = 2) : kd f = 0 ↔ f 18 = 0 := by
  unfold kd
  rcases h18 with e | e | e <;> rw [e]
  · rw [if_pos rfl]
  · rw [if_neg (by decide), if_pos rfl]; omega
  · rw [if_neg (by decide), if_neg (by decide)]
    by_cases q : isSg (f 19)
    · rw [if_pos q]; omega
    · rw [if_neg q]; omega
theorem kd_2 {f : Int → Int} (h18 : f 18 = 0 ∨ f 18 = 1 ∨ f 18 = 2) : kd f = 2 ↔ f 18 = 1 := by
  unfold kd
  rcases h18 with e | e | e <;> rw [e]
  · rw [if_pos rfl]; omega
  · rw [if_neg (by decide), if_pos rfl]; simp
  · rw [if_neg (by decide), if_neg (by decide)]
    by_cases q : isSg (f 19)
    · rw [if_pos q]; omega
    · rw [if_neg q]; omega
section WRD
variable {d : Nat} {z : cm_Z} {I : cm_I} {B f : Int → Int}
theorem t_isDigit (hz : wz z) (x : Int) : mI (d + 1) m_Reader_isDigit [vI x] z I fun r I1 => I1 = I ∧ (r = 0 ∨ r = 1) ∧ (r = 0 ↔ ¬ (48 ≤ x ∧ x ≤ 57)) :=
  wr_Reader_isDigit hz ⟨fun q => qI_mk ⟨rfl, Or.inl rfl, by omega⟩, fun q => ⟨fun q2 => qI_mk ⟨rfl, Or.inl rfl, by omega⟩, fun q2 => qI_mk ⟨rfl, Or.inr rfl, by omega⟩⟩⟩
theorem t_isSign (hz : wz z) (x : Int) : mI (d + 1) m_Reader_isSign [vI x] z I fun r I1 => I1 = I ∧ (r = 0 ∨ r = 1) ∧ (r = 0 ↔ ¬ isSg x) := by
  have y : isSg x → qI z (fun r I1 => I1 = I ∧ (r = 0 ∨ r = 1) ∧ (r = 0 ↔ ¬ isSg x)) (some (vI 1)) (I, z) := fun h => qI_mk ⟨rfl, Or.inr rfl, ⟨fun q => absurd q (by decide), fun q => absurd h q⟩⟩
  exact wr_Reader_isSign hz ⟨fun q => y (by omega), fun n1 => ⟨fun q => y (by omega), fun n2 => ⟨fun q => y (by omega), fun n3 => ⟨fun q => y (by omega), fun n4 => ⟨fun q => y (by omega), fun n5 => ⟨fun q => y (by omega), fun n6 => ⟨fun q => y (by omega), fun n7 => ⟨fun q => y (by omega), fun n8 => ⟨fun q => y (by omega), fun n9 => ⟨fun q => y (by omega), fun n10 => ⟨fun q => y (by omega), fun n11 => qI_mk ⟨rfl, Or.inl rfl, by omega⟩⟩⟩⟩⟩⟩⟩⟩⟩⟩⟩⟩
theorem t_takeDigits (hz : wz z) (hB : tpR B I) {s sz : Int} (s0 : 0 ≤ s) (s1 : s ≤ sz) (s2 : sz ≤ 400) (e2 : I 49 2 = sz) (e3 : I 49 3 = s) : mU (d + 2) m_Reader_takeDigits [vR 7 49] z I fun I1 => fr [49] I I1 ∧ I1 49 2 = sz ∧ I1 49 3 = tDg B sz s ∧ I1 49 4 = I 49 4 ∧ I1 49 5 = 2 ∧ I1 49 6 = tV B s (tDg B sz s - s).toNat ∧ I1 49 7 = tDg B sz s - s ∧ I1 49 8 = I 49 8 := by
  have L : ∀ (n m : Nat) (J : cm_I), s + m + n = sz → fr [49] I J → J 49 2 = sz → J 49 3 = s + m → J 49 4 = I 49 4 → J 49 5 = 2 → J 49 6 = tV B s m → J 49 7 = m → J 49 8 = I 49 8 → (∀ i : Nat, i < m → 48 ≤ B (s + i) % 256 ∧ B (s + i) % 256 ≤ 57) → tDgF B n (s + m) = tDg B sz s → cw (d + 1) cd_Reader_takeDigits (qU z fun I1 => fr [49] I I1 ∧ I1 49 2 = sz ∧ I1 49 3 = tDg B sz s ∧ I1 49 4 = I 49 4 ∧ I1 49 5 = 2 ∧ I1 49 6 = tV B s (tDg B sz s - s).toNat ∧ I1 49 7 = tDg B sz s - s ∧ I1 49 8 = I 49 8) 15 [some (vR 7 49)] [] (J, z) := by
    intro n
    induction n with
    | zero =>
      intro m J en hf a2 a3 a4 a5 a6 a7 a8 dg et
      have et' : s + m = tDg B sz s := et
      refine wr_Reader_takeDigits_15 hz ?_
      rw [a2, a3]
      exact ⟨fun _ => qU_mk ⟨hf, a2, by rw [a3, et'], a4, a5, by rw [a6, ← et', show (s + (m : Int) - s).toNat = m by omega], by rw [a7]; omega, a8⟩, fun q => by omega⟩
    | succ n ih =>
      intro m J en hf a2 a3 a4 a5 a6 a7 a8 dg et
      have tb := hB (s + m) (by omega) (by omega)
      have tvb := tV_bd B s m dg
      refine wr_Reader_takeDigits_15 hz ?_
      rw [a2, a3, hf 2 (by decide), tb.1]
      refine ⟨fun q => by omega, fun _ => ⟨⟨by omega, by omega⟩, mI_mono (t_isDigit hz _) fun v3 I2 ⟨e1, w1, w2⟩ => ?_⟩⟩
      subst e1
      rw [tDgF] at et
      refine ⟨fun q => ?_, fun q => ?_⟩
      · have nd := w2.mp q
        rw [if_neg (by omega)] at et
        exact qU_mk ⟨hf, a2, by rw [a3, et], a4, a5, by rw [a6, ← et, show (s + (m : Int) - s).toNat = m by omega], by rw [a7]; omega, a8⟩
      · have id : 48 ≤ B (s + m) ∧ B (s + m) ≤ 57 := by
          apply Classical.byContradiction
          intro h
          exact q (w2.mpr h)
        rw [if_pos (by omega)] at et
        have go : ∀ J8 : cm_I, fr [49] I J8 → J8 49 2 = sz → J8 49 3 = s + m → J8 49 4 = I 49 4 → J8 49 5 = 2 → J8 49 6 = tV B s (m + 1) → J8 49 7 = m → J8 49 8 = I 49 8 → cw (d + 1) cd_Reader_takeDigits (qU z fun I1 => fr [49] I I1 ∧ I1 49 2 = sz ∧ I1 49 3 = tDg B sz s ∧ I1 49 4 = I 49 4 ∧ I1 49 5 = 2 ∧ I1 49 6 = tV B s (tDg B sz s - s).toNat ∧ I1 49 7 = tDg B sz s - s ∧ I1 49 8 = I 49 8) 73 [some (vR 7 49)] [] (J8, z) := by
          intro J8 hf8 b2 b3 b4 b5 b6 b7 b8
          refine wr_Reader_takeDigits_73 hz ?_
          rw [b7]
          refine ⟨⟨by omega, by omega⟩, fun J2 e2 => ?_⟩
          obtain ⟨f2, g2⟩ := fr_eq_iu e2
          have c3 : J2 49 3 = s + m := by rw [g2]; simp; exact b3
          rw [c3]
          refine ⟨⟨by omega, by omega⟩, fun J4 e4 => ?_⟩
          obtain ⟨f4, g4⟩ := fr_eq_iu e4
          refine ih (m + 1) J4 (by omega) (fr_trans hf8 (fr_trans f2 f4)) (by rw [g4, g2]; simp; exact b2) (by rw [g4]; simp; omega) (by rw [g4, g2]; simp; exact b4) (by rw [g4, g2]; simp; exact b5) (by rw [g4, g2]; simp; exact b6) (by rw [g4, g2]; simp) (by rw [g4, g2]; simp; exact b8) (fun i hi => ?_) ?_
          · by_cases w : i = m
            · rw [w]; omega
            · exact dg i (by omega)
          · rw [show s + ((m + 1 : Nat) : Int) = s + m + 1 by omega]; exact et
        rw [a7, a6, a3, hf 2 (by decide), tb.1]
        refine ⟨fun q4 => go I2 hf a2 a3 a4 a5 ?_ a7 a8, fun q4 => ⟨⟨by omega, by omega⟩, ⟨by omega, by omega⟩, ⟨by omega, by omega⟩, ⟨by omega, by omega⟩, fun J8 e8 => ?_⟩⟩
        · rw [a6]
          show _ = if m < 4 then _ else _
          rw [if_neg (by omega)]
        · obtain ⟨f8, g8⟩ := fr_eq_iu e8
          refine go J8 (fr_trans hf f8) (by rw [g8]; simp; exact a2) (by rw [g8]; simp; exact a3) (by rw [g8]; simp; exact a4) (by rw [g8]; simp; exact a5) ?_ (by rw [g8]; simp; exact a7) (by rw [g8]; simp; exact a8)
          rw [g8]
          show (if (6 : Int) = 6 then _ else _) = if m < 4 then 10 * tV B s m + B (s + m) % 256 - 48 else _
          rw [if_pos rfl, if_pos (by omega)]
          omega
  refine wr_Reader_takeDigits hz fun J1 e1 J2 e2_ J3 e3_ => ?_
  obtain ⟨f1, g1⟩ := fr_eq_iu e1
  obtain ⟨f2, g2⟩ := fr_eq_iu e2_
  obtain ⟨f3, g3⟩ := fr_eq_iu e3_
  refine L (sz - s).toNat 0 J3 (by omega) (fr_trans f1 (fr_trans f2 f3)) (by rw [g3, g2, g1]; simp; exact e2) (by rw [g3, g2, g1]; simp; exact e3) (by rw [g3, g2, g1]; simp) (by rw [g3, g2, g1]; simp) (by rw [g3, g2]; simp; rfl) (by rw [g3]; simp) (by rw [g3, g2, g1]; simp) (fun i hi => absurd hi (Nat.not_lt_zero i)) ?_
  rw [show s + ((0 : Nat) : Int) = s by omega]
  rfl
theorem t_advance0 (hz : wz z) (tp : tpR B I) (r2 : I 49 2 = f 15) (r3 : I 49 3 = f 17) (r8 : I 49 8 = f 20) (h0 : 0 ≤ f 17) (h1 : f 17 ≤ f 15) (h2 : f 15 ≤ 400) : mU (d + 3) m_Reader_advance [vR 7 49] z I fun I1 => fr [49] I I1 ∧ rdR B (tok f B) I1 := by
  have L52 : ∀ (J : cm_I) (s : Int), s = tSk B (f 15) (f 17) → 0 ≤ s → s ≤ f 15 → fr [49] I J → J 49 2 = f 15 → J 49 3 = s → J 49 8 = f 20 → cw (d + 2) cd_Reader_advance (qU z fun I1 => fr [49] I I1 ∧ rdR B (tok f B) I1) 52 [some (vR 7 49)] [] (J, z) := by
    intro J s es s0 s1 hf a2 a3 a8
    refine wr_Reader_advance_52 hz fun J1 e1 => ?_
    obtain ⟨f1, g1⟩ := fr_eq_iu e1
    rw [a3] at g1
    have b2 : J1 49 2 = f 15 := by rw [g1]; simp; exact a2
    have b3 : J1 49 3 = s := by rw [g1]; simp; exact a3
    have b4 : J1 49 4 = s := by rw [g1]; simp
    have b8 : J1 49 8 = f 20 := by rw [g1]; simp; exact a8
    have hf1 : fr [49] I J1 := fr_trans hf f1
    have tp1 : ∀ {J : cm_I}, fr [49] I J → tpR B J := fun h => by unfold tpR; rw [h 2 (by decide)]; exact tp
    rw [b2, b3]
    refine ⟨fun q => ⟨⟨by omega, by omega⟩, ?_⟩, fun q J16 e16 => qU_mk ?_⟩
    · have tb := tp s s0 (by omega)
      rw [hf1 2 (by decide), tb.1]
      refine mI_mono (t_isDigit hz _) fun v4 I3 ⟨e3, w1, w2⟩ => ?_
      subst e3
      refine ⟨fun q0 => ?_, fun q0 => ?_⟩
      · have nd := w2.mp q0
        have tk : tok f B = gst f s (s + 1) 2 (B s % 256) := by
          unfold tok
          rw [← es, if_neg (by omega), if_neg (by omega)]
        rw [b3, hf1 2 (by decide), tb.1]
        refine ⟨⟨by omega, by omega⟩, mI_mono (t_isSign hz _) fun v7 I6 ⟨e6, x1, x2⟩ => ?_⟩
        subst e6
        have fin : ∀ (J8 J10 : cm_I) (v : Int), J8 = iu I6 49 5 v → J10 = iu J8 49 3 (s + 1) → v = (if isSg (B s % 256) then B s % 256 else 1) → fr [49] I J10 ∧ rdR B (tok f B) J10 := by
          intro J8 J10 v e8 e10 ev
          obtain ⟨f8, g8⟩ := fr_eq_iu e8
          obtain ⟨f10, g10⟩ := fr_eq_iu e10
          have ff10 := fr_trans hf1 (fr_trans f8 f10)
          obtain ⟨t16, t17, t18, t19, tr⟩ := gst_at f s (s + 1) 2 (B s % 256)
          refine ⟨ff10, ?_⟩
          rw [tk]
          refine ⟨tp1 ff10, ?_, ?_, ?_, ?_, fun w => ?_, ?_⟩
          · rw [tr 15 (by decide), g10, g8]; simp; exact b2
          · rw [t17, g10]; simp
          · rw [t16, g10, g8]; simp; exact b4
          · unfold kd
            rw [t18, t19, g10, g8, if_neg (by decide), if_neg (by decide), ← ev]
            simp
          · rw [t18] at w; omega
          · rw [tr 20 (by decide), g10, g8]; simp; exact b8
        refine ⟨fun q7 J8 e8 => ?_, fun q7 => ⟨by rw [b3]; exact ⟨by omega, by omega⟩, ?_⟩⟩
        · have c3 : J8 49 3 = s := by rw [(fr_eq_iu e8).2]; simp; exact b3
          rw [c3]
          refine ⟨⟨by omega, by omega⟩, fun J10 e10 => qU_mk (fin J8 J10 1 e8 e10 ?_)⟩
          rw [if_neg]
          intro w
          have := x2.mp q7
          omega
        · rw [b3, hf1 2 (by decide), tb.1]
          intro J12 e12
          have c3 : J12 49 3 = s := by rw [(fr_eq_iu e12).2]; simp; exact b3
          rw [c3]
          refine ⟨⟨by omega, by omega⟩, fun J14 e14 => qU_mk (fin J12 J14 (B s) e12 e14 ?_)⟩
          have sg : isSg (B s) := Classical.byContradiction fun w => q7 (x2.mpr w)
          have e : B s % 256 = B s := by omega
          rw [e, if_pos sg]
      · have id : 48 ≤ B s ∧ B s ≤ 57 := Classical.byContradiction fun w => q0 (w2.mpr w)
        have tk : tok f B = gst f s (tDg B (f 15) s) 1 (tV B s (tDg B (f 15) s - s).toNat) := by
          unfold tok
          rw [← es, if_neg (by omega), if_pos (by omega)]
        refine mU_mono (t_takeDigits (d := d) hz (tp1 hf1) s0 s1 h2 b2 b3) fun I15 ⟨x1, x2, x3, x4, x5, x6, x7, x8⟩ => qU_mk ?_
        have ff15 := fr_trans hf1 x1
        obtain ⟨t16, t17, t18, t19, tr⟩ := gst_at f s (tDg B (f 15) s) 1 (tV B s (tDg B (f 15) s - s).toNat)
        refine ⟨ff15, ?_⟩
        rw [tk]
        refine ⟨tp1 ff15, ?_, ?_, ?_, ?_, fun w => ⟨?_, ?_⟩, ?_⟩
        · rw [tr 15 (by decide)]; exact x2
        · rw [t17]; exact x3
        · rw [t16, x4]; exact b4
        · unfold kd; rw [t18, if_neg (by decide), if_pos rfl]; exact x5
        · rw [t19]; exact x6
        · rw [t17, t16]; exact x7
        · rw [tr 20 (by decide), x8]; exact b8
    · obtain ⟨f16, g16⟩ := fr_eq_iu e16
      have ff16 := fr_trans hf1 f16
      have tk : tok f B = gst f s s 0 (f 19) := by
        unfold tok
        rw [← es, if_pos (by omega)]
      obtain ⟨t16, t17, t18, t19, tr⟩ := gst_at f s s 0 (f 19)
      refine ⟨ff16, ?_⟩
      rw [tk]
      refine ⟨tp1 ff16, ?_, ?_, ?_, ?_, fun w => ?_, ?_⟩
      · rw [tr 15 (by decide), g16]; simp; exact b2
      · rw [t17, g16]; simp; exact b3
      · rw [t16, g16]; simp; exact b4
      · unfold kd; rw [t18, if_pos rfl, g16]; simp
      · rw [t18] at w; omega
      · rw [tr 20 (by decide), g16]; simp; exact b8
  have L0 : ∀ (n : Nat) (p : Int) (J : cm_I), 0 ≤ p → p + n = f 15 → tSkF B n p = tSk B (f 15) (f 17) → fr [49] I J → J 49 2 = f 15 → J 49 3 = p → J 49 8 = f 20 → cw (d + 2) cd_Reader_advance (qU z fun I1 => fr [49] I I1 ∧ rdR B (tok f B) I1) 0 [some (vR 7 49)] [] (J, z) := by
    intro n
    induction n with
    | zero =>
      intro p J p0 en et hf a2 a3 a8
      refine wr_Reader_advance_0 hz ?_
      rw [a2, a3]
      exact ⟨fun _ => L52 J p et (by omega) (by omega) hf a2 a3 a8, fun q => by omega⟩
    | succ n ih =>
      intro p J p0 en et hf a2 a3 a8
      have tb := tp p p0 (by omega)
      refine wr_Reader_advance_0 hz ?_
      rw [a2, a3, hf 2 (by decide), tb.1]
      rw [tSkF] at et
      have go : (B p % 256 = 32 ∨ B p % 256 = 10) → ∀ J3 : cm_I, J3 = iu J 49 3 (p + 1) → cw (d + 2) cd_Reader_advance (qU z fun I1 => fr [49] I I1 ∧ rdR B (tok f B) I1) 0 [some (vR 7 49)] [] (J3, z) := by
        intro w J3 e3
        rw [if_pos w] at et
        obtain ⟨f3, g3⟩ := fr_eq_iu e3
        exact ih (p + 1) J3 (by omega) (by omega) et (fr_trans hf f3) (by rw [g3]; simp; exact a2) (by rw [g3]; simp) (by rw [g3]; simp; exact a8)
      refine ⟨fun q => by omega, fun _ => ⟨⟨by omega, by omega⟩, fun q => ⟨⟨by omega, by omega⟩, go (by omega)⟩, fun q => ⟨fun q2 => ?_, fun q2 => ⟨⟨by omega, by omega⟩, go (by omega)⟩⟩⟩⟩
      rw [if_neg (by omega)] at et
      exact L52 J p et (by omega) (by omega) hf a2 a3 a8
  refine wr_Reader_advance hz ?_
  exact L0 (f 15 - f 17).toNat (f 17) I h0 (by omega) rfl (fr_refl _ _) r2 r3 r8
theorem t_advance (hz : wz z) (h : rdR B f I) (ho : rOk f) : mU (d + 3) m_Reader_advance [vR 7 49] z I fun I1 => fr [49] I I1 ∧ rdR B (tok f B) I1 := by
  obtain ⟨tp, r2, r3, r4, r5, r6, r8⟩ := h
  unfold rOk at ho
  exact t_advance0 hz tp r2 r3 r8 (by omega) (by omega) (by omega)
theorem t_refuse (hz : wz z) (h : rdR B f I) (ho : rOk f) {k : Int} (k0 : 0 ≤ k) (k1 : k ≤ 7) : mI (d + 1) m_Reader_refuse [vR 7 49, vI k] z I fun r I1 => r = 0 ∧ fr [49] I I1 ∧ rdR B (rBad f k) I1 := by
  obtain ⟨tp, r2, r3, r4, r5, r6, r8⟩ := id h
  unfold rOk at ho
  refine wr_Reader_refuse hz ?_
  rw [r8, r4]
  refine ⟨fun q => qI_mk ⟨rfl, fr_refl _ _, ?_⟩, fun q => ⟨⟨by omega, by omega⟩, ⟨by omega, by omega⟩, fun J3 e3 => qI_mk ⟨rfl, (fr_eq_iu e3).1, ?_⟩⟩⟩
  · refine rdR_st h fun s s0 s1 => ?_
    unfold rBad
    by_cases w : s = 20
    · rw [if_pos w, if_neg q, w]
    · rw [if_neg w]
  · obtain ⟨f3, g3⟩ := fr_eq_iu e3
    have o : ∀ s, s ≠ 20 → rBad f k s = f s := fun s hs => by unfold rBad; rw [if_neg hs]
    refine ⟨by unfold tpR; rw [f3 2 (by decide)]; exact tp, ?_, ?_, ?_, ?_, ?_, ?_⟩
    · rw [o 15 (by decide), g3]; simp; exact r2
    · rw [o 17 (by decide), g3]; simp; exact r3
    · rw [o 16 (by decide), g3]; simp; exact r4
    · unfold kd; rw [o 18 (by decide), o 19 (by decide), g3]; simp; exact r5
    · rw [o 18 (by decide), o 19 (by decide), o 17 (by decide), o 16 (by decide), g3]; simp; exact r6
    · rw [g3]
      show (if (8 : Int) = 8 then _ else _) = if (20 : Int) = 20 then (if f 20 = 0 then _ else _) else _
      rw [if_pos rfl, if_pos rfl, if_pos q]
theorem t_open (hz : wz z) (hB : tpR B I) {n : Int} (n0 : 0 ≤ n) (n1 : n ≤ 400) {g : Int → Int} (x15 : g 15 = n) (x17 : g 17 = 0) (x20 : g 20 = 0) : mU (d + 4) m_Reader_open [vR 7 49, vI n] z I fun I1 => fr [49] I I1 ∧ rdR B (tok g B) I1 := by
  refine wr_Reader_open hz fun J1 e1 J2 e2 J3 e3 => ?_
  obtain ⟨f1, g1⟩ := fr_eq_iu e1
  obtain ⟨f2, g2⟩ := fr_eq_iu e2
  obtain ⟨f3, g3⟩ := fr_eq_iu e3
  have ff3 := fr_trans f1 (fr_trans f2 f3)
  refine mU_mono (t_advance0 (f := g) hz (by unfold tpR; rw [ff3 2 (by decide)]; exact hB) (by rw [g3, g2, g1, x15]; simp) (by rw [g3, g2, x17]; simp) (by rw [g3, x20]; simp) (by omega) (by omega) (by omega)) fun I4 ⟨a, b⟩ => qU_mk ⟨fr_trans ff3 a, b⟩
end WRD
