/-! RULES of the class's methods, its layout put in (wip/whole/genwrules.py): Arr, Piece, Shape, Members, Echelon -/
set_option maxHeartbeats 4000000 in
set_option maxRecDepth 100000 in
theorem wr_Echelon_begin {d : Nat} {Q : cm_Q} {z : cm_Z} {I : cm_I} (hz : wz z) {x1 : Int} {x2 : Int} {q_63_2 : Nat} (y_63_2 : z.1 63 2 = q_63_2) (H : (∀ I1 : cm_I, I1 = iu I 63 0 x1 → (∀ I2 : cm_I, I2 = iu I1 63 1 0 → (mU d m_Arr_fill [vR 20 65, vI (-1)] z I2 fun I3 => ((x2 = 0 → (zcA d m_Works_withRoom [vR 20 q_63_2, vI 23409, vI 23409] z I3 20 fun v6 I4 Z5 => (∀ Z7 : cm_Z, Z7 = zr Z5 63 2 v6 → Q none (I4, Z7)))) ∧ (¬ x2 = 0 → (zcA d m_Works_withRoom [vR 20 q_63_2, vI 324, vI 324] z I3 20 fun v10 I8 Z9 => (∀ Z11 : cm_Z, Z11 = zr Z9 63 2 v10 → Q none (I8, Z11))))))))) : cm_call (d + 1) m_Echelon_begin [vR 1 63, vI x1, vI x2] (I, z) Q := by
  refine cm_call_in (C := cd_Echelon_begin) (ls := [some (vR 1 63), some (vI x1), some (vI x2), none]) rfl rfl (show 0 < 63 by decide) rfl ?_
  refine w_aload rfl rfl ?_
  refine w_iload rfl rfl ?_
  refine m_putI 0 rfl rfl rfl (by decide) (fun I1 eI1 => ?_)
  replace H := H I1 eI1
  refine w_aload rfl rfl ?_
  refine w_iconst rfl ⟨by decide, by decide⟩ ?_
  refine m_putI 1 rfl rfl rfl (by decide) (fun I2 eI2 => ?_)
  replace H := H I2 eI2
  refine w_aload rfl rfl ?_
  refine n_getR 3 20 rfl rfl rfl rfl (by decide) (wz_R hz 63 3 65 rfl (by decide)) ?_
  refine w_iconst rfl ⟨by decide, by decide⟩ ?_
  refine m_callU rfl (fun _ => rfl) rfl (mU_mono H fun I3 H => ?_)
  refine w_iload rfl rfl ?_
  refine w_if rfl (And.intro (fun hc => ?_) (fun hc => ?_))
  · replace H := H.1 hc
    refine w_iconst rfl ⟨by decide, by decide⟩ ?_
    refine w_istore rfl rfl ?_
    refine w_aload rfl rfl ?_
    refine w_aload rfl rfl ?_
    refine n_getR 2 20 rfl rfl rfl rfl (by decide) y_63_2 ?_
    refine w_iload rfl rfl ?_
    refine w_iload rfl rfl ?_
    refine n_callA rfl (fun _ => rfl) rfl (zcA_mono H fun v6 I4 Z5 H => ?_)
    refine n_putR 2 rfl rfl rfl rfl (by decide) (fun Z7 eZ7 => ?_)
    replace H := H Z7 eZ7
    exact w_return rfl H
  · replace H := H.2 hc
    refine w_iconst rfl ⟨by decide, by decide⟩ ?_
    refine w_goto rfl ?_
    refine w_istore rfl rfl ?_
    refine w_aload rfl rfl ?_
    refine w_aload rfl rfl ?_
    refine n_getR 2 20 rfl rfl rfl rfl (by decide) y_63_2 ?_
    refine w_iload rfl rfl ?_
    refine w_iload rfl rfl ?_
    refine n_callA rfl (fun _ => rfl) rfl (zcA_mono H fun v10 I8 Z9 H => ?_)
    refine n_putR 2 rfl rfl rfl rfl (by decide) (fun Z11 eZ11 => ?_)
    replace H := H Z11 eZ11
    exact w_return rfl H
set_option maxHeartbeats 4000000 in
set_option maxRecDepth 100000 in
theorem wr_Echelon_insert_2 {d : Nat} {Q : cm_Q} {z : cm_Z} {I : cm_I} (hz : wz z) {a1 : Nat} {x2 : Int} {z3 : Option cm_V} {z4 : Option cm_V} {z5 : Option cm_V} (p_a1 : 0 < a1) (H : (((I 63 0) ≤ x2 → cw d cd_Echelon_insert Q 65 [some (vR 1 63), some (vR 20 a1), some (vI x2), z3, z4, z5] [] (I, z)) ∧ (x2 < (I 63 0) → ((0:Int) ≤ x2 ∧ x2 < z.2.1 a1) ∧ (((Int.tmod (I a1 x2) 2521) = 0 → cw d cd_Echelon_insert Q 29 [some (vR 1 63), some (vR 20 a1), some (vI x2), z3, z4, z5] [] (I, z)) ∧ (¬ (Int.tmod (I a1 x2) 2521) = 0 → ((0:Int) ≤ x2 ∧ x2 < 153) ∧ (((I 65 x2) < 0 → cw d cd_Echelon_insert Q 65 [some (vR 1 63), some (vR 20 a1), some (vI x2), z3, z4, z5] [] (I, z)) ∧ (0 ≤ (I 65 x2) → cw d cd_Echelon_insert Q 29 [some (vR 1 63), some (vR 20 a1), some (vI x2), z3, z4, z5] [] (I, z)))))))) : cw d cd_Echelon_insert Q 2 [some (vR 1 63), some (vR 20 a1), some (vI x2), z3, z4, z5] [] (I, z) := by
  refine w_iload rfl rfl ?_
  refine w_aload rfl rfl ?_
  refine m_getI 0 rfl rfl rfl (by decide) ?_
  refine w_icmp rfl (And.intro (fun hc => ?_) (fun hc => ?_))
  · replace H := H.1 hc
    exact H
  · replace H := H.2 hc
    refine w_aload rfl rfl ?_
    refine w_iload rfl rfl ?_
    have o1 := H.1
    replace H := H.2
    refine n_iaload rfl p_a1 rfl o1 ?_
    refine w_iconst rfl ⟨by decide, by decide⟩ ?_
    refine w_irem rfl (by decide) ?_
    refine w_if rfl (And.intro (fun hc => ?_) (fun hc => ?_))
    · replace H := H.1 hc
      exact H
    · replace H := H.2 hc
      refine w_aload rfl rfl ?_
      refine n_getR 3 20 rfl rfl rfl rfl (by decide) (wz_R hz 63 3 65 rfl (by decide)) ?_
      refine w_iload rfl rfl ?_
      have o2 := H.1
      replace H := H.2
      refine n_iaload rfl (by decide) (wz_L hz 65 153 rfl (by decide)) o2 ?_
      refine w_if rfl (And.intro (fun hc => ?_) (fun hc => ?_))
      · replace H := H.1 hc
        exact H
      · replace H := H.2 hc
        exact H
set_option maxHeartbeats 4000000 in
set_option maxRecDepth 100000 in
theorem wr_Echelon_insert_29 {d : Nat} {Q : cm_Q} {z : cm_Z} {I : cm_I} (hz : wz z) {a1 : Nat} {x2 : Int} {z3 : Option cm_V} {z4 : Option cm_V} {z5 : Option cm_V} (p_a1 : 0 < a1) (H : ((0:Int) ≤ x2 ∧ x2 < z.2.1 a1) ∧ (((Int.tmod (I a1 x2) 2521) = 0 → (cm_i (x2 + 1) ∧ cw d cd_Echelon_insert Q 2 [some (vR 1 63), some (vR 20 a1), some (vI (x2 + 1)), some (vI (Int.tmod (I a1 x2) 2521)), z4, z5] [] (I, z))) ∧ (¬ (Int.tmod (I a1 x2) 2521) = 0 → ((0:Int) ≤ x2 ∧ x2 < 153) ∧ (cm_i (2521 - (Int.tmod (I a1 x2) 2521)) ∧ (mU d m_Echelon_subtract [vR 1 63, vI (I 65 x2), vI (2521 - (Int.tmod (I a1 x2) 2521)), vR 20 a1, vI 0, vI x2] z I fun I5 => (cm_i (x2 + 1) ∧ cw d cd_Echelon_insert Q 2 [some (vR 1 63), some (vR 20 a1), some (vI (x2 + 1)), some (vI (Int.tmod (I a1 x2) 2521)), z4, z5] [] (I5, z))))))) : cw d cd_Echelon_insert Q 29 [some (vR 1 63), some (vR 20 a1), some (vI x2), z3, z4, z5] [] (I, z) := by
  refine w_aload rfl rfl ?_
  refine w_iload rfl rfl ?_
  have o1 := H.1
  replace H := H.2
  refine n_iaload rfl p_a1 rfl o1 ?_
  refine w_iconst rfl ⟨by decide, by decide⟩ ?_
  refine w_irem rfl (by decide) ?_
  refine w_istore rfl rfl ?_
  refine w_iload rfl rfl ?_
  refine w_if rfl (And.intro (fun hc => ?_) (fun hc => ?_))
  · replace H := H.1 hc
    have o2 := H.1
    replace H := H.2
    refine w_iinc rfl rfl rfl o2 ?_
    refine w_goto rfl ?_
    exact H
  · replace H := H.2 hc
    refine w_aload rfl rfl ?_
    refine w_aload rfl rfl ?_
    refine n_getR 3 20 rfl rfl rfl rfl (by decide) (wz_R hz 63 3 65 rfl (by decide)) ?_
    refine w_iload rfl rfl ?_
    have o3 := H.1
    replace H := H.2
    refine n_iaload rfl (by decide) (wz_L hz 65 153 rfl (by decide)) o3 ?_
    refine w_iconst rfl ⟨by decide, by decide⟩ ?_
    refine w_iload rfl rfl ?_
    have o4 := H.1
    replace H := H.2
    refine w_isub rfl o4 ?_
    refine w_aload rfl rfl ?_
    refine w_iconst rfl ⟨by decide, by decide⟩ ?_
    refine w_iload rfl rfl ?_
    refine m_callU rfl (fun _ => rfl) rfl (mU_mono H fun I5 H => ?_)
    have o6 := H.1
    replace H := H.2
    refine w_iinc rfl rfl rfl o6 ?_
    refine w_goto rfl ?_
    exact H
set_option maxHeartbeats 4000000 in
set_option maxRecDepth 100000 in
theorem wr_Echelon_insert_65 {d : Nat} {Q : cm_Q} {z : cm_Z} {I : cm_I} (hz : wz z) {a1 : Nat} {x2 : Int} {z3 : Option cm_V} {z4 : Option cm_V} {z5 : Option cm_V} {q_63_2 : Nat} (p_a1 : 0 < a1) (y_63_2 : z.1 63 2 = q_63_2) (H : ((¬ x2 = (I 63 0) → (cm_i ((I 63 0) * (I 63 1)) ∧ ((0:Int) ≤ x2 ∧ x2 < z.2.1 a1) ∧ (mI d m_Works_raise [vI (Int.tmod (I a1 x2) 2521), vI 2519] z I fun v4 I3 => (cm_i (((I 63 0) * (I 63 1)) + x2) ∧ (mU d m_Arr_fill4 [vR 20 q_63_2, vI ((I 63 0) * (I 63 1)), vI (((I 63 0) * (I 63 1)) + x2), vI 0] z I3 fun I6 => cw d cd_Echelon_insert Q 114 [some (vR 1 63), some (vR 20 a1), some (vI x2), some (vI ((I 63 0) * (I 63 1))), some (vI v4), some (vI x2)] [] (I6, z)))))) ∧ (x2 = (I 63 0) → Q none (I, z)))) : cw d cd_Echelon_insert Q 65 [some (vR 1 63), some (vR 20 a1), some (vI x2), z3, z4, z5] [] (I, z) := by
  refine w_iload rfl rfl ?_
  refine w_aload rfl rfl ?_
  refine m_getI 0 rfl rfl rfl (by decide) ?_
  refine w_icmp rfl (And.intro (fun hc => ?_) (fun hc => ?_))
  · replace H := H.1 hc
    refine w_aload rfl rfl ?_
    refine m_getI 0 rfl rfl rfl (by decide) ?_
    refine w_aload rfl rfl ?_
    refine m_getI 1 rfl rfl rfl (by decide) ?_
    have o1 := H.1
    replace H := H.2
    refine w_imul rfl o1 ?_
    refine w_istore rfl rfl ?_
    refine w_aload rfl rfl ?_
    refine w_iload rfl rfl ?_
    have o2 := H.1
    replace H := H.2
    refine n_iaload rfl p_a1 rfl o2 ?_
    refine w_iconst rfl ⟨by decide, by decide⟩ ?_
    refine w_irem rfl (by decide) ?_
    refine w_iconst rfl ⟨by decide, by decide⟩ ?_
    refine m_callI rfl (fun _ => rfl) rfl (mI_mono H fun v4 I3 H => ?_)
    refine w_istore rfl rfl ?_
    refine w_aload rfl rfl ?_
    refine n_getR 2 20 rfl rfl rfl rfl (by decide) y_63_2 ?_
    refine w_iload rfl rfl ?_
    refine w_iload rfl rfl ?_
    refine w_iload rfl rfl ?_
    have o5 := H.1
    replace H := H.2
    refine w_iadd rfl o5 ?_
    refine w_iconst rfl ⟨by decide, by decide⟩ ?_
    refine m_callU rfl (fun _ => rfl) rfl (mU_mono H fun I6 H => ?_)
    refine w_iload rfl rfl ?_
    refine w_istore rfl rfl ?_
    exact H
  · replace H := H.2 hc
    exact w_return rfl H
set_option maxHeartbeats 4000000 in
set_option maxRecDepth 100000 in
theorem wr_Echelon_insert_114 {d : Nat} {Q : cm_Q} {z : cm_Z} {I : cm_I} (hz : wz z) {a1 : Nat} {x2 : Int} {x3 : Int} {x4 : Int} {x5 : Int} {q_63_2 : Nat} (y_63_2 : z.1 63 2 = q_63_2) (p_a1 : 0 < a1) (p_q_63_2 : 0 < q_63_2) (H : (((I 63 0) ≤ x5 → ((0:Int) ≤ x2 ∧ x2 < 153) ∧ (∀ I2 : cm_I, I2 = iu I 65 x2 (I 63 1) → (cm_i ((I2 63 1) + 1) ∧ (∀ I4 : cm_I, I4 = iu I2 63 1 ((I2 63 1) + 1) → Q none (I4, z))))) ∧ (x5 < (I 63 0) → (cm_i (x3 + x5) ∧ ((0:Int) ≤ x5 ∧ x5 < z.2.1 a1) ∧ (cm_i ((Int.tmod (I a1 x5) 2521) * x4) ∧ ((0:Int) ≤ (x3 + x5) ∧ (x3 + x5) < z.2.1 q_63_2) ∧ (∀ I9 : cm_I, I9 = iu I q_63_2 (x3 + x5) (Int.tmod ((Int.tmod (I a1 x5) 2521) * x4) 2521) → (cm_i (x5 + 1) ∧ cw d cd_Echelon_insert Q 114 [some (vR 1 63), some (vR 20 a1), some (vI x2), some (vI x3), some (vI x4), some (vI (x5 + 1))] [] (I9, z)))))))) : cw d cd_Echelon_insert Q 114 [some (vR 1 63), some (vR 20 a1), some (vI x2), some (vI x3), some (vI x4), some (vI x5)] [] (I, z) := by
  refine w_iload rfl rfl ?_
  refine w_aload rfl rfl ?_
  refine m_getI 0 rfl rfl rfl (by decide) ?_
  refine w_icmp rfl (And.intro (fun hc => ?_) (fun hc => ?_))
  · replace H := H.1 hc
    refine w_aload rfl rfl ?_
    refine n_getR 3 20 rfl rfl rfl rfl (by decide) (wz_R hz 63 3 65 rfl (by decide)) ?_
    refine w_iload rfl rfl ?_
    refine w_aload rfl rfl ?_
    refine m_getI 1 rfl rfl rfl (by decide) ?_
    have o1 := H.1
    replace H := H.2
    refine n_iastore rfl (by decide) (wz_L hz 65 153 rfl (by decide)) o1 (fun I2 eI2 => ?_)
    replace H := H I2 eI2
    refine w_aload rfl rfl ?_
    refine w_dup rfl rfl ?_
    refine m_getI 1 rfl rfl rfl (by decide) ?_
    refine w_iconst rfl ⟨by decide, by decide⟩ ?_
    have o3 := H.1
    replace H := H.2
    refine w_iadd rfl o3 ?_
    refine m_putI 1 rfl rfl rfl (by decide) (fun I4 eI4 => ?_)
    replace H := H I4 eI4
    exact w_return rfl H
  · replace H := H.2 hc
    refine w_aload rfl rfl ?_
    refine n_getR 2 20 rfl rfl rfl rfl (by decide) y_63_2 ?_
    refine w_iload rfl rfl ?_
    refine w_iload rfl rfl ?_
    have o5 := H.1
    replace H := H.2
    refine w_iadd rfl o5 ?_
    refine w_aload rfl rfl ?_
    refine w_iload rfl rfl ?_
    have o6 := H.1
    replace H := H.2
    refine n_iaload rfl p_a1 rfl o6 ?_
    refine w_iconst rfl ⟨by decide, by decide⟩ ?_
    refine w_irem rfl (by decide) ?_
    refine w_iload rfl rfl ?_
    have o7 := H.1
    replace H := H.2
    refine w_imul rfl o7 ?_
    refine w_iconst rfl ⟨by decide, by decide⟩ ?_
    refine w_irem rfl (by decide) ?_
    have o8 := H.1
    replace H := H.2
    refine n_iastore rfl p_q_63_2 rfl o8 (fun I9 eI9 => ?_)
    replace H := H I9 eI9
    have o10 := H.1
    replace H := H.2
    refine w_iinc rfl rfl rfl o10 ?_
    refine w_goto rfl ?_
    exact H
set_option maxHeartbeats 4000000 in
set_option maxRecDepth 100000 in
theorem wr_Echelon_insert {d : Nat} {Q : cm_Q} {z : cm_Z} {I : cm_I} (hz : wz z) {a1 : Nat}  (H : cw d cd_Echelon_insert Q 2 [some (vR 1 63), some (vR 20 a1), some (vI 0), none, none, none] [] (I, z)) : cm_call (d + 1) m_Echelon_insert [vR 1 63, vR 20 a1] (I, z) Q := by
  refine cm_call_in (C := cd_Echelon_insert) (ls := [some (vR 1 63), some (vR 20 a1), none, none, none, none]) rfl rfl (show 0 < 63 by decide) rfl ?_
  refine w_iconst rfl ⟨by decide, by decide⟩ ?_
  refine w_istore rfl rfl ?_
  exact H
set_option maxHeartbeats 4000000 in
set_option maxRecDepth 100000 in
theorem wr_Echelon_subtract_22 {d : Nat} {Q : cm_Q} {z : cm_Z} {I : cm_I} (hz : wz z) {z1 : Option cm_V} {x2 : Int} {a3 : Nat} {x4 : Int} {z5 : Option cm_V} {x6 : Int} {x7 : Int} {q_63_2 : Nat} (p_a3 : 0 < a3) (y_63_2 : z.1 63 2 = q_63_2) (p_q_63_2 : 0 < q_63_2) (H : (((I 63 0) ≤ x7 → Q none (I, z)) ∧ (x7 < (I 63 0) → (cm_i (x4 + x7) ∧ ((0:Int) ≤ (x4 + x7) ∧ (x4 + x7) < z.2.1 a3) ∧ (cm_i (x6 + x7) ∧ ((0:Int) ≤ (x6 + x7) ∧ (x6 + x7) < z.2.1 q_63_2) ∧ (cm_i (x2 * (I q_63_2 (x6 + x7))) ∧ (cm_i ((I a3 (x4 + x7)) + (x2 * (I q_63_2 (x6 + x7)))) ∧ (∀ I7 : cm_I, I7 = iu I a3 (x4 + x7) ((I a3 (x4 + x7)) + (x2 * (I q_63_2 (x6 + x7)))) → (cm_i (x7 + 1) ∧ cw d cd_Echelon_subtract Q 22 [some (vR 1 63), z1, some (vI x2), some (vR 20 a3), some (vI x4), z5, some (vI x6), some (vI (x7 + 1))] [] (I7, z)))))))))) : cw d cd_Echelon_subtract Q 22 [some (vR 1 63), z1, some (vI x2), some (vR 20 a3), some (vI x4), z5, some (vI x6), some (vI x7)] [] (I, z) := by
  refine w_iload rfl rfl ?_
  refine w_aload rfl rfl ?_
  refine m_getI 0 rfl rfl rfl (by decide) ?_
  refine w_icmp rfl (And.intro (fun hc => ?_) (fun hc => ?_))
  · replace H := H.1 hc
    exact w_return rfl H
  · replace H := H.2 hc
    refine w_aload rfl rfl ?_
    refine w_iload rfl rfl ?_
    refine w_iload rfl rfl ?_
    have o1 := H.1
    replace H := H.2
    refine w_iadd rfl o1 ?_
    refine w_dup2 rfl rfl ?_
    have o2 := H.1
    replace H := H.2
    refine n_iaload rfl p_a3 rfl o2 ?_
    refine w_iload rfl rfl ?_
    refine w_aload rfl rfl ?_
    refine n_getR 2 20 rfl rfl rfl rfl (by decide) y_63_2 ?_
    refine w_iload rfl rfl ?_
    refine w_iload rfl rfl ?_
    have o3 := H.1
    replace H := H.2
    refine w_iadd rfl o3 ?_
    have o4 := H.1
    replace H := H.2
    refine n_iaload rfl p_q_63_2 rfl o4 ?_
    have o5 := H.1
    replace H := H.2
    refine w_imul rfl o5 ?_
    have o6 := H.1
    replace H := H.2
    refine w_iadd rfl o6 ?_
    refine n_iastore rfl p_a3 rfl o2 (fun I7 eI7 => ?_)
    replace H := H I7 eI7
    have o8 := H.1
    replace H := H.2
    refine w_iinc rfl rfl rfl o8 ?_
    refine w_goto rfl ?_
    exact H
set_option maxHeartbeats 4000000 in
set_option maxRecDepth 100000 in
theorem wr_Echelon_subtract {d : Nat} {Q : cm_Q} {z : cm_Z} {I : cm_I} (hz : wz z) {x1 : Int} {x2 : Int} {a3 : Nat} {x4 : Int} {x5 : Int} (p_a3 : 0 < a3) (H : (cm_i ((I 63 0) * x1) ∧ (cm_i (x4 + x5) ∧ ((0:Int) ≤ (x4 + x5) ∧ (x4 + x5) < z.2.1 a3) ∧ (∀ I4 : cm_I, I4 = iu I a3 (x4 + x5) 0 → (cm_i (x5 + 1) ∧ cw d cd_Echelon_subtract Q 22 [some (vR 1 63), some (vI x1), some (vI x2), some (vR 20 a3), some (vI x4), some (vI x5), some (vI ((I 63 0) * x1)), some (vI (x5 + 1))] [] (I4, z)))))) : cm_call (d + 1) m_Echelon_subtract [vR 1 63, vI x1, vI x2, vR 20 a3, vI x4, vI x5] (I, z) Q := by
  refine cm_call_in (C := cd_Echelon_subtract) (ls := [some (vR 1 63), some (vI x1), some (vI x2), some (vR 20 a3), some (vI x4), some (vI x5), none, none]) rfl rfl (show 0 < 63 by decide) rfl ?_
  refine w_aload rfl rfl ?_
  refine m_getI 0 rfl rfl rfl (by decide) ?_
  refine w_iload rfl rfl ?_
  have o1 := H.1
  replace H := H.2
  refine w_imul rfl o1 ?_
  refine w_istore rfl rfl ?_
  refine w_aload rfl rfl ?_
  refine w_iload rfl rfl ?_
  refine w_iload rfl rfl ?_
  have o2 := H.1
  replace H := H.2
  refine w_iadd rfl o2 ?_
  refine w_iconst rfl ⟨by decide, by decide⟩ ?_
  have o3 := H.1
  replace H := H.2
  refine n_iastore rfl p_a3 rfl o3 (fun I4 eI4 => ?_)
  replace H := H I4 eI4
  refine w_iload rfl rfl ?_
  refine w_iconst rfl ⟨by decide, by decide⟩ ?_
  have o5 := H.1
  replace H := H.2
  refine w_iadd rfl o5 ?_
  refine w_istore rfl rfl ?_
  exact H
set_option maxHeartbeats 4000000 in
set_option maxRecDepth 100000 in
theorem wr_Echelon_finish_7 {d : Nat} {Q : cm_Q} {z : cm_Z} {I : cm_I} (hz : wz z) {x1 : Int}  (H : ((x1 < 0 → Q none (I, z)) ∧ (0 ≤ x1 → ((0:Int) ≤ x1 ∧ x1 < 153) ∧ (((I 65 x1) < 0 → (cm_i (x1 + (-1)) ∧ cw d cd_Echelon_finish Q 7 [some (vR 1 63), some (vI (x1 + (-1)))] [] (I, z))) ∧ (0 ≤ (I 65 x1) → (cm_i ((I 63 0) * (I 65 x1)) ∧ (mU d m_Echelon_finishRow [vR 1 63, vI ((I 63 0) * (I 65 x1)), vI x1] z I fun I4 => (cm_i (x1 + (-1)) ∧ cw d cd_Echelon_finish Q 7 [some (vR 1 63), some (vI (x1 + (-1)))] [] (I4, z))))))))) : cw d cd_Echelon_finish Q 7 [some (vR 1 63), some (vI x1)] [] (I, z) := by
  refine w_iload rfl rfl ?_
  refine w_if rfl (And.intro (fun hc => ?_) (fun hc => ?_))
  · replace H := H.1 hc
    exact w_return rfl H
  · replace H := H.2 hc
    refine w_aload rfl rfl ?_
    refine n_getR 3 20 rfl rfl rfl rfl (by decide) (wz_R hz 63 3 65 rfl (by decide)) ?_
    refine w_iload rfl rfl ?_
    have o1 := H.1
    replace H := H.2
    refine n_iaload rfl (by decide) (wz_L hz 65 153 rfl (by decide)) o1 ?_
    refine w_if rfl (And.intro (fun hc => ?_) (fun hc => ?_))
    · replace H := H.1 hc
      have o2 := H.1
      replace H := H.2
      refine w_iinc rfl rfl rfl o2 ?_
      refine w_goto rfl ?_
      exact H
    · replace H := H.2 hc
      refine w_aload rfl rfl ?_
      refine w_aload rfl rfl ?_
      refine m_getI 0 rfl rfl rfl (by decide) ?_
      refine w_aload rfl rfl ?_
      refine n_getR 3 20 rfl rfl rfl rfl (by decide) (wz_R hz 63 3 65 rfl (by decide)) ?_
      refine w_iload rfl rfl ?_
      refine n_iaload rfl (by decide) (wz_L hz 65 153 rfl (by decide)) o1 ?_
      have o3 := H.1
      replace H := H.2
      refine w_imul rfl o3 ?_
      refine w_iload rfl rfl ?_
      refine m_callU rfl (fun _ => rfl) rfl (mU_mono H fun I4 H => ?_)
      have o5 := H.1
      replace H := H.2
      refine w_iinc rfl rfl rfl o5 ?_
      refine w_goto rfl ?_
      exact H
set_option maxHeartbeats 4000000 in
set_option maxRecDepth 100000 in
theorem wr_Echelon_finish {d : Nat} {Q : cm_Q} {z : cm_Z} {I : cm_I} (hz : wz z)   (H : (cm_i ((I 63 0) - 1) ∧ cw d cd_Echelon_finish Q 7 [some (vR 1 63), some (vI ((I 63 0) - 1))] [] (I, z))) : cm_call (d + 1) m_Echelon_finish [vR 1 63] (I, z) Q := by
  refine cm_call_in (C := cd_Echelon_finish) (ls := [some (vR 1 63), none]) rfl rfl (show 0 < 63 by decide) rfl ?_
  refine w_aload rfl rfl ?_
  refine m_getI 0 rfl rfl rfl (by decide) ?_
  refine w_iconst rfl ⟨by decide, by decide⟩ ?_
  have o1 := H.1
  replace H := H.2
  refine w_isub rfl o1 ?_
  refine w_istore rfl rfl ?_
  exact H
set_option maxHeartbeats 4000000 in
set_option maxRecDepth 100000 in
theorem wr_Echelon_finishRow_4 {d : Nat} {Q : cm_Q} {z : cm_Z} {I : cm_I} (hz : wz z) {x1 : Int} {z2 : Option cm_V} {x3 : Int} {z4 : Option cm_V} {q_63_2 : Nat} (y_63_2 : z.1 63 2 = q_63_2) (p_q_63_2 : 0 < q_63_2) (H : (((I 63 0) ≤ x3 → Q none (I, z)) ∧ (x3 < (I 63 0) → (cm_i (x1 + x3) ∧ ((0:Int) ≤ (x1 + x3) ∧ (x1 + x3) < z.2.1 q_63_2) ∧ (∀ I3 : cm_I, I3 = iu I q_63_2 (x1 + x3) (Int.tmod (I q_63_2 (x1 + x3)) 2521) → (((Int.tmod (I q_63_2 (x1 + x3)) 2521) = 0 → (cm_i (x3 + 1) ∧ cw d cd_Echelon_finishRow Q 4 [some (vR 1 63), some (vI x1), z2, some (vI (x3 + 1)), some (vI (Int.tmod (I q_63_2 (x1 + x3)) 2521))] [] (I3, z))) ∧ (¬ (Int.tmod (I q_63_2 (x1 + x3)) 2521) = 0 → ((0:Int) ≤ x3 ∧ x3 < 153) ∧ (((I3 65 x3) < 0 → (cm_i (x3 + 1) ∧ cw d cd_Echelon_finishRow Q 4 [some (vR 1 63), some (vI x1), z2, some (vI (x3 + 1)), some (vI (Int.tmod (I q_63_2 (x1 + x3)) 2521))] [] (I3, z))) ∧ (0 ≤ (I3 65 x3) → (cm_i (2521 - (Int.tmod (I q_63_2 (x1 + x3)) 2521)) ∧ (mU d m_Echelon_subtract [vR 1 63, vI (I3 65 x3), vI (2521 - (Int.tmod (I q_63_2 (x1 + x3)) 2521)), vR 20 q_63_2, vI x1, vI x3] z I3 fun I8 => (cm_i (x3 + 1) ∧ cw d cd_Echelon_finishRow Q 4 [some (vR 1 63), some (vI x1), z2, some (vI (x3 + 1)), some (vI (Int.tmod (I q_63_2 (x1 + x3)) 2521))] [] (I8, z))))))))))))) : cw d cd_Echelon_finishRow Q 4 [some (vR 1 63), some (vI x1), z2, some (vI x3), z4] [] (I, z) := by
  refine w_iload rfl rfl ?_
  refine w_aload rfl rfl ?_
  refine m_getI 0 rfl rfl rfl (by decide) ?_
  refine w_icmp rfl (And.intro (fun hc => ?_) (fun hc => ?_))
  · replace H := H.1 hc
    exact w_return rfl H
  · replace H := H.2 hc
    refine w_aload rfl rfl ?_
    refine n_getR 2 20 rfl rfl rfl rfl (by decide) y_63_2 ?_
    refine w_iload rfl rfl ?_
    refine w_iload rfl rfl ?_
    have o1 := H.1
    replace H := H.2
    refine w_iadd rfl o1 ?_
    have o2 := H.1
    replace H := H.2
    refine n_iaload rfl p_q_63_2 rfl o2 ?_
    refine w_iconst rfl ⟨by decide, by decide⟩ ?_
    refine w_irem rfl (by decide) ?_
    refine w_istore rfl rfl ?_
    refine w_aload rfl rfl ?_
    refine n_getR 2 20 rfl rfl rfl rfl (by decide) y_63_2 ?_
    refine w_iload rfl rfl ?_
    refine w_iload rfl rfl ?_
    refine w_iadd rfl o1 ?_
    refine w_iload rfl rfl ?_
    refine n_iastore rfl p_q_63_2 rfl o2 (fun I3 eI3 => ?_)
    replace H := H I3 eI3
    refine w_iload rfl rfl ?_
    refine w_if rfl (And.intro (fun hc => ?_) (fun hc => ?_))
    · replace H := H.1 hc
      have o4 := H.1
      replace H := H.2
      refine w_iinc rfl rfl rfl o4 ?_
      refine w_goto rfl ?_
      exact H
    · replace H := H.2 hc
      refine w_aload rfl rfl ?_
      refine n_getR 3 20 rfl rfl rfl rfl (by decide) (wz_R hz 63 3 65 rfl (by decide)) ?_
      refine w_iload rfl rfl ?_
      have o5 := H.1
      replace H := H.2
      refine n_iaload rfl (by decide) (wz_L hz 65 153 rfl (by decide)) o5 ?_
      refine w_if rfl (And.intro (fun hc => ?_) (fun hc => ?_))
      · replace H := H.1 hc
        have o6 := H.1
        replace H := H.2
        refine w_iinc rfl rfl rfl o6 ?_
        refine w_goto rfl ?_
        exact H
      · replace H := H.2 hc
        refine w_aload rfl rfl ?_
        refine w_aload rfl rfl ?_
        refine n_getR 3 20 rfl rfl rfl rfl (by decide) (wz_R hz 63 3 65 rfl (by decide)) ?_
        refine w_iload rfl rfl ?_
        refine n_iaload rfl (by decide) (wz_L hz 65 153 rfl (by decide)) o5 ?_
        refine w_iconst rfl ⟨by decide, by decide⟩ ?_
        refine w_iload rfl rfl ?_
        have o7 := H.1
        replace H := H.2
        refine w_isub rfl o7 ?_
        refine w_aload rfl rfl ?_
        refine n_getR 2 20 rfl rfl rfl rfl (by decide) y_63_2 ?_
        refine w_iload rfl rfl ?_
        refine w_iload rfl rfl ?_
        refine m_callU rfl (fun _ => rfl) rfl (mU_mono H fun I8 H => ?_)
        have o9 := H.1
        replace H := H.2
        refine w_iinc rfl rfl rfl o9 ?_
        refine w_goto rfl ?_
        exact H
set_option maxHeartbeats 4000000 in
set_option maxRecDepth 100000 in
theorem wr_Echelon_finishRow {d : Nat} {Q : cm_Q} {z : cm_Z} {I : cm_I} (hz : wz z) {x1 : Int} {x2 : Int}  (H : (cm_i (x2 + 1) ∧ cw d cd_Echelon_finishRow Q 4 [some (vR 1 63), some (vI x1), some (vI x2), some (vI (x2 + 1)), none] [] (I, z))) : cm_call (d + 1) m_Echelon_finishRow [vR 1 63, vI x1, vI x2] (I, z) Q := by
  refine cm_call_in (C := cd_Echelon_finishRow) (ls := [some (vR 1 63), some (vI x1), some (vI x2), none, none]) rfl rfl (show 0 < 63 by decide) rfl ?_
  refine w_iload rfl rfl ?_
  refine w_iconst rfl ⟨by decide, by decide⟩ ?_
  have o1 := H.1
  replace H := H.2
  refine w_iadd rfl o1 ?_
  refine w_istore rfl rfl ?_
  exact H
set_option maxHeartbeats 4000000 in
set_option maxRecDepth 100000 in
theorem wr_Members_grow_13 {d : Nat} {Q : cm_Q} {z : cm_Z} {I : cm_I} (hz : wz z) {a0 : Nat} {x1 : Int} {z2 : Option cm_V} {z3 : Option cm_V} (p_a0 : isMb a0) (H : (((I a0 0) ≤ x1 → (∀ I1 : cm_I, I1 = iu I a0 2 1 → cw d cd_Members_grow Q 48 [some (vR 3 a0), some (vI 0), z2, z3] [] (I1, z))) ∧ (x1 < (I a0 0) → (cm_i ((I a0 0) * x1) ∧ (cm_i (((I a0 0) * x1) + x1) ∧ ((0:Int) ≤ (((I a0 0) * x1) + x1) ∧ (((I a0 0) * x1) + x1) < 432) ∧ (∀ I5 : cm_I, I5 = iu I (a0 + 2) (((I a0 0) * x1) + x1) 1 → (cm_i (x1 + 1) ∧ cw d cd_Members_grow Q 13 [some (vR 3 a0), some (vI (x1 + 1)), z2, z3] [] (I5, z)))))))) : cw d cd_Members_grow Q 13 [some (vR 3 a0), some (vI x1), z2, z3] [] (I, z) := by
  refine w_iload rfl rfl ?_
  refine w_aload rfl rfl ?_
  refine m_getI 0 rfl rfl rfl (isMb_pos p_a0) ?_
  refine w_icmp rfl (And.intro (fun hc => ?_) (fun hc => ?_))
  · replace H := H.1 hc
    refine w_aload rfl rfl ?_
    refine w_iconst rfl ⟨by decide, by decide⟩ ?_
    refine m_putI 2 rfl rfl rfl (isMb_pos p_a0) (fun I1 eI1 => ?_)
    replace H := H I1 eI1
    refine w_iconst rfl ⟨by decide, by decide⟩ ?_
    refine w_istore rfl rfl ?_
    exact H
  · replace H := H.2 hc
    refine w_aload rfl rfl ?_
    refine n_getR 4 20 rfl rfl rfl rfl (isMb_pos p_a0) (wz_mb4 hz p_a0) ?_
    refine w_aload rfl rfl ?_
    refine m_getI 0 rfl rfl rfl (isMb_pos p_a0) ?_
    refine w_iload rfl rfl ?_
    have o2 := H.1
    replace H := H.2
    refine w_imul rfl o2 ?_
    refine w_iload rfl rfl ?_
    have o3 := H.1
    replace H := H.2
    refine w_iadd rfl o3 ?_
    refine w_iconst rfl ⟨by decide, by decide⟩ ?_
    have o4 := H.1
    replace H := H.2
    refine n_iastore rfl (Nat.add_pos_right _ (by decide)) (wz_mbL2 hz p_a0) o4 (fun I5 eI5 => ?_)
    replace H := H I5 eI5
    have o6 := H.1
    replace H := H.2
    refine w_iinc rfl rfl rfl o6 ?_
    refine w_goto rfl ?_
    exact H
set_option maxHeartbeats 4000000 in
set_option maxRecDepth 100000 in
theorem wr_Members_grow_48 {d : Nat} {Q : cm_Q} {z : cm_Z} {I : cm_I} (hz : wz z) {a0 : Nat} {x1 : Int} {z2 : Option cm_V} {z3 : Option cm_V} (p_a0 : isMb a0) (H : (((I a0 2) ≤ x1 → (mU d m_Members_fillProducts [vR 3 a0] z I fun I1 => (mU d m_Members_fillOrders [vR 3 a0] z I1 fun I2 => Q (some (vI 1)) (I2, z)))) ∧ (x1 < (I a0 2) → ((48 ≤ x1 → (mU d m_Members_fillProducts [vR 3 a0] z I fun I3 => (mU d m_Members_fillOrders [vR 3 a0] z I3 fun I4 => Q (some (vI 1)) (I4, z)))) ∧ (x1 < 48 → cw d cd_Members_grow Q 64 [some (vR 3 a0), some (vI x1), some (vI 0), z3] [] (I, z)))))) : cw d cd_Members_grow Q 48 [some (vR 3 a0), some (vI x1), z2, z3] [] (I, z) := by
  refine w_iload rfl rfl ?_
  refine w_aload rfl rfl ?_
  refine m_getI 2 rfl rfl rfl (isMb_pos p_a0) ?_
  refine w_icmp rfl (And.intro (fun hc => ?_) (fun hc => ?_))
  · replace H := H.1 hc
    refine w_aload rfl rfl ?_
    refine m_callU rfl (fun _ => rfl) rfl (mU_mono H fun I1 H => ?_)
    refine w_aload rfl rfl ?_
    refine m_callU rfl (fun _ => rfl) rfl (mU_mono H fun I2 H => ?_)
    refine w_iconst rfl ⟨by decide, by decide⟩ ?_
    exact w_zreturn rfl (by decide) H
  · replace H := H.2 hc
    refine w_iload rfl rfl ?_
    refine w_iconst rfl ⟨by decide, by decide⟩ ?_
    refine w_icmp rfl (And.intro (fun hc => ?_) (fun hc => ?_))
    · replace H := H.1 hc
      refine w_aload rfl rfl ?_
      refine m_callU rfl (fun _ => rfl) rfl (mU_mono H fun I3 H => ?_)
      refine w_aload rfl rfl ?_
      refine m_callU rfl (fun _ => rfl) rfl (mU_mono H fun I4 H => ?_)
      refine w_iconst rfl ⟨by decide, by decide⟩ ?_
      exact w_zreturn rfl (by decide) H
    · replace H := H.2 hc
      refine w_iconst rfl ⟨by decide, by decide⟩ ?_
      refine w_istore rfl rfl ?_
      exact H
set_option maxHeartbeats 4000000 in
set_option maxRecDepth 100000 in
theorem wr_Members_grow_64 {d : Nat} {Q : cm_Q} {z : cm_Z} {I : cm_I} (hz : wz z) {a0 : Nat} {x1 : Int} {x2 : Int} {z3 : Option cm_V} (p_a0 : isMb a0) (H : (((I a0 1) ≤ x2 → (cm_i (x1 + 1) ∧ cw d cd_Members_grow Q 48 [some (vR 3 a0), some (vI (x1 + 1)), some (vI x2), z3] [] (I, z))) ∧ (x2 < (I a0 1) → (mU d m_Members_multiplyByTable [vR 3 a0, vI x1, vI x2] z I fun I2 => (mI d m_Members_findCandidate [vR 3 a0] z I2 fun v4 I3 => ((¬ v4 = (I3 a0 2) → cw d cd_Members_grow Q 153 [some (vR 3 a0), some (vI x1), some (vI x2), some (vI v4)] [] (I3, z)) ∧ (v4 = (I3 a0 2) → ((¬ (I3 a0 2) = 48 → (cm_i (9 * (I3 a0 2)) ∧ ((0:Int) ≤ 0 ∧ (0:Int) ≤ (9 * (I3 a0 2)) ∧ (0:Int) ≤ 9 ∧ (0 : Int) + 9 ≤ 9 ∧ ((9 * (I3 a0 2)) : Int) + 9 ≤ 432) ∧ (∀ I7 : cm_I, I7 = iw I3 ((a0 + 2)) (cpyF (I3 ((a0 + 9))) 0 (I3 ((a0 + 2))) (9 * (I3 a0 2)) 9) → ((0:Int) ≤ (I7 a0 2) ∧ (I7 a0 2) < 48) ∧ (∀ I9 : cm_I, I9 = iu I7 (a0 + 7) (I7 a0 2) x1 → ((0:Int) ≤ (I9 a0 2) ∧ (I9 a0 2) < 48) ∧ (∀ I11 : cm_I, I11 = iu I9 (a0 + 8) (I9 a0 2) x2 → (cm_i ((I11 a0 2) + 1) ∧ (∀ I13 : cm_I, I13 = iu I11 a0 2 ((I11 a0 2) + 1) → cw d cd_Members_grow Q 153 [some (vR 3 a0), some (vI x1), some (vI x2), some (vI v4)] [] (I13, z)))))))) ∧ ((I3 a0 2) = 48 → Q (some (vI 0)) (I3, z)))))))))) : cw d cd_Members_grow Q 64 [some (vR 3 a0), some (vI x1), some (vI x2), z3] [] (I, z) := by
  refine w_iload rfl rfl ?_
  refine w_aload rfl rfl ?_
  refine m_getI 1 rfl rfl rfl (isMb_pos p_a0) ?_
  refine w_icmp rfl (And.intro (fun hc => ?_) (fun hc => ?_))
  · replace H := H.1 hc
    have o1 := H.1
    replace H := H.2
    refine w_iinc rfl rfl rfl o1 ?_
    refine w_goto rfl ?_
    exact H
  · replace H := H.2 hc
    refine w_aload rfl rfl ?_
    refine w_iload rfl rfl ?_
    refine w_iload rfl rfl ?_
    refine m_callU rfl (fun _ => rfl) rfl (mU_mono H fun I2 H => ?_)
    refine w_aload rfl rfl ?_
    refine m_callI rfl (fun _ => rfl) rfl (mI_mono H fun v4 I3 H => ?_)
    refine w_istore rfl rfl ?_
    refine w_iload rfl rfl ?_
    refine w_aload rfl rfl ?_
    refine m_getI 2 rfl rfl rfl (isMb_pos p_a0) ?_
    refine w_icmp rfl (And.intro (fun hc => ?_) (fun hc => ?_))
    · replace H := H.1 hc
      exact H
    · replace H := H.2 hc
      refine w_aload rfl rfl ?_
      refine m_getI 2 rfl rfl rfl (isMb_pos p_a0) ?_
      refine w_iconst rfl ⟨by decide, by decide⟩ ?_
      refine w_icmp rfl (And.intro (fun hc => ?_) (fun hc => ?_))
      · replace H := H.1 hc
        refine w_aload rfl rfl ?_
        refine n_getR 11 20 rfl rfl rfl rfl (isMb_pos p_a0) (wz_mb11 hz p_a0) ?_
        refine w_iconst rfl ⟨by decide, by decide⟩ ?_
        refine w_aload rfl rfl ?_
        refine n_getR 4 20 rfl rfl rfl rfl (isMb_pos p_a0) (wz_mb4 hz p_a0) ?_
        refine w_iconst rfl ⟨by decide, by decide⟩ ?_
        refine w_aload rfl rfl ?_
        refine m_getI 2 rfl rfl rfl (isMb_pos p_a0) ?_
        have o5 := H.1
        replace H := H.2
        refine w_imul rfl o5 ?_
        refine w_iconst rfl ⟨by decide, by decide⟩ ?_
        have o6 := H.1
        replace H := H.2
        refine n_copy rfl rfl (Nat.add_pos_right _ (by decide)) (Nat.add_pos_right _ (by decide)) (wz_mbL9 hz p_a0) (wz_mbL2 hz p_a0) o6 (fun I7 eI7 => ?_)
        replace H := H I7 eI7
        refine w_aload rfl rfl ?_
        refine n_getR 9 20 rfl rfl rfl rfl (isMb_pos p_a0) (wz_mb9 hz p_a0) ?_
        refine w_aload rfl rfl ?_
        refine m_getI 2 rfl rfl rfl (isMb_pos p_a0) ?_
        refine w_iload rfl rfl ?_
        have o8 := H.1
        replace H := H.2
        refine n_iastore rfl (Nat.add_pos_right _ (by decide)) (wz_mbL7 hz p_a0) o8 (fun I9 eI9 => ?_)
        replace H := H I9 eI9
        refine w_aload rfl rfl ?_
        refine n_getR 10 20 rfl rfl rfl rfl (isMb_pos p_a0) (wz_mb10 hz p_a0) ?_
        refine w_aload rfl rfl ?_
        refine m_getI 2 rfl rfl rfl (isMb_pos p_a0) ?_
        refine w_iload rfl rfl ?_
        have o10 := H.1
        replace H := H.2
        refine n_iastore rfl (Nat.add_pos_right _ (by decide)) (wz_mbL8 hz p_a0) o10 (fun I11 eI11 => ?_)
        replace H := H I11 eI11
        refine w_aload rfl rfl ?_
        refine w_dup rfl rfl ?_
        refine m_getI 2 rfl rfl rfl (isMb_pos p_a0) ?_
        refine w_iconst rfl ⟨by decide, by decide⟩ ?_
        have o12 := H.1
        replace H := H.2
        refine w_iadd rfl o12 ?_
        refine m_putI 2 rfl rfl rfl (isMb_pos p_a0) (fun I13 eI13 => ?_)
        replace H := H I13 eI13
        exact H
      · replace H := H.2 hc
        refine w_iconst rfl ⟨by decide, by decide⟩ ?_
        exact w_zreturn rfl (by decide) H
set_option maxHeartbeats 4000000 in
set_option maxRecDepth 100000 in
theorem wr_Members_grow_153 {d : Nat} {Q : cm_Q} {z : cm_Z} {I : cm_I} (hz : wz z) {a0 : Nat} {x1 : Int} {x2 : Int} {x3 : Int} (p_a0 : isMb a0) (H : (cm_i (4 * x1) ∧ (cm_i ((4 * x1) + x2) ∧ ((0:Int) ≤ ((4 * x1) + x2) ∧ ((4 * x1) + x2) < 192) ∧ (∀ I4 : cm_I, I4 = iu I (a0 + 3) ((4 * x1) + x2) x3 → (cm_i (x2 + 1) ∧ cw d cd_Members_grow Q 64 [some (vR 3 a0), some (vI x1), some (vI (x2 + 1)), some (vI x3)] [] (I4, z)))))) : cw d cd_Members_grow Q 153 [some (vR 3 a0), some (vI x1), some (vI x2), some (vI x3)] [] (I, z) := by
  refine w_aload rfl rfl ?_
  refine n_getR 5 20 rfl rfl rfl rfl (isMb_pos p_a0) (wz_mb5 hz p_a0) ?_
  refine w_iconst rfl ⟨by decide, by decide⟩ ?_
  refine w_iload rfl rfl ?_
  have o1 := H.1
  replace H := H.2
  refine w_imul rfl o1 ?_
  refine w_iload rfl rfl ?_
  have o2 := H.1
  replace H := H.2
  refine w_iadd rfl o2 ?_
  refine w_iload rfl rfl ?_
  have o3 := H.1
  replace H := H.2
  refine n_iastore rfl (Nat.add_pos_right _ (by decide)) (wz_mbL3 hz p_a0) o3 (fun I4 eI4 => ?_)
  replace H := H I4 eI4
  have o5 := H.1
  replace H := H.2
  refine w_iinc rfl rfl rfl o5 ?_
  refine w_goto rfl ?_
  exact H
set_option maxHeartbeats 4000000 in
set_option maxRecDepth 100000 in
theorem wr_Members_grow {d : Nat} {Q : cm_Q} {z : cm_Z} {I : cm_I} (hz : wz z) {a0 : Nat} (p_a0 : isMb a0) (H : (mU d m_Arr_fill4 [vR 20 (a0 + 2), vI 0, vI 9, vI 0] z I fun I1 => cw d cd_Members_grow Q 13 [some (vR 3 a0), some (vI 0), none, none] [] (I1, z))) : cm_call (d + 1) m_Members_grow [vR 3 a0] (I, z) Q := by
  refine cm_call_in (C := cd_Members_grow) (ls := [some (vR 3 a0), none, none, none]) rfl rfl (isMb_pos p_a0) rfl ?_
  refine w_aload rfl rfl ?_
  refine n_getR 4 20 rfl rfl rfl rfl (isMb_pos p_a0) (wz_mb4 hz p_a0) ?_
  refine w_iconst rfl ⟨by decide, by decide⟩ ?_
  refine w_iconst rfl ⟨by decide, by decide⟩ ?_
  refine w_iconst rfl ⟨by decide, by decide⟩ ?_
  refine m_callU rfl (fun _ => rfl) rfl (mU_mono H fun I1 H => ?_)
  refine w_iconst rfl ⟨by decide, by decide⟩ ?_
  refine w_istore rfl rfl ?_
  exact H
set_option maxHeartbeats 4000000 in
set_option maxRecDepth 100000 in
theorem wr_Members_multiplyByTable_2 {d : Nat} {Q : cm_Q} {z : cm_Z} {I : cm_I} (hz : wz z) {a0 : Nat} {x1 : Int} {x2 : Int} {x3 : Int} {z4 : Option cm_V} {z5 : Option cm_V} {z6 : Option cm_V} {z7 : Option cm_V} (p_a0 : isMb a0) (H : (((I a0 0) ≤ x3 → Q none (I, z)) ∧ (x3 < (I a0 0) → cw d cd_Members_multiplyByTable Q 13 [some (vR 3 a0), some (vI x1), some (vI x2), some (vI x3), some (vI 0), z5, z6, z7] [] (I, z)))) : cw d cd_Members_multiplyByTable Q 2 [some (vR 3 a0), some (vI x1), some (vI x2), some (vI x3), z4, z5, z6, z7] [] (I, z) := by
  refine w_iload rfl rfl ?_
  refine w_aload rfl rfl ?_
  refine m_getI 0 rfl rfl rfl (isMb_pos p_a0) ?_
  refine w_icmp rfl (And.intro (fun hc => ?_) (fun hc => ?_))
  · replace H := H.1 hc
    exact w_return rfl H
  · replace H := H.2 hc
    refine w_iconst rfl ⟨by decide, by decide⟩ ?_
    refine w_istore rfl rfl ?_
    exact H
set_option maxHeartbeats 4000000 in
set_option maxRecDepth 100000 in
theorem wr_Members_multiplyByTable_13 {d : Nat} {Q : cm_Q} {z : cm_Z} {I : cm_I} (hz : wz z) {a0 : Nat} {x1 : Int} {x2 : Int} {x3 : Int} {x4 : Int} {z5 : Option cm_V} {z6 : Option cm_V} {z7 : Option cm_V} (p_a0 : isMb a0) (H : (((I a0 0) ≤ x4 → (cm_i (x3 + 1) ∧ cw d cd_Members_multiplyByTable Q 2 [some (vR 3 a0), some (vI x1), some (vI x2), some (vI (x3 + 1)), some (vI x4), z5, z6, z7] [] (I, z))) ∧ (x4 < (I a0 0) → cw d cd_Members_multiplyByTable Q 28 [some (vR 3 a0), some (vI x1), some (vI x2), some (vI x3), some (vI x4), some (vI 0), some (vI 0), z7] [] (I, z)))) : cw d cd_Members_multiplyByTable Q 13 [some (vR 3 a0), some (vI x1), some (vI x2), some (vI x3), some (vI x4), z5, z6, z7] [] (I, z) := by
  refine w_iload rfl rfl ?_
  refine w_aload rfl rfl ?_
  refine m_getI 0 rfl rfl rfl (isMb_pos p_a0) ?_
  refine w_icmp rfl (And.intro (fun hc => ?_) (fun hc => ?_))
  · replace H := H.1 hc
    have o1 := H.1
    replace H := H.2
    refine w_iinc rfl rfl rfl o1 ?_
    refine w_goto rfl ?_
    exact H
  · replace H := H.2 hc
    refine w_iconst rfl ⟨by decide, by decide⟩ ?_
    refine w_istore rfl rfl ?_
    refine w_iconst rfl ⟨by decide, by decide⟩ ?_
    refine w_istore rfl rfl ?_
    exact H
set_option maxHeartbeats 4000000 in
set_option maxRecDepth 100000 in
theorem wr_Members_multiplyByTable_28 {d : Nat} {Q : cm_Q} {z : cm_Z} {I : cm_I} (hz : wz z) {a0 : Nat} {x1 : Int} {x2 : Int} {x3 : Int} {x4 : Int} {x5 : Int} {x6 : Int} {z7 : Option cm_V} (p_a0 : isMb a0) (H : (((I a0 0) ≤ x6 → (cm_i ((I a0 0) * x3) ∧ (cm_i (((I a0 0) * x3) + x4) ∧ ((0:Int) ≤ (((I a0 0) * x3) + x4) ∧ (((I a0 0) * x3) + x4) < 9) ∧ (∀ I4 : cm_I, I4 = iu I (a0 + 9) (((I a0 0) * x3) + x4) (Int.tmod x5 2521) → (cm_i (x4 + 1) ∧ cw d cd_Members_multiplyByTable Q 13 [some (vR 3 a0), some (vI x1), some (vI x2), some (vI x3), some (vI (x4 + 1)), some (vI x5), some (vI x6), z7] [] (I4, z)))))) ∧ (x6 < (I a0 0) → (cm_i (9 * x1) ∧ (cm_i ((I a0 0) * x3) ∧ (cm_i ((9 * x1) + ((I a0 0) * x3)) ∧ (cm_i (((9 * x1) + ((I a0 0) * x3)) + x6) ∧ ((0:Int) ≤ (((9 * x1) + ((I a0 0) * x3)) + x6) ∧ (((9 * x1) + ((I a0 0) * x3)) + x6) < 432) ∧ (cm_i (9 * x2) ∧ (cm_i ((I a0 0) * x6) ∧ (cm_i ((9 * x2) + ((I a0 0) * x6)) ∧ (cm_i (((9 * x2) + ((I a0 0) * x6)) + x4) ∧ ((0:Int) ≤ (((9 * x2) + ((I a0 0) * x6)) + x4) ∧ (((9 * x2) + ((I a0 0) * x6)) + x4) < 36) ∧ (cm_i ((I (a0 + 2) (((9 * x1) + ((I a0 0) * x3)) + x6)) * (I (a0 + 1) (((9 * x2) + ((I a0 0) * x6)) + x4))) ∧ (cm_i (x5 + ((I (a0 + 2) (((9 * x1) + ((I a0 0) * x3)) + x6)) * (I (a0 + 1) (((9 * x2) + ((I a0 0) * x6)) + x4)))) ∧ (cm_i (x6 + 1) ∧ cw d cd_Members_multiplyByTable Q 28 [some (vR 3 a0), some (vI x1), some (vI x2), some (vI x3), some (vI x4), some (vI (x5 + ((I (a0 + 2) (((9 * x1) + ((I a0 0) * x3)) + x6)) * (I (a0 + 1) (((9 * x2) + ((I a0 0) * x6)) + x4))))), some (vI (x6 + 1)), some (vI (I (a0 + 2) (((9 * x1) + ((I a0 0) * x3)) + x6)))] [] (I, z))))))))))))))) : cw d cd_Members_multiplyByTable Q 28 [some (vR 3 a0), some (vI x1), some (vI x2), some (vI x3), some (vI x4), some (vI x5), some (vI x6), z7] [] (I, z) := by
  refine w_iload rfl rfl ?_
  refine w_aload rfl rfl ?_
  refine m_getI 0 rfl rfl rfl (isMb_pos p_a0) ?_
  refine w_icmp rfl (And.intro (fun hc => ?_) (fun hc => ?_))
  · replace H := H.1 hc
    refine w_aload rfl rfl ?_
    refine n_getR 11 20 rfl rfl rfl rfl (isMb_pos p_a0) (wz_mb11 hz p_a0) ?_
    refine w_aload rfl rfl ?_
    refine m_getI 0 rfl rfl rfl (isMb_pos p_a0) ?_
    refine w_iload rfl rfl ?_
    have o1 := H.1
    replace H := H.2
    refine w_imul rfl o1 ?_
    refine w_iload rfl rfl ?_
    have o2 := H.1
    replace H := H.2
    refine w_iadd rfl o2 ?_
    refine w_iload rfl rfl ?_
    refine w_iconst rfl ⟨by decide, by decide⟩ ?_
    refine w_irem rfl (by decide) ?_
    have o3 := H.1
    replace H := H.2
    refine n_iastore rfl (Nat.add_pos_right _ (by decide)) (wz_mbL9 hz p_a0) o3 (fun I4 eI4 => ?_)
    replace H := H I4 eI4
    have o5 := H.1
    replace H := H.2
    refine w_iinc rfl rfl rfl o5 ?_
    refine w_goto rfl ?_
    exact H
  · replace H := H.2 hc
    refine w_aload rfl rfl ?_
    refine n_getR 4 20 rfl rfl rfl rfl (isMb_pos p_a0) (wz_mb4 hz p_a0) ?_
    refine w_iconst rfl ⟨by decide, by decide⟩ ?_
    refine w_iload rfl rfl ?_
    have o6 := H.1
    replace H := H.2
    refine w_imul rfl o6 ?_
    refine w_aload rfl rfl ?_
    refine m_getI 0 rfl rfl rfl (isMb_pos p_a0) ?_
    refine w_iload rfl rfl ?_
    have o7 := H.1
    replace H := H.2
    refine w_imul rfl o7 ?_
    have o8 := H.1
    replace H := H.2
    refine w_iadd rfl o8 ?_
    refine w_iload rfl rfl ?_
    have o9 := H.1
    replace H := H.2
    refine w_iadd rfl o9 ?_
    have o10 := H.1
    replace H := H.2
    refine n_iaload rfl (Nat.add_pos_right _ (by decide)) (wz_mbL2 hz p_a0) o10 ?_
    refine w_istore rfl rfl ?_
    refine w_iload rfl rfl ?_
    refine w_iload rfl rfl ?_
    refine w_aload rfl rfl ?_
    refine n_getR 3 20 rfl rfl rfl rfl (isMb_pos p_a0) (wz_mb3 hz p_a0) ?_
    refine w_iconst rfl ⟨by decide, by decide⟩ ?_
    refine w_iload rfl rfl ?_
    have o11 := H.1
    replace H := H.2
    refine w_imul rfl o11 ?_
    refine w_aload rfl rfl ?_
    refine m_getI 0 rfl rfl rfl (isMb_pos p_a0) ?_
    refine w_iload rfl rfl ?_
    have o12 := H.1
    replace H := H.2
    refine w_imul rfl o12 ?_
    have o13 := H.1
    replace H := H.2
    refine w_iadd rfl o13 ?_
    refine w_iload rfl rfl ?_
    have o14 := H.1
    replace H := H.2
    refine w_iadd rfl o14 ?_
    have o15 := H.1
    replace H := H.2
    refine n_iaload rfl (Nat.add_pos_right _ (by decide)) (wz_mbL1 hz p_a0) o15 ?_
    have o16 := H.1
    replace H := H.2
    refine w_imul rfl o16 ?_
    have o17 := H.1
    replace H := H.2
    refine w_iadd rfl o17 ?_
    refine w_istore rfl rfl ?_
    have o18 := H.1
    replace H := H.2
    refine w_iinc rfl rfl rfl o18 ?_
    refine w_goto rfl ?_
    exact H
set_option maxHeartbeats 4000000 in
set_option maxRecDepth 100000 in
theorem wr_Members_multiplyByTable {d : Nat} {Q : cm_Q} {z : cm_Z} {I : cm_I} (hz : wz z) {a0 : Nat} {x1 : Int} {x2 : Int} (p_a0 : isMb a0) (H : cw d cd_Members_multiplyByTable Q 2 [some (vR 3 a0), some (vI x1), some (vI x2), some (vI 0), none, none, none, none] [] (I, z)) : cm_call (d + 1) m_Members_multiplyByTable [vR 3 a0, vI x1, vI x2] (I, z) Q := by
  refine cm_call_in (C := cd_Members_multiplyByTable) (ls := [some (vR 3 a0), some (vI x1), some (vI x2), none, none, none, none, none]) rfl rfl (isMb_pos p_a0) rfl ?_
  refine w_iconst rfl ⟨by decide, by decide⟩ ?_
  refine w_istore rfl rfl ?_
  exact H
set_option maxHeartbeats 4000000 in
set_option maxRecDepth 100000 in
theorem wr_Members_findCandidate_2 {d : Nat} {Q : cm_Q} {z : cm_Z} {I : cm_I} (hz : wz z) {a0 : Nat} {x1 : Int} {z2 : Option cm_V} (p_a0 : isMb a0) (H : (((I a0 2) ≤ x1 → Q (some (vI (I a0 2))) (I, z)) ∧ (x1 < (I a0 2) → cw d cd_Members_findCandidate Q 12 [some (vR 3 a0), some (vI x1), some (vI 0)] [] (I, z)))) : cw d cd_Members_findCandidate Q 2 [some (vR 3 a0), some (vI x1), z2] [] (I, z) := by
  refine w_iload rfl rfl ?_
  refine w_aload rfl rfl ?_
  refine m_getI 2 rfl rfl rfl (isMb_pos p_a0) ?_
  refine w_icmp rfl (And.intro (fun hc => ?_) (fun hc => ?_))
  · replace H := H.1 hc
    refine w_aload rfl rfl ?_
    refine m_getI 2 rfl rfl rfl (isMb_pos p_a0) ?_
    exact w_ireturn rfl H
  · replace H := H.2 hc
    refine w_iconst rfl ⟨by decide, by decide⟩ ?_
    refine w_istore rfl rfl ?_
    exact H
set_option maxHeartbeats 4000000 in
set_option maxRecDepth 100000 in
theorem wr_Members_findCandidate_12 {d : Nat} {Q : cm_Q} {z : cm_Z} {I : cm_I} (hz : wz z) {a0 : Nat} {x1 : Int} {x2 : Int} (p_a0 : isMb a0) (H : (cm_i ((I a0 0) * (I a0 0)) ∧ ((((I a0 0) * (I a0 0)) ≤ x2 → cw d cd_Members_findCandidate Q 51 [some (vR 3 a0), some (vI x1), some (vI x2)] [] (I, z)) ∧ (x2 < ((I a0 0) * (I a0 0)) → (cm_i (9 * x1) ∧ (cm_i ((9 * x1) + x2) ∧ ((0:Int) ≤ ((9 * x1) + x2) ∧ ((9 * x1) + x2) < 432) ∧ ((0:Int) ≤ x2 ∧ x2 < 9) ∧ ((¬ (I (a0 + 2) ((9 * x1) + x2)) = (I (a0 + 9) x2) → cw d cd_Members_findCandidate Q 51 [some (vR 3 a0), some (vI x1), some (vI x2)] [] (I, z)) ∧ ((I (a0 + 2) ((9 * x1) + x2)) = (I (a0 + 9) x2) → (cm_i (x2 + 1) ∧ cw d cd_Members_findCandidate Q 12 [some (vR 3 a0), some (vI x1), some (vI (x2 + 1))] [] (I, z)))))))))) : cw d cd_Members_findCandidate Q 12 [some (vR 3 a0), some (vI x1), some (vI x2)] [] (I, z) := by
  refine w_iload rfl rfl ?_
  refine w_aload rfl rfl ?_
  refine m_getI 0 rfl rfl rfl (isMb_pos p_a0) ?_
  refine w_aload rfl rfl ?_
  refine m_getI 0 rfl rfl rfl (isMb_pos p_a0) ?_
  have o1 := H.1
  replace H := H.2
  refine w_imul rfl o1 ?_
  refine w_icmp rfl (And.intro (fun hc => ?_) (fun hc => ?_))
  · replace H := H.1 hc
    exact H
  · replace H := H.2 hc
    refine w_aload rfl rfl ?_
    refine n_getR 4 20 rfl rfl rfl rfl (isMb_pos p_a0) (wz_mb4 hz p_a0) ?_
    refine w_iconst rfl ⟨by decide, by decide⟩ ?_
    refine w_iload rfl rfl ?_
    have o2 := H.1
    replace H := H.2
    refine w_imul rfl o2 ?_
    refine w_iload rfl rfl ?_
    have o3 := H.1
    replace H := H.2
    refine w_iadd rfl o3 ?_
    have o4 := H.1
    replace H := H.2
    refine n_iaload rfl (Nat.add_pos_right _ (by decide)) (wz_mbL2 hz p_a0) o4 ?_
    refine w_aload rfl rfl ?_
    refine n_getR 11 20 rfl rfl rfl rfl (isMb_pos p_a0) (wz_mb11 hz p_a0) ?_
    refine w_iload rfl rfl ?_
    have o5 := H.1
    replace H := H.2
    refine n_iaload rfl (Nat.add_pos_right _ (by decide)) (wz_mbL9 hz p_a0) o5 ?_
    refine w_icmp rfl (And.intro (fun hc => ?_) (fun hc => ?_))
    · replace H := H.1 hc
      exact H
    · replace H := H.2 hc
      have o6 := H.1
      replace H := H.2
      refine w_iinc rfl rfl rfl o6 ?_
      refine w_goto rfl ?_
      exact H
set_option maxHeartbeats 4000000 in
set_option maxRecDepth 100000 in
theorem wr_Members_findCandidate_51 {d : Nat} {Q : cm_Q} {z : cm_Z} {I : cm_I} (hz : wz z) {a0 : Nat} {x1 : Int} {x2 : Int} (p_a0 : isMb a0) (H : (cm_i ((I a0 0) * (I a0 0)) ∧ ((¬ x2 = ((I a0 0) * (I a0 0)) → (cm_i (x1 + 1) ∧ cw d cd_Members_findCandidate Q 2 [some (vR 3 a0), some (vI (x1 + 1)), some (vI x2)] [] (I, z))) ∧ (x2 = ((I a0 0) * (I a0 0)) → Q (some (vI x1)) (I, z))))) : cw d cd_Members_findCandidate Q 51 [some (vR 3 a0), some (vI x1), some (vI x2)] [] (I, z) := by
  refine w_iload rfl rfl ?_
  refine w_aload rfl rfl ?_
  refine m_getI 0 rfl rfl rfl (isMb_pos p_a0) ?_
  refine w_aload rfl rfl ?_
  refine m_getI 0 rfl rfl rfl (isMb_pos p_a0) ?_
  have o1 := H.1
  replace H := H.2
  refine w_imul rfl o1 ?_
  refine w_icmp rfl (And.intro (fun hc => ?_) (fun hc => ?_))
  · replace H := H.1 hc
    have o2 := H.1
    replace H := H.2
    refine w_iinc rfl rfl rfl o2 ?_
    refine w_goto rfl ?_
    exact H
  · replace H := H.2 hc
    refine w_iload rfl rfl ?_
    exact w_ireturn rfl H
set_option maxHeartbeats 4000000 in
set_option maxRecDepth 100000 in
theorem wr_Members_findCandidate {d : Nat} {Q : cm_Q} {z : cm_Z} {I : cm_I} (hz : wz z) {a0 : Nat} (p_a0 : isMb a0) (H : cw d cd_Members_findCandidate Q 2 [some (vR 3 a0), some (vI 0), none] [] (I, z)) : cm_call (d + 1) m_Members_findCandidate [vR 3 a0] (I, z) Q := by
  refine cm_call_in (C := cd_Members_findCandidate) (ls := [some (vR 3 a0), none, none]) rfl rfl (isMb_pos p_a0) rfl ?_
  refine w_iconst rfl ⟨by decide, by decide⟩ ?_
  refine w_istore rfl rfl ?_
  exact H
set_option maxHeartbeats 4000000 in
set_option maxRecDepth 100000 in
theorem wr_Members_fillProducts_2 {d : Nat} {Q : cm_Q} {z : cm_Z} {I : cm_I} (hz : wz z) {a0 : Nat} {x1 : Int} {z2 : Option cm_V} {z3 : Option cm_V} (p_a0 : isMb a0) (H : (((I a0 2) ≤ x1 → Q none (I, z)) ∧ (x1 < (I a0 2) → (cm_i (48 * x1) ∧ ((0:Int) ≤ (48 * x1) ∧ (48 * x1) < 2304) ∧ (∀ I3 : cm_I, I3 = iu I (a0 + 4) (48 * x1) x1 → cw d cd_Members_fillProducts Q 24 [some (vR 3 a0), some (vI x1), some (vI (48 * x1)), some (vI 1)] [] (I3, z)))))) : cw d cd_Members_fillProducts Q 2 [some (vR 3 a0), some (vI x1), z2, z3] [] (I, z) := by
  refine w_iload rfl rfl ?_
  refine w_aload rfl rfl ?_
  refine m_getI 2 rfl rfl rfl (isMb_pos p_a0) ?_
  refine w_icmp rfl (And.intro (fun hc => ?_) (fun hc => ?_))
  · replace H := H.1 hc
    exact w_return rfl H
  · replace H := H.2 hc
    refine w_iconst rfl ⟨by decide, by decide⟩ ?_
    refine w_iload rfl rfl ?_
    have o1 := H.1
    replace H := H.2
    refine w_imul rfl o1 ?_
    refine w_istore rfl rfl ?_
    refine w_aload rfl rfl ?_
    refine n_getR 6 20 rfl rfl rfl rfl (isMb_pos p_a0) (wz_mb6 hz p_a0) ?_
    refine w_iload rfl rfl ?_
    refine w_iload rfl rfl ?_
    have o2 := H.1
    replace H := H.2
    refine n_iastore rfl (Nat.add_pos_right _ (by decide)) (wz_mbL4 hz p_a0) o2 (fun I3 eI3 => ?_)
    replace H := H I3 eI3
    refine w_iconst rfl ⟨by decide, by decide⟩ ?_
    refine w_istore rfl rfl ?_
    exact H
set_option maxHeartbeats 4000000 in
set_option maxRecDepth 100000 in
theorem wr_Members_fillProducts_24 {d : Nat} {Q : cm_Q} {z : cm_Z} {I : cm_I} (hz : wz z) {a0 : Nat} {x1 : Int} {x2 : Int} {x3 : Int} (p_a0 : isMb a0) (H : (((I a0 2) ≤ x3 → (cm_i (x1 + 1) ∧ cw d cd_Members_fillProducts Q 2 [some (vR 3 a0), some (vI (x1 + 1)), some (vI x2), some (vI x3)] [] (I, z))) ∧ (x3 < (I a0 2) → (cm_i (x2 + x3) ∧ ((0:Int) ≤ x3 ∧ x3 < 48) ∧ (cm_i (x2 + (I (a0 + 7) x3)) ∧ ((0:Int) ≤ (x2 + (I (a0 + 7) x3)) ∧ (x2 + (I (a0 + 7) x3)) < 2304) ∧ (cm_i (4 * (I (a0 + 4) (x2 + (I (a0 + 7) x3)))) ∧ (cm_i ((4 * (I (a0 + 4) (x2 + (I (a0 + 7) x3)))) + (I (a0 + 8) x3)) ∧ ((0:Int) ≤ ((4 * (I (a0 + 4) (x2 + (I (a0 + 7) x3)))) + (I (a0 + 8) x3)) ∧ ((4 * (I (a0 + 4) (x2 + (I (a0 + 7) x3)))) + (I (a0 + 8) x3)) < 192) ∧ ((0:Int) ≤ (x2 + x3) ∧ (x2 + x3) < 2304) ∧ (∀ I10 : cm_I, I10 = iu I (a0 + 4) (x2 + x3) (I (a0 + 3) ((4 * (I (a0 + 4) (x2 + (I (a0 + 7) x3)))) + (I (a0 + 8) x3))) → (cm_i (x3 + 1) ∧ cw d cd_Members_fillProducts Q 24 [some (vR 3 a0), some (vI x1), some (vI x2), some (vI (x3 + 1))] [] (I10, z)))))))))) : cw d cd_Members_fillProducts Q 24 [some (vR 3 a0), some (vI x1), some (vI x2), some (vI x3)] [] (I, z) := by
  refine w_iload rfl rfl ?_
  refine w_aload rfl rfl ?_
  refine m_getI 2 rfl rfl rfl (isMb_pos p_a0) ?_
  refine w_icmp rfl (And.intro (fun hc => ?_) (fun hc => ?_))
  · replace H := H.1 hc
    have o1 := H.1
    replace H := H.2
    refine w_iinc rfl rfl rfl o1 ?_
    refine w_goto rfl ?_
    exact H
  · replace H := H.2 hc
    refine w_aload rfl rfl ?_
    refine n_getR 6 20 rfl rfl rfl rfl (isMb_pos p_a0) (wz_mb6 hz p_a0) ?_
    refine w_iload rfl rfl ?_
    refine w_iload rfl rfl ?_
    have o2 := H.1
    replace H := H.2
    refine w_iadd rfl o2 ?_
    refine w_aload rfl rfl ?_
    refine n_getR 5 20 rfl rfl rfl rfl (isMb_pos p_a0) (wz_mb5 hz p_a0) ?_
    refine w_iconst rfl ⟨by decide, by decide⟩ ?_
    refine w_aload rfl rfl ?_
    refine n_getR 6 20 rfl rfl rfl rfl (isMb_pos p_a0) (wz_mb6 hz p_a0) ?_
    refine w_iload rfl rfl ?_
    refine w_aload rfl rfl ?_
    refine n_getR 9 20 rfl rfl rfl rfl (isMb_pos p_a0) (wz_mb9 hz p_a0) ?_
    refine w_iload rfl rfl ?_
    have o3 := H.1
    replace H := H.2
    refine n_iaload rfl (Nat.add_pos_right _ (by decide)) (wz_mbL7 hz p_a0) o3 ?_
    have o4 := H.1
    replace H := H.2
    refine w_iadd rfl o4 ?_
    have o5 := H.1
    replace H := H.2
    refine n_iaload rfl (Nat.add_pos_right _ (by decide)) (wz_mbL4 hz p_a0) o5 ?_
    have o6 := H.1
    replace H := H.2
    refine w_imul rfl o6 ?_
    refine w_aload rfl rfl ?_
    refine n_getR 10 20 rfl rfl rfl rfl (isMb_pos p_a0) (wz_mb10 hz p_a0) ?_
    refine w_iload rfl rfl ?_
    refine n_iaload rfl (Nat.add_pos_right _ (by decide)) (wz_mbL8 hz p_a0) o3 ?_
    have o7 := H.1
    replace H := H.2
    refine w_iadd rfl o7 ?_
    have o8 := H.1
    replace H := H.2
    refine n_iaload rfl (Nat.add_pos_right _ (by decide)) (wz_mbL3 hz p_a0) o8 ?_
    have o9 := H.1
    replace H := H.2
    refine n_iastore rfl (Nat.add_pos_right _ (by decide)) (wz_mbL4 hz p_a0) o9 (fun I10 eI10 => ?_)
    replace H := H I10 eI10
    have o11 := H.1
    replace H := H.2
    refine w_iinc rfl rfl rfl o11 ?_
    refine w_goto rfl ?_
    exact H
set_option maxHeartbeats 4000000 in
set_option maxRecDepth 100000 in
theorem wr_Members_fillProducts {d : Nat} {Q : cm_Q} {z : cm_Z} {I : cm_I} (hz : wz z) {a0 : Nat} (p_a0 : isMb a0) (H : cw d cd_Members_fillProducts Q 2 [some (vR 3 a0), some (vI 0), none, none] [] (I, z)) : cm_call (d + 1) m_Members_fillProducts [vR 3 a0] (I, z) Q := by
  refine cm_call_in (C := cd_Members_fillProducts) (ls := [some (vR 3 a0), none, none, none]) rfl rfl (isMb_pos p_a0) rfl ?_
  refine w_iconst rfl ⟨by decide, by decide⟩ ?_
  refine w_istore rfl rfl ?_
  exact H
set_option maxHeartbeats 4000000 in
set_option maxRecDepth 100000 in
theorem wr_Members_fillOrders_2 {d : Nat} {Q : cm_Q} {z : cm_Z} {I : cm_I} (hz : wz z) {a0 : Nat} {x1 : Int} {z2 : Option cm_V} {z3 : Option cm_V} {z4 : Option cm_V} (p_a0 : isMb a0) (H : (((I a0 2) ≤ x1 → Q none (I, z)) ∧ (x1 < (I a0 2) → cw d cd_Members_fillOrders Q 17 [some (vR 3 a0), some (vI x1), some (vI x1), some (vI 0), some (vI 1)] [] (I, z)))) : cw d cd_Members_fillOrders Q 2 [some (vR 3 a0), some (vI x1), z2, z3, z4] [] (I, z) := by
  refine w_iload rfl rfl ?_
  refine w_aload rfl rfl ?_
  refine m_getI 2 rfl rfl rfl (isMb_pos p_a0) ?_
  refine w_icmp rfl (And.intro (fun hc => ?_) (fun hc => ?_))
  · replace H := H.1 hc
    exact w_return rfl H
  · replace H := H.2 hc
    refine w_iload rfl rfl ?_
    refine w_istore rfl rfl ?_
    refine w_iconst rfl ⟨by decide, by decide⟩ ?_
    refine w_istore rfl rfl ?_
    refine w_iconst rfl ⟨by decide, by decide⟩ ?_
    refine w_istore rfl rfl ?_
    exact H
set_option maxHeartbeats 4000000 in
set_option maxRecDepth 100000 in
theorem wr_Members_fillOrders_17 {d : Nat} {Q : cm_Q} {z : cm_Z} {I : cm_I} (hz : wz z) {a0 : Nat} {x1 : Int} {x2 : Int} {x3 : Int} {x4 : Int} (p_a0 : isMb a0) (H : ((x2 = 0 → cw d cd_Members_fillOrders Q 50 [some (vR 3 a0), some (vI x1), some (vI x2), some (vI x3), some (vI x4)] [] (I, z)) ∧ (¬ x2 = 0 → (((I a0 2) ≤ x4 → cw d cd_Members_fillOrders Q 50 [some (vR 3 a0), some (vI x1), some (vI x2), some (vI x3), some (vI x4)] [] (I, z)) ∧ (x4 < (I a0 2) → (cm_i (48 * x2) ∧ (cm_i ((48 * x2) + x1) ∧ ((0:Int) ≤ ((48 * x2) + x1) ∧ ((48 * x2) + x1) < 2304) ∧ (cm_i (x4 + 1) ∧ cw d cd_Members_fillOrders Q 17 [some (vR 3 a0), some (vI x1), some (vI (I (a0 + 4) ((48 * x2) + x1))), some (vI x2), some (vI (x4 + 1))] [] (I, z))))))))) : cw d cd_Members_fillOrders Q 17 [some (vR 3 a0), some (vI x1), some (vI x2), some (vI x3), some (vI x4)] [] (I, z) := by
  refine w_iload rfl rfl ?_
  refine w_if rfl (And.intro (fun hc => ?_) (fun hc => ?_))
  · replace H := H.1 hc
    exact H
  · replace H := H.2 hc
    refine w_iload rfl rfl ?_
    refine w_aload rfl rfl ?_
    refine m_getI 2 rfl rfl rfl (isMb_pos p_a0) ?_
    refine w_icmp rfl (And.intro (fun hc => ?_) (fun hc => ?_))
    · replace H := H.1 hc
      exact H
    · replace H := H.2 hc
      refine w_iload rfl rfl ?_
      refine w_istore rfl rfl ?_
      refine w_aload rfl rfl ?_
      refine n_getR 6 20 rfl rfl rfl rfl (isMb_pos p_a0) (wz_mb6 hz p_a0) ?_
      refine w_iconst rfl ⟨by decide, by decide⟩ ?_
      refine w_iload rfl rfl ?_
      have o1 := H.1
      replace H := H.2
      refine w_imul rfl o1 ?_
      refine w_iload rfl rfl ?_
      have o2 := H.1
      replace H := H.2
      refine w_iadd rfl o2 ?_
      have o3 := H.1
      replace H := H.2
      refine n_iaload rfl (Nat.add_pos_right _ (by decide)) (wz_mbL4 hz p_a0) o3 ?_
      refine w_istore rfl rfl ?_
      have o4 := H.1
      replace H := H.2
      refine w_iinc rfl rfl rfl o4 ?_
      refine w_goto rfl ?_
      exact H
set_option maxHeartbeats 4000000 in
set_option maxRecDepth 100000 in
theorem wr_Members_fillOrders_50 {d : Nat} {Q : cm_Q} {z : cm_Z} {I : cm_I} (hz : wz z) {a0 : Nat} {x1 : Int} {z2 : Option cm_V} {x3 : Int} {x4 : Int} (p_a0 : isMb a0) (H : ((0:Int) ≤ x1 ∧ x1 < 48) ∧ (∀ I2 : cm_I, I2 = iu I (a0 + 6) x1 x4 → (∀ I3 : cm_I, I3 = iu I2 (a0 + 5) x1 x3 → (cm_i (x1 + 1) ∧ cw d cd_Members_fillOrders Q 2 [some (vR 3 a0), some (vI (x1 + 1)), z2, some (vI x3), some (vI x4)] [] (I3, z))))) : cw d cd_Members_fillOrders Q 50 [some (vR 3 a0), some (vI x1), z2, some (vI x3), some (vI x4)] [] (I, z) := by
  refine w_aload rfl rfl ?_
  refine n_getR 8 20 rfl rfl rfl rfl (isMb_pos p_a0) (wz_mb8 hz p_a0) ?_
  refine w_iload rfl rfl ?_
  refine w_iload rfl rfl ?_
  have o1 := H.1
  replace H := H.2
  refine n_iastore rfl (Nat.add_pos_right _ (by decide)) (wz_mbL6 hz p_a0) o1 (fun I2 eI2 => ?_)
  replace H := H I2 eI2
  refine w_aload rfl rfl ?_
  refine n_getR 7 20 rfl rfl rfl rfl (isMb_pos p_a0) (wz_mb7 hz p_a0) ?_
  refine w_iload rfl rfl ?_
  refine w_iload rfl rfl ?_
  refine n_iastore rfl (Nat.add_pos_right _ (by decide)) (wz_mbL5 hz p_a0) o1 (fun I3 eI3 => ?_)
  replace H := H I3 eI3
  have o4 := H.1
  replace H := H.2
  refine w_iinc rfl rfl rfl o4 ?_
  refine w_goto rfl ?_
  exact H
set_option maxHeartbeats 4000000 in
set_option maxRecDepth 100000 in
theorem wr_Members_fillOrders {d : Nat} {Q : cm_Q} {z : cm_Z} {I : cm_I} (hz : wz z) {a0 : Nat} (p_a0 : isMb a0) (H : cw d cd_Members_fillOrders Q 2 [some (vR 3 a0), some (vI 0), none, none, none] [] (I, z)) : cm_call (d + 1) m_Members_fillOrders [vR 3 a0] (I, z) Q := by
  refine cm_call_in (C := cd_Members_fillOrders) (ls := [some (vR 3 a0), none, none, none, none]) rfl rfl (isMb_pos p_a0) rfl ?_
  refine w_iconst rfl ⟨by decide, by decide⟩ ?_
  refine w_istore rfl rfl ?_
  exact H
set_option maxHeartbeats 4000000 in
set_option maxRecDepth 100000 in
theorem wr_Members_lots_4 {d : Nat} {Q : cm_Q} {z : cm_Z} {I : cm_I} (hz : wz z) {a0 : Nat} {x1 : Int} {x2 : Int} (p_a0 : isMb a0) (H : (((I a0 2) ≤ x2 → Q (some (vI x1)) (I, z)) ∧ (x2 < (I a0 2) → (mI d m_Members_isFirstOfLot [vR 3 a0, vI x2] z I fun v2 I1 => ((v2 = 0 → (cm_i (x2 + 1) ∧ cw d cd_Members_lots Q 4 [some (vR 3 a0), some (vI x1), some (vI (x2 + 1))] [] (I1, z))) ∧ (¬ v2 = 0 → (cm_i (x1 + 1) ∧ (cm_i (x2 + 1) ∧ cw d cd_Members_lots Q 4 [some (vR 3 a0), some (vI (x1 + 1)), some (vI (x2 + 1))] [] (I1, z))))))))) : cw d cd_Members_lots Q 4 [some (vR 3 a0), some (vI x1), some (vI x2)] [] (I, z) := by
  refine w_iload rfl rfl ?_
  refine w_aload rfl rfl ?_
  refine m_getI 2 rfl rfl rfl (isMb_pos p_a0) ?_
  refine w_icmp rfl (And.intro (fun hc => ?_) (fun hc => ?_))
  · replace H := H.1 hc
    refine w_iload rfl rfl ?_
    exact w_ireturn rfl H
  · replace H := H.2 hc
    refine w_aload rfl rfl ?_
    refine w_iload rfl rfl ?_
    refine m_callI rfl (fun _ => rfl) rfl (mI_mono H fun v2 I1 H => ?_)
    refine w_if rfl (And.intro (fun hc => ?_) (fun hc => ?_))
    · replace H := H.1 hc
      have o3 := H.1
      replace H := H.2
      refine w_iinc rfl rfl rfl o3 ?_
      refine w_goto rfl ?_
      exact H
    · replace H := H.2 hc
      have o4 := H.1
      replace H := H.2
      refine w_iinc rfl rfl rfl o4 ?_
      have o5 := H.1
      replace H := H.2
      refine w_iinc rfl rfl rfl o5 ?_
      refine w_goto rfl ?_
      exact H
set_option maxHeartbeats 4000000 in
set_option maxRecDepth 100000 in
theorem wr_Members_lots {d : Nat} {Q : cm_Q} {z : cm_Z} {I : cm_I} (hz : wz z) {a0 : Nat} (p_a0 : isMb a0) (H : cw d cd_Members_lots Q 4 [some (vR 3 a0), some (vI 0), some (vI 0)] [] (I, z)) : cm_call (d + 1) m_Members_lots [vR 3 a0] (I, z) Q := by
  refine cm_call_in (C := cd_Members_lots) (ls := [some (vR 3 a0), none, none]) rfl rfl (isMb_pos p_a0) rfl ?_
  refine w_iconst rfl ⟨by decide, by decide⟩ ?_
  refine w_istore rfl rfl ?_
  refine w_iconst rfl ⟨by decide, by decide⟩ ?_
  refine w_istore rfl rfl ?_
  exact H
set_option maxHeartbeats 4000000 in
set_option maxRecDepth 100000 in
theorem wr_Members_isFirstOfLot_2 {d : Nat} {Q : cm_Q} {z : cm_Z} {I : cm_I} (hz : wz z) {a0 : Nat} {x1 : Int} {x2 : Int} {z3 : Option cm_V} (p_a0 : isMb a0) (H : (((I a0 2) ≤ x2 → Q (some (vI 1)) (I, z)) ∧ (x2 < (I a0 2) → ((0:Int) ≤ x2 ∧ x2 < 48) ∧ (cm_i (48 * (I (a0 + 5) x2)) ∧ (cm_i ((48 * (I (a0 + 5) x2)) + x1) ∧ ((0:Int) ≤ ((48 * (I (a0 + 5) x2)) + x1) ∧ ((48 * (I (a0 + 5) x2)) + x1) < 2304) ∧ (cm_i (48 * (I (a0 + 4) ((48 * (I (a0 + 5) x2)) + x1))) ∧ (cm_i ((48 * (I (a0 + 4) ((48 * (I (a0 + 5) x2)) + x1))) + x2) ∧ ((0:Int) ≤ ((48 * (I (a0 + 4) ((48 * (I (a0 + 5) x2)) + x1))) + x2) ∧ ((48 * (I (a0 + 4) ((48 * (I (a0 + 5) x2)) + x1))) + x2) < 2304) ∧ ((x1 ≤ (I (a0 + 4) ((48 * (I (a0 + 4) ((48 * (I (a0 + 5) x2)) + x1))) + x2)) → (cm_i (x2 + 1) ∧ cw d cd_Members_isFirstOfLot Q 2 [some (vR 3 a0), some (vI x1), some (vI (x2 + 1)), some (vI (I (a0 + 4) ((48 * (I (a0 + 5) x2)) + x1)))] [] (I, z))) ∧ ((I (a0 + 4) ((48 * (I (a0 + 4) ((48 * (I (a0 + 5) x2)) + x1))) + x2)) < x1 → Q (some (vI 0)) (I, z)))))))))) : cw d cd_Members_isFirstOfLot Q 2 [some (vR 3 a0), some (vI x1), some (vI x2), z3] [] (I, z) := by
  refine w_iload rfl rfl ?_
  refine w_aload rfl rfl ?_
  refine m_getI 2 rfl rfl rfl (isMb_pos p_a0) ?_
  refine w_icmp rfl (And.intro (fun hc => ?_) (fun hc => ?_))
  · replace H := H.1 hc
    refine w_iconst rfl ⟨by decide, by decide⟩ ?_
    exact w_zreturn rfl (by decide) H
  · replace H := H.2 hc
    refine w_aload rfl rfl ?_
    refine n_getR 6 20 rfl rfl rfl rfl (isMb_pos p_a0) (wz_mb6 hz p_a0) ?_
    refine w_iconst rfl ⟨by decide, by decide⟩ ?_
    refine w_aload rfl rfl ?_
    refine n_getR 7 20 rfl rfl rfl rfl (isMb_pos p_a0) (wz_mb7 hz p_a0) ?_
    refine w_iload rfl rfl ?_
    have o1 := H.1
    replace H := H.2
    refine n_iaload rfl (Nat.add_pos_right _ (by decide)) (wz_mbL5 hz p_a0) o1 ?_
    have o2 := H.1
    replace H := H.2
    refine w_imul rfl o2 ?_
    refine w_iload rfl rfl ?_
    have o3 := H.1
    replace H := H.2
    refine w_iadd rfl o3 ?_
    have o4 := H.1
    replace H := H.2
    refine n_iaload rfl (Nat.add_pos_right _ (by decide)) (wz_mbL4 hz p_a0) o4 ?_
    refine w_istore rfl rfl ?_
    refine w_aload rfl rfl ?_
    refine n_getR 6 20 rfl rfl rfl rfl (isMb_pos p_a0) (wz_mb6 hz p_a0) ?_
    refine w_iconst rfl ⟨by decide, by decide⟩ ?_
    refine w_iload rfl rfl ?_
    have o5 := H.1
    replace H := H.2
    refine w_imul rfl o5 ?_
    refine w_iload rfl rfl ?_
    have o6 := H.1
    replace H := H.2
    refine w_iadd rfl o6 ?_
    have o7 := H.1
    replace H := H.2
    refine n_iaload rfl (Nat.add_pos_right _ (by decide)) (wz_mbL4 hz p_a0) o7 ?_
    refine w_iload rfl rfl ?_
    refine w_icmp rfl (And.intro (fun hc => ?_) (fun hc => ?_))
    · replace H := H.1 hc
      have o8 := H.1
      replace H := H.2
      refine w_iinc rfl rfl rfl o8 ?_
      refine w_goto rfl ?_
      exact H
    · replace H := H.2 hc
      refine w_iconst rfl ⟨by decide, by decide⟩ ?_
      exact w_zreturn rfl (by decide) H
set_option maxHeartbeats 4000000 in
set_option maxRecDepth 100000 in
theorem wr_Members_isFirstOfLot {d : Nat} {Q : cm_Q} {z : cm_Z} {I : cm_I} (hz : wz z) {a0 : Nat} {x1 : Int} (p_a0 : isMb a0) (H : cw d cd_Members_isFirstOfLot Q 2 [some (vR 3 a0), some (vI x1), some (vI 0), none] [] (I, z)) : cm_call (d + 1) m_Members_isFirstOfLot [vR 3 a0, vI x1] (I, z) Q := by
  refine cm_call_in (C := cd_Members_isFirstOfLot) (ls := [some (vR 3 a0), some (vI x1), none, none]) rfl rfl (isMb_pos p_a0) rfl ?_
  refine w_iconst rfl ⟨by decide, by decide⟩ ?_
  refine w_istore rfl rfl ?_
  exact H
set_option maxHeartbeats 4000000 in
set_option maxRecDepth 100000 in
theorem wr_Members_commonPower_2 {d : Nat} {Q : cm_Q} {z : cm_Z} {I : cm_I} (hz : wz z) {a0 : Nat} {x1 : Int} {z2 : Option cm_V} (p_a0 : isMb a0) (H : (((I a0 2) ≤ x1 → Q (some (vI (I a0 2))) (I, z)) ∧ (x1 < (I a0 2) → cw d cd_Members_commonPower Q 12 [some (vR 3 a0), some (vI x1), some (vI 0)] [] (I, z)))) : cw d cd_Members_commonPower Q 2 [some (vR 3 a0), some (vI x1), z2] [] (I, z) := by
  refine w_iload rfl rfl ?_
  refine w_aload rfl rfl ?_
  refine m_getI 2 rfl rfl rfl (isMb_pos p_a0) ?_
  refine w_icmp rfl (And.intro (fun hc => ?_) (fun hc => ?_))
  · replace H := H.1 hc
    refine w_aload rfl rfl ?_
    refine m_getI 2 rfl rfl rfl (isMb_pos p_a0) ?_
    exact w_ireturn rfl H
  · replace H := H.2 hc
    refine w_iconst rfl ⟨by decide, by decide⟩ ?_
    refine w_istore rfl rfl ?_
    exact H
set_option maxHeartbeats 4000000 in
set_option maxRecDepth 100000 in
theorem wr_Members_commonPower_12 {d : Nat} {Q : cm_Q} {z : cm_Z} {I : cm_I} (hz : wz z) {a0 : Nat} {x1 : Int} {x2 : Int} (p_a0 : isMb a0) (H : (((I a0 2) ≤ x2 → cw d cd_Members_commonPower Q 39 [some (vR 3 a0), some (vI x1), some (vI x2)] [] (I, z)) ∧ (x2 < (I a0 2) → ((0:Int) ≤ x2 ∧ x2 < 48) ∧ (mI d m_Works_divides [vI (I (a0 + 6) x2), vI x1] z I fun v3 I2 => ((v3 = 0 → cw d cd_Members_commonPower Q 39 [some (vR 3 a0), some (vI x1), some (vI x2)] [] (I2, z)) ∧ (¬ v3 = 0 → (cm_i (x2 + 1) ∧ cw d cd_Members_commonPower Q 12 [some (vR 3 a0), some (vI x1), some (vI (x2 + 1))] [] (I2, z)))))))) : cw d cd_Members_commonPower Q 12 [some (vR 3 a0), some (vI x1), some (vI x2)] [] (I, z) := by
  refine w_iload rfl rfl ?_
  refine w_aload rfl rfl ?_
  refine m_getI 2 rfl rfl rfl (isMb_pos p_a0) ?_
  refine w_icmp rfl (And.intro (fun hc => ?_) (fun hc => ?_))
  · replace H := H.1 hc
    exact H
  · replace H := H.2 hc
    refine w_aload rfl rfl ?_
    refine n_getR 8 20 rfl rfl rfl rfl (isMb_pos p_a0) (wz_mb8 hz p_a0) ?_
    refine w_iload rfl rfl ?_
    have o1 := H.1
    replace H := H.2
    refine n_iaload rfl (Nat.add_pos_right _ (by decide)) (wz_mbL6 hz p_a0) o1 ?_
    refine w_iload rfl rfl ?_
    refine m_callI rfl (fun _ => rfl) rfl (mI_mono H fun v3 I2 H => ?_)
    refine w_if rfl (And.intro (fun hc => ?_) (fun hc => ?_))
    · replace H := H.1 hc
      exact H
    · replace H := H.2 hc
      have o4 := H.1
      replace H := H.2
      refine w_iinc rfl rfl rfl o4 ?_
      refine w_goto rfl ?_
      exact H
set_option maxHeartbeats 4000000 in
set_option maxRecDepth 100000 in
theorem wr_Members_commonPower_39 {d : Nat} {Q : cm_Q} {z : cm_Z} {I : cm_I} (hz : wz z) {a0 : Nat} {x1 : Int} {x2 : Int} (p_a0 : isMb a0) (H : ((¬ x2 = (I a0 2) → (cm_i (x1 + 1) ∧ cw d cd_Members_commonPower Q 2 [some (vR 3 a0), some (vI (x1 + 1)), some (vI x2)] [] (I, z))) ∧ (x2 = (I a0 2) → Q (some (vI x1)) (I, z)))) : cw d cd_Members_commonPower Q 39 [some (vR 3 a0), some (vI x1), some (vI x2)] [] (I, z) := by
  refine w_iload rfl rfl ?_
  refine w_aload rfl rfl ?_
  refine m_getI 2 rfl rfl rfl (isMb_pos p_a0) ?_
  refine w_icmp rfl (And.intro (fun hc => ?_) (fun hc => ?_))
  · replace H := H.1 hc
    have o1 := H.1
    replace H := H.2
    refine w_iinc rfl rfl rfl o1 ?_
    refine w_goto rfl ?_
    exact H
  · replace H := H.2 hc
    refine w_iload rfl rfl ?_
    exact w_ireturn rfl H
set_option maxHeartbeats 4000000 in
set_option maxRecDepth 100000 in
theorem wr_Members_commonPower {d : Nat} {Q : cm_Q} {z : cm_Z} {I : cm_I} (hz : wz z) {a0 : Nat} (p_a0 : isMb a0) (H : cw d cd_Members_commonPower Q 2 [some (vR 3 a0), some (vI 1), none] [] (I, z)) : cm_call (d + 1) m_Members_commonPower [vR 3 a0] (I, z) Q := by
  refine cm_call_in (C := cd_Members_commonPower) (ls := [some (vR 3 a0), none, none]) rfl rfl (isMb_pos p_a0) rfl ?_
  refine w_iconst rfl ⟨by decide, by decide⟩ ?_
  refine w_istore rfl rfl ?_
  exact H
set_option maxHeartbeats 4000000 in
set_option maxRecDepth 100000 in
theorem wr_Members_isEitherOrder_2 {d : Nat} {Q : cm_Q} {z : cm_Z} {I : cm_I} (hz : wz z) {a0 : Nat} {x1 : Int} {z2 : Option cm_V} (p_a0 : isMb a0) (H : (((I a0 2) ≤ x1 → Q (some (vI 1)) (I, z)) ∧ (x1 < (I a0 2) → cw d cd_Members_isEitherOrder Q 12 [some (vR 3 a0), some (vI x1), some (vI 0)] [] (I, z)))) : cw d cd_Members_isEitherOrder Q 2 [some (vR 3 a0), some (vI x1), z2] [] (I, z) := by
  refine w_iload rfl rfl ?_
  refine w_aload rfl rfl ?_
  refine m_getI 2 rfl rfl rfl (isMb_pos p_a0) ?_
  refine w_icmp rfl (And.intro (fun hc => ?_) (fun hc => ?_))
  · replace H := H.1 hc
    refine w_iconst rfl ⟨by decide, by decide⟩ ?_
    exact w_zreturn rfl (by decide) H
  · replace H := H.2 hc
    refine w_iconst rfl ⟨by decide, by decide⟩ ?_
    refine w_istore rfl rfl ?_
    exact H
set_option maxHeartbeats 4000000 in
set_option maxRecDepth 100000 in
theorem wr_Members_isEitherOrder_12 {d : Nat} {Q : cm_Q} {z : cm_Z} {I : cm_I} (hz : wz z) {a0 : Nat} {x1 : Int} {x2 : Int} (p_a0 : isMb a0) (H : ((x1 ≤ x2 → (cm_i (x1 + 1) ∧ cw d cd_Members_isEitherOrder Q 2 [some (vR 3 a0), some (vI (x1 + 1)), some (vI x2)] [] (I, z))) ∧ (x2 < x1 → (cm_i (48 * x1) ∧ (cm_i ((48 * x1) + x2) ∧ ((0:Int) ≤ ((48 * x1) + x2) ∧ ((48 * x1) + x2) < 2304) ∧ (cm_i (48 * x2) ∧ (cm_i ((48 * x2) + x1) ∧ ((0:Int) ≤ ((48 * x2) + x1) ∧ ((48 * x2) + x1) < 2304) ∧ (((I (a0 + 4) ((48 * x1) + x2)) = (I (a0 + 4) ((48 * x2) + x1)) → (cm_i (x2 + 1) ∧ cw d cd_Members_isEitherOrder Q 12 [some (vR 3 a0), some (vI x1), some (vI (x2 + 1))] [] (I, z))) ∧ (¬ (I (a0 + 4) ((48 * x1) + x2)) = (I (a0 + 4) ((48 * x2) + x1)) → Q (some (vI 0)) (I, z)))))))))) : cw d cd_Members_isEitherOrder Q 12 [some (vR 3 a0), some (vI x1), some (vI x2)] [] (I, z) := by
  refine w_iload rfl rfl ?_
  refine w_iload rfl rfl ?_
  refine w_icmp rfl (And.intro (fun hc => ?_) (fun hc => ?_))
  · replace H := H.1 hc
    have o1 := H.1
    replace H := H.2
    refine w_iinc rfl rfl rfl o1 ?_
    refine w_goto rfl ?_
    exact H
  · replace H := H.2 hc
    refine w_aload rfl rfl ?_
    refine n_getR 6 20 rfl rfl rfl rfl (isMb_pos p_a0) (wz_mb6 hz p_a0) ?_
    refine w_iconst rfl ⟨by decide, by decide⟩ ?_
    refine w_iload rfl rfl ?_
    have o2 := H.1
    replace H := H.2
    refine w_imul rfl o2 ?_
    refine w_iload rfl rfl ?_
    have o3 := H.1
    replace H := H.2
    refine w_iadd rfl o3 ?_
    have o4 := H.1
    replace H := H.2
    refine n_iaload rfl (Nat.add_pos_right _ (by decide)) (wz_mbL4 hz p_a0) o4 ?_
    refine w_aload rfl rfl ?_
    refine n_getR 6 20 rfl rfl rfl rfl (isMb_pos p_a0) (wz_mb6 hz p_a0) ?_
    refine w_iconst rfl ⟨by decide, by decide⟩ ?_
    refine w_iload rfl rfl ?_
    have o5 := H.1
    replace H := H.2
    refine w_imul rfl o5 ?_
    refine w_iload rfl rfl ?_
    have o6 := H.1
    replace H := H.2
    refine w_iadd rfl o6 ?_
    have o7 := H.1
    replace H := H.2
    refine n_iaload rfl (Nat.add_pos_right _ (by decide)) (wz_mbL4 hz p_a0) o7 ?_
    refine w_icmp rfl (And.intro (fun hc => ?_) (fun hc => ?_))
    · replace H := H.1 hc
      have o8 := H.1
      replace H := H.2
      refine w_iinc rfl rfl rfl o8 ?_
      refine w_goto rfl ?_
      exact H
    · replace H := H.2 hc
      refine w_iconst rfl ⟨by decide, by decide⟩ ?_
      exact w_zreturn rfl (by decide) H
set_option maxHeartbeats 4000000 in
set_option maxRecDepth 100000 in
theorem wr_Members_isEitherOrder {d : Nat} {Q : cm_Q} {z : cm_Z} {I : cm_I} (hz : wz z) {a0 : Nat} (p_a0 : isMb a0) (H : cw d cd_Members_isEitherOrder Q 2 [some (vR 3 a0), some (vI 0), none] [] (I, z)) : cm_call (d + 1) m_Members_isEitherOrder [vR 3 a0] (I, z) Q := by
  refine cm_call_in (C := cd_Members_isEitherOrder) (ls := [some (vR 3 a0), none, none]) rfl rfl (isMb_pos p_a0) rfl ?_
  refine w_iconst rfl ⟨by decide, by decide⟩ ?_
  refine w_istore rfl rfl ?_
  exact H
set_option maxHeartbeats 4000000 in
set_option maxRecDepth 100000 in
theorem wr_Members_trace_4 {d : Nat} {Q : cm_Q} {z : cm_Z} {I : cm_I} (hz : wz z) {a0 : Nat} {x1 : Int} {x2 : Int} {x3 : Int} (p_a0 : isMb a0) (H : (((I a0 0) ≤ x3 → Q (some (vI (Int.tmod x2 2521))) (I, z)) ∧ (x3 < (I a0 0) → (cm_i (9 * x1) ∧ (cm_i ((I a0 0) * x3) ∧ (cm_i ((9 * x1) + ((I a0 0) * x3)) ∧ (cm_i (((9 * x1) + ((I a0 0) * x3)) + x3) ∧ ((0:Int) ≤ (((9 * x1) + ((I a0 0) * x3)) + x3) ∧ (((9 * x1) + ((I a0 0) * x3)) + x3) < 432) ∧ (cm_i (x2 + (I (a0 + 2) (((9 * x1) + ((I a0 0) * x3)) + x3))) ∧ (cm_i (x3 + 1) ∧ cw d cd_Members_trace Q 4 [some (vR 3 a0), some (vI x1), some (vI (x2 + (I (a0 + 2) (((9 * x1) + ((I a0 0) * x3)) + x3)))), some (vI (x3 + 1))] [] (I, z)))))))))) : cw d cd_Members_trace Q 4 [some (vR 3 a0), some (vI x1), some (vI x2), some (vI x3)] [] (I, z) := by
  refine w_iload rfl rfl ?_
  refine w_aload rfl rfl ?_
  refine m_getI 0 rfl rfl rfl (isMb_pos p_a0) ?_
  refine w_icmp rfl (And.intro (fun hc => ?_) (fun hc => ?_))
  · replace H := H.1 hc
    refine w_iload rfl rfl ?_
    refine w_iconst rfl ⟨by decide, by decide⟩ ?_
    refine w_irem rfl (by decide) ?_
    exact w_ireturn rfl H
  · replace H := H.2 hc
    refine w_iload rfl rfl ?_
    refine w_aload rfl rfl ?_
    refine n_getR 4 20 rfl rfl rfl rfl (isMb_pos p_a0) (wz_mb4 hz p_a0) ?_
    refine w_iconst rfl ⟨by decide, by decide⟩ ?_
    refine w_iload rfl rfl ?_
    have o1 := H.1
    replace H := H.2
    refine w_imul rfl o1 ?_
    refine w_aload rfl rfl ?_
    refine m_getI 0 rfl rfl rfl (isMb_pos p_a0) ?_
    refine w_iload rfl rfl ?_
    have o2 := H.1
    replace H := H.2
    refine w_imul rfl o2 ?_
    have o3 := H.1
    replace H := H.2
    refine w_iadd rfl o3 ?_
    refine w_iload rfl rfl ?_
    have o4 := H.1
    replace H := H.2
    refine w_iadd rfl o4 ?_
    have o5 := H.1
    replace H := H.2
    refine n_iaload rfl (Nat.add_pos_right _ (by decide)) (wz_mbL2 hz p_a0) o5 ?_
    have o6 := H.1
    replace H := H.2
    refine w_iadd rfl o6 ?_
    refine w_istore rfl rfl ?_
    have o7 := H.1
    replace H := H.2
    refine w_iinc rfl rfl rfl o7 ?_
    refine w_goto rfl ?_
    exact H
set_option maxHeartbeats 4000000 in
set_option maxRecDepth 100000 in
theorem wr_Members_trace {d : Nat} {Q : cm_Q} {z : cm_Z} {I : cm_I} (hz : wz z) {a0 : Nat} {x1 : Int} (p_a0 : isMb a0) (H : cw d cd_Members_trace Q 4 [some (vR 3 a0), some (vI x1), some (vI 0), some (vI 0)] [] (I, z)) : cm_call (d + 1) m_Members_trace [vR 3 a0, vI x1] (I, z) Q := by
  refine cm_call_in (C := cd_Members_trace) (ls := [some (vR 3 a0), some (vI x1), none, none]) rfl rfl (isMb_pos p_a0) rfl ?_
  refine w_iconst rfl ⟨by decide, by decide⟩ ?_
  refine w_istore rfl rfl ?_
  refine w_iconst rfl ⟨by decide, by decide⟩ ?_
  refine w_istore rfl rfl ?_
  exact H
set_option maxHeartbeats 4000000 in
set_option maxRecDepth 100000 in
theorem wr_Members_middle {d : Nat} {Q : cm_Q} {z : cm_Z} {I : cm_I} (hz : wz z) {a0 : Nat} {x1 : Int} (p_a0 : isMb a0) (H : (cm_i (9 * x1) ∧ ((0:Int) ≤ (9 * x1) ∧ (9 * x1) < 432) ∧ (cm_i ((9 * x1) + 1) ∧ ((0:Int) ≤ ((9 * x1) + 1) ∧ ((9 * x1) + 1) < 432) ∧ (cm_i ((9 * x1) + (I a0 0)) ∧ ((0:Int) ≤ ((9 * x1) + (I a0 0)) ∧ ((9 * x1) + (I a0 0)) < 432) ∧ (cm_i (((9 * x1) + (I a0 0)) + 1) ∧ ((0:Int) ≤ (((9 * x1) + (I a0 0)) + 1) ∧ (((9 * x1) + (I a0 0)) + 1) < 432) ∧ (mI d m_Works_minor [vI (I (a0 + 2) (9 * x1)), vI (I (a0 + 2) ((9 * x1) + 1)), vI (I (a0 + 2) ((9 * x1) + (I a0 0))), vI (I (a0 + 2) (((9 * x1) + (I a0 0)) + 1))] z I fun v10 I9 => ((¬ (I9 a0 0) = 3 → Q (some (vI (Int.tmod v10 2521))) (I9, z)) ∧ ((I9 a0 0) = 3 → (cm_i ((9 * x1) + 2) ∧ ((0:Int) ≤ ((9 * x1) + 2) ∧ ((9 * x1) + 2) < 432) ∧ (cm_i ((9 * x1) + 6) ∧ ((0:Int) ≤ ((9 * x1) + 6) ∧ ((9 * x1) + 6) < 432) ∧ (cm_i ((9 * x1) + 8) ∧ ((0:Int) ≤ ((9 * x1) + 8) ∧ ((9 * x1) + 8) < 432) ∧ (mI d m_Works_minor [vI (I9 (a0 + 2) (9 * x1)), vI (I9 (a0 + 2) ((9 * x1) + 2)), vI (I9 (a0 + 2) ((9 * x1) + 6)), vI (I9 (a0 + 2) ((9 * x1) + 8))] z I9 fun v18 I17 => (cm_i (v10 + v18) ∧ (cm_i ((9 * x1) + 4) ∧ ((0:Int) ≤ ((9 * x1) + 4) ∧ ((9 * x1) + 4) < 432) ∧ (cm_i ((9 * x1) + 5) ∧ ((0:Int) ≤ ((9 * x1) + 5) ∧ ((9 * x1) + 5) < 432) ∧ (cm_i ((9 * x1) + 7) ∧ ((0:Int) ≤ ((9 * x1) + 7) ∧ ((9 * x1) + 7) < 432) ∧ (mI d m_Works_minor [vI (I17 (a0 + 2) ((9 * x1) + 4)), vI (I17 (a0 + 2) ((9 * x1) + 5)), vI (I17 (a0 + 2) ((9 * x1) + 7)), vI (I17 (a0 + 2) ((9 * x1) + 8))] z I17 fun v27 I26 => (cm_i ((v10 + v18) + v27) ∧ Q (some (vI (Int.tmod ((v10 + v18) + v27) 2521))) (I26, z))))))))))))))))))) : cm_call (d + 1) m_Members_middle [vR 3 a0, vI x1] (I, z) Q := by
  refine cm_call_in (C := cd_Members_middle) (ls := [some (vR 3 a0), some (vI x1), none, none]) rfl rfl (isMb_pos p_a0) rfl ?_
  refine w_iconst rfl ⟨by decide, by decide⟩ ?_
  refine w_iload rfl rfl ?_
  have o1 := H.1
  replace H := H.2
  refine w_imul rfl o1 ?_
  refine w_istore rfl rfl ?_
  refine w_aload rfl rfl ?_
  refine n_getR 4 20 rfl rfl rfl rfl (isMb_pos p_a0) (wz_mb4 hz p_a0) ?_
  refine w_iload rfl rfl ?_
  have o2 := H.1
  replace H := H.2
  refine n_iaload rfl (Nat.add_pos_right _ (by decide)) (wz_mbL2 hz p_a0) o2 ?_
  refine w_aload rfl rfl ?_
  refine n_getR 4 20 rfl rfl rfl rfl (isMb_pos p_a0) (wz_mb4 hz p_a0) ?_
  refine w_iload rfl rfl ?_
  refine w_iconst rfl ⟨by decide, by decide⟩ ?_
  have o3 := H.1
  replace H := H.2
  refine w_iadd rfl o3 ?_
  have o4 := H.1
  replace H := H.2
  refine n_iaload rfl (Nat.add_pos_right _ (by decide)) (wz_mbL2 hz p_a0) o4 ?_
  refine w_aload rfl rfl ?_
  refine n_getR 4 20 rfl rfl rfl rfl (isMb_pos p_a0) (wz_mb4 hz p_a0) ?_
  refine w_iload rfl rfl ?_
  refine w_aload rfl rfl ?_
  refine m_getI 0 rfl rfl rfl (isMb_pos p_a0) ?_
  have o5 := H.1
  replace H := H.2
  refine w_iadd rfl o5 ?_
  have o6 := H.1
  replace H := H.2
  refine n_iaload rfl (Nat.add_pos_right _ (by decide)) (wz_mbL2 hz p_a0) o6 ?_
  refine w_aload rfl rfl ?_
  refine n_getR 4 20 rfl rfl rfl rfl (isMb_pos p_a0) (wz_mb4 hz p_a0) ?_
  refine w_iload rfl rfl ?_
  refine w_aload rfl rfl ?_
  refine m_getI 0 rfl rfl rfl (isMb_pos p_a0) ?_
  refine w_iadd rfl o5 ?_
  refine w_iconst rfl ⟨by decide, by decide⟩ ?_
  have o7 := H.1
  replace H := H.2
  refine w_iadd rfl o7 ?_
  have o8 := H.1
  replace H := H.2
  refine n_iaload rfl (Nat.add_pos_right _ (by decide)) (wz_mbL2 hz p_a0) o8 ?_
  refine m_callI rfl (fun _ => rfl) rfl (mI_mono H fun v10 I9 H => ?_)
  refine w_istore rfl rfl ?_
  refine w_aload rfl rfl ?_
  refine m_getI 0 rfl rfl rfl (isMb_pos p_a0) ?_
  refine w_iconst rfl ⟨by decide, by decide⟩ ?_
  refine w_icmp rfl (And.intro (fun hc => ?_) (fun hc => ?_))
  · replace H := H.1 hc
    refine w_iload rfl rfl ?_
    refine w_iconst rfl ⟨by decide, by decide⟩ ?_
    refine w_irem rfl (by decide) ?_
    exact w_ireturn rfl H
  · replace H := H.2 hc
    refine w_iload rfl rfl ?_
    refine w_aload rfl rfl ?_
    refine n_getR 4 20 rfl rfl rfl rfl (isMb_pos p_a0) (wz_mb4 hz p_a0) ?_
    refine w_iload rfl rfl ?_
    refine n_iaload rfl (Nat.add_pos_right _ (by decide)) (wz_mbL2 hz p_a0) o2 ?_
    refine w_aload rfl rfl ?_
    refine n_getR 4 20 rfl rfl rfl rfl (isMb_pos p_a0) (wz_mb4 hz p_a0) ?_
    refine w_iload rfl rfl ?_
    refine w_iconst rfl ⟨by decide, by decide⟩ ?_
    have o11 := H.1
    replace H := H.2
    refine w_iadd rfl o11 ?_
    have o12 := H.1
    replace H := H.2
    refine n_iaload rfl (Nat.add_pos_right _ (by decide)) (wz_mbL2 hz p_a0) o12 ?_
    refine w_aload rfl rfl ?_
    refine n_getR 4 20 rfl rfl rfl rfl (isMb_pos p_a0) (wz_mb4 hz p_a0) ?_
    refine w_iload rfl rfl ?_
    refine w_iconst rfl ⟨by decide, by decide⟩ ?_
    have o13 := H.1
    replace H := H.2
    refine w_iadd rfl o13 ?_
    have o14 := H.1
    replace H := H.2
    refine n_iaload rfl (Nat.add_pos_right _ (by decide)) (wz_mbL2 hz p_a0) o14 ?_
    refine w_aload rfl rfl ?_
    refine n_getR 4 20 rfl rfl rfl rfl (isMb_pos p_a0) (wz_mb4 hz p_a0) ?_
    refine w_iload rfl rfl ?_
    refine w_iconst rfl ⟨by decide, by decide⟩ ?_
    have o15 := H.1
    replace H := H.2
    refine w_iadd rfl o15 ?_
    have o16 := H.1
    replace H := H.2
    refine n_iaload rfl (Nat.add_pos_right _ (by decide)) (wz_mbL2 hz p_a0) o16 ?_
    refine m_callI rfl (fun _ => rfl) rfl (mI_mono H fun v18 I17 H => ?_)
    have o19 := H.1
    replace H := H.2
    refine w_iadd rfl o19 ?_
    refine w_istore rfl rfl ?_
    refine w_iload rfl rfl ?_
    refine w_aload rfl rfl ?_
    refine n_getR 4 20 rfl rfl rfl rfl (isMb_pos p_a0) (wz_mb4 hz p_a0) ?_
    refine w_iload rfl rfl ?_
    refine w_iconst rfl ⟨by decide, by decide⟩ ?_
    have o20 := H.1
    replace H := H.2
    refine w_iadd rfl o20 ?_
    have o21 := H.1
    replace H := H.2
    refine n_iaload rfl (Nat.add_pos_right _ (by decide)) (wz_mbL2 hz p_a0) o21 ?_
    refine w_aload rfl rfl ?_
    refine n_getR 4 20 rfl rfl rfl rfl (isMb_pos p_a0) (wz_mb4 hz p_a0) ?_
    refine w_iload rfl rfl ?_
    refine w_iconst rfl ⟨by decide, by decide⟩ ?_
    have o22 := H.1
    replace H := H.2
    refine w_iadd rfl o22 ?_
    have o23 := H.1
    replace H := H.2
    refine n_iaload rfl (Nat.add_pos_right _ (by decide)) (wz_mbL2 hz p_a0) o23 ?_
    refine w_aload rfl rfl ?_
    refine n_getR 4 20 rfl rfl rfl rfl (isMb_pos p_a0) (wz_mb4 hz p_a0) ?_
    refine w_iload rfl rfl ?_
    refine w_iconst rfl ⟨by decide, by decide⟩ ?_
    have o24 := H.1
    replace H := H.2
    refine w_iadd rfl o24 ?_
    have o25 := H.1
    replace H := H.2
    refine n_iaload rfl (Nat.add_pos_right _ (by decide)) (wz_mbL2 hz p_a0) o25 ?_
    refine w_aload rfl rfl ?_
    refine n_getR 4 20 rfl rfl rfl rfl (isMb_pos p_a0) (wz_mb4 hz p_a0) ?_
    refine w_iload rfl rfl ?_
    refine w_iconst rfl ⟨by decide, by decide⟩ ?_
    refine w_iadd rfl o15 ?_
    refine n_iaload rfl (Nat.add_pos_right _ (by decide)) (wz_mbL2 hz p_a0) o16 ?_
    refine m_callI rfl (fun _ => rfl) rfl (mI_mono H fun v27 I26 H => ?_)
    have o28 := H.1
    replace H := H.2
    refine w_iadd rfl o28 ?_
    refine w_istore rfl rfl ?_
    refine w_iload rfl rfl ?_
    refine w_iconst rfl ⟨by decide, by decide⟩ ?_
    refine w_irem rfl (by decide) ?_
    exact w_ireturn rfl H
set_option maxHeartbeats 4000000 in
set_option maxRecDepth 100000 in
theorem wr_Piece_put {d : Nat} {Q : cm_Q} {z : cm_Z} {I : cm_I} (hz : wz z) {a0 : Nat} {a1 : Nat} {x2 : Int} {x3 : Int} (p_a0 : 0 < a0) (H : (∀ Z1 : cm_Z, Z1 = zr z a0 0 a1 → (∀ I2 : cm_I, I2 = iu I a0 1 x2 → (∀ I3 : cm_I, I3 = iu I2 a0 2 x3 → Q none (I3, Z1))))) : cm_call (d + 1) m_Piece_put [vR 5 a0, vR 20 a1, vI x2, vI x3] (I, z) Q := by
  refine cm_call_in (C := cd_Piece_put) (ls := [some (vR 5 a0), some (vR 20 a1), some (vI x2), some (vI x3)]) rfl rfl p_a0 rfl ?_
  refine w_aload rfl rfl ?_
  refine w_aload rfl rfl ?_
  refine n_putR 0 rfl rfl rfl rfl p_a0 (fun Z1 eZ1 => ?_)
  replace H := H Z1 eZ1
  refine w_aload rfl rfl ?_
  refine w_iload rfl rfl ?_
  refine m_putI 1 rfl rfl rfl p_a0 (fun I2 eI2 => ?_)
  replace H := H I2 eI2
  refine w_aload rfl rfl ?_
  refine w_iload rfl rfl ?_
  refine m_putI 2 rfl rfl rfl p_a0 (fun I3 eI3 => ?_)
  replace H := H I3 eI3
  exact w_return rfl H
set_option maxHeartbeats 4000000 in
set_option maxRecDepth 100000 in
theorem wr_Shape_power {d : Nat} {Q : cm_Q} {z : cm_Z} {I : cm_I} (hz : wz z) {a0 : Nat} {x1 : Int} {x2 : Int} {x3 : Int} (p_a0 : isSh a0) (H : ((0:Int) ≤ x2 ∧ x2 < z.2.1 ((a0 + 7))) ∧ ((0:Int) ≤ (I (a0 + 7) x2) ∧ (I (a0 + 7) x2) < 19) ∧ (cm_i (x2 - (I (a0 + 1) (I (a0 + 7) x2))) ∧ ((¬ x3 = 0 → ((¬ x3 = 1 → Q (some (vI (x2 - (I (a0 + 1) (I (a0 + 7) x2))))) (I, z)) ∧ (x3 = 1 → (cm_i ((I (a0 + 7) x2) - (x2 - (I (a0 + 1) (I (a0 + 7) x2)))) ∧ Q (some (vI ((I (a0 + 7) x2) - (x2 - (I (a0 + 1) (I (a0 + 7) x2)))))) (I, z))))) ∧ (x3 = 0 → (cm_i (x1 - (I (a0 + 7) x2)) ∧ Q (some (vI (x1 - (I (a0 + 7) x2)))) (I, z)))))) : cm_call (d + 1) m_Shape_power [vR 9 a0, vI x1, vI x2, vI x3] (I, z) Q := by
  refine cm_call_in (C := cd_Shape_power) (ls := [some (vR 9 a0), some (vI x1), some (vI x2), some (vI x3), none, none]) rfl rfl (isSh_pos p_a0) rfl ?_
  refine w_aload rfl rfl ?_
  refine n_getR 4 20 rfl rfl rfl rfl (isSh_pos p_a0) (wz_sh4 hz p_a0) ?_
  refine w_iload rfl rfl ?_
  have o1 := H.1
  replace H := H.2
  refine n_iaload rfl (Nat.add_pos_right _ (by decide)) rfl o1 ?_
  refine w_istore rfl rfl ?_
  refine w_iload rfl rfl ?_
  refine w_aload rfl rfl ?_
  refine n_getR 2 20 rfl rfl rfl rfl (isSh_pos p_a0) (wz_sh2 hz p_a0) ?_
  refine w_iload rfl rfl ?_
  have o2 := H.1
  replace H := H.2
  refine n_iaload rfl (Nat.add_pos_right _ (by decide)) (wz_shL1 hz p_a0) o2 ?_
  have o3 := H.1
  replace H := H.2
  refine w_isub rfl o3 ?_
  refine w_istore rfl rfl ?_
  refine w_iload rfl rfl ?_
  refine w_if rfl (And.intro (fun hc => ?_) (fun hc => ?_))
  · replace H := H.1 hc
    refine w_iload rfl rfl ?_
    refine w_iconst rfl ⟨by decide, by decide⟩ ?_
    refine w_icmp rfl (And.intro (fun hc => ?_) (fun hc => ?_))
    · replace H := H.1 hc
      refine w_iload rfl rfl ?_
      exact w_ireturn rfl H
    · replace H := H.2 hc
      refine w_iload rfl rfl ?_
      refine w_iload rfl rfl ?_
      have o4 := H.1
      replace H := H.2
      refine w_isub rfl o4 ?_
      refine w_goto rfl ?_
      exact w_ireturn rfl H
  · replace H := H.2 hc
    refine w_iload rfl rfl ?_
    refine w_iload rfl rfl ?_
    have o5 := H.1
    replace H := H.2
    refine w_isub rfl o5 ?_
    exact w_ireturn rfl H
set_option maxHeartbeats 4000000 in
set_option maxRecDepth 100000 in
theorem wr_Shape_isZero_7 {d : Nat} {Q : cm_Q} {z : cm_Z} {I : cm_I} (hz : wz z) {a0 : Nat} {a1 : Nat} {x2 : Int} {x3 : Int} (p_a0 : isSh a0) (p_a1 : 0 < a1) (H : (cm_i (x2 + 1) ∧ ((0:Int) ≤ (x2 + 1) ∧ (x2 + 1) < 17) ∧ (((I (a0 + 2) (x2 + 1)) ≤ x3 → Q (some (vI 1)) (I, z)) ∧ (x3 < (I (a0 + 2) (x2 + 1)) → ((0:Int) ≤ x3 ∧ x3 < z.2.1 a1) ∧ (((I a1 x3) = 0 → (cm_i (x3 + 1) ∧ cw d cd_Shape_isZero Q 7 [some (vR 9 a0), some (vR 20 a1), some (vI x2), some (vI (x3 + 1))] [] (I, z))) ∧ (¬ (I a1 x3) = 0 → Q (some (vI 0)) (I, z))))))) : cw d cd_Shape_isZero Q 7 [some (vR 9 a0), some (vR 20 a1), some (vI x2), some (vI x3)] [] (I, z) := by
  refine w_iload rfl rfl ?_
  refine w_aload rfl rfl ?_
  refine n_getR 3 20 rfl rfl rfl rfl (isSh_pos p_a0) (wz_sh3 hz p_a0) ?_
  refine w_iload rfl rfl ?_
  refine w_iconst rfl ⟨by decide, by decide⟩ ?_
  have o1 := H.1
  replace H := H.2
  refine w_iadd rfl o1 ?_
  have o2 := H.1
  replace H := H.2
  refine n_iaload rfl (Nat.add_pos_right _ (by decide)) (wz_shL2 hz p_a0) o2 ?_
  refine w_icmp rfl (And.intro (fun hc => ?_) (fun hc => ?_))
  · replace H := H.1 hc
    refine w_iconst rfl ⟨by decide, by decide⟩ ?_
    exact w_zreturn rfl (by decide) H
  · replace H := H.2 hc
    refine w_aload rfl rfl ?_
    refine w_iload rfl rfl ?_
    have o3 := H.1
    replace H := H.2
    refine n_iaload rfl p_a1 rfl o3 ?_
    refine w_if rfl (And.intro (fun hc => ?_) (fun hc => ?_))
    · replace H := H.1 hc
      have o4 := H.1
      replace H := H.2
      refine w_iinc rfl rfl rfl o4 ?_
      refine w_goto rfl ?_
      exact H
    · replace H := H.2 hc
      refine w_iconst rfl ⟨by decide, by decide⟩ ?_
      exact w_zreturn rfl (by decide) H
set_option maxHeartbeats 4000000 in
set_option maxRecDepth 100000 in
theorem wr_Shape_isZero {d : Nat} {Q : cm_Q} {z : cm_Z} {I : cm_I} (hz : wz z) {a0 : Nat} {a1 : Nat} {x2 : Int} (p_a0 : isSh a0) (H : ((0:Int) ≤ x2 ∧ x2 < 17) ∧ cw d cd_Shape_isZero Q 7 [some (vR 9 a0), some (vR 20 a1), some (vI x2), some (vI (I (a0 + 2) x2))] [] (I, z)) : cm_call (d + 1) m_Shape_isZero [vR 9 a0, vR 20 a1, vI x2] (I, z) Q := by
  refine cm_call_in (C := cd_Shape_isZero) (ls := [some (vR 9 a0), some (vR 20 a1), some (vI x2), none]) rfl rfl (isSh_pos p_a0) rfl ?_
  refine w_aload rfl rfl ?_
  refine n_getR 3 20 rfl rfl rfl rfl (isSh_pos p_a0) (wz_sh3 hz p_a0) ?_
  refine w_iload rfl rfl ?_
  have o1 := H.1
  replace H := H.2
  refine n_iaload rfl (Nat.add_pos_right _ (by decide)) (wz_shL2 hz p_a0) o1 ?_
  refine w_istore rfl rfl ?_
  exact H
set_option maxHeartbeats 4000000 in
set_option maxRecDepth 100000 in
theorem wr_Shape_degreeOf_7 {d : Nat} {Q : cm_Q} {z : cm_Z} {I : cm_I} (hz : wz z) {a0 : Nat} {a1 : Nat} {x2 : Int} {z3 : Option cm_V} (p_a1 : 0 < a1) (H : ((x2 ≤ 0 → cw d cd_Shape_degreeOf Q 26 [some (vR 9 a0), some (vR 20 a1), some (vI x2), some (vI 15)] [] (I, z)) ∧ (0 < x2 → ((0:Int) ≤ x2 ∧ x2 < z.2.1 a1) ∧ ((¬ (I a1 x2) = 0 → cw d cd_Shape_degreeOf Q 26 [some (vR 9 a0), some (vR 20 a1), some (vI x2), some (vI 15)] [] (I, z)) ∧ ((I a1 x2) = 0 → (cm_i (x2 + (-1)) ∧ cw d cd_Shape_degreeOf Q 7 [some (vR 9 a0), some (vR 20 a1), some (vI (x2 + (-1))), z3] [] (I, z))))))) : cw d cd_Shape_degreeOf Q 7 [some (vR 9 a0), some (vR 20 a1), some (vI x2), z3] [] (I, z) := by
  refine w_iload rfl rfl ?_
  refine w_if rfl (And.intro (fun hc => ?_) (fun hc => ?_))
  · replace H := H.1 hc
    refine w_iconst rfl ⟨by decide, by decide⟩ ?_
    refine w_istore rfl rfl ?_
    exact H
  · replace H := H.2 hc
    refine w_aload rfl rfl ?_
    refine w_iload rfl rfl ?_
    have o1 := H.1
    replace H := H.2
    refine n_iaload rfl p_a1 rfl o1 ?_
    refine w_if rfl (And.intro (fun hc => ?_) (fun hc => ?_))
    · replace H := H.1 hc
      refine w_iconst rfl ⟨by decide, by decide⟩ ?_
      refine w_istore rfl rfl ?_
      exact H
    · replace H := H.2 hc
      have o2 := H.1
      replace H := H.2
      refine w_iinc rfl rfl rfl o2 ?_
      refine w_goto rfl ?_
      exact H
set_option maxHeartbeats 4000000 in
set_option maxRecDepth 100000 in
theorem wr_Shape_degreeOf_26 {d : Nat} {Q : cm_Q} {z : cm_Z} {I : cm_I} (hz : wz z) {a0 : Nat} {z1 : Option cm_V} {x2 : Int} {x3 : Int} (p_a0 : isSh a0) (H : ((x3 ≤ 0 → Q (some (vI x3)) (I, z)) ∧ (0 < x3 → ((0:Int) ≤ x3 ∧ x3 < 17) ∧ (((I (a0 + 2) x3) ≤ x2 → Q (some (vI x3)) (I, z)) ∧ (x2 < (I (a0 + 2) x3) → (cm_i (x3 + (-1)) ∧ cw d cd_Shape_degreeOf Q 26 [some (vR 9 a0), z1, some (vI x2), some (vI (x3 + (-1)))] [] (I, z))))))) : cw d cd_Shape_degreeOf Q 26 [some (vR 9 a0), z1, some (vI x2), some (vI x3)] [] (I, z) := by
  refine w_iload rfl rfl ?_
  refine w_if rfl (And.intro (fun hc => ?_) (fun hc => ?_))
  · replace H := H.1 hc
    refine w_iload rfl rfl ?_
    exact w_ireturn rfl H
  · replace H := H.2 hc
    refine w_aload rfl rfl ?_
    refine n_getR 3 20 rfl rfl rfl rfl (isSh_pos p_a0) (wz_sh3 hz p_a0) ?_
    refine w_iload rfl rfl ?_
    have o1 := H.1
    replace H := H.2
    refine n_iaload rfl (Nat.add_pos_right _ (by decide)) (wz_shL2 hz p_a0) o1 ?_
    refine w_iload rfl rfl ?_
    refine w_icmp rfl (And.intro (fun hc => ?_) (fun hc => ?_))
    · replace H := H.1 hc
      refine w_iload rfl rfl ?_
      exact w_ireturn rfl H
    · replace H := H.2 hc
      have o2 := H.1
      replace H := H.2
      refine w_iinc rfl rfl rfl o2 ?_
      refine w_goto rfl ?_
      exact H
set_option maxHeartbeats 4000000 in
set_option maxRecDepth 100000 in
theorem wr_Shape_degreeOf {d : Nat} {Q : cm_Q} {z : cm_Z} {I : cm_I} (hz : wz z) {a0 : Nat} {a1 : Nat} (p_a0 : isSh a0) (H : (cm_i ((I a0 1) - 1) ∧ cw d cd_Shape_degreeOf Q 7 [some (vR 9 a0), some (vR 20 a1), some (vI ((I a0 1) - 1)), none] [] (I, z))) : cm_call (d + 1) m_Shape_degreeOf [vR 9 a0, vR 20 a1] (I, z) Q := by
  refine cm_call_in (C := cd_Shape_degreeOf) (ls := [some (vR 9 a0), some (vR 20 a1), none, none]) rfl rfl (isSh_pos p_a0) rfl ?_
  refine w_aload rfl rfl ?_
  refine m_getI 1 rfl rfl rfl (isSh_pos p_a0) ?_
  refine w_iconst rfl ⟨by decide, by decide⟩ ?_
  have o1 := H.1
  replace H := H.2
  refine w_isub rfl o1 ?_
  refine w_istore rfl rfl ?_
  exact H
set_option maxHeartbeats 4000000 in
set_option maxRecDepth 100000 in
theorem wr_Shape_termsOf_4 {d : Nat} {Q : cm_Q} {z : cm_Z} {I : cm_I} (hz : wz z) {a0 : Nat} {a1 : Nat} {x2 : Int} {x3 : Int} (p_a0 : isSh a0) (p_a1 : 0 < a1) (H : (((I a0 1) ≤ x3 → Q (some (vI x2)) (I, z)) ∧ (x3 < (I a0 1) → ((0:Int) ≤ x3 ∧ x3 < z.2.1 a1) ∧ (((I a1 x3) = 0 → (cm_i (x3 + 1) ∧ cw d cd_Shape_termsOf Q 4 [some (vR 9 a0), some (vR 20 a1), some (vI x2), some (vI (x3 + 1))] [] (I, z))) ∧ (¬ (I a1 x3) = 0 → (cm_i (x2 + 1) ∧ (cm_i (x3 + 1) ∧ cw d cd_Shape_termsOf Q 4 [some (vR 9 a0), some (vR 20 a1), some (vI (x2 + 1)), some (vI (x3 + 1))] [] (I, z)))))))) : cw d cd_Shape_termsOf Q 4 [some (vR 9 a0), some (vR 20 a1), some (vI x2), some (vI x3)] [] (I, z) := by
  refine w_iload rfl rfl ?_
  refine w_aload rfl rfl ?_
  refine m_getI 1 rfl rfl rfl (isSh_pos p_a0) ?_
  refine w_icmp rfl (And.intro (fun hc => ?_) (fun hc => ?_))
  · replace H := H.1 hc
    refine w_iload rfl rfl ?_
    exact w_ireturn rfl H
  · replace H := H.2 hc
    refine w_aload rfl rfl ?_
    refine w_iload rfl rfl ?_
    have o1 := H.1
    replace H := H.2
    refine n_iaload rfl p_a1 rfl o1 ?_
    refine w_if rfl (And.intro (fun hc => ?_) (fun hc => ?_))
    · replace H := H.1 hc
      have o2 := H.1
      replace H := H.2
      refine w_iinc rfl rfl rfl o2 ?_
      refine w_goto rfl ?_
      exact H
    · replace H := H.2 hc
      have o3 := H.1
      replace H := H.2
      refine w_iinc rfl rfl rfl o3 ?_
      have o4 := H.1
      replace H := H.2
      refine w_iinc rfl rfl rfl o4 ?_
      refine w_goto rfl ?_
      exact H
set_option maxHeartbeats 4000000 in
set_option maxRecDepth 100000 in
theorem wr_Shape_termsOf {d : Nat} {Q : cm_Q} {z : cm_Z} {I : cm_I} (hz : wz z) {a0 : Nat} {a1 : Nat} (p_a0 : isSh a0) (H : cw d cd_Shape_termsOf Q 4 [some (vR 9 a0), some (vR 20 a1), some (vI 0), some (vI 0)] [] (I, z)) : cm_call (d + 1) m_Shape_termsOf [vR 9 a0, vR 20 a1] (I, z) Q := by
  refine cm_call_in (C := cd_Shape_termsOf) (ls := [some (vR 9 a0), some (vR 20 a1), none, none]) rfl rfl (isSh_pos p_a0) rfl ?_
  refine w_iconst rfl ⟨by decide, by decide⟩ ?_
  refine w_istore rfl rfl ?_
  refine w_iconst rfl ⟨by decide, by decide⟩ ?_
  refine w_istore rfl rfl ?_
  exact H
set_option maxHeartbeats 4000000 in
set_option maxRecDepth 100000 in
theorem wr_Shape_isOneDegree_4 {d : Nat} {Q : cm_Q} {z : cm_Z} {I : cm_I} (hz : wz z) {a0 : Nat} {a1 : Nat} {x2 : Int} {x3 : Int}  (H : ((15 < x3 → ((1 < x2 → Q (some (vI 0)) (I, z)) ∧ (x2 ≤ 1 → Q (some (vI 1)) (I, z)))) ∧ (x3 ≤ 15 → (mI d m_Shape_isZero [vR 9 a0, vR 20 a1, vI x3] z I fun v2 I1 => ((¬ v2 = 0 → (cm_i (x3 + 1) ∧ cw d cd_Shape_isOneDegree Q 4 [some (vR 9 a0), some (vR 20 a1), some (vI x2), some (vI (x3 + 1))] [] (I1, z))) ∧ (v2 = 0 → (cm_i (x2 + 1) ∧ (cm_i (x3 + 1) ∧ cw d cd_Shape_isOneDegree Q 4 [some (vR 9 a0), some (vR 20 a1), some (vI (x2 + 1)), some (vI (x3 + 1))] [] (I1, z))))))))) : cw d cd_Shape_isOneDegree Q 4 [some (vR 9 a0), some (vR 20 a1), some (vI x2), some (vI x3)] [] (I, z) := by
  refine w_iload rfl rfl ?_
  refine w_iconst rfl ⟨by decide, by decide⟩ ?_
  refine w_icmp rfl (And.intro (fun hc => ?_) (fun hc => ?_))
  · replace H := H.1 hc
    refine w_iload rfl rfl ?_
    refine w_iconst rfl ⟨by decide, by decide⟩ ?_
    refine w_icmp rfl (And.intro (fun hc => ?_) (fun hc => ?_))
    · replace H := H.1 hc
      refine w_iconst rfl ⟨by decide, by decide⟩ ?_
      exact w_zreturn rfl (by decide) H
    · replace H := H.2 hc
      refine w_iconst rfl ⟨by decide, by decide⟩ ?_
      refine w_goto rfl ?_
      exact w_zreturn rfl (by decide) H
  · replace H := H.2 hc
    refine w_aload rfl rfl ?_
    refine w_aload rfl rfl ?_
    refine w_iload rfl rfl ?_
    refine m_callI rfl (fun _ => rfl) rfl (mI_mono H fun v2 I1 H => ?_)
    refine w_if rfl (And.intro (fun hc => ?_) (fun hc => ?_))
    · replace H := H.1 hc
      have o3 := H.1
      replace H := H.2
      refine w_iinc rfl rfl rfl o3 ?_
      refine w_goto rfl ?_
      exact H
    · replace H := H.2 hc
      have o4 := H.1
      replace H := H.2
      refine w_iinc rfl rfl rfl o4 ?_
      have o5 := H.1
      replace H := H.2
      refine w_iinc rfl rfl rfl o5 ?_
      refine w_goto rfl ?_
      exact H
set_option maxHeartbeats 4000000 in
set_option maxRecDepth 100000 in
theorem wr_Shape_isOneDegree {d : Nat} {Q : cm_Q} {z : cm_Z} {I : cm_I} (hz : wz z) {a0 : Nat} {a1 : Nat} (p_a0 : isSh a0) (H : cw d cd_Shape_isOneDegree Q 4 [some (vR 9 a0), some (vR 20 a1), some (vI 0), some (vI 0)] [] (I, z)) : cm_call (d + 1) m_Shape_isOneDegree [vR 9 a0, vR 20 a1] (I, z) Q := by
  refine cm_call_in (C := cd_Shape_isOneDegree) (ls := [some (vR 9 a0), some (vR 20 a1), none, none]) rfl rfl (isSh_pos p_a0) rfl ?_
  refine w_iconst rfl ⟨by decide, by decide⟩ ?_
  refine w_istore rfl rfl ?_
  refine w_iconst rfl ⟨by decide, by decide⟩ ?_
  refine w_istore rfl rfl ?_
  exact H
set_option maxHeartbeats 4000000 in
set_option maxRecDepth 100000 in
theorem wr_Shape_addProduct_3 {d : Nat} {Q : cm_Q} {z : cm_Z} {I : cm_I} (hz : wz z) {a0 : Nat} {a1 : Nat} {a2 : Nat} {a3 : Nat} {x4 : Int} {x5 : Int} {z6 : Option cm_V} {z7 : Option cm_V} {z8 : Option cm_V} {z9 : Option cm_V} {z10 : Option cm_V} {z11 : Option cm_V} {z12 : Option cm_V} {z13 : Option cm_V} {q_a1_0 : Nat} (p_a0 : isSh a0) (p_a1 : 0 < a1) (y_a1_0 : z.1 a1 0 = q_a1_0) (p_q_a1_0 : 0 < q_a1_0) (H : (cm_i ((I a1 2) + 1) ∧ ((0:Int) ≤ ((I a1 2) + 1) ∧ ((I a1 2) + 1) < 19) ∧ (((I (a0 + 1) ((I a1 2) + 1)) ≤ x5 → Q none (I, z)) ∧ (x5 < (I (a0 + 1) ((I a1 2) + 1)) → (cm_i ((I a1 1) + x5) ∧ ((0:Int) ≤ ((I a1 1) + x5) ∧ ((I a1 1) + x5) < z.2.1 q_a1_0) ∧ ((¬ (I q_a1_0 ((I a1 1) + x5)) = 0 → ((0:Int) ≤ x5 ∧ x5 < z.2.1 ((a0 + 7))) ∧ ((0:Int) ≤ (I (a0 + 7) x5) ∧ (I (a0 + 7) x5) < 19) ∧ (cm_i (x5 - (I (a0 + 1) (I (a0 + 7) x5))) ∧ cw d cd_Shape_addProduct Q 65 [some (vR 9 a0), some (vR 5 a1), some (vR 5 a2), some (vR 20 a3), some (vI x4), some (vI x5), some (vI (I q_a1_0 ((I a1 1) + x5))), some (vI (I (a0 + 7) x5)), some (vI (x5 - (I (a0 + 1) (I (a0 + 7) x5)))), some (vI 0), z10, z11, z12, z13] [] (I, z))) ∧ ((I q_a1_0 ((I a1 1) + x5)) = 0 → (cm_i (x5 + 1) ∧ cw d cd_Shape_addProduct Q 3 [some (vR 9 a0), some (vR 5 a1), some (vR 5 a2), some (vR 20 a3), some (vI x4), some (vI (x5 + 1)), some (vI (I q_a1_0 ((I a1 1) + x5))), z7, z8, z9, z10, z11, z12, z13] [] (I, z))))))))) : cw d cd_Shape_addProduct Q 3 [some (vR 9 a0), some (vR 5 a1), some (vR 5 a2), some (vR 20 a3), some (vI x4), some (vI x5), z6, z7, z8, z9, z10, z11, z12, z13] [] (I, z) := by
  refine w_iload rfl rfl ?_
  refine w_aload rfl rfl ?_
  refine n_getR 2 20 rfl rfl rfl rfl (isSh_pos p_a0) (wz_sh2 hz p_a0) ?_
  refine w_aload rfl rfl ?_
  refine m_getI 2 rfl rfl rfl p_a1 ?_
  refine w_iconst rfl ⟨by decide, by decide⟩ ?_
  have o1 := H.1
  replace H := H.2
  refine w_iadd rfl o1 ?_
  have o2 := H.1
  replace H := H.2
  refine n_iaload rfl (Nat.add_pos_right _ (by decide)) (wz_shL1 hz p_a0) o2 ?_
  refine w_icmp rfl (And.intro (fun hc => ?_) (fun hc => ?_))
  · replace H := H.1 hc
    exact w_return rfl H
  · replace H := H.2 hc
    refine w_aload rfl rfl ?_
    refine n_getR 0 20 rfl rfl rfl rfl p_a1 y_a1_0 ?_
    refine w_aload rfl rfl ?_
    refine m_getI 1 rfl rfl rfl p_a1 ?_
    refine w_iload rfl rfl ?_
    have o3 := H.1
    replace H := H.2
    refine w_iadd rfl o3 ?_
    have o4 := H.1
    replace H := H.2
    refine n_iaload rfl p_q_a1_0 rfl o4 ?_
    refine w_istore rfl rfl ?_
    refine w_iload rfl rfl ?_
    refine w_if rfl (And.intro (fun hc => ?_) (fun hc => ?_))
    · replace H := H.1 hc
      refine w_aload rfl rfl ?_
      refine n_getR 4 20 rfl rfl rfl rfl (isSh_pos p_a0) (wz_sh4 hz p_a0) ?_
      refine w_iload rfl rfl ?_
      have o5 := H.1
      replace H := H.2
      refine n_iaload rfl (Nat.add_pos_right _ (by decide)) rfl o5 ?_
      refine w_istore rfl rfl ?_
      refine w_iload rfl rfl ?_
      refine w_aload rfl rfl ?_
      refine n_getR 2 20 rfl rfl rfl rfl (isSh_pos p_a0) (wz_sh2 hz p_a0) ?_
      refine w_iload rfl rfl ?_
      have o6 := H.1
      replace H := H.2
      refine n_iaload rfl (Nat.add_pos_right _ (by decide)) (wz_shL1 hz p_a0) o6 ?_
      have o7 := H.1
      replace H := H.2
      refine w_isub rfl o7 ?_
      refine w_istore rfl rfl ?_
      refine w_iconst rfl ⟨by decide, by decide⟩ ?_
      refine w_istore rfl rfl ?_
      exact H
    · replace H := H.2 hc
      refine w_goto rfl ?_
      have o8 := H.1
      replace H := H.2
      refine w_iinc rfl rfl rfl o8 ?_
      refine w_goto rfl ?_
      exact H
set_option maxHeartbeats 4000000 in
set_option maxRecDepth 100000 in
theorem wr_Shape_addProduct_65 {d : Nat} {Q : cm_Q} {z : cm_Z} {I : cm_I} (hz : wz z) {a0 : Nat} {a1 : Nat} {a2 : Nat} {a3 : Nat} {x4 : Int} {x5 : Int} {x6 : Int} {x7 : Int} {x8 : Int} {x9 : Int} {z10 : Option cm_V} {z11 : Option cm_V} {z12 : Option cm_V} {z13 : Option cm_V} (p_a2 : 0 < a2) (p_a0 : isSh a0) (H : (((I a2 2) < x9 → (cm_i (x5 + 1) ∧ cw d cd_Shape_addProduct Q 3 [some (vR 9 a0), some (vR 5 a1), some (vR 5 a2), some (vR 20 a3), some (vI x4), some (vI (x5 + 1)), some (vI x6), some (vI x7), some (vI x8), some (vI x9), z10, z11, z12, z13] [] (I, z))) ∧ (x9 ≤ (I a2 2) → ((0:Int) ≤ x9 ∧ x9 < 19) ∧ (cm_i ((I a2 1) + (I (a0 + 1) x9)) ∧ (cm_i (x7 + x9) ∧ ((0:Int) ≤ (x7 + x9) ∧ (x7 + x9) < 19) ∧ (cm_i (x4 + (I (a0 + 1) (x7 + x9))) ∧ (cm_i ((x4 + (I (a0 + 1) (x7 + x9))) + x8) ∧ (cm_i (x9 + 1) ∧ ((0:Int) ≤ (x9 + 1) ∧ (x9 + 1) < 19) ∧ (cm_i ((I (a0 + 1) (x9 + 1)) - (I (a0 + 1) x9)) ∧ cw d cd_Shape_addProduct Q 128 [some (vR 9 a0), some (vR 5 a1), some (vR 5 a2), some (vR 20 a3), some (vI x4), some (vI x5), some (vI x6), some (vI x7), some (vI x8), some (vI x9), some (vI ((I a2 1) + (I (a0 + 1) x9))), some (vI ((x4 + (I (a0 + 1) (x7 + x9))) + x8)), some (vI ((I (a0 + 1) (x9 + 1)) - (I (a0 + 1) x9))), some (vI 0)] [] (I, z)))))))))) : cw d cd_Shape_addProduct Q 65 [some (vR 9 a0), some (vR 5 a1), some (vR 5 a2), some (vR 20 a3), some (vI x4), some (vI x5), some (vI x6), some (vI x7), some (vI x8), some (vI x9), z10, z11, z12, z13] [] (I, z) := by
  refine w_iload rfl rfl ?_
  refine w_aload rfl rfl ?_
  refine m_getI 2 rfl rfl rfl p_a2 ?_
  refine w_icmp rfl (And.intro (fun hc => ?_) (fun hc => ?_))
  · replace H := H.1 hc
    have o1 := H.1
    replace H := H.2
    refine w_iinc rfl rfl rfl o1 ?_
    refine w_goto rfl ?_
    exact H
  · replace H := H.2 hc
    refine w_aload rfl rfl ?_
    refine m_getI 1 rfl rfl rfl p_a2 ?_
    refine w_aload rfl rfl ?_
    refine n_getR 2 20 rfl rfl rfl rfl (isSh_pos p_a0) (wz_sh2 hz p_a0) ?_
    refine w_iload rfl rfl ?_
    have o2 := H.1
    replace H := H.2
    refine n_iaload rfl (Nat.add_pos_right _ (by decide)) (wz_shL1 hz p_a0) o2 ?_
    have o3 := H.1
    replace H := H.2
    refine w_iadd rfl o3 ?_
    refine w_istore rfl rfl ?_
    refine w_iload rfl rfl ?_
    refine w_aload rfl rfl ?_
    refine n_getR 2 20 rfl rfl rfl rfl (isSh_pos p_a0) (wz_sh2 hz p_a0) ?_
    refine w_iload rfl rfl ?_
    refine w_iload rfl rfl ?_
    have o4 := H.1
    replace H := H.2
    refine w_iadd rfl o4 ?_
    have o5 := H.1
    replace H := H.2
    refine n_iaload rfl (Nat.add_pos_right _ (by decide)) (wz_shL1 hz p_a0) o5 ?_
    have o6 := H.1
    replace H := H.2
    refine w_iadd rfl o6 ?_
    refine w_iload rfl rfl ?_
    have o7 := H.1
    replace H := H.2
    refine w_iadd rfl o7 ?_
    refine w_istore rfl rfl ?_
    refine w_aload rfl rfl ?_
    refine n_getR 2 20 rfl rfl rfl rfl (isSh_pos p_a0) (wz_sh2 hz p_a0) ?_
    refine w_iload rfl rfl ?_
    refine w_iconst rfl ⟨by decide, by decide⟩ ?_
    have o8 := H.1
    replace H := H.2
    refine w_iadd rfl o8 ?_
    have o9 := H.1
    replace H := H.2
    refine n_iaload rfl (Nat.add_pos_right _ (by decide)) (wz_shL1 hz p_a0) o9 ?_
    refine w_aload rfl rfl ?_
    refine n_getR 2 20 rfl rfl rfl rfl (isSh_pos p_a0) (wz_sh2 hz p_a0) ?_
    refine w_iload rfl rfl ?_
    refine n_iaload rfl (Nat.add_pos_right _ (by decide)) (wz_shL1 hz p_a0) o2 ?_
    have o10 := H.1
    replace H := H.2
    refine w_isub rfl o10 ?_
    refine w_istore rfl rfl ?_
    refine w_iconst rfl ⟨by decide, by decide⟩ ?_
    refine w_istore rfl rfl ?_
    exact H
set_option maxHeartbeats 4000000 in
set_option maxRecDepth 100000 in
theorem wr_Shape_addProduct_128 {d : Nat} {Q : cm_Q} {z : cm_Z} {I : cm_I} (hz : wz z) {a0 : Nat} {a1 : Nat} {a2 : Nat} {a3 : Nat} {x4 : Int} {x5 : Int} {x6 : Int} {x7 : Int} {x8 : Int} {x9 : Int} {x10 : Int} {x11 : Int} {x12 : Int} {x13 : Int} {q_a2_0 : Nat} (p_a3 : 0 < a3) (p_a2 : 0 < a2) (y_a2_0 : z.1 a2 0 = q_a2_0) (p_q_a2_0 : 0 < q_a2_0) (H : ((x12 ≤ x13 → (cm_i (x9 + 1) ∧ cw d cd_Shape_addProduct Q 65 [some (vR 9 a0), some (vR 5 a1), some (vR 5 a2), some (vR 20 a3), some (vI x4), some (vI x5), some (vI x6), some (vI x7), some (vI x8), some (vI (x9 + 1)), some (vI x10), some (vI x11), some (vI x12), some (vI x13)] [] (I, z))) ∧ (x13 < x12 → (cm_i (x11 + x13) ∧ ((0:Int) ≤ (x11 + x13) ∧ (x11 + x13) < z.2.1 a3) ∧ (cm_i (x10 + x13) ∧ ((0:Int) ≤ (x10 + x13) ∧ (x10 + x13) < z.2.1 q_a2_0) ∧ (cm_i (x6 * (I q_a2_0 (x10 + x13))) ∧ (cm_i ((I a3 (x11 + x13)) + (x6 * (I q_a2_0 (x10 + x13)))) ∧ (∀ I8 : cm_I, I8 = iu I a3 (x11 + x13) ((I a3 (x11 + x13)) + (x6 * (I q_a2_0 (x10 + x13)))) → (cm_i (x13 + 1) ∧ cw d cd_Shape_addProduct Q 128 [some (vR 9 a0), some (vR 5 a1), some (vR 5 a2), some (vR 20 a3), some (vI x4), some (vI x5), some (vI x6), some (vI x7), some (vI x8), some (vI x9), some (vI x10), some (vI x11), some (vI x12), some (vI (x13 + 1))] [] (I8, z)))))))))) : cw d cd_Shape_addProduct Q 128 [some (vR 9 a0), some (vR 5 a1), some (vR 5 a2), some (vR 20 a3), some (vI x4), some (vI x5), some (vI x6), some (vI x7), some (vI x8), some (vI x9), some (vI x10), some (vI x11), some (vI x12), some (vI x13)] [] (I, z) := by
  refine w_iload rfl rfl ?_
  refine w_iload rfl rfl ?_
  refine w_icmp rfl (And.intro (fun hc => ?_) (fun hc => ?_))
  · replace H := H.1 hc
    have o1 := H.1
    replace H := H.2
    refine w_iinc rfl rfl rfl o1 ?_
    refine w_goto rfl ?_
    exact H
  · replace H := H.2 hc
    refine w_aload rfl rfl ?_
    refine w_iload rfl rfl ?_
    refine w_iload rfl rfl ?_
    have o2 := H.1
    replace H := H.2
    refine w_iadd rfl o2 ?_
    refine w_dup2 rfl rfl ?_
    have o3 := H.1
    replace H := H.2
    refine n_iaload rfl p_a3 rfl o3 ?_
    refine w_iload rfl rfl ?_
    refine w_aload rfl rfl ?_
    refine n_getR 0 20 rfl rfl rfl rfl p_a2 y_a2_0 ?_
    refine w_iload rfl rfl ?_
    refine w_iload rfl rfl ?_
    have o4 := H.1
    replace H := H.2
    refine w_iadd rfl o4 ?_
    have o5 := H.1
    replace H := H.2
    refine n_iaload rfl p_q_a2_0 rfl o5 ?_
    have o6 := H.1
    replace H := H.2
    refine w_imul rfl o6 ?_
    have o7 := H.1
    replace H := H.2
    refine w_iadd rfl o7 ?_
    refine n_iastore rfl p_a3 rfl o3 (fun I8 eI8 => ?_)
    replace H := H I8 eI8
    have o9 := H.1
    replace H := H.2
    refine w_iinc rfl rfl rfl o9 ?_
    refine w_goto rfl ?_
    exact H
set_option maxHeartbeats 4000000 in
set_option maxRecDepth 100000 in
theorem wr_Shape_addProduct {d : Nat} {Q : cm_Q} {z : cm_Z} {I : cm_I} (hz : wz z) {a0 : Nat} {a1 : Nat} {a2 : Nat} {a3 : Nat} {x4 : Int} (p_a0 : isSh a0) (H : cw d cd_Shape_addProduct Q 3 [some (vR 9 a0), some (vR 5 a1), some (vR 5 a2), some (vR 20 a3), some (vI x4), some (vI 0), none, none, none, none, none, none, none, none] [] (I, z)) : cm_call (d + 1) m_Shape_addProduct [vR 9 a0, vR 5 a1, vR 5 a2, vR 20 a3, vI x4] (I, z) Q := by
  refine cm_call_in (C := cd_Shape_addProduct) (ls := [some (vR 9 a0), some (vR 5 a1), some (vR 5 a2), some (vR 20 a3), some (vI x4), none, none, none, none, none, none, none, none, none]) rfl rfl (isSh_pos p_a0) rfl ?_
  refine w_iconst rfl ⟨by decide, by decide⟩ ?_
  refine w_istore rfl rfl ?_
  exact H
set_option maxHeartbeats 4000000 in
set_option maxRecDepth 100000 in
theorem wr_Shape_multiply_27 {d : Nat} {Q : cm_Q} {z : cm_Z} {I : cm_I} (hz : wz z) {a0 : Nat} {a1 : Nat} {a2 : Nat} {a3 : Nat} {x4 : Int} {x5 : Int} {x6 : Int} {z7 : Option cm_V} (p_a0 : isSh a0) (H : ((x4 < x6 → cw d cd_Shape_multiply Q 126 [some (vR 9 a0), some (vR 20 a1), some (vR 20 a2), some (vR 20 a3), some (vI x4), some (vI x5), some (vI 0), z7] [] (I, z)) ∧ (x6 ≤ x4 → ((0:Int) ≤ x6 ∧ x6 < 17) ∧ (zcU d m_Piece_put [vR 5 (a0 + 3), vR 20 a1, vI (I (a0 + 2) x6), vI x6] z I fun I2 Z3 => cw d cd_Shape_multiply Q 54 [some (vR 9 a0), some (vR 20 a1), some (vR 20 a2), some (vR 20 a3), some (vI x4), some (vI x5), some (vI x6), some (vI 0)] [] (I2, Z3))))) : cw d cd_Shape_multiply Q 27 [some (vR 9 a0), some (vR 20 a1), some (vR 20 a2), some (vR 20 a3), some (vI x4), some (vI x5), some (vI x6), z7] [] (I, z) := by
  refine w_iload rfl rfl ?_
  refine w_iload rfl rfl ?_
  refine w_icmp rfl (And.intro (fun hc => ?_) (fun hc => ?_))
  · replace H := H.1 hc
    refine w_iconst rfl ⟨by decide, by decide⟩ ?_
    refine w_istore rfl rfl ?_
    exact H
  · replace H := H.2 hc
    refine w_aload rfl rfl ?_
    refine n_getR 6 5 rfl rfl rfl rfl (isSh_pos p_a0) (wz_sh6 hz p_a0) ?_
    refine w_aload rfl rfl ?_
    refine w_aload rfl rfl ?_
    refine n_getR 3 20 rfl rfl rfl rfl (isSh_pos p_a0) (wz_sh3 hz p_a0) ?_
    refine w_iload rfl rfl ?_
    have o1 := H.1
    replace H := H.2
    refine n_iaload rfl (Nat.add_pos_right _ (by decide)) (wz_shL2 hz p_a0) o1 ?_
    refine w_iload rfl rfl ?_
    refine n_callU rfl (fun _ => rfl) rfl (zcU_mono H fun I2 Z3 H => ?_)
    refine w_iconst rfl ⟨by decide, by decide⟩ ?_
    refine w_istore rfl rfl ?_
    exact H
set_option maxHeartbeats 4000000 in
set_option maxRecDepth 100000 in
theorem wr_Shape_multiply_54 {d : Nat} {Q : cm_Q} {z : cm_Z} {I : cm_I} (hz : wz z) {a0 : Nat} {a1 : Nat} {a2 : Nat} {a3 : Nat} {x4 : Int} {x5 : Int} {x6 : Int} {x7 : Int} (p_a0 : isSh a0) (H : ((x5 < x7 → (cm_i (x6 + 1) ∧ cw d cd_Shape_multiply Q 27 [some (vR 9 a0), some (vR 20 a1), some (vR 20 a2), some (vR 20 a3), some (vI x4), some (vI x5), some (vI (x6 + 1)), some (vI x7)] [] (I, z))) ∧ (x7 ≤ x5 → (cm_i (x6 + x7) ∧ ((15 < (x6 + x7) → (cm_i (x6 + 1) ∧ cw d cd_Shape_multiply Q 27 [some (vR 9 a0), some (vR 20 a1), some (vR 20 a2), some (vR 20 a3), some (vI x4), some (vI x5), some (vI (x6 + 1)), some (vI x7)] [] (I, z))) ∧ ((x6 + x7) ≤ 15 → ((0:Int) ≤ x7 ∧ x7 < 17) ∧ (zcU d m_Piece_put [vR 5 (a0 + 5), vR 20 a2, vI (I (a0 + 2) x7), vI x7] z I fun I5 Z6 => (wz Z6 ∧ ((0:Int) ≤ (x6 + x7) ∧ (x6 + x7) < 17) ∧ (mU d m_Shape_addProduct [vR 9 a0, vR 5 (a0 + 3), vR 5 (a0 + 5), vR 20 a3, vI (I5 (a0 + 2) (x6 + x7))] Z6 I5 fun I9 => (cm_i (x7 + 1) ∧ cw d cd_Shape_multiply Q 54 [some (vR 9 a0), some (vR 20 a1), some (vR 20 a2), some (vR 20 a3), some (vI x4), some (vI x5), some (vI x6), some (vI (x7 + 1))] [] (I9, Z6))))))))))) : cw d cd_Shape_multiply Q 54 [some (vR 9 a0), some (vR 20 a1), some (vR 20 a2), some (vR 20 a3), some (vI x4), some (vI x5), some (vI x6), some (vI x7)] [] (I, z) := by
  refine w_iload rfl rfl ?_
  refine w_iload rfl rfl ?_
  refine w_icmp rfl (And.intro (fun hc => ?_) (fun hc => ?_))
  · replace H := H.1 hc
    have o1 := H.1
    replace H := H.2
    refine w_iinc rfl rfl rfl o1 ?_
    refine w_goto rfl ?_
    exact H
  · replace H := H.2 hc
    refine w_iload rfl rfl ?_
    refine w_iload rfl rfl ?_
    have o2 := H.1
    replace H := H.2
    refine w_iadd rfl o2 ?_
    refine w_iconst rfl ⟨by decide, by decide⟩ ?_
    refine w_icmp rfl (And.intro (fun hc => ?_) (fun hc => ?_))
    · replace H := H.1 hc
      have o3 := H.1
      replace H := H.2
      refine w_iinc rfl rfl rfl o3 ?_
      refine w_goto rfl ?_
      exact H
    · replace H := H.2 hc
      refine w_aload rfl rfl ?_
      refine n_getR 7 5 rfl rfl rfl rfl (isSh_pos p_a0) (wz_sh7 hz p_a0) ?_
      refine w_aload rfl rfl ?_
      refine w_aload rfl rfl ?_
      refine n_getR 3 20 rfl rfl rfl rfl (isSh_pos p_a0) (wz_sh3 hz p_a0) ?_
      refine w_iload rfl rfl ?_
      have o4 := H.1
      replace H := H.2
      refine n_iaload rfl (Nat.add_pos_right _ (by decide)) (wz_shL2 hz p_a0) o4 ?_
      refine w_iload rfl rfl ?_
      refine n_callU rfl (fun _ => rfl) rfl (zcU_mono H fun I5 Z6 H => ?_)
      refine w_aload rfl rfl ?_
      refine w_aload rfl rfl ?_
      have o7 := H.1
      replace H := H.2
      refine n_getR 6 5 rfl rfl rfl rfl (isSh_pos p_a0) (wz_sh6 o7 p_a0) ?_
      refine w_aload rfl rfl ?_
      refine n_getR 7 5 rfl rfl rfl rfl (isSh_pos p_a0) (wz_sh7 o7 p_a0) ?_
      refine w_aload rfl rfl ?_
      refine w_aload rfl rfl ?_
      refine n_getR 3 20 rfl rfl rfl rfl (isSh_pos p_a0) (wz_sh3 o7 p_a0) ?_
      refine w_iload rfl rfl ?_
      refine w_iload rfl rfl ?_
      refine w_iadd rfl o2 ?_
      have o8 := H.1
      replace H := H.2
      refine n_iaload rfl (Nat.add_pos_right _ (by decide)) (wz_shL2 o7 p_a0) o8 ?_
      refine m_callU rfl (fun _ => rfl) rfl (mU_mono H fun I9 H => ?_)
      have o10 := H.1
      replace H := H.2
      refine w_iinc rfl rfl rfl o10 ?_
      refine w_goto rfl ?_
      exact H
set_option maxHeartbeats 4000000 in
set_option maxRecDepth 100000 in
theorem wr_Shape_multiply_126 {d : Nat} {Q : cm_Q} {z : cm_Z} {I : cm_I} (hz : wz z) {a0 : Nat} {z1 : Option cm_V} {z2 : Option cm_V} {a3 : Nat} {z4 : Option cm_V} {z5 : Option cm_V} {x6 : Int} {z7 : Option cm_V} (p_a0 : isSh a0) (p_a3 : 0 < a3) (H : (((I a0 1) ≤ x6 → Q none (I, z)) ∧ (x6 < (I a0 1) → ((0:Int) ≤ x6 ∧ x6 < z.2.1 a3) ∧ (∀ I2 : cm_I, I2 = iu I a3 x6 (Int.tmod (I a3 x6) 2521) → (cm_i (x6 + 1) ∧ cw d cd_Shape_multiply Q 126 [some (vR 9 a0), z1, z2, some (vR 20 a3), z4, z5, some (vI (x6 + 1)), z7] [] (I2, z)))))) : cw d cd_Shape_multiply Q 126 [some (vR 9 a0), z1, z2, some (vR 20 a3), z4, z5, some (vI x6), z7] [] (I, z) := by
  refine w_iload rfl rfl ?_
  refine w_aload rfl rfl ?_
  refine m_getI 1 rfl rfl rfl (isSh_pos p_a0) ?_
  refine w_icmp rfl (And.intro (fun hc => ?_) (fun hc => ?_))
  · replace H := H.1 hc
    exact w_return rfl H
  · replace H := H.2 hc
    refine w_aload rfl rfl ?_
    refine w_iload rfl rfl ?_
    refine w_dup2 rfl rfl ?_
    have o1 := H.1
    replace H := H.2
    refine n_iaload rfl p_a3 rfl o1 ?_
    refine w_iconst rfl ⟨by decide, by decide⟩ ?_
    refine w_irem rfl (by decide) ?_
    refine n_iastore rfl p_a3 rfl o1 (fun I2 eI2 => ?_)
    replace H := H I2 eI2
    have o3 := H.1
    replace H := H.2
    refine w_iinc rfl rfl rfl o3 ?_
    refine w_goto rfl ?_
    exact H
set_option maxHeartbeats 4000000 in
set_option maxRecDepth 100000 in
theorem wr_Shape_multiply {d : Nat} {Q : cm_Q} {z : cm_Z} {I : cm_I} (hz : wz z) {a0 : Nat} {a1 : Nat} {a2 : Nat} {a3 : Nat} (p_a0 : isSh a0) (H : (mU d m_Arr_fill4 [vR 20 a3, vI 0, vI (I a0 1), vI 0] z I fun I1 => (mI d m_Shape_degreeOf [vR 9 a0, vR 20 a1] z I1 fun v3 I2 => (mI d m_Shape_degreeOf [vR 9 a0, vR 20 a2] z I2 fun v5 I4 => cw d cd_Shape_multiply Q 27 [some (vR 9 a0), some (vR 20 a1), some (vR 20 a2), some (vR 20 a3), some (vI v3), some (vI v5), some (vI 0), none] [] (I4, z))))) : cm_call (d + 1) m_Shape_multiply [vR 9 a0, vR 20 a1, vR 20 a2, vR 20 a3] (I, z) Q := by
  refine cm_call_in (C := cd_Shape_multiply) (ls := [some (vR 9 a0), some (vR 20 a1), some (vR 20 a2), some (vR 20 a3), none, none, none, none]) rfl rfl (isSh_pos p_a0) rfl ?_
  refine w_aload rfl rfl ?_
  refine w_iconst rfl ⟨by decide, by decide⟩ ?_
  refine w_aload rfl rfl ?_
  refine m_getI 1 rfl rfl rfl (isSh_pos p_a0) ?_
  refine w_iconst rfl ⟨by decide, by decide⟩ ?_
  refine m_callU rfl (fun _ => rfl) rfl (mU_mono H fun I1 H => ?_)
  refine w_aload rfl rfl ?_
  refine w_aload rfl rfl ?_
  refine m_callI rfl (fun _ => rfl) rfl (mI_mono H fun v3 I2 H => ?_)
  refine w_istore rfl rfl ?_
  refine w_aload rfl rfl ?_
  refine w_aload rfl rfl ?_
  refine m_callI rfl (fun _ => rfl) rfl (mI_mono H fun v5 I4 H => ?_)
  refine w_istore rfl rfl ?_
  refine w_iconst rfl ⟨by decide, by decide⟩ ?_
  refine w_istore rfl rfl ?_
  exact H
set_option maxHeartbeats 4000000 in
set_option maxRecDepth 100000 in
theorem wr_Arr_range {d : Nat} {Q : cm_Q} {z : cm_Z} {I : cm_I} (hz : wz z) {x0 : Int} {x1 : Int} {x2 : Int}  (H : ((x1 ≤ x2 → ((0 ≤ x1 → ((x2 ≤ x0 → Q none (I, z)) ∧ (x0 < x2 → False))) ∧ (x1 < 0 → False))) ∧ (x2 < x1 → False))) : cm_call (d + 1) m_Arr_range [vI x0, vI x1, vI x2] (I, z) Q := by
  refine cm_call_in (C := cd_Arr_range) (ls := [some (vI x0), some (vI x1), some (vI x2)]) rfl rfl trivial rfl ?_
  refine w_iload rfl rfl ?_
  refine w_iload rfl rfl ?_
  refine w_icmp rfl (And.intro (fun hc => ?_) (fun hc => ?_))
  · replace H := H.1 hc
    refine w_iload rfl rfl ?_
    refine w_if rfl (And.intro (fun hc => ?_) (fun hc => ?_))
    · replace H := H.1 hc
      refine w_iload rfl rfl ?_
      refine w_iload rfl rfl ?_
      refine w_icmp rfl (And.intro (fun hc => ?_) (fun hc => ?_))
      · replace H := H.1 hc
        exact w_return rfl H
      · replace H := H.2 hc
        exact H.elim
    · replace H := H.2 hc
      exact H.elim
  · replace H := H.2 hc
    exact H.elim
set_option maxHeartbeats 4000000 in
set_option maxRecDepth 100000 in
theorem wr_Arr_fill_5 {d : Nat} {Q : cm_Q} {z : cm_Z} {I : cm_I} (hz : wz z) {a0 : Nat} {x1 : Int} {x2 : Int} {x3 : Int} (p_a0 : 0 < a0) (H : ((x3 ≤ x2 → Q none (I, z)) ∧ (x2 < x3 → ((0:Int) ≤ x2 ∧ x2 < z.2.1 a0) ∧ (∀ I2 : cm_I, I2 = iu I a0 x2 x1 → (cm_i (x2 + 1) ∧ cw d cd_Arr_fill Q 5 [some (vR 20 a0), some (vI x1), some (vI (x2 + 1)), some (vI x3)] [] (I2, z)))))) : cw d cd_Arr_fill Q 5 [some (vR 20 a0), some (vI x1), some (vI x2), some (vI x3)] [] (I, z) := by
  refine w_iload rfl rfl ?_
  refine w_iload rfl rfl ?_
  refine w_icmp rfl (And.intro (fun hc => ?_) (fun hc => ?_))
  · replace H := H.1 hc
    exact w_return rfl H
  · replace H := H.2 hc
    refine w_aload rfl rfl ?_
    refine w_iload rfl rfl ?_
    refine w_iload rfl rfl ?_
    have o1 := H.1
    replace H := H.2
    refine n_iastore rfl p_a0 rfl o1 (fun I2 eI2 => ?_)
    replace H := H I2 eI2
    have o3 := H.1
    replace H := H.2
    refine w_iinc rfl rfl rfl o3 ?_
    refine w_goto rfl ?_
    exact H
set_option maxHeartbeats 4000000 in
set_option maxRecDepth 100000 in
theorem wr_Arr_fill {d : Nat} {Q : cm_Q} {z : cm_Z} {I : cm_I} (hz : wz z) {a0 : Nat} {x1 : Int} (p_a0 : 0 < a0) (H : cw d cd_Arr_fill Q 5 [some (vR 20 a0), some (vI x1), some (vI 0), some (vI (z.2.1 a0))] [] (I, z)) : cm_call (d + 1) m_Arr_fill [vR 20 a0, vI x1] (I, z) Q := by
  refine cm_call_in (C := cd_Arr_fill) (ls := [some (vR 20 a0), some (vI x1), none, none]) rfl rfl trivial rfl ?_
  refine w_iconst rfl ⟨by decide, by decide⟩ ?_
  refine w_istore rfl rfl ?_
  refine w_aload rfl rfl ?_
  refine n_alen rfl rfl p_a0 rfl ?_
  refine w_istore rfl rfl ?_
  exact H
set_option maxHeartbeats 4000000 in
set_option maxRecDepth 100000 in
theorem wr_Arr_fill4_10 {d : Nat} {Q : cm_Q} {z : cm_Z} {I : cm_I} (hz : wz z) {a0 : Nat} {z1 : Option cm_V} {x2 : Int} {x3 : Int} {x4 : Int} (p_a0 : 0 < a0) (H : ((x2 ≤ x4 → Q none (I, z)) ∧ (x4 < x2 → ((0:Int) ≤ x4 ∧ x4 < z.2.1 a0) ∧ (∀ I2 : cm_I, I2 = iu I a0 x4 x3 → (cm_i (x4 + 1) ∧ cw d cd_Arr_fill4 Q 10 [some (vR 20 a0), z1, some (vI x2), some (vI x3), some (vI (x4 + 1))] [] (I2, z)))))) : cw d cd_Arr_fill4 Q 10 [some (vR 20 a0), z1, some (vI x2), some (vI x3), some (vI x4)] [] (I, z) := by
  refine w_iload rfl rfl ?_
  refine w_iload rfl rfl ?_
  refine w_icmp rfl (And.intro (fun hc => ?_) (fun hc => ?_))
  · replace H := H.1 hc
    exact w_return rfl H
  · replace H := H.2 hc
    refine w_aload rfl rfl ?_
    refine w_iload rfl rfl ?_
    refine w_iload rfl rfl ?_
    have o1 := H.1
    replace H := H.2
    refine n_iastore rfl p_a0 rfl o1 (fun I2 eI2 => ?_)
    replace H := H I2 eI2
    have o3 := H.1
    replace H := H.2
    refine w_iinc rfl rfl rfl o3 ?_
    refine w_goto rfl ?_
    exact H
set_option maxHeartbeats 4000000 in
set_option maxRecDepth 100000 in
theorem wr_Arr_fill4 {d : Nat} {Q : cm_Q} {z : cm_Z} {I : cm_I} (hz : wz z) {a0 : Nat} {x1 : Int} {x2 : Int} {x3 : Int} (p_a0 : 0 < a0) (H : (mU d m_Arr_range [vI (z.2.1 a0), vI x1, vI x2] z I fun I1 => cw d cd_Arr_fill4 Q 10 [some (vR 20 a0), some (vI x1), some (vI x2), some (vI x3), some (vI x1)] [] (I1, z))) : cm_call (d + 1) m_Arr_fill4 [vR 20 a0, vI x1, vI x2, vI x3] (I, z) Q := by
  refine cm_call_in (C := cd_Arr_fill4) (ls := [some (vR 20 a0), some (vI x1), some (vI x2), some (vI x3), none]) rfl rfl trivial rfl ?_
  refine w_aload rfl rfl ?_
  refine n_alen rfl rfl p_a0 rfl ?_
  refine w_iload rfl rfl ?_
  refine w_iload rfl rfl ?_
  refine m_callU rfl (fun _ => rfl) rfl (mU_mono H fun I1 H => ?_)
  refine w_iload rfl rfl ?_
  refine w_istore rfl rfl ?_
  exact H
