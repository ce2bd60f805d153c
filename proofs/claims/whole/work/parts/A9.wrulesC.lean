/-! RULES of the class's methods, its layout put in (wip/whole/genwrules.py): Grade, Bases, Search, Rewriter -/
set_option maxHeartbeats 4000000 in
set_option maxRecDepth 100000 in
theorem wr_Bases_begin_12 {d : Nat} {Q : cm_Q} {z : cm_Z} {I : cm_I} (hz : wz z) {z1 : Option cm_V} {z2 : Option cm_V} {x3 : Int}  (H : ((16 ≤ x3 → (mU d m_Bases_fillSizes [vR 0 66] z I fun I1 => Q none (I1, z))) ∧ (x3 < 16 → ((0:Int) ≤ x3 ∧ x3 < 16) ∧ (∀ I3 : cm_I, I3 = iu I (73 + 7 * Int.toNat x3) 1 0 → (cm_i (x3 + 1) ∧ cw d cd_Bases_begin Q 12 [some (vR 0 66), z1, z2, some (vI (x3 + 1))] [] (I3, z)))))) : cw d cd_Bases_begin Q 12 [some (vR 0 66), z1, z2, some (vI x3)] [] (I, z) := by
  refine w_iload rfl rfl ?_
  refine w_iconst rfl ⟨by decide, by decide⟩ ?_
  refine w_icmp rfl (And.intro (fun hc => ?_) (fun hc => ?_))
  · replace H := H.1 hc
    refine w_aload rfl rfl ?_
    refine m_callU rfl (fun _ => rfl) rfl (mU_mono H fun I1 H => ?_)
    exact w_return rfl H
  · replace H := H.2 hc
    refine w_aload rfl rfl ?_
    refine n_getR 5 24 rfl rfl rfl rfl (by decide) (wz_R hz 66 5 68 rfl (by decide)) ?_
    refine w_iload rfl rfl ?_
    have o2 := H.1
    replace H := H.2
    refine n_aaload rfl rfl rfl (by decide) (wz_L hz 68 16 rfl (by decide)) o2 (wz_grades hz o2) ?_
    refine w_iconst rfl ⟨by decide, by decide⟩ ?_
    refine m_putZ 1 rfl rfl rfl (by decide) (by omega) (fun I3 eI3 => ?_)
    replace H := H I3 eI3
    have o4 := H.1
    replace H := H.2
    refine w_iinc rfl rfl rfl o4 ?_
    refine w_goto rfl ?_
    exact H
set_option maxHeartbeats 4000000 in
set_option maxRecDepth 100000 in
theorem wr_Bases_begin {d : Nat} {Q : cm_Q} {z : cm_Z} {I : cm_I} (hz : wz z) {a1 : Nat} {a2 : Nat}  (H : (∀ Z1 : cm_Z, Z1 = zr z 66 2 a1 → (∀ Z2 : cm_Z, Z2 = zr Z1 66 3 a2 → cw d cd_Bases_begin Q 12 [some (vR 0 66), some (vR 9 a1), some (vR 3 a2), some (vI 0)] [] (I, Z2)))) : cm_call (d + 1) m_Bases_begin [vR 0 66, vR 9 a1, vR 3 a2] (I, z) Q := by
  refine cm_call_in (C := cd_Bases_begin) (ls := [some (vR 0 66), some (vR 9 a1), some (vR 3 a2), none]) rfl rfl (show 0 < 66 by decide) rfl ?_
  refine w_aload rfl rfl ?_
  refine w_aload rfl rfl ?_
  refine n_putR 2 rfl rfl rfl rfl (by decide) (fun Z1 eZ1 => ?_)
  replace H := H Z1 eZ1
  refine w_aload rfl rfl ?_
  refine w_aload rfl rfl ?_
  refine n_putR 3 rfl rfl rfl rfl (by decide) (fun Z2 eZ2 => ?_)
  replace H := H Z2 eZ2
  refine w_iconst rfl ⟨by decide, by decide⟩ ?_
  refine w_istore rfl rfl ?_
  exact H
set_option maxHeartbeats 4000000 in
set_option maxRecDepth 100000 in
theorem wr_Bases_fillSizes_10 {d : Nat} {Q : cm_Q} {z : cm_Z} {I : cm_I} (hz : wz z) {x1 : Int} {z2 : Option cm_V} {z3 : Option cm_V} {z4 : Option cm_V} {z5 : Option cm_V} {z6 : Option cm_V} {z7 : Option cm_V} {z8 : Option cm_V} {z9 : Option cm_V} {mb : Nat} {sh : Nat} (y_66_3 : z.1 66 3 = mb) (p_mb : isMb mb) (y_66_2 : z.1 66 2 = sh) (p_sh : isSh sh) (H : (((I mb 2) ≤ x1 → (mI d m_Works_raise [vI (I mb 2), vI 2519] z I fun v2 I1 => cw d cd_Bases_fillSizes Q 177 [some (vR 0 66), some (vI v2), some (vI 0), z3, z4, z5, z6, z7, z8, z9] [] (I1, z))) ∧ (x1 < (I mb 2) → (mI d m_Members_trace [vR 3 mb, vI x1] z I fun v4 I3 => (mI d m_Members_middle [vR 3 mb, vI x1] z I3 fun v6 I5 => (cm_i (2521 - v6) ∧ ((¬ (I5 sh 0) = 3 → cw d cd_Bases_fillSizes Q 73 [some (vR 0 66), some (vI x1), some (vI v4), some (vI (2521 - v6)), z4, z5, z6, z7, z8, z9] [vI 0] (I5, z)) ∧ ((I5 sh 0) = 3 → (cm_i (9 * x1) ∧ (mI d m_Works_determinant [vR 20 (mb + 2), vI (9 * x1), vI 3] z I5 fun v10 I9 => cw d cd_Bases_fillSizes Q 73 [some (vR 0 66), some (vI x1), some (vI v4), some (vI (2521 - v6)), z4, z5, z6, z7, z8, z9] [vI v10] (I9, z))))))))))) : cw d cd_Bases_fillSizes Q 10 [some (vR 0 66), some (vI x1), z2, z3, z4, z5, z6, z7, z8, z9] [] (I, z) := by
  refine w_iload rfl rfl ?_
  refine w_aload rfl rfl ?_
  refine n_getR 3 3 rfl rfl rfl rfl (by decide) y_66_3 ?_
  refine m_getI 2 rfl rfl rfl (isMb_pos p_mb) ?_
  refine w_icmp rfl (And.intro (fun hc => ?_) (fun hc => ?_))
  · replace H := H.1 hc
    refine w_aload rfl rfl ?_
    refine n_getR 3 3 rfl rfl rfl rfl (by decide) y_66_3 ?_
    refine m_getI 2 rfl rfl rfl (isMb_pos p_mb) ?_
    refine w_iconst rfl ⟨by decide, by decide⟩ ?_
    refine m_callI rfl (fun _ => rfl) rfl (mI_mono H fun v2 I1 H => ?_)
    refine w_istore rfl rfl ?_
    refine w_iconst rfl ⟨by decide, by decide⟩ ?_
    refine w_istore rfl rfl ?_
    exact H
  · replace H := H.2 hc
    refine w_aload rfl rfl ?_
    refine n_getR 3 3 rfl rfl rfl rfl (by decide) y_66_3 ?_
    refine w_iload rfl rfl ?_
    refine m_callI rfl (fun _ => rfl) rfl (mI_mono H fun v4 I3 H => ?_)
    refine w_istore rfl rfl ?_
    refine w_iconst rfl ⟨by decide, by decide⟩ ?_
    refine w_aload rfl rfl ?_
    refine n_getR 3 3 rfl rfl rfl rfl (by decide) y_66_3 ?_
    refine w_iload rfl rfl ?_
    refine m_callI rfl (fun _ => rfl) rfl (mI_mono H fun v6 I5 H => ?_)
    have o7 := H.1
    replace H := H.2
    refine w_isub rfl o7 ?_
    refine w_istore rfl rfl ?_
    refine w_aload rfl rfl ?_
    refine n_getR 2 9 rfl rfl rfl rfl (by decide) y_66_2 ?_
    refine m_getI 0 rfl rfl rfl (isSh_pos p_sh) ?_
    refine w_iconst rfl ⟨by decide, by decide⟩ ?_
    refine w_icmp rfl (And.intro (fun hc => ?_) (fun hc => ?_))
    · replace H := H.1 hc
      refine w_iconst rfl ⟨by decide, by decide⟩ ?_
      exact H
    · replace H := H.2 hc
      refine w_aload rfl rfl ?_
      refine n_getR 3 3 rfl rfl rfl rfl (by decide) y_66_3 ?_
      refine n_getR 4 20 rfl rfl rfl rfl (isMb_pos p_mb) (wz_mb4 hz p_mb) ?_
      refine w_iconst rfl ⟨by decide, by decide⟩ ?_
      refine w_iload rfl rfl ?_
      have o8 := H.1
      replace H := H.2
      refine w_imul rfl o8 ?_
      refine w_iconst rfl ⟨by decide, by decide⟩ ?_
      refine m_callI rfl (fun _ => rfl) rfl (mI_mono H fun v10 I9 H => ?_)
      refine w_goto rfl ?_
      exact H
set_option maxHeartbeats 4000000 in
set_option maxRecDepth 100000 in
theorem wr_Bases_fillSizes_73 {d : Nat} {Q : cm_Q} {z : cm_Z} {I : cm_I} (hz : wz z) {x1 : Int} {x2 : Int} {x3 : Int} {z4 : Option cm_V} {z5 : Option cm_V} {z6 : Option cm_V} {z7 : Option cm_V} {z8 : Option cm_V} {z9 : Option cm_V} {s0 : Int}  (H : (cm_i ((I 67 0) + 1) ∧ (∀ I2 : cm_I, I2 = iu I 67 0 ((I 67 0) + 1) → cw d cd_Bases_fillSizes Q 97 [some (vR 0 66), some (vI x1), some (vI x2), some (vI x3), some (vI s0), some (vI 1), some (vI 0), some (vI 0), some (vI 1), z9] [] (I2, z)))) : cw d cd_Bases_fillSizes Q 73 [some (vR 0 66), some (vI x1), some (vI x2), some (vI x3), z4, z5, z6, z7, z8, z9] [vI s0] (I, z) := by
  refine w_istore rfl rfl ?_
  refine w_iconst rfl ⟨by decide, by decide⟩ ?_
  refine w_istore rfl rfl ?_
  refine w_iconst rfl ⟨by decide, by decide⟩ ?_
  refine w_istore rfl rfl ?_
  refine w_iconst rfl ⟨by decide, by decide⟩ ?_
  refine w_istore rfl rfl ?_
  refine w_aload rfl rfl ?_
  refine n_getR 4 20 rfl rfl rfl rfl (by decide) (wz_R hz 66 4 67 rfl (by decide)) ?_
  refine w_iconst rfl ⟨by decide, by decide⟩ ?_
  refine w_dup2 rfl rfl ?_
  refine n_iaload rfl (by decide) (wz_L hz 67 16 rfl (by decide)) (by decide) ?_
  refine w_iconst rfl ⟨by decide, by decide⟩ ?_
  have o1 := H.1
  replace H := H.2
  refine w_iadd rfl o1 ?_
  refine n_iastore rfl (by decide) (wz_L hz 67 16 rfl (by decide)) (by decide) (fun I2 eI2 => ?_)
  replace H := H I2 eI2
  refine w_iconst rfl ⟨by decide, by decide⟩ ?_
  refine w_istore rfl rfl ?_
  exact H
set_option maxHeartbeats 4000000 in
set_option maxRecDepth 100000 in
theorem wr_Bases_fillSizes_97 {d : Nat} {Q : cm_Q} {z : cm_Z} {I : cm_I} (hz : wz z) {x1 : Int} {x2 : Int} {x3 : Int} {x4 : Int} {x5 : Int} {x6 : Int} {x7 : Int} {x8 : Int} {z9 : Option cm_V}  (H : ((16 ≤ x8 → (cm_i (x1 + 1) ∧ cw d cd_Bases_fillSizes Q 10 [some (vR 0 66), some (vI (x1 + 1)), some (vI x2), some (vI x3), some (vI x4), some (vI x5), some (vI x6), some (vI x7), some (vI x8), z9] [] (I, z))) ∧ (x8 < 16 → (cm_i (x2 * x5) ∧ (cm_i (x3 * x6) ∧ (cm_i ((x2 * x5) + (x3 * x6)) ∧ (cm_i (x4 * x7) ∧ (cm_i (((x2 * x5) + (x3 * x6)) + (x4 * x7)) ∧ ((0:Int) ≤ x8 ∧ x8 < 16) ∧ (cm_i ((I 67 x8) + (Int.tmod (((x2 * x5) + (x3 * x6)) + (x4 * x7)) 2521)) ∧ (∀ I9 : cm_I, I9 = iu I 67 x8 ((I 67 x8) + (Int.tmod (((x2 * x5) + (x3 * x6)) + (x4 * x7)) 2521)) → (cm_i (x8 + 1) ∧ cw d cd_Bases_fillSizes Q 97 [some (vR 0 66), some (vI x1), some (vI x2), some (vI x3), some (vI x4), some (vI (Int.tmod (((x2 * x5) + (x3 * x6)) + (x4 * x7)) 2521)), some (vI x5), some (vI x6), some (vI (x8 + 1)), some (vI (Int.tmod (((x2 * x5) + (x3 * x6)) + (x4 * x7)) 2521))] [] (I9, z)))))))))))) : cw d cd_Bases_fillSizes Q 97 [some (vR 0 66), some (vI x1), some (vI x2), some (vI x3), some (vI x4), some (vI x5), some (vI x6), some (vI x7), some (vI x8), z9] [] (I, z) := by
  refine w_iload rfl rfl ?_
  refine w_iconst rfl ⟨by decide, by decide⟩ ?_
  refine w_icmp rfl (And.intro (fun hc => ?_) (fun hc => ?_))
  · replace H := H.1 hc
    have o1 := H.1
    replace H := H.2
    refine w_iinc rfl rfl rfl o1 ?_
    refine w_goto rfl ?_
    exact H
  · replace H := H.2 hc
    refine w_iload rfl rfl ?_
    refine w_iload rfl rfl ?_
    have o2 := H.1
    replace H := H.2
    refine w_imul rfl o2 ?_
    refine w_iload rfl rfl ?_
    refine w_iload rfl rfl ?_
    have o3 := H.1
    replace H := H.2
    refine w_imul rfl o3 ?_
    have o4 := H.1
    replace H := H.2
    refine w_iadd rfl o4 ?_
    refine w_iload rfl rfl ?_
    refine w_iload rfl rfl ?_
    have o5 := H.1
    replace H := H.2
    refine w_imul rfl o5 ?_
    have o6 := H.1
    replace H := H.2
    refine w_iadd rfl o6 ?_
    refine w_iconst rfl ⟨by decide, by decide⟩ ?_
    refine w_irem rfl (by decide) ?_
    refine w_istore rfl rfl ?_
    refine w_iload rfl rfl ?_
    refine w_istore rfl rfl ?_
    refine w_iload rfl rfl ?_
    refine w_istore rfl rfl ?_
    refine w_iload rfl rfl ?_
    refine w_istore rfl rfl ?_
    refine w_aload rfl rfl ?_
    refine n_getR 4 20 rfl rfl rfl rfl (by decide) (wz_R hz 66 4 67 rfl (by decide)) ?_
    refine w_iload rfl rfl ?_
    refine w_dup2 rfl rfl ?_
    have o7 := H.1
    replace H := H.2
    refine n_iaload rfl (by decide) (wz_L hz 67 16 rfl (by decide)) o7 ?_
    refine w_iload rfl rfl ?_
    have o8 := H.1
    replace H := H.2
    refine w_iadd rfl o8 ?_
    refine n_iastore rfl (by decide) (wz_L hz 67 16 rfl (by decide)) o7 (fun I9 eI9 => ?_)
    replace H := H I9 eI9
    have o10 := H.1
    replace H := H.2
    refine w_iinc rfl rfl rfl o10 ?_
    refine w_goto rfl ?_
    exact H
set_option maxHeartbeats 4000000 in
set_option maxRecDepth 100000 in
theorem wr_Bases_fillSizes_177 {d : Nat} {Q : cm_Q} {z : cm_Z} {I : cm_I} (hz : wz z) {x1 : Int} {x2 : Int} {z3 : Option cm_V} {z4 : Option cm_V} {z5 : Option cm_V} {z6 : Option cm_V} {z7 : Option cm_V} {z8 : Option cm_V} {z9 : Option cm_V} {sh : Nat} (y_66_2 : z.1 66 2 = sh) (p_sh : isSh sh) (H : ((16 ≤ x2 → Q none (I, z)) ∧ (x2 < 16 → ((0:Int) ≤ x2 ∧ x2 < 16) ∧ (cm_i ((Int.tmod (I 67 x2) 2521) * x1) ∧ (cm_i (x2 + 1) ∧ ((0:Int) ≤ (x2 + 1) ∧ (x2 + 1) < 19) ∧ (∀ I5 : cm_I, I5 = iu I 67 x2 (min (Int.tmod ((Int.tmod (I 67 x2) 2521) * x1) 2521) (I (sh + 1) (x2 + 1))) → cw d cd_Bases_fillSizes Q 177 [some (vR 0 66), some (vI x1), some (vI (x2 + 1)), some (vI (Int.tmod ((Int.tmod (I 67 x2) 2521) * x1) 2521)), z4, z5, z6, z7, z8, z9] [] (I5, z))))))) : cw d cd_Bases_fillSizes Q 177 [some (vR 0 66), some (vI x1), some (vI x2), z3, z4, z5, z6, z7, z8, z9] [] (I, z) := by
  refine w_iload rfl rfl ?_
  refine w_iconst rfl ⟨by decide, by decide⟩ ?_
  refine w_icmp rfl (And.intro (fun hc => ?_) (fun hc => ?_))
  · replace H := H.1 hc
    exact w_return rfl H
  · replace H := H.2 hc
    refine w_aload rfl rfl ?_
    refine n_getR 4 20 rfl rfl rfl rfl (by decide) (wz_R hz 66 4 67 rfl (by decide)) ?_
    refine w_iload rfl rfl ?_
    have o1 := H.1
    replace H := H.2
    refine n_iaload rfl (by decide) (wz_L hz 67 16 rfl (by decide)) o1 ?_
    refine w_iconst rfl ⟨by decide, by decide⟩ ?_
    refine w_irem rfl (by decide) ?_
    refine w_iload rfl rfl ?_
    have o2 := H.1
    replace H := H.2
    refine w_imul rfl o2 ?_
    refine w_iconst rfl ⟨by decide, by decide⟩ ?_
    refine w_irem rfl (by decide) ?_
    refine w_istore rfl rfl ?_
    refine w_aload rfl rfl ?_
    refine n_getR 4 20 rfl rfl rfl rfl (by decide) (wz_R hz 66 4 67 rfl (by decide)) ?_
    refine w_iload rfl rfl ?_
    refine w_iload rfl rfl ?_
    refine w_aload rfl rfl ?_
    refine n_getR 2 9 rfl rfl rfl rfl (by decide) y_66_2 ?_
    refine n_getR 2 20 rfl rfl rfl rfl (isSh_pos p_sh) (wz_sh2 hz p_sh) ?_
    refine w_iload rfl rfl ?_
    refine w_iconst rfl ⟨by decide, by decide⟩ ?_
    have o3 := H.1
    replace H := H.2
    refine w_iadd rfl o3 ?_
    have o4 := H.1
    replace H := H.2
    refine n_iaload rfl (Nat.add_pos_right _ (by decide)) (wz_shL1 hz p_sh) o4 ?_
    refine w_min rfl rfl ?_
    refine n_iastore rfl (by decide) (wz_L hz 67 16 rfl (by decide)) o1 (fun I5 eI5 => ?_)
    replace H := H I5 eI5
    refine w_iinc rfl rfl rfl o3 ?_
    refine w_goto rfl ?_
    exact H
set_option maxHeartbeats 4000000 in
set_option maxRecDepth 100000 in
theorem wr_Bases_fillSizes {d : Nat} {Q : cm_Q} {z : cm_Z} {I : cm_I} (hz : wz z)   (H : (mU d m_Arr_fill [vR 20 67, vI 0] z I fun I1 => cw d cd_Bases_fillSizes Q 10 [some (vR 0 66), some (vI 0), none, none, none, none, none, none, none, none] [] (I1, z))) : cm_call (d + 1) m_Bases_fillSizes [vR 0 66] (I, z) Q := by
  refine cm_call_in (C := cd_Bases_fillSizes) (ls := [some (vR 0 66), none, none, none, none, none, none, none, none, none]) rfl rfl (show 0 < 66 by decide) rfl ?_
  refine w_aload rfl rfl ?_
  refine n_getR 4 20 rfl rfl rfl rfl (by decide) (wz_R hz 66 4 67 rfl (by decide)) ?_
  refine w_iconst rfl ⟨by decide, by decide⟩ ?_
  refine m_callU rfl (fun _ => rfl) rfl (mU_mono H fun I1 H => ?_)
  refine w_iconst rfl ⟨by decide, by decide⟩ ?_
  refine w_istore rfl rfl ?_
  exact H
set_option maxHeartbeats 4000000 in
set_option maxRecDepth 100000 in
theorem wr_Bases_grade {d : Nat} {Q : cm_Q} {z : cm_Z} {I : cm_I} (hz : wz z) {x1 : Int}  (H : ((0:Int) ≤ x1 ∧ x1 < 16) ∧ ((¬ (I (73 + 7 * Int.toNat x1) 1) = 0 → Q (some (vR 2 (73 + 7 * Int.toNat x1))) (I, z)) ∧ ((I (73 + 7 * Int.toNat x1) 1) = 0 → (zcU d m_Bases_build [vR 0 66, vR 2 (73 + 7 * Int.toNat x1)] z I fun I2 Z3 => Q (some (vR 2 (73 + 7 * Int.toNat x1))) (I2, Z3))))) : cm_call (d + 1) m_Bases_grade [vR 0 66, vI x1] (I, z) Q := by
  refine cm_call_in (C := cd_Bases_grade) (ls := [some (vR 0 66), some (vI x1), none]) rfl rfl (show 0 < 66 by decide) rfl ?_
  refine w_aload rfl rfl ?_
  refine n_getR 5 24 rfl rfl rfl rfl (by decide) (wz_R hz 66 5 68 rfl (by decide)) ?_
  refine w_iload rfl rfl ?_
  have o1 := H.1
  replace H := H.2
  refine n_aaload rfl rfl rfl (by decide) (wz_L hz 68 16 rfl (by decide)) o1 (wz_grades hz o1) ?_
  refine w_astore rfl rfl ?_
  refine w_aload rfl rfl ?_
  refine m_getI 1 rfl rfl rfl (by omega) ?_
  refine w_if rfl (And.intro (fun hc => ?_) (fun hc => ?_))
  · replace H := H.1 hc
    refine w_aload rfl rfl ?_
    exact w_areturn rfl (by omega) H
  · replace H := H.2 hc
    refine w_aload rfl rfl ?_
    refine w_aload rfl rfl ?_
    refine n_callU rfl (fun _ => rfl) rfl (zcU_mono H fun I2 Z3 H => ?_)
    refine w_aload rfl rfl ?_
    exact w_areturn rfl (by omega) H
set_option maxHeartbeats 4000000 in
set_option maxRecDepth 100000 in
theorem wr_Bases_build_49 {d : Nat} {Q : cm_Q} {z : cm_Z} {I : cm_I} (hz : wz z) {a1 : Nat} {x2 : Int} {x3 : Int} {z4 : Option cm_V} {z5 : Option cm_V} {s0 : Int} {s1 : Int}  (H : (zcU d m_Echelon_begin [vR 1 63, vI s1, vI s0] z I fun I1 Z2 => (wz Z2 ∧ (zcU d m_Piece_put [vR 5 71, vR 20 69, vI 0, vI x2] Z2 I1 fun I4 Z5 => cw d cd_Bases_build Q 68 [some (vR 0 66), some (vR 2 a1), some (vI x2), some (vI x3), some (vI 0), z5] [] (I4, Z5))))) : cw d cd_Bases_build Q 49 [some (vR 0 66), some (vR 2 a1), some (vI x2), some (vI x3), z4, z5] [vI s0, vI s1, vR 1 63] (I, z) := by
  refine n_callU rfl (fun _ => rfl) rfl (zcU_mono H fun I1 Z2 H => ?_)
  refine w_aload rfl rfl ?_
  have o3 := H.1
  replace H := H.2
  refine n_getR 8 5 rfl rfl rfl rfl (by decide) (wz_R o3 66 8 71 rfl (by decide)) ?_
  refine w_aload rfl rfl ?_
  refine n_getR 6 20 rfl rfl rfl rfl (by decide) (wz_R o3 66 6 69 rfl (by decide)) ?_
  refine w_iconst rfl ⟨by decide, by decide⟩ ?_
  refine w_iload rfl rfl ?_
  refine n_callU rfl (fun _ => rfl) rfl (zcU_mono H fun I4 Z5 H => ?_)
  refine w_iconst rfl ⟨by decide, by decide⟩ ?_
  refine w_istore rfl rfl ?_
  exact H
set_option maxHeartbeats 4000000 in
set_option maxRecDepth 100000 in
theorem wr_Bases_build_68 {d : Nat} {Q : cm_Q} {z : cm_Z} {I : cm_I} (hz : wz z) {a1 : Nat} {z2 : Option cm_V} {x3 : Int} {x4 : Int} {z5 : Option cm_V} (p_a1 : 0 < a1) (H : ((x3 ≤ x4 → cw d cd_Bases_build Q 175 [some (vR 0 66), some (vR 2 a1), z2, some (vI x3), some (vI x4), z5] [] (I, z)) ∧ (x4 < x3 → (((I a1 3) ≤ (I 63 1) → cw d cd_Bases_build Q 175 [some (vR 0 66), some (vR 2 a1), z2, some (vI x3), some (vI x4), z5] [] (I, z)) ∧ ((I 63 1) < (I a1 3) → (mU d m_Arr_fill [vR 20 70, vI 0] z I fun I1 => ((0:Int) ≤ x4 ∧ x4 < 136) ∧ (∀ I3 : cm_I, I3 = iu I1 69 x4 1 → cw d cd_Bases_build Q 107 [some (vR 0 66), some (vR 2 a1), z2, some (vI x3), some (vI x4), some (vI 0)] [] (I3, z)))))))) : cw d cd_Bases_build Q 68 [some (vR 0 66), some (vR 2 a1), z2, some (vI x3), some (vI x4), z5] [] (I, z) := by
  refine w_iload rfl rfl ?_
  refine w_iload rfl rfl ?_
  refine w_icmp rfl (And.intro (fun hc => ?_) (fun hc => ?_))
  · replace H := H.1 hc
    exact H
  · replace H := H.2 hc
    refine w_aload rfl rfl ?_
    refine n_getR 1 1 rfl rfl rfl rfl (by decide) (wz_R hz 66 1 63 rfl (by decide)) ?_
    refine m_getI 1 rfl rfl rfl (by decide) ?_
    refine w_aload rfl rfl ?_
    refine m_getI 3 rfl rfl rfl p_a1 ?_
    refine w_icmp rfl (And.intro (fun hc => ?_) (fun hc => ?_))
    · replace H := H.1 hc
      exact H
    · replace H := H.2 hc
      refine w_aload rfl rfl ?_
      refine n_getR 7 20 rfl rfl rfl rfl (by decide) (wz_R hz 66 7 70 rfl (by decide)) ?_
      refine w_iconst rfl ⟨by decide, by decide⟩ ?_
      refine m_callU rfl (fun _ => rfl) rfl (mU_mono H fun I1 H => ?_)
      refine w_aload rfl rfl ?_
      refine n_getR 6 20 rfl rfl rfl rfl (by decide) (wz_R hz 66 6 69 rfl (by decide)) ?_
      refine w_iload rfl rfl ?_
      refine w_iconst rfl ⟨by decide, by decide⟩ ?_
      have o2 := H.1
      replace H := H.2
      refine n_iastore rfl (by decide) (wz_L hz 69 136 rfl (by decide)) o2 (fun I3 eI3 => ?_)
      replace H := H I3 eI3
      refine w_iconst rfl ⟨by decide, by decide⟩ ?_
      refine w_istore rfl rfl ?_
      exact H
set_option maxHeartbeats 4000000 in
set_option maxRecDepth 100000 in
theorem wr_Bases_build_107 {d : Nat} {Q : cm_Q} {z : cm_Z} {I : cm_I} (hz : wz z) {a1 : Nat} {z2 : Option cm_V} {x3 : Int} {x4 : Int} {x5 : Int} {mb : Nat} (y_66_3 : z.1 66 3 = mb) (p_mb : isMb mb) (H : (((I mb 2) ≤ x5 → ((0:Int) ≤ x4 ∧ x4 < 136) ∧ (∀ I2 : cm_I, I2 = iu I 69 x4 0 → (mU d m_Echelon_insert [vR 1 63, vR 20 70] z I2 fun I3 => (cm_i (x4 + 1) ∧ cw d cd_Bases_build Q 68 [some (vR 0 66), some (vR 2 a1), z2, some (vI x3), some (vI (x4 + 1)), some (vI x5)] [] (I3, z))))) ∧ (x5 < (I mb 2) → (mU d m_Mover_use [vR 4 53, vI x5] z I fun I5 => (mU d m_Mover_addMoved [vR 4 53, vR 5 71, vR 20 70, vI 0] z I5 fun I6 => (cm_i (x5 + 1) ∧ cw d cd_Bases_build Q 107 [some (vR 0 66), some (vR 2 a1), z2, some (vI x3), some (vI x4), some (vI (x5 + 1))] [] (I6, z))))))) : cw d cd_Bases_build Q 107 [some (vR 0 66), some (vR 2 a1), z2, some (vI x3), some (vI x4), some (vI x5)] [] (I, z) := by
  refine w_iload rfl rfl ?_
  refine w_aload rfl rfl ?_
  refine n_getR 3 3 rfl rfl rfl rfl (by decide) y_66_3 ?_
  refine m_getI 2 rfl rfl rfl (isMb_pos p_mb) ?_
  refine w_icmp rfl (And.intro (fun hc => ?_) (fun hc => ?_))
  · replace H := H.1 hc
    refine w_aload rfl rfl ?_
    refine n_getR 6 20 rfl rfl rfl rfl (by decide) (wz_R hz 66 6 69 rfl (by decide)) ?_
    refine w_iload rfl rfl ?_
    refine w_iconst rfl ⟨by decide, by decide⟩ ?_
    have o1 := H.1
    replace H := H.2
    refine n_iastore rfl (by decide) (wz_L hz 69 136 rfl (by decide)) o1 (fun I2 eI2 => ?_)
    replace H := H I2 eI2
    refine w_aload rfl rfl ?_
    refine n_getR 1 1 rfl rfl rfl rfl (by decide) (wz_R hz 66 1 63 rfl (by decide)) ?_
    refine w_aload rfl rfl ?_
    refine n_getR 7 20 rfl rfl rfl rfl (by decide) (wz_R hz 66 7 70 rfl (by decide)) ?_
    refine m_callU rfl (fun _ => rfl) rfl (mU_mono H fun I3 H => ?_)
    have o4 := H.1
    replace H := H.2
    refine w_iinc rfl rfl rfl o4 ?_
    refine w_goto rfl ?_
    exact H
  · replace H := H.2 hc
    refine w_aload rfl rfl ?_
    refine n_getR 0 4 rfl rfl rfl rfl (by decide) (wz_R hz 66 0 53 rfl (by decide)) ?_
    refine w_iload rfl rfl ?_
    refine m_callU rfl (fun _ => rfl) rfl (mU_mono H fun I5 H => ?_)
    refine w_aload rfl rfl ?_
    refine n_getR 0 4 rfl rfl rfl rfl (by decide) (wz_R hz 66 0 53 rfl (by decide)) ?_
    refine w_aload rfl rfl ?_
    refine n_getR 8 5 rfl rfl rfl rfl (by decide) (wz_R hz 66 8 71 rfl (by decide)) ?_
    refine w_aload rfl rfl ?_
    refine n_getR 7 20 rfl rfl rfl rfl (by decide) (wz_R hz 66 7 70 rfl (by decide)) ?_
    refine w_iconst rfl ⟨by decide, by decide⟩ ?_
    refine m_callU rfl (fun _ => rfl) rfl (mU_mono H fun I6 H => ?_)
    have o7 := H.1
    replace H := H.2
    refine w_iinc rfl rfl rfl o7 ?_
    refine w_goto rfl ?_
    exact H
set_option maxHeartbeats 4000000 in
set_option maxRecDepth 100000 in
theorem wr_Bases_build_175 {d : Nat} {Q : cm_Q} {z : cm_Z} {I : cm_I} (hz : wz z) {a1 : Nat} {z2 : Option cm_V} {z3 : Option cm_V} {z4 : Option cm_V} {z5 : Option cm_V} (p_a1 : 0 < a1) (H : (mU d m_Echelon_finish [vR 1 63] z I fun I1 => (mU d m_Grade_takeBase [vR 2 a1, vR 1 63] z I1 fun I2 => (∀ I3 : cm_I, I3 = iu I2 a1 1 1 → Q none (I3, z))))) : cw d cd_Bases_build Q 175 [some (vR 0 66), some (vR 2 a1), z2, z3, z4, z5] [] (I, z) := by
  refine w_aload rfl rfl ?_
  refine n_getR 1 1 rfl rfl rfl rfl (by decide) (wz_R hz 66 1 63 rfl (by decide)) ?_
  refine m_callU rfl (fun _ => rfl) rfl (mU_mono H fun I1 H => ?_)
  refine w_aload rfl rfl ?_
  refine w_aload rfl rfl ?_
  refine n_getR 1 1 rfl rfl rfl rfl (by decide) (wz_R hz 66 1 63 rfl (by decide)) ?_
  refine m_callU rfl (fun _ => rfl) rfl (mU_mono H fun I2 H => ?_)
  refine w_aload rfl rfl ?_
  refine w_iconst rfl ⟨by decide, by decide⟩ ?_
  refine m_putZ 1 rfl rfl rfl (by decide) p_a1 (fun I3 eI3 => ?_)
  replace H := H I3 eI3
  exact w_return rfl H
set_option maxHeartbeats 4000000 in
set_option maxRecDepth 100000 in
theorem wr_Bases_build {d : Nat} {Q : cm_Q} {z : cm_Z} {I : cm_I} (hz : wz z) {a1 : Nat} {sh : Nat} (p_a1 : 0 < a1) (y_66_2 : z.1 66 2 = sh) (p_sh : isSh sh) (H : (cm_i ((I a1 0) + 1) ∧ ((0:Int) ≤ ((I a1 0) + 1) ∧ ((I a1 0) + 1) < 19) ∧ ((0:Int) ≤ (I a1 0) ∧ (I a1 0) < 16) ∧ (zcU d m_Grade_beginBase [vR 2 a1, vI (I (sh + 1) ((I a1 0) + 1)), vI (I 67 (I a1 0))] z I fun I4 Z5 => (wz Z5 ∧ (Z5.1 66 2 = sh ∧ ((¬ (I4 sh 0) = 2 → cw d cd_Bases_build Q 49 [some (vR 0 66), some (vR 2 a1), some (vI (I a1 0)), some (vI (I (sh + 1) ((I a1 0) + 1))), none, none] [vI 0, vI (I (sh + 1) ((I a1 0) + 1)), vR 1 63] (I4, Z5)) ∧ ((I4 sh 0) = 2 → cw d cd_Bases_build Q 49 [some (vR 0 66), some (vR 2 a1), some (vI (I a1 0)), some (vI (I (sh + 1) ((I a1 0) + 1))), none, none] [vI 1, vI (I (sh + 1) ((I a1 0) + 1)), vR 1 63] (I4, Z5)))))))) : cm_call (d + 1) m_Bases_build [vR 0 66, vR 2 a1] (I, z) Q := by
  refine cm_call_in (C := cd_Bases_build) (ls := [some (vR 0 66), some (vR 2 a1), none, none, none, none]) rfl rfl (show 0 < 66 by decide) rfl ?_
  refine w_aload rfl rfl ?_
  refine m_getI 0 rfl rfl rfl p_a1 ?_
  refine w_istore rfl rfl ?_
  refine w_aload rfl rfl ?_
  refine n_getR 2 9 rfl rfl rfl rfl (by decide) y_66_2 ?_
  refine n_getR 2 20 rfl rfl rfl rfl (isSh_pos p_sh) (wz_sh2 hz p_sh) ?_
  refine w_iload rfl rfl ?_
  refine w_iconst rfl ⟨by decide, by decide⟩ ?_
  have o1 := H.1
  replace H := H.2
  refine w_iadd rfl o1 ?_
  have o2 := H.1
  replace H := H.2
  refine n_iaload rfl (Nat.add_pos_right _ (by decide)) (wz_shL1 hz p_sh) o2 ?_
  refine w_istore rfl rfl ?_
  refine w_aload rfl rfl ?_
  refine w_iload rfl rfl ?_
  refine w_aload rfl rfl ?_
  refine n_getR 4 20 rfl rfl rfl rfl (by decide) (wz_R hz 66 4 67 rfl (by decide)) ?_
  refine w_iload rfl rfl ?_
  have o3 := H.1
  replace H := H.2
  refine n_iaload rfl (by decide) (wz_L hz 67 16 rfl (by decide)) o3 ?_
  refine n_callU rfl (fun _ => rfl) rfl (zcU_mono H fun I4 Z5 H => ?_)
  refine w_aload rfl rfl ?_
  have o6 := H.1
  replace H := H.2
  refine n_getR 1 1 rfl rfl rfl rfl (by decide) (wz_R o6 66 1 63 rfl (by decide)) ?_
  refine w_iload rfl rfl ?_
  refine w_aload rfl rfl ?_
  have o7 := H.1
  replace H := H.2
  refine n_getR 2 9 rfl rfl rfl rfl (by decide) o7 ?_
  refine m_getI 0 rfl rfl rfl (isSh_pos p_sh) ?_
  refine w_iconst rfl ⟨by decide, by decide⟩ ?_
  refine w_icmp rfl (And.intro (fun hc => ?_) (fun hc => ?_))
  · replace H := H.1 hc
    refine w_iconst rfl ⟨by decide, by decide⟩ ?_
    exact H
  · replace H := H.2 hc
    refine w_iconst rfl ⟨by decide, by decide⟩ ?_
    refine w_goto rfl ?_
    exact H
set_option maxHeartbeats 4000000 in
set_option maxRecDepth 100000 in
theorem wr_Grade_beginBase {d : Nat} {Q : cm_Q} {z : cm_Z} {I : cm_I} (hz : wz z) {a0 : Nat} {x1 : Int} {x2 : Int} {q_a0_4 : Nat} (p_a0 : 0 < a0) (y_a0_4 : z.1 a0 4 = q_a0_4) (H : (∀ I1 : cm_I, I1 = iu I a0 2 x1 → (∀ I2 : cm_I, I2 = iu I1 a0 3 x2 → (cm_i ((I2 a0 2) * (I2 a0 3)) ∧ (cm_i ((I2 a0 2) * (I2 a0 2)) ∧ (zcA d m_Works_withRoom [vR 20 q_a0_4, vI ((I2 a0 2) * (I2 a0 3)), vI ((I2 a0 2) * (I2 a0 2))] z I2 20 fun v7 I5 Z6 => (∀ Z8 : cm_Z, Z8 = zr Z6 a0 4 v7 → (zcA d m_Works_withRoom [vR 20 (Z8.1 a0 5), vI (I5 a0 3), vI (I5 a0 2)] Z8 I5 20 fun v11 I9 Z10 => (∀ Z12 : cm_Z, Z12 = zr Z10 a0 5 v11 → Q none (I9, Z12)))))))))) : cm_call (d + 1) m_Grade_beginBase [vR 2 a0, vI x1, vI x2] (I, z) Q := by
  refine cm_call_in (C := cd_Grade_beginBase) (ls := [some (vR 2 a0), some (vI x1), some (vI x2)]) rfl rfl p_a0 rfl ?_
  refine w_aload rfl rfl ?_
  refine w_iload rfl rfl ?_
  refine m_putI 2 rfl rfl rfl p_a0 (fun I1 eI1 => ?_)
  replace H := H I1 eI1
  refine w_aload rfl rfl ?_
  refine w_iload rfl rfl ?_
  refine m_putI 3 rfl rfl rfl p_a0 (fun I2 eI2 => ?_)
  replace H := H I2 eI2
  refine w_aload rfl rfl ?_
  refine w_aload rfl rfl ?_
  refine n_getR 4 20 rfl rfl rfl rfl p_a0 y_a0_4 ?_
  refine w_aload rfl rfl ?_
  refine m_getI 2 rfl rfl rfl p_a0 ?_
  refine w_aload rfl rfl ?_
  refine m_getI 3 rfl rfl rfl p_a0 ?_
  have o3 := H.1
  replace H := H.2
  refine w_imul rfl o3 ?_
  refine w_aload rfl rfl ?_
  refine m_getI 2 rfl rfl rfl p_a0 ?_
  refine w_aload rfl rfl ?_
  refine m_getI 2 rfl rfl rfl p_a0 ?_
  have o4 := H.1
  replace H := H.2
  refine w_imul rfl o4 ?_
  refine n_callA rfl (fun _ => rfl) rfl (zcA_mono H fun v7 I5 Z6 H => ?_)
  refine n_putR 4 rfl rfl rfl rfl p_a0 (fun Z8 eZ8 => ?_)
  replace H := H Z8 eZ8
  refine w_aload rfl rfl ?_
  refine w_aload rfl rfl ?_
  refine n_getR 5 20 rfl rfl rfl rfl p_a0 rfl ?_
  refine w_aload rfl rfl ?_
  refine m_getI 3 rfl rfl rfl p_a0 ?_
  refine w_aload rfl rfl ?_
  refine m_getI 2 rfl rfl rfl p_a0 ?_
  refine n_callA rfl (fun _ => rfl) rfl (zcA_mono H fun v11 I9 Z10 H => ?_)
  refine n_putR 5 rfl rfl rfl rfl p_a0 (fun Z12 eZ12 => ?_)
  replace H := H Z12 eZ12
  exact w_return rfl H
set_option maxHeartbeats 4000000 in
set_option maxRecDepth 100000 in
theorem wr_Grade_takeBase_4 {d : Nat} {Q : cm_Q} {z : cm_Z} {I : cm_I} (hz : wz z) {a0 : Nat} {x2 : Int} {x3 : Int} {z4 : Option cm_V} {q_63_2 : Nat} {q_a0_4 : Nat} {q_a0_5 : Nat} (p_a0 : 0 < a0) (y_63_2 : z.1 63 2 = q_63_2) (y_a0_4 : z.1 a0 4 = q_a0_4) (p_q_63_2 : 0 < q_63_2) (p_q_a0_4 : 0 < q_a0_4) (y_a0_5 : z.1 a0 5 = q_a0_5) (p_q_a0_5 : 0 < q_a0_5) (H : (((I a0 2) ≤ x3 → Q none (I, z)) ∧ (x3 < (I a0 2) → (((I a0 3) ≤ x2 → Q none (I, z)) ∧ (x2 < (I a0 3) → ((0:Int) ≤ x3 ∧ x3 < 153) ∧ (((I 65 x3) < 0 → (cm_i (x3 + 1) ∧ cw d cd_Grade_takeBase Q 4 [some (vR 2 a0), some (vR 1 63), some (vI x2), some (vI (x3 + 1)), z4] [] (I, z))) ∧ (0 ≤ (I 65 x3) → (cm_i ((I a0 2) * (I 65 x3)) ∧ (cm_i ((I a0 2) * x2) ∧ ((0:Int) ≤ ((I a0 2) * (I 65 x3)) ∧ (0:Int) ≤ ((I a0 2) * x2) ∧ (0:Int) ≤ (I a0 2) ∧ (((I a0 2) * (I 65 x3)) : Int) + (I a0 2) ≤ z.2.1 q_63_2 ∧ (((I a0 2) * x2) : Int) + (I a0 2) ≤ z.2.1 q_a0_4) ∧ (∀ I6 : cm_I, I6 = iw I q_a0_4 (cpyF (I q_63_2) ((I a0 2) * (I 65 x3)) (I q_a0_4) ((I a0 2) * x2) (I a0 2)) → ((0:Int) ≤ x2 ∧ x2 < z.2.1 q_a0_5) ∧ (∀ I8 : cm_I, I8 = iu I6 q_a0_5 x2 x3 → (cm_i (x2 + 1) ∧ (cm_i (x3 + 1) ∧ cw d cd_Grade_takeBase Q 4 [some (vR 2 a0), some (vR 1 63), some (vI (x2 + 1)), some (vI (x3 + 1)), some (vI ((I a0 2) * (I 65 x3)))] [] (I8, z)))))))))))))) : cw d cd_Grade_takeBase Q 4 [some (vR 2 a0), some (vR 1 63), some (vI x2), some (vI x3), z4] [] (I, z) := by
  refine w_iload rfl rfl ?_
  refine w_aload rfl rfl ?_
  refine m_getI 2 rfl rfl rfl p_a0 ?_
  refine w_icmp rfl (And.intro (fun hc => ?_) (fun hc => ?_))
  · replace H := H.1 hc
    exact w_return rfl H
  · replace H := H.2 hc
    refine w_iload rfl rfl ?_
    refine w_aload rfl rfl ?_
    refine m_getI 3 rfl rfl rfl p_a0 ?_
    refine w_icmp rfl (And.intro (fun hc => ?_) (fun hc => ?_))
    · replace H := H.1 hc
      exact w_return rfl H
    · replace H := H.2 hc
      refine w_aload rfl rfl ?_
      refine n_getR 3 20 rfl rfl rfl rfl (by decide) (wz_R hz 63 3 65 rfl (by decide)) ?_
      refine w_iload rfl rfl ?_
      have o1 := H.1
      replace H := H.2
      refine n_iaload rfl (by decide) (wz_L hz 65 153 rfl (by decide)) o1 ?_
      refine w_if rfl (And.intro (fun hc => ?_) (fun hc => ?_))
      · replace H := H.1 hc
        have o2 := H.1
        replace H := H.2
        refine w_iinc rfl rfl rfl o2 ?_
        refine w_goto rfl ?_
        exact H
      · replace H := H.2 hc
        refine w_aload rfl rfl ?_
        refine m_getI 2 rfl rfl rfl p_a0 ?_
        refine w_aload rfl rfl ?_
        refine n_getR 3 20 rfl rfl rfl rfl (by decide) (wz_R hz 63 3 65 rfl (by decide)) ?_
        refine w_iload rfl rfl ?_
        refine n_iaload rfl (by decide) (wz_L hz 65 153 rfl (by decide)) o1 ?_
        have o3 := H.1
        replace H := H.2
        refine w_imul rfl o3 ?_
        refine w_istore rfl rfl ?_
        refine w_aload rfl rfl ?_
        refine n_getR 2 20 rfl rfl rfl rfl (by decide) y_63_2 ?_
        refine w_iload rfl rfl ?_
        refine w_aload rfl rfl ?_
        refine n_getR 4 20 rfl rfl rfl rfl p_a0 y_a0_4 ?_
        refine w_aload rfl rfl ?_
        refine m_getI 2 rfl rfl rfl p_a0 ?_
        refine w_iload rfl rfl ?_
        have o4 := H.1
        replace H := H.2
        refine w_imul rfl o4 ?_
        refine w_aload rfl rfl ?_
        refine m_getI 2 rfl rfl rfl p_a0 ?_
        have o5 := H.1
        replace H := H.2
        refine n_copy rfl rfl p_q_63_2 p_q_a0_4 rfl rfl o5 (fun I6 eI6 => ?_)
        replace H := H I6 eI6
        refine w_aload rfl rfl ?_
        refine n_getR 5 20 rfl rfl rfl rfl p_a0 y_a0_5 ?_
        refine w_iload rfl rfl ?_
        refine w_iload rfl rfl ?_
        have o7 := H.1
        replace H := H.2
        refine n_iastore rfl p_q_a0_5 rfl o7 (fun I8 eI8 => ?_)
        replace H := H I8 eI8
        have o9 := H.1
        replace H := H.2
        refine w_iinc rfl rfl rfl o9 ?_
        have o10 := H.1
        replace H := H.2
        refine w_iinc rfl rfl rfl o10 ?_
        refine w_goto rfl ?_
        exact H
set_option maxHeartbeats 4000000 in
set_option maxRecDepth 100000 in
theorem wr_Grade_takeBase {d : Nat} {Q : cm_Q} {z : cm_Z} {I : cm_I} (hz : wz z) {a0 : Nat} (p_a0 : 0 < a0) (H : cw d cd_Grade_takeBase Q 4 [some (vR 2 a0), some (vR 1 63), some (vI 0), some (vI 0), none] [] (I, z)) : cm_call (d + 1) m_Grade_takeBase [vR 2 a0, vR 1 63] (I, z) Q := by
  refine cm_call_in (C := cd_Grade_takeBase) (ls := [some (vR 2 a0), some (vR 1 63), none, none, none]) rfl rfl p_a0 rfl ?_
  refine w_iconst rfl ⟨by decide, by decide⟩ ?_
  refine w_istore rfl rfl ?_
  refine w_iconst rfl ⟨by decide, by decide⟩ ?_
  refine w_istore rfl rfl ?_
  exact H
set_option maxHeartbeats 4000000 in
set_option maxRecDepth 100000 in
theorem wr_Grade_beginProducts_107 {d : Nat} {Q : cm_Q} {z : cm_Z} {I : cm_I} (hz : wz z) {a0 : Nat} {x1 : Int} {q_a0_10 : Nat} (p_a0 : 0 < a0) (y_a0_10 : z.1 a0 10 = q_a0_10) (p_q_a0_10 : 0 < q_a0_10) (H : (((I a0 3) ≤ x1 → Q none (I, z)) ∧ (x1 < (I a0 3) → ((0:Int) ≤ x1 ∧ x1 < z.2.1 q_a0_10) ∧ (∀ I2 : cm_I, I2 = iu I q_a0_10 x1 x1 → (cm_i (x1 + 1) ∧ cw d cd_Grade_beginProducts Q 107 [some (vR 2 a0), some (vI (x1 + 1))] [] (I2, z)))))) : cw d cd_Grade_beginProducts Q 107 [some (vR 2 a0), some (vI x1)] [] (I, z) := by
  refine w_iload rfl rfl ?_
  refine w_aload rfl rfl ?_
  refine m_getI 3 rfl rfl rfl p_a0 ?_
  refine w_icmp rfl (And.intro (fun hc => ?_) (fun hc => ?_))
  · replace H := H.1 hc
    exact w_return rfl H
  · replace H := H.2 hc
    refine w_aload rfl rfl ?_
    refine n_getR 10 20 rfl rfl rfl rfl p_a0 y_a0_10 ?_
    refine w_iload rfl rfl ?_
    refine w_iload rfl rfl ?_
    have o1 := H.1
    replace H := H.2
    refine n_iastore rfl p_q_a0_10 rfl o1 (fun I2 eI2 => ?_)
    replace H := H I2 eI2
    have o3 := H.1
    replace H := H.2
    refine w_iinc rfl rfl rfl o3 ?_
    refine w_goto rfl ?_
    exact H
set_option maxHeartbeats 4000000 in
set_option maxRecDepth 100000 in
theorem wr_Grade_beginProducts {d : Nat} {Q : cm_Q} {z : cm_Z} {I : cm_I} (hz : wz z) {a0 : Nat} {q_a0_7 : Nat} (p_a0 : 0 < a0) (y_a0_7 : z.1 a0 7 = q_a0_7) (H : (∀ I1 : cm_I, I1 = iu I a0 6 0 → (cm_i ((I1 a0 2) * (I1 a0 3)) ∧ (cm_i ((I1 a0 2) * (I1 a0 2)) ∧ (zcA d m_Works_withRoom [vR 20 q_a0_7, vI ((I1 a0 2) * (I1 a0 3)), vI ((I1 a0 2) * (I1 a0 2))] z I1 20 fun v6 I4 Z5 => (∀ Z7 : cm_Z, Z7 = zr Z5 a0 7 v6 → (cm_i (4 * (I4 a0 3)) ∧ (cm_i (4 * (I4 a0 2)) ∧ (zcA d m_Works_withRoom [vR 20 (Z7.1 a0 8), vI (4 * (I4 a0 3)), vI (4 * (I4 a0 2))] Z7 I4 20 fun v12 I10 Z11 => (∀ Z13 : cm_Z, Z13 = zr Z11 a0 8 v12 → (cm_i ((I10 a0 3) * (I10 a0 3)) ∧ (cm_i ((I10 a0 2) * (I10 a0 2)) ∧ (zcA d m_Works_withRoom [vR 20 (Z13.1 a0 9), vI ((I10 a0 3) * (I10 a0 3)), vI ((I10 a0 2) * (I10 a0 2))] Z13 I10 20 fun v18 I16 Z17 => (∀ Z19 : cm_Z, Z19 = zr Z17 a0 9 v18 → (zcA d m_Works_withRoom [vR 20 (Z19.1 a0 10), vI (I16 a0 3), vI (I16 a0 2)] Z19 I16 20 fun v22 I20 Z21 => (∀ Z23 : cm_Z, Z23 = zr Z21 a0 10 v22 → cw d cd_Grade_beginProducts Q 107 [some (vR 2 a0), some (vI 0)] [] (I20, Z23))))))))))))))))) : cm_call (d + 1) m_Grade_beginProducts [vR 2 a0] (I, z) Q := by
  refine cm_call_in (C := cd_Grade_beginProducts) (ls := [some (vR 2 a0), none]) rfl rfl p_a0 rfl ?_
  refine w_aload rfl rfl ?_
  refine w_iconst rfl ⟨by decide, by decide⟩ ?_
  refine m_putI 6 rfl rfl rfl p_a0 (fun I1 eI1 => ?_)
  replace H := H I1 eI1
  refine w_aload rfl rfl ?_
  refine w_aload rfl rfl ?_
  refine n_getR 7 20 rfl rfl rfl rfl p_a0 y_a0_7 ?_
  refine w_aload rfl rfl ?_
  refine m_getI 2 rfl rfl rfl p_a0 ?_
  refine w_aload rfl rfl ?_
  refine m_getI 3 rfl rfl rfl p_a0 ?_
  have o2 := H.1
  replace H := H.2
  refine w_imul rfl o2 ?_
  refine w_aload rfl rfl ?_
  refine m_getI 2 rfl rfl rfl p_a0 ?_
  refine w_aload rfl rfl ?_
  refine m_getI 2 rfl rfl rfl p_a0 ?_
  have o3 := H.1
  replace H := H.2
  refine w_imul rfl o3 ?_
  refine n_callA rfl (fun _ => rfl) rfl (zcA_mono H fun v6 I4 Z5 H => ?_)
  refine n_putR 7 rfl rfl rfl rfl p_a0 (fun Z7 eZ7 => ?_)
  replace H := H Z7 eZ7
  refine w_aload rfl rfl ?_
  refine w_aload rfl rfl ?_
  refine n_getR 8 20 rfl rfl rfl rfl p_a0 rfl ?_
  refine w_iconst rfl ⟨by decide, by decide⟩ ?_
  refine w_aload rfl rfl ?_
  refine m_getI 3 rfl rfl rfl p_a0 ?_
  have o8 := H.1
  replace H := H.2
  refine w_imul rfl o8 ?_
  refine w_iconst rfl ⟨by decide, by decide⟩ ?_
  refine w_aload rfl rfl ?_
  refine m_getI 2 rfl rfl rfl p_a0 ?_
  have o9 := H.1
  replace H := H.2
  refine w_imul rfl o9 ?_
  refine n_callA rfl (fun _ => rfl) rfl (zcA_mono H fun v12 I10 Z11 H => ?_)
  refine n_putR 8 rfl rfl rfl rfl p_a0 (fun Z13 eZ13 => ?_)
  replace H := H Z13 eZ13
  refine w_aload rfl rfl ?_
  refine w_aload rfl rfl ?_
  refine n_getR 9 20 rfl rfl rfl rfl p_a0 rfl ?_
  refine w_aload rfl rfl ?_
  refine m_getI 3 rfl rfl rfl p_a0 ?_
  refine w_aload rfl rfl ?_
  refine m_getI 3 rfl rfl rfl p_a0 ?_
  have o14 := H.1
  replace H := H.2
  refine w_imul rfl o14 ?_
  refine w_aload rfl rfl ?_
  refine m_getI 2 rfl rfl rfl p_a0 ?_
  refine w_aload rfl rfl ?_
  refine m_getI 2 rfl rfl rfl p_a0 ?_
  have o15 := H.1
  replace H := H.2
  refine w_imul rfl o15 ?_
  refine n_callA rfl (fun _ => rfl) rfl (zcA_mono H fun v18 I16 Z17 H => ?_)
  refine n_putR 9 rfl rfl rfl rfl p_a0 (fun Z19 eZ19 => ?_)
  replace H := H Z19 eZ19
  refine w_aload rfl rfl ?_
  refine w_aload rfl rfl ?_
  refine n_getR 10 20 rfl rfl rfl rfl p_a0 rfl ?_
  refine w_aload rfl rfl ?_
  refine m_getI 3 rfl rfl rfl p_a0 ?_
  refine w_aload rfl rfl ?_
  refine m_getI 2 rfl rfl rfl p_a0 ?_
  refine n_callA rfl (fun _ => rfl) rfl (zcA_mono H fun v22 I20 Z21 H => ?_)
  refine n_putR 10 rfl rfl rfl rfl p_a0 (fun Z23 eZ23 => ?_)
  replace H := H Z23 eZ23
  refine w_iconst rfl ⟨by decide, by decide⟩ ?_
  refine w_istore rfl rfl ?_
  exact H
set_option maxHeartbeats 4000000 in
set_option maxRecDepth 100000 in
theorem wr_Grade_takeParts_3 {d : Nat} {Q : cm_Q} {z : cm_Z} {I : cm_I} (hz : wz z) {a0 : Nat} {a1 : Nat} {x2 : Int} {a3 : Nat} {x4 : Int} {q_a0_5 : Nat} {q_a0_10 : Nat} (p_a0 : 0 < a0) (y_a0_5 : z.1 a0 5 = q_a0_5) (y_a0_10 : z.1 a0 10 = q_a0_10) (p_q_a0_10 : 0 < q_a0_10) (p_q_a0_5 : 0 < q_a0_5) (p_a1 : 0 < a1) (p_a3 : 0 < a3) (H : (((I a0 3) ≤ x4 → Q none (I, z)) ∧ (x4 < (I a0 3) → ((0:Int) ≤ x4 ∧ x4 < z.2.1 q_a0_10) ∧ ((0:Int) ≤ (I q_a0_10 x4) ∧ (I q_a0_10 x4) < z.2.1 q_a0_5) ∧ (cm_i (x2 + (I q_a0_5 (I q_a0_10 x4))) ∧ ((0:Int) ≤ (x2 + (I q_a0_5 (I q_a0_10 x4))) ∧ (x2 + (I q_a0_5 (I q_a0_10 x4))) < z.2.1 a1) ∧ ((0:Int) ≤ x4 ∧ x4 < z.2.1 a3) ∧ (∀ I6 : cm_I, I6 = iu I a3 x4 (I a1 (x2 + (I q_a0_5 (I q_a0_10 x4)))) → (cm_i (x4 + 1) ∧ cw d cd_Grade_takeParts Q 3 [some (vR 2 a0), some (vR 20 a1), some (vI x2), some (vR 20 a3), some (vI (x4 + 1))] [] (I6, z))))))) : cw d cd_Grade_takeParts Q 3 [some (vR 2 a0), some (vR 20 a1), some (vI x2), some (vR 20 a3), some (vI x4)] [] (I, z) := by
  refine w_iload rfl rfl ?_
  refine w_aload rfl rfl ?_
  refine m_getI 3 rfl rfl rfl p_a0 ?_
  refine w_icmp rfl (And.intro (fun hc => ?_) (fun hc => ?_))
  · replace H := H.1 hc
    exact w_return rfl H
  · replace H := H.2 hc
    refine w_aload rfl rfl ?_
    refine w_iload rfl rfl ?_
    refine w_aload rfl rfl ?_
    refine w_iload rfl rfl ?_
    refine w_aload rfl rfl ?_
    refine n_getR 5 20 rfl rfl rfl rfl p_a0 y_a0_5 ?_
    refine w_aload rfl rfl ?_
    refine n_getR 10 20 rfl rfl rfl rfl p_a0 y_a0_10 ?_
    refine w_iload rfl rfl ?_
    have o1 := H.1
    replace H := H.2
    refine n_iaload rfl p_q_a0_10 rfl o1 ?_
    have o2 := H.1
    replace H := H.2
    refine n_iaload rfl p_q_a0_5 rfl o2 ?_
    have o3 := H.1
    replace H := H.2
    refine w_iadd rfl o3 ?_
    have o4 := H.1
    replace H := H.2
    refine n_iaload rfl p_a1 rfl o4 ?_
    have o5 := H.1
    replace H := H.2
    refine n_iastore rfl p_a3 rfl o5 (fun I6 eI6 => ?_)
    replace H := H I6 eI6
    have o7 := H.1
    replace H := H.2
    refine w_iinc rfl rfl rfl o7 ?_
    refine w_goto rfl ?_
    exact H
set_option maxHeartbeats 4000000 in
set_option maxRecDepth 100000 in
theorem wr_Grade_takeParts {d : Nat} {Q : cm_Q} {z : cm_Z} {I : cm_I} (hz : wz z) {a0 : Nat} {a1 : Nat} {x2 : Int} {a3 : Nat} (p_a0 : 0 < a0) (H : cw d cd_Grade_takeParts Q 3 [some (vR 2 a0), some (vR 20 a1), some (vI x2), some (vR 20 a3), some (vI 0)] [] (I, z)) : cm_call (d + 1) m_Grade_takeParts [vR 2 a0, vR 20 a1, vI x2, vR 20 a3] (I, z) Q := by
  refine cm_call_in (C := cd_Grade_takeParts) (ls := [some (vR 2 a0), some (vR 20 a1), some (vI x2), some (vR 20 a3), none]) rfl rfl p_a0 rfl ?_
  refine w_iconst rfl ⟨by decide, by decide⟩ ?_
  refine w_istore rfl rfl ?_
  exact H
set_option maxHeartbeats 4000000 in
set_option maxRecDepth 100000 in
theorem wr_Grade_insert_2 {d : Nat} {Q : cm_Q} {z : cm_Z} {I : cm_I} (hz : wz z) {a0 : Nat} {a1 : Nat} {x2 : Int} {z3 : Option cm_V} {z4 : Option cm_V} {z5 : Option cm_V} {z6 : Option cm_V} (p_a0 : 0 < a0) (H : (((I a0 6) ≤ x2 → cw d cd_Grade_insert Q 27 [some (vR 2 a0), some (vR 20 a1), some (vI (I a0 6)), z3, z4, z5, z6] [] (I, z)) ∧ (x2 < (I a0 6) → (mU d m_Grade_clearBehind [vR 2 a0, vR 20 a1, vI x2] z I fun I1 => (cm_i (x2 + 1) ∧ cw d cd_Grade_insert Q 2 [some (vR 2 a0), some (vR 20 a1), some (vI (x2 + 1)), z3, z4, z5, z6] [] (I1, z)))))) : cw d cd_Grade_insert Q 2 [some (vR 2 a0), some (vR 20 a1), some (vI x2), z3, z4, z5, z6] [] (I, z) := by
  refine w_iload rfl rfl ?_
  refine w_aload rfl rfl ?_
  refine m_getI 6 rfl rfl rfl p_a0 ?_
  refine w_icmp rfl (And.intro (fun hc => ?_) (fun hc => ?_))
  · replace H := H.1 hc
    refine w_aload rfl rfl ?_
    refine m_getI 6 rfl rfl rfl p_a0 ?_
    refine w_istore rfl rfl ?_
    exact H
  · replace H := H.2 hc
    refine w_aload rfl rfl ?_
    refine w_aload rfl rfl ?_
    refine w_iload rfl rfl ?_
    refine m_callU rfl (fun _ => rfl) rfl (mU_mono H fun I1 H => ?_)
    have o2 := H.1
    replace H := H.2
    refine w_iinc rfl rfl rfl o2 ?_
    refine w_goto rfl ?_
    exact H
set_option maxHeartbeats 4000000 in
set_option maxRecDepth 100000 in
theorem wr_Grade_insert_27 {d : Nat} {Q : cm_Q} {z : cm_Z} {I : cm_I} (hz : wz z) {a0 : Nat} {a1 : Nat} {x2 : Int} {z3 : Option cm_V} {z4 : Option cm_V} {z5 : Option cm_V} {z6 : Option cm_V} (p_a0 : 0 < a0) (p_a1 : 0 < a1) (H : (((I a0 3) ≤ x2 → cw d cd_Grade_insert Q 51 [some (vR 2 a0), some (vR 20 a1), some (vI x2), z3, z4, z5, z6] [] (I, z)) ∧ (x2 < (I a0 3) → ((0:Int) ≤ x2 ∧ x2 < z.2.1 a1) ∧ ((¬ (Int.tmod (I a1 x2) 2521) = 0 → cw d cd_Grade_insert Q 51 [some (vR 2 a0), some (vR 20 a1), some (vI x2), z3, z4, z5, z6] [] (I, z)) ∧ ((Int.tmod (I a1 x2) 2521) = 0 → (cm_i (x2 + 1) ∧ cw d cd_Grade_insert Q 27 [some (vR 2 a0), some (vR 20 a1), some (vI (x2 + 1)), z3, z4, z5, z6] [] (I, z))))))) : cw d cd_Grade_insert Q 27 [some (vR 2 a0), some (vR 20 a1), some (vI x2), z3, z4, z5, z6] [] (I, z) := by
  refine w_iload rfl rfl ?_
  refine w_aload rfl rfl ?_
  refine m_getI 3 rfl rfl rfl p_a0 ?_
  refine w_icmp rfl (And.intro (fun hc => ?_) (fun hc => ?_))
  · replace H := H.1 hc
    exact H
  · replace H := H.2 hc
    refine w_aload rfl rfl ?_
    refine w_iload rfl rfl ?_
    have o1 := H.1
    replace H := H.2
    refine n_iaload rfl p_a1 rfl o1 ?_
    refine w_iconst rfl ⟨by decide, by decide⟩ ?_
    refine w_irem rfl (by decide) ?_
    refine w_if rfl (And.intro (fun hc => ?_) (fun hc => ?_))
    · replace H := H.1 hc
      exact H
    · replace H := H.2 hc
      have o2 := H.1
      replace H := H.2
      refine w_iinc rfl rfl rfl o2 ?_
      refine w_goto rfl ?_
      exact H
set_option maxHeartbeats 4000000 in
set_option maxRecDepth 100000 in
theorem wr_Grade_insert_51 {d : Nat} {Q : cm_Q} {z : cm_Z} {I : cm_I} (hz : wz z) {a0 : Nat} {a1 : Nat} {x2 : Int} {z3 : Option cm_V} {z4 : Option cm_V} {z5 : Option cm_V} {z6 : Option cm_V} (p_a0 : 0 < a0) (p_a1 : 0 < a1) (H : ((x2 < (I a0 3) → (mU d m_Grade_turn [vR 2 a0, vI (I a0 6), vI x2] z I fun I1 => ((0:Int) ≤ x2 ∧ x2 < z.2.1 a1) ∧ ((0:Int) ≤ (I1 a0 6) ∧ (I1 a0 6) < z.2.1 a1) ∧ (∀ I4 : cm_I, I4 = iu I1 a1 x2 (I1 a1 (I1 a0 6)) → (mI d m_Works_raise [vI (Int.tmod (I1 a1 x2) 2521), vI 2519] z I4 fun v6 I5 => (cm_i ((I5 a0 3) * (I5 a0 6)) ∧ cw d cd_Grade_insert Q 110 [some (vR 2 a0), some (vR 20 a1), some (vI x2), some (vI (Int.tmod (I1 a1 x2) 2521)), some (vI v6), some (vI ((I5 a0 3) * (I5 a0 6))), some (vI 0)] [] (I5, z)))))) ∧ ((I a0 3) ≤ x2 → Q (some (vI 0)) (I, z)))) : cw d cd_Grade_insert Q 51 [some (vR 2 a0), some (vR 20 a1), some (vI x2), z3, z4, z5, z6] [] (I, z) := by
  refine w_iload rfl rfl ?_
  refine w_aload rfl rfl ?_
  refine m_getI 3 rfl rfl rfl p_a0 ?_
  refine w_icmp rfl (And.intro (fun hc => ?_) (fun hc => ?_))
  · replace H := H.1 hc
    refine w_aload rfl rfl ?_
    refine w_aload rfl rfl ?_
    refine m_getI 6 rfl rfl rfl p_a0 ?_
    refine w_iload rfl rfl ?_
    refine m_callU rfl (fun _ => rfl) rfl (mU_mono H fun I1 H => ?_)
    refine w_aload rfl rfl ?_
    refine w_iload rfl rfl ?_
    have o2 := H.1
    replace H := H.2
    refine n_iaload rfl p_a1 rfl o2 ?_
    refine w_iconst rfl ⟨by decide, by decide⟩ ?_
    refine w_irem rfl (by decide) ?_
    refine w_istore rfl rfl ?_
    refine w_aload rfl rfl ?_
    refine w_iload rfl rfl ?_
    refine w_aload rfl rfl ?_
    refine w_aload rfl rfl ?_
    refine m_getI 6 rfl rfl rfl p_a0 ?_
    have o3 := H.1
    replace H := H.2
    refine n_iaload rfl p_a1 rfl o3 ?_
    refine n_iastore rfl p_a1 rfl o2 (fun I4 eI4 => ?_)
    replace H := H I4 eI4
    refine w_iload rfl rfl ?_
    refine w_iconst rfl ⟨by decide, by decide⟩ ?_
    refine m_callI rfl (fun _ => rfl) rfl (mI_mono H fun v6 I5 H => ?_)
    refine w_istore rfl rfl ?_
    refine w_aload rfl rfl ?_
    refine m_getI 3 rfl rfl rfl p_a0 ?_
    refine w_aload rfl rfl ?_
    refine m_getI 6 rfl rfl rfl p_a0 ?_
    have o7 := H.1
    replace H := H.2
    refine w_imul rfl o7 ?_
    refine w_istore rfl rfl ?_
    refine w_iconst rfl ⟨by decide, by decide⟩ ?_
    refine w_istore rfl rfl ?_
    exact H
  · replace H := H.2 hc
    refine w_iconst rfl ⟨by decide, by decide⟩ ?_
    exact w_zreturn rfl (by decide) H
set_option maxHeartbeats 4000000 in
set_option maxRecDepth 100000 in
theorem wr_Grade_insert_110 {d : Nat} {Q : cm_Q} {z : cm_Z} {I : cm_I} (hz : wz z) {a0 : Nat} {a1 : Nat} {z2 : Option cm_V} {x3 : Int} {x4 : Int} {x5 : Int} {x6 : Int} {q_a0_9 : Nat} (p_a0 : 0 < a0) (y_a0_9 : z.1 a0 9 = q_a0_9) (p_q_a0_9 : 0 < q_a0_9) (p_a1 : 0 < a1) (H : (((I a0 6) ≤ x6 → (cm_i (x5 + (I a0 6)) ∧ ((0:Int) ≤ (x5 + (I a0 6)) ∧ (x5 + (I a0 6)) < z.2.1 q_a0_9) ∧ (∀ I3 : cm_I, I3 = iu I q_a0_9 (x5 + (I a0 6)) x3 → (cm_i ((I3 a0 6) + 1) ∧ cw d cd_Grade_insert Q 160 [some (vR 2 a0), some (vR 20 a1), z2, some (vI x3), some (vI x4), some (vI x5), some (vI ((I3 a0 6) + 1))] [] (I3, z))))) ∧ (x6 < (I a0 6) → (cm_i (x5 + x6) ∧ ((0:Int) ≤ x6 ∧ x6 < z.2.1 a1) ∧ ((0:Int) ≤ (x5 + x6) ∧ (x5 + x6) < z.2.1 q_a0_9) ∧ (∀ I8 : cm_I, I8 = iu I q_a0_9 (x5 + x6) (I a1 x6) → (cm_i (x6 + 1) ∧ cw d cd_Grade_insert Q 110 [some (vR 2 a0), some (vR 20 a1), z2, some (vI x3), some (vI x4), some (vI x5), some (vI (x6 + 1))] [] (I8, z))))))) : cw d cd_Grade_insert Q 110 [some (vR 2 a0), some (vR 20 a1), z2, some (vI x3), some (vI x4), some (vI x5), some (vI x6)] [] (I, z) := by
  refine w_iload rfl rfl ?_
  refine w_aload rfl rfl ?_
  refine m_getI 6 rfl rfl rfl p_a0 ?_
  refine w_icmp rfl (And.intro (fun hc => ?_) (fun hc => ?_))
  · replace H := H.1 hc
    refine w_aload rfl rfl ?_
    refine n_getR 9 20 rfl rfl rfl rfl p_a0 y_a0_9 ?_
    refine w_iload rfl rfl ?_
    refine w_aload rfl rfl ?_
    refine m_getI 6 rfl rfl rfl p_a0 ?_
    have o1 := H.1
    replace H := H.2
    refine w_iadd rfl o1 ?_
    refine w_iload rfl rfl ?_
    have o2 := H.1
    replace H := H.2
    refine n_iastore rfl p_q_a0_9 rfl o2 (fun I3 eI3 => ?_)
    replace H := H I3 eI3
    refine w_aload rfl rfl ?_
    refine m_getI 6 rfl rfl rfl p_a0 ?_
    refine w_iconst rfl ⟨by decide, by decide⟩ ?_
    have o4 := H.1
    replace H := H.2
    refine w_iadd rfl o4 ?_
    refine w_istore rfl rfl ?_
    exact H
  · replace H := H.2 hc
    refine w_aload rfl rfl ?_
    refine n_getR 9 20 rfl rfl rfl rfl p_a0 y_a0_9 ?_
    refine w_iload rfl rfl ?_
    refine w_iload rfl rfl ?_
    have o5 := H.1
    replace H := H.2
    refine w_iadd rfl o5 ?_
    refine w_aload rfl rfl ?_
    refine w_iload rfl rfl ?_
    have o6 := H.1
    replace H := H.2
    refine n_iaload rfl p_a1 rfl o6 ?_
    have o7 := H.1
    replace H := H.2
    refine n_iastore rfl p_q_a0_9 rfl o7 (fun I8 eI8 => ?_)
    replace H := H I8 eI8
    have o9 := H.1
    replace H := H.2
    refine w_iinc rfl rfl rfl o9 ?_
    refine w_goto rfl ?_
    exact H
set_option maxHeartbeats 4000000 in
set_option maxRecDepth 100000 in
theorem wr_Grade_insert_160 {d : Nat} {Q : cm_Q} {z : cm_Z} {I : cm_I} (hz : wz z) {a0 : Nat} {a1 : Nat} {z2 : Option cm_V} {z3 : Option cm_V} {x4 : Int} {x5 : Int} {x6 : Int} {q_a0_9 : Nat} (p_a0 : 0 < a0) (y_a0_9 : z.1 a0 9 = q_a0_9) (p_a1 : 0 < a1) (p_q_a0_9 : 0 < q_a0_9) (H : (((I a0 3) ≤ x6 → (cm_i ((I a0 6) + 1) ∧ (∀ I2 : cm_I, I2 = iu I a0 6 ((I a0 6) + 1) → Q (some (vI 1)) (I2, z)))) ∧ (x6 < (I a0 3) → (cm_i (x5 + x6) ∧ ((0:Int) ≤ x6 ∧ x6 < z.2.1 a1) ∧ (cm_i ((Int.tmod (I a1 x6) 2521) * x4) ∧ ((0:Int) ≤ (x5 + x6) ∧ (x5 + x6) < z.2.1 q_a0_9) ∧ (∀ I7 : cm_I, I7 = iu I q_a0_9 (x5 + x6) (Int.tmod ((Int.tmod (I a1 x6) 2521) * x4) 2521) → (cm_i (x6 + 1) ∧ cw d cd_Grade_insert Q 160 [some (vR 2 a0), some (vR 20 a1), z2, z3, some (vI x4), some (vI x5), some (vI (x6 + 1))] [] (I7, z)))))))) : cw d cd_Grade_insert Q 160 [some (vR 2 a0), some (vR 20 a1), z2, z3, some (vI x4), some (vI x5), some (vI x6)] [] (I, z) := by
  refine w_iload rfl rfl ?_
  refine w_aload rfl rfl ?_
  refine m_getI 3 rfl rfl rfl p_a0 ?_
  refine w_icmp rfl (And.intro (fun hc => ?_) (fun hc => ?_))
  · replace H := H.1 hc
    refine w_aload rfl rfl ?_
    refine w_dup rfl rfl ?_
    refine m_getI 6 rfl rfl rfl p_a0 ?_
    refine w_iconst rfl ⟨by decide, by decide⟩ ?_
    have o1 := H.1
    replace H := H.2
    refine w_iadd rfl o1 ?_
    refine m_putI 6 rfl rfl rfl p_a0 (fun I2 eI2 => ?_)
    replace H := H I2 eI2
    refine w_iconst rfl ⟨by decide, by decide⟩ ?_
    exact w_zreturn rfl (by decide) H
  · replace H := H.2 hc
    refine w_aload rfl rfl ?_
    refine n_getR 9 20 rfl rfl rfl rfl p_a0 y_a0_9 ?_
    refine w_iload rfl rfl ?_
    refine w_iload rfl rfl ?_
    have o3 := H.1
    replace H := H.2
    refine w_iadd rfl o3 ?_
    refine w_aload rfl rfl ?_
    refine w_iload rfl rfl ?_
    have o4 := H.1
    replace H := H.2
    refine n_iaload rfl p_a1 rfl o4 ?_
    refine w_iconst rfl ⟨by decide, by decide⟩ ?_
    refine w_irem rfl (by decide) ?_
    refine w_iload rfl rfl ?_
    have o5 := H.1
    replace H := H.2
    refine w_imul rfl o5 ?_
    refine w_iconst rfl ⟨by decide, by decide⟩ ?_
    refine w_irem rfl (by decide) ?_
    have o6 := H.1
    replace H := H.2
    refine n_iastore rfl p_q_a0_9 rfl o6 (fun I7 eI7 => ?_)
    replace H := H I7 eI7
    have o8 := H.1
    replace H := H.2
    refine w_iinc rfl rfl rfl o8 ?_
    refine w_goto rfl ?_
    exact H
set_option maxHeartbeats 4000000 in
set_option maxRecDepth 100000 in
theorem wr_Grade_insert {d : Nat} {Q : cm_Q} {z : cm_Z} {I : cm_I} (hz : wz z) {a0 : Nat} {a1 : Nat} (p_a0 : 0 < a0) (H : cw d cd_Grade_insert Q 2 [some (vR 2 a0), some (vR 20 a1), some (vI 0), none, none, none, none] [] (I, z)) : cm_call (d + 1) m_Grade_insert [vR 2 a0, vR 20 a1] (I, z) Q := by
  refine cm_call_in (C := cd_Grade_insert) (ls := [some (vR 2 a0), some (vR 20 a1), none, none, none, none, none]) rfl rfl p_a0 rfl ?_
  refine w_iconst rfl ⟨by decide, by decide⟩ ?_
  refine w_istore rfl rfl ?_
  exact H
set_option maxHeartbeats 4000000 in
set_option maxRecDepth 100000 in
theorem wr_Grade_clearBehind_29 {d : Nat} {Q : cm_Q} {z : cm_Z} {I : cm_I} (hz : wz z) {a0 : Nat} {a1 : Nat} {z2 : Option cm_V} {x3 : Int} {x4 : Int} {x5 : Int} {q_a0_9 : Nat} (p_a0 : 0 < a0) (p_a1 : 0 < a1) (y_a0_9 : z.1 a0 9 = q_a0_9) (p_q_a0_9 : 0 < q_a0_9) (H : (((I a0 3) ≤ x5 → Q none (I, z)) ∧ (x5 < (I a0 3) → ((0:Int) ≤ x5 ∧ x5 < z.2.1 a1) ∧ (cm_i (2521 - x3) ∧ (cm_i (x4 + x5) ∧ ((0:Int) ≤ (x4 + x5) ∧ (x4 + x5) < z.2.1 q_a0_9) ∧ (cm_i ((2521 - x3) * (I q_a0_9 (x4 + x5))) ∧ (cm_i ((I a1 x5) + ((2521 - x3) * (I q_a0_9 (x4 + x5)))) ∧ (∀ I7 : cm_I, I7 = iu I a1 x5 ((I a1 x5) + ((2521 - x3) * (I q_a0_9 (x4 + x5)))) → (cm_i (x5 + 1) ∧ cw d cd_Grade_clearBehind Q 29 [some (vR 2 a0), some (vR 20 a1), z2, some (vI x3), some (vI x4), some (vI (x5 + 1))] [] (I7, z)))))))))) : cw d cd_Grade_clearBehind Q 29 [some (vR 2 a0), some (vR 20 a1), z2, some (vI x3), some (vI x4), some (vI x5)] [] (I, z) := by
  refine w_iload rfl rfl ?_
  refine w_aload rfl rfl ?_
  refine m_getI 3 rfl rfl rfl p_a0 ?_
  refine w_icmp rfl (And.intro (fun hc => ?_) (fun hc => ?_))
  · replace H := H.1 hc
    exact w_return rfl H
  · replace H := H.2 hc
    refine w_aload rfl rfl ?_
    refine w_iload rfl rfl ?_
    refine w_dup2 rfl rfl ?_
    have o1 := H.1
    replace H := H.2
    refine n_iaload rfl p_a1 rfl o1 ?_
    refine w_iconst rfl ⟨by decide, by decide⟩ ?_
    refine w_iload rfl rfl ?_
    have o2 := H.1
    replace H := H.2
    refine w_isub rfl o2 ?_
    refine w_aload rfl rfl ?_
    refine n_getR 9 20 rfl rfl rfl rfl p_a0 y_a0_9 ?_
    refine w_iload rfl rfl ?_
    refine w_iload rfl rfl ?_
    have o3 := H.1
    replace H := H.2
    refine w_iadd rfl o3 ?_
    have o4 := H.1
    replace H := H.2
    refine n_iaload rfl p_q_a0_9 rfl o4 ?_
    have o5 := H.1
    replace H := H.2
    refine w_imul rfl o5 ?_
    have o6 := H.1
    replace H := H.2
    refine w_iadd rfl o6 ?_
    refine n_iastore rfl p_a1 rfl o1 (fun I7 eI7 => ?_)
    replace H := H I7 eI7
    have o8 := H.1
    replace H := H.2
    refine w_iinc rfl rfl rfl o8 ?_
    refine w_goto rfl ?_
    exact H
set_option maxHeartbeats 4000000 in
set_option maxRecDepth 100000 in
theorem wr_Grade_clearBehind {d : Nat} {Q : cm_Q} {z : cm_Z} {I : cm_I} (hz : wz z) {a0 : Nat} {a1 : Nat} {x2 : Int} (p_a1 : 0 < a1) (p_a0 : 0 < a0) (H : ((0:Int) ≤ x2 ∧ x2 < z.2.1 a1) ∧ (∀ I2 : cm_I, I2 = iu I a1 x2 (Int.tmod (I a1 x2) 2521) → (((Int.tmod (I a1 x2) 2521) = 0 → Q none (I2, z)) ∧ (¬ (Int.tmod (I a1 x2) 2521) = 0 → (cm_i ((I2 a0 3) * x2) ∧ (cm_i (x2 + 1) ∧ cw d cd_Grade_clearBehind Q 29 [some (vR 2 a0), some (vR 20 a1), some (vI x2), some (vI (Int.tmod (I a1 x2) 2521)), some (vI ((I2 a0 3) * x2)), some (vI (x2 + 1))] [] (I2, z))))))) : cm_call (d + 1) m_Grade_clearBehind [vR 2 a0, vR 20 a1, vI x2] (I, z) Q := by
  refine cm_call_in (C := cd_Grade_clearBehind) (ls := [some (vR 2 a0), some (vR 20 a1), some (vI x2), none, none, none]) rfl rfl p_a0 rfl ?_
  refine w_aload rfl rfl ?_
  refine w_iload rfl rfl ?_
  have o1 := H.1
  replace H := H.2
  refine n_iaload rfl p_a1 rfl o1 ?_
  refine w_iconst rfl ⟨by decide, by decide⟩ ?_
  refine w_irem rfl (by decide) ?_
  refine w_istore rfl rfl ?_
  refine w_aload rfl rfl ?_
  refine w_iload rfl rfl ?_
  refine w_iload rfl rfl ?_
  refine n_iastore rfl p_a1 rfl o1 (fun I2 eI2 => ?_)
  replace H := H I2 eI2
  refine w_iload rfl rfl ?_
  refine w_if rfl (And.intro (fun hc => ?_) (fun hc => ?_))
  · replace H := H.1 hc
    exact w_return rfl H
  · replace H := H.2 hc
    refine w_aload rfl rfl ?_
    refine m_getI 3 rfl rfl rfl p_a0 ?_
    refine w_iload rfl rfl ?_
    have o3 := H.1
    replace H := H.2
    refine w_imul rfl o3 ?_
    refine w_istore rfl rfl ?_
    refine w_iload rfl rfl ?_
    refine w_iconst rfl ⟨by decide, by decide⟩ ?_
    have o4 := H.1
    replace H := H.2
    refine w_iadd rfl o4 ?_
    refine w_istore rfl rfl ?_
    exact H
set_option maxHeartbeats 4000000 in
set_option maxRecDepth 100000 in
theorem wr_Grade_turn_29 {d : Nat} {Q : cm_Q} {z : cm_Z} {I : cm_I} (hz : wz z) {a0 : Nat} {x1 : Int} {x2 : Int} {z3 : Option cm_V} {x4 : Int} {z5 : Option cm_V} {q_a0_9 : Nat} (p_a0 : 0 < a0) (y_a0_9 : z.1 a0 9 = q_a0_9) (p_q_a0_9 : 0 < q_a0_9) (H : (((I a0 6) ≤ x4 → Q none (I, z)) ∧ (x4 < (I a0 6) → (cm_i ((I a0 3) * x4) ∧ (cm_i (((I a0 3) * x4) + x1) ∧ ((0:Int) ≤ (((I a0 3) * x4) + x1) ∧ (((I a0 3) * x4) + x1) < z.2.1 q_a0_9) ∧ (cm_i (((I a0 3) * x4) + x2) ∧ ((0:Int) ≤ (((I a0 3) * x4) + x2) ∧ (((I a0 3) * x4) + x2) < z.2.1 q_a0_9) ∧ (∀ I6 : cm_I, I6 = iu I q_a0_9 (((I a0 3) * x4) + x1) (I q_a0_9 (((I a0 3) * x4) + x2)) → (cm_i ((I6 a0 3) * x4) ∧ (cm_i (((I6 a0 3) * x4) + x2) ∧ ((0:Int) ≤ (((I6 a0 3) * x4) + x2) ∧ (((I6 a0 3) * x4) + x2) < z.2.1 q_a0_9) ∧ (∀ I10 : cm_I, I10 = iu I6 q_a0_9 (((I6 a0 3) * x4) + x2) (I q_a0_9 (((I a0 3) * x4) + x1)) → (cm_i (x4 + 1) ∧ cw d cd_Grade_turn Q 29 [some (vR 2 a0), some (vI x1), some (vI x2), z3, some (vI (x4 + 1)), some (vI (I q_a0_9 (((I a0 3) * x4) + x1)))] [] (I10, z)))))))))))) : cw d cd_Grade_turn Q 29 [some (vR 2 a0), some (vI x1), some (vI x2), z3, some (vI x4), z5] [] (I, z) := by
  refine w_iload rfl rfl ?_
  refine w_aload rfl rfl ?_
  refine m_getI 6 rfl rfl rfl p_a0 ?_
  refine w_icmp rfl (And.intro (fun hc => ?_) (fun hc => ?_))
  · replace H := H.1 hc
    exact w_return rfl H
  · replace H := H.2 hc
    refine w_aload rfl rfl ?_
    refine n_getR 9 20 rfl rfl rfl rfl p_a0 y_a0_9 ?_
    refine w_aload rfl rfl ?_
    refine m_getI 3 rfl rfl rfl p_a0 ?_
    refine w_iload rfl rfl ?_
    have o1 := H.1
    replace H := H.2
    refine w_imul rfl o1 ?_
    refine w_iload rfl rfl ?_
    have o2 := H.1
    replace H := H.2
    refine w_iadd rfl o2 ?_
    have o3 := H.1
    replace H := H.2
    refine n_iaload rfl p_q_a0_9 rfl o3 ?_
    refine w_istore rfl rfl ?_
    refine w_aload rfl rfl ?_
    refine n_getR 9 20 rfl rfl rfl rfl p_a0 y_a0_9 ?_
    refine w_aload rfl rfl ?_
    refine m_getI 3 rfl rfl rfl p_a0 ?_
    refine w_iload rfl rfl ?_
    refine w_imul rfl o1 ?_
    refine w_iload rfl rfl ?_
    refine w_iadd rfl o2 ?_
    refine w_aload rfl rfl ?_
    refine n_getR 9 20 rfl rfl rfl rfl p_a0 y_a0_9 ?_
    refine w_aload rfl rfl ?_
    refine m_getI 3 rfl rfl rfl p_a0 ?_
    refine w_iload rfl rfl ?_
    refine w_imul rfl o1 ?_
    refine w_iload rfl rfl ?_
    have o4 := H.1
    replace H := H.2
    refine w_iadd rfl o4 ?_
    have o5 := H.1
    replace H := H.2
    refine n_iaload rfl p_q_a0_9 rfl o5 ?_
    refine n_iastore rfl p_q_a0_9 rfl o3 (fun I6 eI6 => ?_)
    replace H := H I6 eI6
    refine w_aload rfl rfl ?_
    refine n_getR 9 20 rfl rfl rfl rfl p_a0 y_a0_9 ?_
    refine w_aload rfl rfl ?_
    refine m_getI 3 rfl rfl rfl p_a0 ?_
    refine w_iload rfl rfl ?_
    have o7 := H.1
    replace H := H.2
    refine w_imul rfl o7 ?_
    refine w_iload rfl rfl ?_
    have o8 := H.1
    replace H := H.2
    refine w_iadd rfl o8 ?_
    refine w_iload rfl rfl ?_
    have o9 := H.1
    replace H := H.2
    refine n_iastore rfl p_q_a0_9 rfl o9 (fun I10 eI10 => ?_)
    replace H := H I10 eI10
    have o11 := H.1
    replace H := H.2
    refine w_iinc rfl rfl rfl o11 ?_
    refine w_goto rfl ?_
    exact H
set_option maxHeartbeats 4000000 in
set_option maxRecDepth 100000 in
theorem wr_Grade_turn {d : Nat} {Q : cm_Q} {z : cm_Z} {I : cm_I} (hz : wz z) {a0 : Nat} {x1 : Int} {x2 : Int} {q_a0_10 : Nat} (p_a0 : 0 < a0) (y_a0_10 : z.1 a0 10 = q_a0_10) (p_q_a0_10 : 0 < q_a0_10) (H : ((0:Int) ≤ x1 ∧ x1 < z.2.1 q_a0_10) ∧ ((0:Int) ≤ x2 ∧ x2 < z.2.1 q_a0_10) ∧ (∀ I3 : cm_I, I3 = iu I q_a0_10 x1 (I q_a0_10 x2) → (∀ I4 : cm_I, I4 = iu I3 q_a0_10 x2 (I q_a0_10 x1) → cw d cd_Grade_turn Q 29 [some (vR 2 a0), some (vI x1), some (vI x2), some (vI (I q_a0_10 x1)), some (vI 0), none] [] (I4, z)))) : cm_call (d + 1) m_Grade_turn [vR 2 a0, vI x1, vI x2] (I, z) Q := by
  refine cm_call_in (C := cd_Grade_turn) (ls := [some (vR 2 a0), some (vI x1), some (vI x2), none, none, none]) rfl rfl p_a0 rfl ?_
  refine w_aload rfl rfl ?_
  refine n_getR 10 20 rfl rfl rfl rfl p_a0 y_a0_10 ?_
  refine w_iload rfl rfl ?_
  have o1 := H.1
  replace H := H.2
  refine n_iaload rfl p_q_a0_10 rfl o1 ?_
  refine w_istore rfl rfl ?_
  refine w_aload rfl rfl ?_
  refine n_getR 10 20 rfl rfl rfl rfl p_a0 y_a0_10 ?_
  refine w_iload rfl rfl ?_
  refine w_aload rfl rfl ?_
  refine n_getR 10 20 rfl rfl rfl rfl p_a0 y_a0_10 ?_
  refine w_iload rfl rfl ?_
  have o2 := H.1
  replace H := H.2
  refine n_iaload rfl p_q_a0_10 rfl o2 ?_
  refine n_iastore rfl p_q_a0_10 rfl o1 (fun I3 eI3 => ?_)
  replace H := H I3 eI3
  refine w_aload rfl rfl ?_
  refine n_getR 10 20 rfl rfl rfl rfl p_a0 y_a0_10 ?_
  refine w_iload rfl rfl ?_
  refine w_iload rfl rfl ?_
  refine n_iastore rfl p_q_a0_10 rfl o2 (fun I4 eI4 => ?_)
  replace H := H I4 eI4
  refine w_iconst rfl ⟨by decide, by decide⟩ ?_
  refine w_istore rfl rfl ?_
  exact H
set_option maxHeartbeats 4000000 in
set_option maxRecDepth 100000 in
theorem wr_Grade_solve_2 {d : Nat} {Q : cm_Q} {z : cm_Z} {I : cm_I} (hz : wz z) {a0 : Nat} {a1 : Nat} {x2 : Int} {z3 : Option cm_V} {z4 : Option cm_V} {z5 : Option cm_V} (p_a0 : 0 < a0) (H : (((I a0 6) ≤ x2 → (cm_i ((I a0 6) - 1) ∧ cw d cd_Grade_solve Q 29 [some (vR 2 a0), some (vR 20 a1), some (vI ((I a0 6) - 1)), z3, z4, z5] [] (I, z))) ∧ (x2 < (I a0 6) → (mU d m_Grade_clearBehind [vR 2 a0, vR 20 a1, vI x2] z I fun I2 => (cm_i (x2 + 1) ∧ cw d cd_Grade_solve Q 2 [some (vR 2 a0), some (vR 20 a1), some (vI (x2 + 1)), z3, z4, z5] [] (I2, z)))))) : cw d cd_Grade_solve Q 2 [some (vR 2 a0), some (vR 20 a1), some (vI x2), z3, z4, z5] [] (I, z) := by
  refine w_iload rfl rfl ?_
  refine w_aload rfl rfl ?_
  refine m_getI 6 rfl rfl rfl p_a0 ?_
  refine w_icmp rfl (And.intro (fun hc => ?_) (fun hc => ?_))
  · replace H := H.1 hc
    refine w_aload rfl rfl ?_
    refine m_getI 6 rfl rfl rfl p_a0 ?_
    refine w_iconst rfl ⟨by decide, by decide⟩ ?_
    have o1 := H.1
    replace H := H.2
    refine w_isub rfl o1 ?_
    refine w_istore rfl rfl ?_
    exact H
  · replace H := H.2 hc
    refine w_aload rfl rfl ?_
    refine w_aload rfl rfl ?_
    refine w_iload rfl rfl ?_
    refine m_callU rfl (fun _ => rfl) rfl (mU_mono H fun I2 H => ?_)
    have o3 := H.1
    replace H := H.2
    refine w_iinc rfl rfl rfl o3 ?_
    refine w_goto rfl ?_
    exact H
set_option maxHeartbeats 4000000 in
set_option maxRecDepth 100000 in
theorem wr_Grade_solve_29 {d : Nat} {Q : cm_Q} {z : cm_Z} {I : cm_I} (hz : wz z) {a0 : Nat} {a1 : Nat} {x2 : Int} {z3 : Option cm_V} {z4 : Option cm_V} {z5 : Option cm_V} {q_a0_9 : Nat} (p_a0 : 0 < a0) (p_a1 : 0 < a1) (y_a0_9 : z.1 a0 9 = q_a0_9) (p_q_a0_9 : 0 < q_a0_9) (H : ((x2 < 0 → Q none (I, z)) ∧ (0 ≤ x2 → (cm_i ((I a0 3) * x2) ∧ ((0:Int) ≤ x2 ∧ x2 < z.2.1 a1) ∧ (cm_i (((I a0 3) * x2) + x2) ∧ ((0:Int) ≤ (((I a0 3) * x2) + x2) ∧ (((I a0 3) * x2) + x2) < z.2.1 q_a0_9) ∧ (mI d m_Works_raise [vI (I q_a0_9 (((I a0 3) * x2) + x2)), vI 2519] z I fun v6 I5 => (cm_i ((Int.tmod (I a1 x2) 2521) * v6) ∧ (∀ I8 : cm_I, I8 = iu I5 a1 x2 (Int.tmod ((Int.tmod (I a1 x2) 2521) * v6) 2521) → cw d cd_Grade_solve Q 76 [some (vR 2 a0), some (vR 20 a1), some (vI x2), some (vI ((I a0 3) * x2)), some (vI (Int.tmod ((Int.tmod (I a1 x2) 2521) * v6) 2521)), some (vI 0)] [] (I8, z))))))))) : cw d cd_Grade_solve Q 29 [some (vR 2 a0), some (vR 20 a1), some (vI x2), z3, z4, z5] [] (I, z) := by
  refine w_iload rfl rfl ?_
  refine w_if rfl (And.intro (fun hc => ?_) (fun hc => ?_))
  · replace H := H.1 hc
    exact w_return rfl H
  · replace H := H.2 hc
    refine w_aload rfl rfl ?_
    refine m_getI 3 rfl rfl rfl p_a0 ?_
    refine w_iload rfl rfl ?_
    have o1 := H.1
    replace H := H.2
    refine w_imul rfl o1 ?_
    refine w_istore rfl rfl ?_
    refine w_aload rfl rfl ?_
    refine w_iload rfl rfl ?_
    have o2 := H.1
    replace H := H.2
    refine n_iaload rfl p_a1 rfl o2 ?_
    refine w_iconst rfl ⟨by decide, by decide⟩ ?_
    refine w_irem rfl (by decide) ?_
    refine w_aload rfl rfl ?_
    refine n_getR 9 20 rfl rfl rfl rfl p_a0 y_a0_9 ?_
    refine w_iload rfl rfl ?_
    refine w_iload rfl rfl ?_
    have o3 := H.1
    replace H := H.2
    refine w_iadd rfl o3 ?_
    have o4 := H.1
    replace H := H.2
    refine n_iaload rfl p_q_a0_9 rfl o4 ?_
    refine w_iconst rfl ⟨by decide, by decide⟩ ?_
    refine m_callI rfl (fun _ => rfl) rfl (mI_mono H fun v6 I5 H => ?_)
    have o7 := H.1
    replace H := H.2
    refine w_imul rfl o7 ?_
    refine w_iconst rfl ⟨by decide, by decide⟩ ?_
    refine w_irem rfl (by decide) ?_
    refine w_istore rfl rfl ?_
    refine w_aload rfl rfl ?_
    refine w_iload rfl rfl ?_
    refine w_iload rfl rfl ?_
    refine n_iastore rfl p_a1 rfl o2 (fun I8 eI8 => ?_)
    replace H := H I8 eI8
    refine w_iconst rfl ⟨by decide, by decide⟩ ?_
    refine w_istore rfl rfl ?_
    exact H
set_option maxHeartbeats 4000000 in
set_option maxRecDepth 100000 in
theorem wr_Grade_solve_76 {d : Nat} {Q : cm_Q} {z : cm_Z} {I : cm_I} (hz : wz z) {a0 : Nat} {a1 : Nat} {x2 : Int} {x3 : Int} {x4 : Int} {x5 : Int} {q_a0_9 : Nat} (p_a1 : 0 < a1) (p_a0 : 0 < a0) (y_a0_9 : z.1 a0 9 = q_a0_9) (p_q_a0_9 : 0 < q_a0_9) (H : ((x2 ≤ x5 → (cm_i (x2 + (-1)) ∧ cw d cd_Grade_solve Q 29 [some (vR 2 a0), some (vR 20 a1), some (vI (x2 + (-1))), some (vI x3), some (vI x4), some (vI x5)] [] (I, z))) ∧ (x5 < x2 → ((0:Int) ≤ x5 ∧ x5 < z.2.1 a1) ∧ (cm_i (2521 - x4) ∧ (cm_i (x3 + x5) ∧ ((0:Int) ≤ (x3 + x5) ∧ (x3 + x5) < z.2.1 q_a0_9) ∧ (cm_i ((2521 - x4) * (I q_a0_9 (x3 + x5))) ∧ (cm_i ((I a1 x5) + ((2521 - x4) * (I q_a0_9 (x3 + x5)))) ∧ (∀ I8 : cm_I, I8 = iu I a1 x5 ((I a1 x5) + ((2521 - x4) * (I q_a0_9 (x3 + x5)))) → (cm_i (x5 + 1) ∧ cw d cd_Grade_solve Q 76 [some (vR 2 a0), some (vR 20 a1), some (vI x2), some (vI x3), some (vI x4), some (vI (x5 + 1))] [] (I8, z)))))))))) : cw d cd_Grade_solve Q 76 [some (vR 2 a0), some (vR 20 a1), some (vI x2), some (vI x3), some (vI x4), some (vI x5)] [] (I, z) := by
  refine w_iload rfl rfl ?_
  refine w_iload rfl rfl ?_
  refine w_icmp rfl (And.intro (fun hc => ?_) (fun hc => ?_))
  · replace H := H.1 hc
    have o1 := H.1
    replace H := H.2
    refine w_iinc rfl rfl rfl o1 ?_
    refine w_goto rfl ?_
    exact H
  · replace H := H.2 hc
    refine w_aload rfl rfl ?_
    refine w_iload rfl rfl ?_
    refine w_dup2 rfl rfl ?_
    have o2 := H.1
    replace H := H.2
    refine n_iaload rfl p_a1 rfl o2 ?_
    refine w_iconst rfl ⟨by decide, by decide⟩ ?_
    refine w_iload rfl rfl ?_
    have o3 := H.1
    replace H := H.2
    refine w_isub rfl o3 ?_
    refine w_aload rfl rfl ?_
    refine n_getR 9 20 rfl rfl rfl rfl p_a0 y_a0_9 ?_
    refine w_iload rfl rfl ?_
    refine w_iload rfl rfl ?_
    have o4 := H.1
    replace H := H.2
    refine w_iadd rfl o4 ?_
    have o5 := H.1
    replace H := H.2
    refine n_iaload rfl p_q_a0_9 rfl o5 ?_
    have o6 := H.1
    replace H := H.2
    refine w_imul rfl o6 ?_
    have o7 := H.1
    replace H := H.2
    refine w_iadd rfl o7 ?_
    refine n_iastore rfl p_a1 rfl o2 (fun I8 eI8 => ?_)
    replace H := H I8 eI8
    have o9 := H.1
    replace H := H.2
    refine w_iinc rfl rfl rfl o9 ?_
    refine w_goto rfl ?_
    exact H
set_option maxHeartbeats 4000000 in
set_option maxRecDepth 100000 in
theorem wr_Grade_solve {d : Nat} {Q : cm_Q} {z : cm_Z} {I : cm_I} (hz : wz z) {a0 : Nat} {a1 : Nat} (p_a0 : 0 < a0) (H : cw d cd_Grade_solve Q 2 [some (vR 2 a0), some (vR 20 a1), some (vI 0), none, none, none] [] (I, z)) : cm_call (d + 1) m_Grade_solve [vR 2 a0, vR 20 a1] (I, z) Q := by
  refine cm_call_in (C := cd_Grade_solve) (ls := [some (vR 2 a0), some (vR 20 a1), none, none, none, none]) rfl rfl p_a0 rfl ?_
  refine w_iconst rfl ⟨by decide, by decide⟩ ?_
  refine w_istore rfl rfl ?_
  exact H
set_option maxHeartbeats 4000000 in
set_option maxRecDepth 100000 in
theorem wr_Grade_label {d : Nat} {Q : cm_Q} {z : cm_Z} {I : cm_I} (hz : wz z) {a0 : Nat} {x1 : Int} {x2 : Int} {x3 : Int} {x4 : Int} {x5 : Int} {q_a0_8 : Nat} (p_a0 : 0 < a0) (y_a0_8 : z.1 a0 8 = q_a0_8) (p_q_a0_8 : 0 < q_a0_8) (H : (cm_i (4 * x1) ∧ ((0:Int) ≤ (4 * x1) ∧ (4 * x1) < z.2.1 q_a0_8) ∧ (∀ I3 : cm_I, I3 = iu I q_a0_8 (4 * x1) x2 → (cm_i ((4 * x1) + 1) ∧ ((0:Int) ≤ ((4 * x1) + 1) ∧ ((4 * x1) + 1) < z.2.1 q_a0_8) ∧ (∀ I6 : cm_I, I6 = iu I3 q_a0_8 ((4 * x1) + 1) x3 → (cm_i ((4 * x1) + 2) ∧ ((0:Int) ≤ ((4 * x1) + 2) ∧ ((4 * x1) + 2) < z.2.1 q_a0_8) ∧ (∀ I9 : cm_I, I9 = iu I6 q_a0_8 ((4 * x1) + 2) x4 → (cm_i ((4 * x1) + 3) ∧ ((0:Int) ≤ ((4 * x1) + 3) ∧ ((4 * x1) + 3) < z.2.1 q_a0_8) ∧ (∀ I12 : cm_I, I12 = iu I9 q_a0_8 ((4 * x1) + 3) x5 → Q none (I12, z)))))))))) : cm_call (d + 1) m_Grade_label [vR 2 a0, vI x1, vI x2, vI x3, vI x4, vI x5] (I, z) Q := by
  refine cm_call_in (C := cd_Grade_label) (ls := [some (vR 2 a0), some (vI x1), some (vI x2), some (vI x3), some (vI x4), some (vI x5)]) rfl rfl p_a0 rfl ?_
  refine w_aload rfl rfl ?_
  refine n_getR 8 20 rfl rfl rfl rfl p_a0 y_a0_8 ?_
  refine w_iconst rfl ⟨by decide, by decide⟩ ?_
  refine w_iload rfl rfl ?_
  have o1 := H.1
  replace H := H.2
  refine w_imul rfl o1 ?_
  refine w_iload rfl rfl ?_
  have o2 := H.1
  replace H := H.2
  refine n_iastore rfl p_q_a0_8 rfl o2 (fun I3 eI3 => ?_)
  replace H := H I3 eI3
  refine w_aload rfl rfl ?_
  refine n_getR 8 20 rfl rfl rfl rfl p_a0 y_a0_8 ?_
  refine w_iconst rfl ⟨by decide, by decide⟩ ?_
  refine w_iload rfl rfl ?_
  refine w_imul rfl o1 ?_
  refine w_iconst rfl ⟨by decide, by decide⟩ ?_
  have o4 := H.1
  replace H := H.2
  refine w_iadd rfl o4 ?_
  refine w_iload rfl rfl ?_
  have o5 := H.1
  replace H := H.2
  refine n_iastore rfl p_q_a0_8 rfl o5 (fun I6 eI6 => ?_)
  replace H := H I6 eI6
  refine w_aload rfl rfl ?_
  refine n_getR 8 20 rfl rfl rfl rfl p_a0 y_a0_8 ?_
  refine w_iconst rfl ⟨by decide, by decide⟩ ?_
  refine w_iload rfl rfl ?_
  refine w_imul rfl o1 ?_
  refine w_iconst rfl ⟨by decide, by decide⟩ ?_
  have o7 := H.1
  replace H := H.2
  refine w_iadd rfl o7 ?_
  refine w_iload rfl rfl ?_
  have o8 := H.1
  replace H := H.2
  refine n_iastore rfl p_q_a0_8 rfl o8 (fun I9 eI9 => ?_)
  replace H := H I9 eI9
  refine w_aload rfl rfl ?_
  refine n_getR 8 20 rfl rfl rfl rfl p_a0 y_a0_8 ?_
  refine w_iconst rfl ⟨by decide, by decide⟩ ?_
  refine w_iload rfl rfl ?_
  refine w_imul rfl o1 ?_
  refine w_iconst rfl ⟨by decide, by decide⟩ ?_
  have o10 := H.1
  replace H := H.2
  refine w_iadd rfl o10 ?_
  refine w_iload rfl rfl ?_
  have o11 := H.1
  replace H := H.2
  refine n_iastore rfl p_q_a0_8 rfl o11 (fun I12 eI12 => ?_)
  replace H := H I12 eI12
  exact w_return rfl H
set_option maxHeartbeats 4000000 in
set_option maxRecDepth 100000 in
theorem wr_Grade_productOf_3 {d : Nat} {Q : cm_Q} {z : cm_Z} {I : cm_I} (hz : wz z) {a0 : Nat} {x1 : Int} {x2 : Int} {x3 : Int} {x4 : Int} {x5 : Int} {z6 : Option cm_V} {q_a0_8 : Nat} (p_a0 : 0 < a0) (y_a0_8 : z.1 a0 8 = q_a0_8) (p_q_a0_8 : 0 < q_a0_8) (H : (((I a0 6) ≤ x5 → Q (some (vI (-1))) (I, z)) ∧ (x5 < (I a0 6) → (cm_i (4 * x5) ∧ ((0:Int) ≤ (4 * x5) ∧ (4 * x5) < z.2.1 q_a0_8) ∧ ((¬ (I q_a0_8 (4 * x5)) = x1 → (cm_i (x5 + 1) ∧ cw d cd_Grade_productOf Q 3 [some (vR 2 a0), some (vI x1), some (vI x2), some (vI x3), some (vI x4), some (vI (x5 + 1)), some (vI (4 * x5))] [] (I, z))) ∧ ((I q_a0_8 (4 * x5)) = x1 → (cm_i ((4 * x5) + 1) ∧ ((0:Int) ≤ ((4 * x5) + 1) ∧ ((4 * x5) + 1) < z.2.1 q_a0_8) ∧ ((¬ (I q_a0_8 ((4 * x5) + 1)) = x2 → (cm_i (x5 + 1) ∧ cw d cd_Grade_productOf Q 3 [some (vR 2 a0), some (vI x1), some (vI x2), some (vI x3), some (vI x4), some (vI (x5 + 1)), some (vI (4 * x5))] [] (I, z))) ∧ ((I q_a0_8 ((4 * x5) + 1)) = x2 → (cm_i ((4 * x5) + 2) ∧ ((0:Int) ≤ ((4 * x5) + 2) ∧ ((4 * x5) + 2) < z.2.1 q_a0_8) ∧ ((¬ (I q_a0_8 ((4 * x5) + 2)) = x3 → (cm_i (x5 + 1) ∧ cw d cd_Grade_productOf Q 3 [some (vR 2 a0), some (vI x1), some (vI x2), some (vI x3), some (vI x4), some (vI (x5 + 1)), some (vI (4 * x5))] [] (I, z))) ∧ ((I q_a0_8 ((4 * x5) + 2)) = x3 → (cm_i ((4 * x5) + 3) ∧ ((0:Int) ≤ ((4 * x5) + 3) ∧ ((4 * x5) + 3) < z.2.1 q_a0_8) ∧ ((¬ (I q_a0_8 ((4 * x5) + 3)) = x4 → (cm_i (x5 + 1) ∧ cw d cd_Grade_productOf Q 3 [some (vR 2 a0), some (vI x1), some (vI x2), some (vI x3), some (vI x4), some (vI (x5 + 1)), some (vI (4 * x5))] [] (I, z))) ∧ ((I q_a0_8 ((4 * x5) + 3)) = x4 → Q (some (vI x5)) (I, z)))))))))))))))) : cw d cd_Grade_productOf Q 3 [some (vR 2 a0), some (vI x1), some (vI x2), some (vI x3), some (vI x4), some (vI x5), z6] [] (I, z) := by
  refine w_iload rfl rfl ?_
  refine w_aload rfl rfl ?_
  refine m_getI 6 rfl rfl rfl p_a0 ?_
  refine w_icmp rfl (And.intro (fun hc => ?_) (fun hc => ?_))
  · replace H := H.1 hc
    refine w_iconst rfl ⟨by decide, by decide⟩ ?_
    exact w_ireturn rfl H
  · replace H := H.2 hc
    refine w_iconst rfl ⟨by decide, by decide⟩ ?_
    refine w_iload rfl rfl ?_
    have o1 := H.1
    replace H := H.2
    refine w_imul rfl o1 ?_
    refine w_istore rfl rfl ?_
    refine w_aload rfl rfl ?_
    refine n_getR 8 20 rfl rfl rfl rfl p_a0 y_a0_8 ?_
    refine w_iload rfl rfl ?_
    have o2 := H.1
    replace H := H.2
    refine n_iaload rfl p_q_a0_8 rfl o2 ?_
    refine w_iload rfl rfl ?_
    refine w_icmp rfl (And.intro (fun hc => ?_) (fun hc => ?_))
    · replace H := H.1 hc
      have o3 := H.1
      replace H := H.2
      refine w_iinc rfl rfl rfl o3 ?_
      refine w_goto rfl ?_
      exact H
    · replace H := H.2 hc
      refine w_aload rfl rfl ?_
      refine n_getR 8 20 rfl rfl rfl rfl p_a0 y_a0_8 ?_
      refine w_iload rfl rfl ?_
      refine w_iconst rfl ⟨by decide, by decide⟩ ?_
      have o4 := H.1
      replace H := H.2
      refine w_iadd rfl o4 ?_
      have o5 := H.1
      replace H := H.2
      refine n_iaload rfl p_q_a0_8 rfl o5 ?_
      refine w_iload rfl rfl ?_
      refine w_icmp rfl (And.intro (fun hc => ?_) (fun hc => ?_))
      · replace H := H.1 hc
        have o6 := H.1
        replace H := H.2
        refine w_iinc rfl rfl rfl o6 ?_
        refine w_goto rfl ?_
        exact H
      · replace H := H.2 hc
        refine w_aload rfl rfl ?_
        refine n_getR 8 20 rfl rfl rfl rfl p_a0 y_a0_8 ?_
        refine w_iload rfl rfl ?_
        refine w_iconst rfl ⟨by decide, by decide⟩ ?_
        have o7 := H.1
        replace H := H.2
        refine w_iadd rfl o7 ?_
        have o8 := H.1
        replace H := H.2
        refine n_iaload rfl p_q_a0_8 rfl o8 ?_
        refine w_iload rfl rfl ?_
        refine w_icmp rfl (And.intro (fun hc => ?_) (fun hc => ?_))
        · replace H := H.1 hc
          have o9 := H.1
          replace H := H.2
          refine w_iinc rfl rfl rfl o9 ?_
          refine w_goto rfl ?_
          exact H
        · replace H := H.2 hc
          refine w_aload rfl rfl ?_
          refine n_getR 8 20 rfl rfl rfl rfl p_a0 y_a0_8 ?_
          refine w_iload rfl rfl ?_
          refine w_iconst rfl ⟨by decide, by decide⟩ ?_
          have o10 := H.1
          replace H := H.2
          refine w_iadd rfl o10 ?_
          have o11 := H.1
          replace H := H.2
          refine n_iaload rfl p_q_a0_8 rfl o11 ?_
          refine w_iload rfl rfl ?_
          refine w_icmp rfl (And.intro (fun hc => ?_) (fun hc => ?_))
          · replace H := H.1 hc
            have o12 := H.1
            replace H := H.2
            refine w_iinc rfl rfl rfl o12 ?_
            refine w_goto rfl ?_
            exact H
          · replace H := H.2 hc
            refine w_iload rfl rfl ?_
            exact w_ireturn rfl H
set_option maxHeartbeats 4000000 in
set_option maxRecDepth 100000 in
theorem wr_Grade_productOf {d : Nat} {Q : cm_Q} {z : cm_Z} {I : cm_I} (hz : wz z) {a0 : Nat} {x1 : Int} {x2 : Int} {x3 : Int} {x4 : Int} (p_a0 : 0 < a0) (H : cw d cd_Grade_productOf Q 3 [some (vR 2 a0), some (vI x1), some (vI x2), some (vI x3), some (vI x4), some (vI 0), none] [] (I, z)) : cm_call (d + 1) m_Grade_productOf [vR 2 a0, vI x1, vI x2, vI x3, vI x4] (I, z) Q := by
  refine cm_call_in (C := cd_Grade_productOf) (ls := [some (vR 2 a0), some (vI x1), some (vI x2), some (vI x3), some (vI x4), none, none]) rfl rfl p_a0 rfl ?_
  refine w_iconst rfl ⟨by decide, by decide⟩ ?_
  refine w_istore rfl rfl ?_
  exact H
set_option maxHeartbeats 4000000 in
set_option maxRecDepth 100000 in
theorem wr_Search_begin {d : Nat} {Q : cm_Q} {z : cm_Z} {I : cm_I} (hz : wz z) {a1 : Nat} {a2 : Nat} (p_a2 : isMb a2) (H : (∀ Z1 : cm_Z, Z1 = zr z 185 2 a1 → (∀ I2 : cm_I, I2 = iu I 185 3 (I a2 2) → (∀ I3 : cm_I, I3 = iu I2 185 4 0 → (∀ I4 : cm_I, I4 = iu I3 185 5 0 → Q none (I4, Z1)))))) : cm_call (d + 1) m_Search_begin [vR 6 185, vR 9 a1, vR 3 a2] (I, z) Q := by
  refine cm_call_in (C := cd_Search_begin) (ls := [some (vR 6 185), some (vR 9 a1), some (vR 3 a2)]) rfl rfl (show 0 < 185 by decide) rfl ?_
  refine w_aload rfl rfl ?_
  refine w_aload rfl rfl ?_
  refine n_putR 2 rfl rfl rfl rfl (by decide) (fun Z1 eZ1 => ?_)
  replace H := H Z1 eZ1
  refine w_aload rfl rfl ?_
  refine w_aload rfl rfl ?_
  refine m_getI 2 rfl rfl rfl (isMb_pos p_a2) ?_
  refine m_putI 3 rfl rfl rfl (by decide) (fun I2 eI2 => ?_)
  replace H := H I2 eI2
  refine w_aload rfl rfl ?_
  refine w_iconst rfl ⟨by decide, by decide⟩ ?_
  refine m_putZ 4 rfl rfl rfl (by decide) (by decide) (fun I3 eI3 => ?_)
  replace H := H I3 eI3
  refine w_aload rfl rfl ?_
  refine w_iconst rfl ⟨by decide, by decide⟩ ?_
  refine m_putZ 5 rfl rfl rfl (by decide) (by decide) (fun I4 eI4 => ?_)
  replace H := H I4 eI4
  exact w_return rfl H
set_option maxHeartbeats 4000000 in
set_option maxRecDepth 100000 in
theorem wr_Search_find_29 {d : Nat} {Q : cm_Q} {z : cm_Z} {I : cm_I} (hz : wz z) {x1 : Int}  (H : ((6 < x1 → cw d cd_Search_find Q 55 [some (vR 6 185), some (vI 1)] [] (I, z)) ∧ (x1 ≤ 6 → (zcA d m_Bases_grade [vR 0 66, vI x1] z I 2 fun v3 I1 Z2 => (mU d m_Search_addCandidates [vR 6 185, vR 2 v3] Z2 I1 fun I4 => (cm_i (x1 + 1) ∧ cw d cd_Search_find Q 29 [some (vR 6 185), some (vI (x1 + 1))] [] (I4, Z2))))))) : cw d cd_Search_find Q 29 [some (vR 6 185), some (vI x1)] [] (I, z) := by
  refine w_iload rfl rfl ?_
  refine w_iconst rfl ⟨by decide, by decide⟩ ?_
  refine w_icmp rfl (And.intro (fun hc => ?_) (fun hc => ?_))
  · replace H := H.1 hc
    refine w_iconst rfl ⟨by decide, by decide⟩ ?_
    refine w_istore rfl rfl ?_
    exact H
  · replace H := H.2 hc
    refine w_aload rfl rfl ?_
    refine w_aload rfl rfl ?_
    refine n_getR 0 0 rfl rfl rfl rfl (by decide) (wz_R hz 185 0 66 rfl (by decide)) ?_
    refine w_iload rfl rfl ?_
    refine n_callA rfl (fun _ => rfl) rfl (zcA_mono H fun v3 I1 Z2 H => ?_)
    refine m_callU rfl (fun _ => rfl) rfl (mU_mono H fun I4 H => ?_)
    have o5 := H.1
    replace H := H.2
    refine w_iinc rfl rfl rfl o5 ?_
    refine w_goto rfl ?_
    exact H
set_option maxHeartbeats 4000000 in
set_option maxRecDepth 100000 in
theorem wr_Search_find_55 {d : Nat} {Q : cm_Q} {z : cm_Z} {I : cm_I} (hz : wz z) {x1 : Int} {sh : Nat} (y_185_2 : z.1 185 2 = sh) (p_sh : isSh sh) (H : ((216 < x1 → (((I 185 5) = 0 ∨ (I 185 5) = 1) ∧ Q (some (vI (I 185 5))) (I, z))) ∧ (x1 ≤ 216 → ((¬ (I 185 5) = 0 → (((I 185 5) = 0 ∨ (I 185 5) = 1) ∧ Q (some (vI (I 185 5))) (I, z))) ∧ ((I 185 5) = 0 → ((60 ≤ (I 185 6) → (((I 185 5) = 0 ∨ (I 185 5) = 1) ∧ Q (some (vI (I 185 5))) (I, z))) ∧ ((I 185 6) < 60 → (mI d m_Works_divides [vI (I 185 3), vI x1] z I fun v2 I1 => ((v2 = 0 → (cm_i (x1 + 1) ∧ cw d cd_Search_find Q 55 [some (vR 6 185), some (vI (x1 + 1))] [] (I1, z))) ∧ (¬ v2 = 0 → ((¬ (I1 sh 0) = 3 → (zcI d m_Search_tryPairs [vR 6 185, vI 0, vI x1, vI 0] z I1 fun v6 I4 Z5 => (v6 = 0 ∨ v6 = 1) ∧ (∀ I8 : cm_I, I8 = iu I4 185 5 v6 → (cm_i (x1 + 1) ∧ cw d cd_Search_find Q 55 [some (vR 6 185), some (vI (x1 + 1))] [] (I8, Z5))))) ∧ ((I1 sh 0) = 3 → (zcI d m_Search_tryTriples [vR 6 185, vI x1] z I1 fun v12 I10 Z11 => (v12 = 0 ∨ v12 = 1) ∧ (∀ I14 : cm_I, I14 = iu I10 185 5 v12 → (cm_i (x1 + 1) ∧ cw d cd_Search_find Q 55 [some (vR 6 185), some (vI (x1 + 1))] [] (I14, Z11)))))))))))))))) : cw d cd_Search_find Q 55 [some (vR 6 185), some (vI x1)] [] (I, z) := by
  refine w_iload rfl rfl ?_
  refine w_iconst rfl ⟨by decide, by decide⟩ ?_
  refine w_icmp rfl (And.intro (fun hc => ?_) (fun hc => ?_))
  · replace H := H.1 hc
    refine w_aload rfl rfl ?_
    refine m_getI 5 rfl rfl rfl (by decide) ?_
    exact w_zreturn rfl H.1 H.2
  · replace H := H.2 hc
    refine w_aload rfl rfl ?_
    refine m_getI 5 rfl rfl rfl (by decide) ?_
    refine w_if rfl (And.intro (fun hc => ?_) (fun hc => ?_))
    · replace H := H.1 hc
      refine w_aload rfl rfl ?_
      refine m_getI 5 rfl rfl rfl (by decide) ?_
      exact w_zreturn rfl H.1 H.2
    · replace H := H.2 hc
      refine w_aload rfl rfl ?_
      refine m_getI 6 rfl rfl rfl (by decide) ?_
      refine w_iconst rfl ⟨by decide, by decide⟩ ?_
      refine w_icmp rfl (And.intro (fun hc => ?_) (fun hc => ?_))
      · replace H := H.1 hc
        refine w_aload rfl rfl ?_
        refine m_getI 5 rfl rfl rfl (by decide) ?_
        exact w_zreturn rfl H.1 H.2
      · replace H := H.2 hc
        refine w_aload rfl rfl ?_
        refine m_getI 3 rfl rfl rfl (by decide) ?_
        refine w_iload rfl rfl ?_
        refine m_callI rfl (fun _ => rfl) rfl (mI_mono H fun v2 I1 H => ?_)
        refine w_if rfl (And.intro (fun hc => ?_) (fun hc => ?_))
        · replace H := H.1 hc
          have o3 := H.1
          replace H := H.2
          refine w_iinc rfl rfl rfl o3 ?_
          refine w_goto rfl ?_
          exact H
        · replace H := H.2 hc
          refine w_aload rfl rfl ?_
          refine w_aload rfl rfl ?_
          refine n_getR 2 9 rfl rfl rfl rfl (by decide) y_185_2 ?_
          refine m_getI 0 rfl rfl rfl (isSh_pos p_sh) ?_
          refine w_iconst rfl ⟨by decide, by decide⟩ ?_
          refine w_icmp rfl (And.intro (fun hc => ?_) (fun hc => ?_))
          · replace H := H.1 hc
            refine w_aload rfl rfl ?_
            refine w_iconst rfl ⟨by decide, by decide⟩ ?_
            refine w_iload rfl rfl ?_
            refine w_iconst rfl ⟨by decide, by decide⟩ ?_
            refine n_callI rfl (fun _ => rfl) rfl (zcI_mono H fun v6 I4 Z5 H => ?_)
            have o7 := H.1
            replace H := H.2
            refine m_putZ 5 rfl rfl rfl o7 (by decide) (fun I8 eI8 => ?_)
            replace H := H I8 eI8
            have o9 := H.1
            replace H := H.2
            refine w_iinc rfl rfl rfl o9 ?_
            refine w_goto rfl ?_
            exact H
          · replace H := H.2 hc
            refine w_aload rfl rfl ?_
            refine w_iload rfl rfl ?_
            refine n_callI rfl (fun _ => rfl) rfl (zcI_mono H fun v12 I10 Z11 H => ?_)
            refine w_goto rfl ?_
            have o13 := H.1
            replace H := H.2
            refine m_putZ 5 rfl rfl rfl o13 (by decide) (fun I14 eI14 => ?_)
            replace H := H I14 eI14
            have o15 := H.1
            replace H := H.2
            refine w_iinc rfl rfl rfl o15 ?_
            refine w_goto rfl ?_
            exact H
set_option maxHeartbeats 4000000 in
set_option maxRecDepth 100000 in
theorem wr_Search_find {d : Nat} {Q : cm_Q} {z : cm_Z} {I : cm_I} (hz : wz z)   (H : (((I 185 4) = 0 → (∀ I1 : cm_I, I1 = iu I 185 4 1 → (∀ I2 : cm_I, I2 = iu I1 185 6 0 → (∀ I3 : cm_I, I3 = iu I2 185 7 0 → cw d cd_Search_find Q 29 [some (vR 6 185), some (vI 1)] [] (I3, z))))) ∧ (¬ (I 185 4) = 0 → (((I 185 5) = 0 ∨ (I 185 5) = 1) ∧ Q (some (vI (I 185 5))) (I, z))))) : cm_call (d + 1) m_Search_find [vR 6 185] (I, z) Q := by
  refine cm_call_in (C := cd_Search_find) (ls := [some (vR 6 185), none]) rfl rfl (show 0 < 185 by decide) rfl ?_
  refine w_aload rfl rfl ?_
  refine m_getI 4 rfl rfl rfl (by decide) ?_
  refine w_if rfl (And.intro (fun hc => ?_) (fun hc => ?_))
  · replace H := H.1 hc
    refine w_aload rfl rfl ?_
    refine w_iconst rfl ⟨by decide, by decide⟩ ?_
    refine m_putZ 4 rfl rfl rfl (by decide) (by decide) (fun I1 eI1 => ?_)
    replace H := H I1 eI1
    refine w_aload rfl rfl ?_
    refine w_iconst rfl ⟨by decide, by decide⟩ ?_
    refine m_putI 6 rfl rfl rfl (by decide) (fun I2 eI2 => ?_)
    replace H := H I2 eI2
    refine w_aload rfl rfl ?_
    refine w_iconst rfl ⟨by decide, by decide⟩ ?_
    refine m_putI 7 rfl rfl rfl (by decide) (fun I3 eI3 => ?_)
    replace H := H I3 eI3
    refine w_iconst rfl ⟨by decide, by decide⟩ ?_
    refine w_istore rfl rfl ?_
    exact H
  · replace H := H.2 hc
    refine w_aload rfl rfl ?_
    refine m_getI 5 rfl rfl rfl (by decide) ?_
    exact w_zreturn rfl H.1 H.2
set_option maxHeartbeats 4000000 in
set_option maxRecDepth 100000 in
theorem wr_Search_addCandidates_2 {d : Nat} {Q : cm_Q} {z : cm_Z} {I : cm_I} (hz : wz z) {a1 : Nat} {x2 : Int} (p_a1 : 0 < a1) (H : (((I a1 3) ≤ x2 → Q none (I, z)) ∧ (x2 < (I a1 3) → ((83 ≤ (I 185 7) → Q none (I, z)) ∧ ((I 185 7) < 83 → ((0:Int) ≤ (I 185 7) ∧ (I 185 7) < 83) ∧ (∀ I2 : cm_I, I2 = iu I 186 (I 185 7) (I a1 0) → ((0:Int) ≤ (I2 185 7) ∧ (I2 185 7) < 83) ∧ (∀ I4 : cm_I, I4 = iu I2 187 (I2 185 7) x2 → (cm_i ((I4 185 7) + 1) ∧ (∀ I6 : cm_I, I6 = iu I4 185 7 ((I4 185 7) + 1) → (cm_i (x2 + 1) ∧ cw d cd_Search_addCandidates Q 2 [some (vR 6 185), some (vR 2 a1), some (vI (x2 + 1))] [] (I6, z))))))))))) : cw d cd_Search_addCandidates Q 2 [some (vR 6 185), some (vR 2 a1), some (vI x2)] [] (I, z) := by
  refine w_iload rfl rfl ?_
  refine w_aload rfl rfl ?_
  refine m_getI 3 rfl rfl rfl p_a1 ?_
  refine w_icmp rfl (And.intro (fun hc => ?_) (fun hc => ?_))
  · replace H := H.1 hc
    exact w_return rfl H
  · replace H := H.2 hc
    refine w_aload rfl rfl ?_
    refine m_getI 7 rfl rfl rfl (by decide) ?_
    refine w_iconst rfl ⟨by decide, by decide⟩ ?_
    refine w_icmp rfl (And.intro (fun hc => ?_) (fun hc => ?_))
    · replace H := H.1 hc
      exact w_return rfl H
    · replace H := H.2 hc
      refine w_aload rfl rfl ?_
      refine n_getR 8 20 rfl rfl rfl rfl (by decide) (wz_R hz 185 8 186 rfl (by decide)) ?_
      refine w_aload rfl rfl ?_
      refine m_getI 7 rfl rfl rfl (by decide) ?_
      refine w_aload rfl rfl ?_
      refine m_getI 0 rfl rfl rfl p_a1 ?_
      have o1 := H.1
      replace H := H.2
      refine n_iastore rfl (by decide) (wz_L hz 186 83 rfl (by decide)) o1 (fun I2 eI2 => ?_)
      replace H := H I2 eI2
      refine w_aload rfl rfl ?_
      refine n_getR 9 20 rfl rfl rfl rfl (by decide) (wz_R hz 185 9 187 rfl (by decide)) ?_
      refine w_aload rfl rfl ?_
      refine m_getI 7 rfl rfl rfl (by decide) ?_
      refine w_iload rfl rfl ?_
      have o3 := H.1
      replace H := H.2
      refine n_iastore rfl (by decide) (wz_L hz 187 83 rfl (by decide)) o3 (fun I4 eI4 => ?_)
      replace H := H I4 eI4
      refine w_aload rfl rfl ?_
      refine w_dup rfl rfl ?_
      refine m_getI 7 rfl rfl rfl (by decide) ?_
      refine w_iconst rfl ⟨by decide, by decide⟩ ?_
      have o5 := H.1
      replace H := H.2
      refine w_iadd rfl o5 ?_
      refine m_putI 7 rfl rfl rfl (by decide) (fun I6 eI6 => ?_)
      replace H := H I6 eI6
      have o7 := H.1
      replace H := H.2
      refine w_iinc rfl rfl rfl o7 ?_
      refine w_goto rfl ?_
      exact H
set_option maxHeartbeats 4000000 in
set_option maxRecDepth 100000 in
theorem wr_Search_addCandidates {d : Nat} {Q : cm_Q} {z : cm_Z} {I : cm_I} (hz : wz z) {a1 : Nat}  (H : cw d cd_Search_addCandidates Q 2 [some (vR 6 185), some (vR 2 a1), some (vI 0)] [] (I, z)) : cm_call (d + 1) m_Search_addCandidates [vR 6 185, vR 2 a1] (I, z) Q := by
  refine cm_call_in (C := cd_Search_addCandidates) (ls := [some (vR 6 185), some (vR 2 a1), none]) rfl rfl (show 0 < 185 by decide) rfl ?_
  refine w_iconst rfl ⟨by decide, by decide⟩ ?_
  refine w_istore rfl rfl ?_
  exact H
set_option maxHeartbeats 4000000 in
set_option maxRecDepth 100000 in
theorem wr_Search_tryTriples_2 {d : Nat} {Q : cm_Q} {z : cm_Z} {I : cm_I} (hz : wz z) {x1 : Int} {x2 : Int}  (H : (((I 185 7) ≤ x2 → Q (some (vI 0)) (I, z)) ∧ (x2 < (I 185 7) → ((60 ≤ (I 185 6) → Q (some (vI 0)) (I, z)) ∧ ((I 185 6) < 60 → ((0:Int) ≤ x2 ∧ x2 < 83) ∧ (mI d m_Works_divides [vI (I 186 x2), vI x1] z I fun v3 I2 => ((v3 = 0 → (cm_i (x2 + 1) ∧ cw d cd_Search_tryTriples Q 2 [some (vR 6 185), some (vI x1), some (vI (x2 + 1))] [] (I2, z))) ∧ (¬ v3 = 0 → (zcU d m_Search_choose [vR 6 185, vI 0, vI x2] z I2 fun I5 Z6 => (cm_i (x2 + 1) ∧ (wz Z6 ∧ (0 < (I5 186 x2) ∧ (zcI d m_Search_tryPairs [vR 6 185, vI (x2 + 1), vI (Int.tdiv x1 (I5 186 x2)), vI 1] Z6 I5 fun v12 I10 Z11 => ((v12 = 0 → cw d cd_Search_tryTriples Q 2 [some (vR 6 185), some (vI x1), some (vI (x2 + 1))] [] (I10, Z11)) ∧ (¬ v12 = 0 → Q (some (vI 1)) (I10, Z11)))))))))))))))) : cw d cd_Search_tryTriples Q 2 [some (vR 6 185), some (vI x1), some (vI x2)] [] (I, z) := by
  refine w_iload rfl rfl ?_
  refine w_aload rfl rfl ?_
  refine m_getI 7 rfl rfl rfl (by decide) ?_
  refine w_icmp rfl (And.intro (fun hc => ?_) (fun hc => ?_))
  · replace H := H.1 hc
    refine w_iconst rfl ⟨by decide, by decide⟩ ?_
    exact w_zreturn rfl (by decide) H
  · replace H := H.2 hc
    refine w_aload rfl rfl ?_
    refine m_getI 6 rfl rfl rfl (by decide) ?_
    refine w_iconst rfl ⟨by decide, by decide⟩ ?_
    refine w_icmp rfl (And.intro (fun hc => ?_) (fun hc => ?_))
    · replace H := H.1 hc
      refine w_iconst rfl ⟨by decide, by decide⟩ ?_
      exact w_zreturn rfl (by decide) H
    · replace H := H.2 hc
      refine w_aload rfl rfl ?_
      refine n_getR 8 20 rfl rfl rfl rfl (by decide) (wz_R hz 185 8 186 rfl (by decide)) ?_
      refine w_iload rfl rfl ?_
      have o1 := H.1
      replace H := H.2
      refine n_iaload rfl (by decide) (wz_L hz 186 83 rfl (by decide)) o1 ?_
      refine w_iload rfl rfl ?_
      refine m_callI rfl (fun _ => rfl) rfl (mI_mono H fun v3 I2 H => ?_)
      refine w_if rfl (And.intro (fun hc => ?_) (fun hc => ?_))
      · replace H := H.1 hc
        have o4 := H.1
        replace H := H.2
        refine w_iinc rfl rfl rfl o4 ?_
        refine w_goto rfl ?_
        exact H
      · replace H := H.2 hc
        refine w_aload rfl rfl ?_
        refine w_iconst rfl ⟨by decide, by decide⟩ ?_
        refine w_iload rfl rfl ?_
        refine n_callU rfl (fun _ => rfl) rfl (zcU_mono H fun I5 Z6 H => ?_)
        refine w_aload rfl rfl ?_
        refine w_iload rfl rfl ?_
        refine w_iconst rfl ⟨by decide, by decide⟩ ?_
        have o7 := H.1
        replace H := H.2
        refine w_iadd rfl o7 ?_
        refine w_iload rfl rfl ?_
        refine w_aload rfl rfl ?_
        have o8 := H.1
        replace H := H.2
        refine n_getR 8 20 rfl rfl rfl rfl (by decide) (wz_R o8 185 8 186 rfl (by decide)) ?_
        refine w_iload rfl rfl ?_
        refine n_iaload rfl (by decide) (wz_L o8 186 83 rfl (by decide)) o1 ?_
        have o9 := H.1
        replace H := H.2
        refine w_idiv rfl o9 ?_
        refine w_iconst rfl ⟨by decide, by decide⟩ ?_
        refine n_callI rfl (fun _ => rfl) rfl (zcI_mono H fun v12 I10 Z11 H => ?_)
        refine w_if rfl (And.intro (fun hc => ?_) (fun hc => ?_))
        · replace H := H.1 hc
          refine w_iinc rfl rfl rfl o7 ?_
          refine w_goto rfl ?_
          exact H
        · replace H := H.2 hc
          refine w_iconst rfl ⟨by decide, by decide⟩ ?_
          exact w_zreturn rfl (by decide) H
set_option maxHeartbeats 4000000 in
set_option maxRecDepth 100000 in
theorem wr_Search_tryTriples {d : Nat} {Q : cm_Q} {z : cm_Z} {I : cm_I} (hz : wz z) {x1 : Int}  (H : cw d cd_Search_tryTriples Q 2 [some (vR 6 185), some (vI x1), some (vI 0)] [] (I, z)) : cm_call (d + 1) m_Search_tryTriples [vR 6 185, vI x1] (I, z) Q := by
  refine cm_call_in (C := cd_Search_tryTriples) (ls := [some (vR 6 185), some (vI x1), none]) rfl rfl (show 0 < 185 by decide) rfl ?_
  refine w_iconst rfl ⟨by decide, by decide⟩ ?_
  refine w_istore rfl rfl ?_
  exact H
set_option maxHeartbeats 4000000 in
set_option maxRecDepth 100000 in
theorem wr_Search_tryPairs_3 {d : Nat} {Q : cm_Q} {z : cm_Z} {I : cm_I} (hz : wz z) {z1 : Option cm_V} {x2 : Int} {x3 : Int} {x4 : Int} {z5 : Option cm_V} {z6 : Option cm_V}  (H : (((I 185 7) ≤ x4 → Q (some (vI 0)) (I, z)) ∧ (x4 < (I 185 7) → ((0:Int) ≤ x4 ∧ x4 < 83) ∧ (mI d m_Works_divides [vI (I 186 x4), vI x2] z I fun v3 I2 => ((¬ v3 = 0 → (0 < (I2 186 x4) ∧ (zcU d m_Search_choose [vR 6 185, vI x3, vI x4] z I2 fun I5 Z6 => (cm_i (x4 + 1) ∧ cw d cd_Search_tryPairs Q 53 [some (vR 6 185), z1, some (vI x2), some (vI x3), some (vI x4), some (vI (Int.tdiv x2 (I2 186 x4))), some (vI (x4 + 1))] [] (I5, Z6))))) ∧ (v3 = 0 → (cm_i (x4 + 1) ∧ cw d cd_Search_tryPairs Q 3 [some (vR 6 185), z1, some (vI x2), some (vI x3), some (vI (x4 + 1)), z5, z6] [] (I2, z)))))))) : cw d cd_Search_tryPairs Q 3 [some (vR 6 185), z1, some (vI x2), some (vI x3), some (vI x4), z5, z6] [] (I, z) := by
  refine w_iload rfl rfl ?_
  refine w_aload rfl rfl ?_
  refine m_getI 7 rfl rfl rfl (by decide) ?_
  refine w_icmp rfl (And.intro (fun hc => ?_) (fun hc => ?_))
  · replace H := H.1 hc
    refine w_iconst rfl ⟨by decide, by decide⟩ ?_
    exact w_zreturn rfl (by decide) H
  · replace H := H.2 hc
    refine w_aload rfl rfl ?_
    refine n_getR 8 20 rfl rfl rfl rfl (by decide) (wz_R hz 185 8 186 rfl (by decide)) ?_
    refine w_iload rfl rfl ?_
    have o1 := H.1
    replace H := H.2
    refine n_iaload rfl (by decide) (wz_L hz 186 83 rfl (by decide)) o1 ?_
    refine w_iload rfl rfl ?_
    refine m_callI rfl (fun _ => rfl) rfl (mI_mono H fun v3 I2 H => ?_)
    refine w_if rfl (And.intro (fun hc => ?_) (fun hc => ?_))
    · replace H := H.1 hc
      refine w_iload rfl rfl ?_
      refine w_aload rfl rfl ?_
      refine n_getR 8 20 rfl rfl rfl rfl (by decide) (wz_R hz 185 8 186 rfl (by decide)) ?_
      refine w_iload rfl rfl ?_
      refine n_iaload rfl (by decide) (wz_L hz 186 83 rfl (by decide)) o1 ?_
      have o4 := H.1
      replace H := H.2
      refine w_idiv rfl o4 ?_
      refine w_istore rfl rfl ?_
      refine w_aload rfl rfl ?_
      refine w_iload rfl rfl ?_
      refine w_iload rfl rfl ?_
      refine n_callU rfl (fun _ => rfl) rfl (zcU_mono H fun I5 Z6 H => ?_)
      refine w_iload rfl rfl ?_
      refine w_iconst rfl ⟨by decide, by decide⟩ ?_
      have o7 := H.1
      replace H := H.2
      refine w_iadd rfl o7 ?_
      refine w_istore rfl rfl ?_
      exact H
    · replace H := H.2 hc
      refine w_goto rfl ?_
      have o8 := H.1
      replace H := H.2
      refine w_iinc rfl rfl rfl o8 ?_
      refine w_goto rfl ?_
      exact H
set_option maxHeartbeats 4000000 in
set_option maxRecDepth 100000 in
theorem wr_Search_tryPairs_53 {d : Nat} {Q : cm_Q} {z : cm_Z} {I : cm_I} (hz : wz z) {z1 : Option cm_V} {x2 : Int} {x3 : Int} {x4 : Int} {x5 : Int} {x6 : Int}  (H : (((I 185 7) ≤ x6 → (cm_i (x4 + 1) ∧ cw d cd_Search_tryPairs Q 3 [some (vR 6 185), z1, some (vI x2), some (vI x3), some (vI (x4 + 1)), some (vI x5), some (vI x6)] [] (I, z))) ∧ (x6 < (I 185 7) → ((0:Int) ≤ x6 ∧ x6 < 83) ∧ (((I 186 x6) = x5 → ((¬ (I 185 6) = 60 → (cm_i ((I 185 6) + 1) ∧ (∀ I4 : cm_I, I4 = iu I 185 6 ((I 185 6) + 1) → (cm_i (x3 + 1) ∧ (zcU d m_Search_choose [vR 6 185, vI (x3 + 1), vI x6] z I4 fun I6 Z7 => (zcI d m_Search_isSpanning [vR 6 185] Z7 I6 fun v10 I8 Z9 => ((v10 = 0 → (cm_i (x6 + 1) ∧ cw d cd_Search_tryPairs Q 53 [some (vR 6 185), z1, some (vI x2), some (vI x3), some (vI x4), some (vI x5), some (vI (x6 + 1))] [] (I8, Z9))) ∧ (¬ v10 = 0 → Q (some (vI 1)) (I8, Z9))))))))) ∧ ((I 185 6) = 60 → Q (some (vI 0)) (I, z)))) ∧ (¬ (I 186 x6) = x5 → (cm_i (x6 + 1) ∧ cw d cd_Search_tryPairs Q 53 [some (vR 6 185), z1, some (vI x2), some (vI x3), some (vI x4), some (vI x5), some (vI (x6 + 1))] [] (I, z))))))) : cw d cd_Search_tryPairs Q 53 [some (vR 6 185), z1, some (vI x2), some (vI x3), some (vI x4), some (vI x5), some (vI x6)] [] (I, z) := by
  refine w_iload rfl rfl ?_
  refine w_aload rfl rfl ?_
  refine m_getI 7 rfl rfl rfl (by decide) ?_
  refine w_icmp rfl (And.intro (fun hc => ?_) (fun hc => ?_))
  · replace H := H.1 hc
    have o1 := H.1
    replace H := H.2
    refine w_iinc rfl rfl rfl o1 ?_
    refine w_goto rfl ?_
    exact H
  · replace H := H.2 hc
    refine w_aload rfl rfl ?_
    refine n_getR 8 20 rfl rfl rfl rfl (by decide) (wz_R hz 185 8 186 rfl (by decide)) ?_
    refine w_iload rfl rfl ?_
    have o2 := H.1
    replace H := H.2
    refine n_iaload rfl (by decide) (wz_L hz 186 83 rfl (by decide)) o2 ?_
    refine w_iload rfl rfl ?_
    refine w_icmp rfl (And.intro (fun hc => ?_) (fun hc => ?_))
    · replace H := H.1 hc
      refine w_aload rfl rfl ?_
      refine m_getI 6 rfl rfl rfl (by decide) ?_
      refine w_iconst rfl ⟨by decide, by decide⟩ ?_
      refine w_icmp rfl (And.intro (fun hc => ?_) (fun hc => ?_))
      · replace H := H.1 hc
        refine w_aload rfl rfl ?_
        refine w_dup rfl rfl ?_
        refine m_getI 6 rfl rfl rfl (by decide) ?_
        refine w_iconst rfl ⟨by decide, by decide⟩ ?_
        have o3 := H.1
        replace H := H.2
        refine w_iadd rfl o3 ?_
        refine m_putI 6 rfl rfl rfl (by decide) (fun I4 eI4 => ?_)
        replace H := H I4 eI4
        refine w_aload rfl rfl ?_
        refine w_iload rfl rfl ?_
        refine w_iconst rfl ⟨by decide, by decide⟩ ?_
        have o5 := H.1
        replace H := H.2
        refine w_iadd rfl o5 ?_
        refine w_iload rfl rfl ?_
        refine n_callU rfl (fun _ => rfl) rfl (zcU_mono H fun I6 Z7 H => ?_)
        refine w_aload rfl rfl ?_
        refine n_callI rfl (fun _ => rfl) rfl (zcI_mono H fun v10 I8 Z9 H => ?_)
        refine w_if rfl (And.intro (fun hc => ?_) (fun hc => ?_))
        · replace H := H.1 hc
          have o11 := H.1
          replace H := H.2
          refine w_iinc rfl rfl rfl o11 ?_
          refine w_goto rfl ?_
          exact H
        · replace H := H.2 hc
          refine w_iconst rfl ⟨by decide, by decide⟩ ?_
          exact w_zreturn rfl (by decide) H
      · replace H := H.2 hc
        refine w_iconst rfl ⟨by decide, by decide⟩ ?_
        exact w_zreturn rfl (by decide) H
    · replace H := H.2 hc
      refine w_goto rfl ?_
      have o12 := H.1
      replace H := H.2
      refine w_iinc rfl rfl rfl o12 ?_
      refine w_goto rfl ?_
      exact H
set_option maxHeartbeats 4000000 in
set_option maxRecDepth 100000 in
theorem wr_Search_tryPairs {d : Nat} {Q : cm_Q} {z : cm_Z} {I : cm_I} (hz : wz z) {x1 : Int} {x2 : Int} {x3 : Int}  (H : cw d cd_Search_tryPairs Q 3 [some (vR 6 185), some (vI x1), some (vI x2), some (vI x3), some (vI x1), none, none] [] (I, z)) : cm_call (d + 1) m_Search_tryPairs [vR 6 185, vI x1, vI x2, vI x3] (I, z) Q := by
  refine cm_call_in (C := cd_Search_tryPairs) (ls := [some (vR 6 185), some (vI x1), some (vI x2), some (vI x3), none, none, none]) rfl rfl (show 0 < 185 by decide) rfl ?_
  refine w_iload rfl rfl ?_
  refine w_istore rfl rfl ?_
  exact H
set_option maxHeartbeats 4000000 in
set_option maxRecDepth 100000 in
theorem wr_Search_choose {d : Nat} {Q : cm_Q} {z : cm_Z} {I : cm_I} (hz : wz z) {x1 : Int} {x2 : Int}  (H : ((0:Int) ≤ x2 ∧ x2 < 83) ∧ ((0:Int) ≤ x1 ∧ x1 < 3) ∧ (∀ I3 : cm_I, I3 = iu I 190 x1 (I 186 x2) → (∀ I4 : cm_I, I4 = iu I3 191 x1 (I3 187 x2) → ((0:Int) ≤ (I4 190 x1) ∧ (I4 190 x1) < 16) ∧ (cm_i ((I4 (73 + 7 * Int.toNat (I4 190 x1)) 2) * (I4 191 x1)) ∧ (zcU d m_Piece_put [vR 5 (192 + 2 * Int.toNat x1), vR 20 (z.1 (73 + 7 * Int.toNat (I4 190 x1)) 4), vI ((I4 (73 + 7 * Int.toNat (I4 190 x1)) 2) * (I4 191 x1)), vI (I4 (73 + 7 * Int.toNat (I4 190 x1)) 0)] z I4 fun I7 Z8 => Q none (I7, Z8)))))) : cm_call (d + 1) m_Search_choose [vR 6 185, vI x1, vI x2] (I, z) Q := by
  refine cm_call_in (C := cd_Search_choose) (ls := [some (vR 6 185), some (vI x1), some (vI x2), none]) rfl rfl (show 0 < 185 by decide) rfl ?_
  refine w_aload rfl rfl ?_
  refine n_getR 12 20 rfl rfl rfl rfl (by decide) (wz_R hz 185 12 190 rfl (by decide)) ?_
  refine w_iload rfl rfl ?_
  refine w_aload rfl rfl ?_
  refine n_getR 8 20 rfl rfl rfl rfl (by decide) (wz_R hz 185 8 186 rfl (by decide)) ?_
  refine w_iload rfl rfl ?_
  have o1 := H.1
  replace H := H.2
  refine n_iaload rfl (by decide) (wz_L hz 186 83 rfl (by decide)) o1 ?_
  have o2 := H.1
  replace H := H.2
  refine n_iastore rfl (by decide) (wz_L hz 190 3 rfl (by decide)) o2 (fun I3 eI3 => ?_)
  replace H := H I3 eI3
  refine w_aload rfl rfl ?_
  refine n_getR 13 20 rfl rfl rfl rfl (by decide) (wz_R hz 185 13 191 rfl (by decide)) ?_
  refine w_iload rfl rfl ?_
  refine w_aload rfl rfl ?_
  refine n_getR 9 20 rfl rfl rfl rfl (by decide) (wz_R hz 185 9 187 rfl (by decide)) ?_
  refine w_iload rfl rfl ?_
  refine n_iaload rfl (by decide) (wz_L hz 187 83 rfl (by decide)) o1 ?_
  refine n_iastore rfl (by decide) (wz_L hz 191 3 rfl (by decide)) o2 (fun I4 eI4 => ?_)
  replace H := H I4 eI4
  refine w_aload rfl rfl ?_
  refine n_getR 0 0 rfl rfl rfl rfl (by decide) (wz_R hz 185 0 66 rfl (by decide)) ?_
  refine n_getR 5 24 rfl rfl rfl rfl (by decide) (wz_R hz 66 5 68 rfl (by decide)) ?_
  refine w_aload rfl rfl ?_
  refine n_getR 12 20 rfl rfl rfl rfl (by decide) (wz_R hz 185 12 190 rfl (by decide)) ?_
  refine w_iload rfl rfl ?_
  refine n_iaload rfl (by decide) (wz_L hz 190 3 rfl (by decide)) o2 ?_
  have o5 := H.1
  replace H := H.2
  refine n_aaload rfl rfl rfl (by decide) (wz_L hz 68 16 rfl (by decide)) o5 (wz_grades hz o5) ?_
  refine w_astore rfl rfl ?_
  refine w_aload rfl rfl ?_
  refine n_getR 11 25 rfl rfl rfl rfl (by decide) (wz_R hz 185 11 189 rfl (by decide)) ?_
  refine w_iload rfl rfl ?_
  refine n_aaload rfl rfl rfl (by decide) (wz_L hz 189 3 rfl (by decide)) o2 (wz_pieces hz o2) ?_
  refine w_aload rfl rfl ?_
  refine n_getR 4 20 rfl rfl rfl rfl (by omega) rfl ?_
  refine w_aload rfl rfl ?_
  refine m_getI 2 rfl rfl rfl (by omega) ?_
  refine w_aload rfl rfl ?_
  refine n_getR 13 20 rfl rfl rfl rfl (by decide) (wz_R hz 185 13 191 rfl (by decide)) ?_
  refine w_iload rfl rfl ?_
  refine n_iaload rfl (by decide) (wz_L hz 191 3 rfl (by decide)) o2 ?_
  have o6 := H.1
  replace H := H.2
  refine w_imul rfl o6 ?_
  refine w_aload rfl rfl ?_
  refine m_getI 0 rfl rfl rfl (by omega) ?_
  refine n_callU rfl (fun _ => rfl) rfl (zcU_mono H fun I7 Z8 H => ?_)
  exact w_return rfl H
set_option maxHeartbeats 4000000 in
set_option maxRecDepth 100000 in
theorem wr_Search_isSpanning_12 {d : Nat} {Q : cm_Q} {z : cm_Z} {I : cm_I} (hz : wz z) {x1 : Int} {x2 : Int} {z3 : Option cm_V} {z4 : Option cm_V} {z5 : Option cm_V} {z6 : Option cm_V} {sh : Nat} (y_185_2 : z.1 185 2 = sh) (p_sh : isSh sh) (H : (((I sh 0) ≤ x2 → (mI d m_Search_isCornerMissing [vR 6 185] z I fun v2 I1 => ((v2 = 0 → (cm_i (x1 + 1) ∧ ((0:Int) ≤ (x1 + 1) ∧ (x1 + 1) < 19) ∧ cw d cd_Search_isSpanning Q 67 [some (vR 6 185), some (vI x1), some (vI (I1 (sh + 1) (x1 + 1))), some (vI 0), some (vI 0), z5, z6] [] (I1, z))) ∧ (¬ v2 = 0 → Q (some (vI 0)) (I1, z))))) ∧ (x2 < (I sh 0) → ((0:Int) ≤ x2 ∧ x2 < 3) ∧ (cm_i (x1 + (I (192 + 2 * Int.toNat x2) 2)) ∧ (cm_i (x2 + 1) ∧ cw d cd_Search_isSpanning Q 12 [some (vR 6 185), some (vI (x1 + (I (192 + 2 * Int.toNat x2) 2))), some (vI (x2 + 1)), z3, z4, z5, z6] [] (I, z)))))) : cw d cd_Search_isSpanning Q 12 [some (vR 6 185), some (vI x1), some (vI x2), z3, z4, z5, z6] [] (I, z) := by
  refine w_iload rfl rfl ?_
  refine w_aload rfl rfl ?_
  refine n_getR 2 9 rfl rfl rfl rfl (by decide) y_185_2 ?_
  refine m_getI 0 rfl rfl rfl (isSh_pos p_sh) ?_
  refine w_icmp rfl (And.intro (fun hc => ?_) (fun hc => ?_))
  · replace H := H.1 hc
    refine w_aload rfl rfl ?_
    refine m_callI rfl (fun _ => rfl) rfl (mI_mono H fun v2 I1 H => ?_)
    refine w_if rfl (And.intro (fun hc => ?_) (fun hc => ?_))
    · replace H := H.1 hc
      refine w_aload rfl rfl ?_
      refine n_getR 2 9 rfl rfl rfl rfl (by decide) y_185_2 ?_
      refine n_getR 2 20 rfl rfl rfl rfl (isSh_pos p_sh) (wz_sh2 hz p_sh) ?_
      refine w_iload rfl rfl ?_
      refine w_iconst rfl ⟨by decide, by decide⟩ ?_
      have o3 := H.1
      replace H := H.2
      refine w_iadd rfl o3 ?_
      have o4 := H.1
      replace H := H.2
      refine n_iaload rfl (Nat.add_pos_right _ (by decide)) (wz_shL1 hz p_sh) o4 ?_
      refine w_istore rfl rfl ?_
      refine w_iconst rfl ⟨by decide, by decide⟩ ?_
      refine w_istore rfl rfl ?_
      refine w_iconst rfl ⟨by decide, by decide⟩ ?_
      refine w_istore rfl rfl ?_
      exact H
    · replace H := H.2 hc
      refine w_iconst rfl ⟨by decide, by decide⟩ ?_
      exact w_zreturn rfl (by decide) H
  · replace H := H.2 hc
    refine w_iload rfl rfl ?_
    refine w_aload rfl rfl ?_
    refine n_getR 11 25 rfl rfl rfl rfl (by decide) (wz_R hz 185 11 189 rfl (by decide)) ?_
    refine w_iload rfl rfl ?_
    have o5 := H.1
    replace H := H.2
    refine n_aaload rfl rfl rfl (by decide) (wz_L hz 189 3 rfl (by decide)) o5 (wz_pieces hz o5) ?_
    refine m_getI 2 rfl rfl rfl (by omega) ?_
    have o6 := H.1
    replace H := H.2
    refine w_iadd rfl o6 ?_
    refine w_istore rfl rfl ?_
    have o7 := H.1
    replace H := H.2
    refine w_iinc rfl rfl rfl o7 ?_
    refine w_goto rfl ?_
    exact H
set_option maxHeartbeats 4000000 in
set_option maxRecDepth 100000 in
theorem wr_Search_isSpanning_67 {d : Nat} {Q : cm_Q} {z : cm_Z} {I : cm_I} (hz : wz z) {x1 : Int} {x2 : Int} {x3 : Int} {x4 : Int} {z5 : Option cm_V} {z6 : Option cm_V} {sh : Nat} (y_185_2 : z.1 185 2 = sh) (p_sh : isSh sh) (H : (((I sh 0) ≤ x4 → ((¬ (I sh 0) = 2 → (zcU d m_Echelon_begin [vR 1 63, vI x2, vI 0] z I fun I1 Z2 => cw d cd_Search_isSpanning Q 137 [some (vR 6 185), some (vI x1), some (vI x2), some (vI x3), some (vI 0), z5, z6] [] (I1, Z2))) ∧ ((I sh 0) = 2 → (zcU d m_Echelon_begin [vR 1 63, vI x2, vI 1] z I fun I3 Z4 => cw d cd_Search_isSpanning Q 137 [some (vR 6 185), some (vI x1), some (vI x2), some (vI x3), some (vI 0), z5, z6] [] (I3, Z4))))) ∧ (x4 < (I sh 0) → ((0:Int) ≤ x4 ∧ x4 < 3) ∧ (cm_i (x1 - (I (192 + 2 * Int.toNat x4) 2)) ∧ (cm_i ((x1 - (I (192 + 2 * Int.toNat x4) 2)) + 1) ∧ ((0:Int) ≤ ((x1 - (I (192 + 2 * Int.toNat x4) 2)) + 1) ∧ ((x1 - (I (192 + 2 * Int.toNat x4) 2)) + 1) < 19) ∧ (cm_i (x3 + (I (sh + 1) ((x1 - (I (192 + 2 * Int.toNat x4) 2)) + 1))) ∧ (cm_i (x4 + 1) ∧ cw d cd_Search_isSpanning Q 67 [some (vR 6 185), some (vI x1), some (vI x2), some (vI (x3 + (I (sh + 1) ((x1 - (I (192 + 2 * Int.toNat x4) 2)) + 1)))), some (vI (x4 + 1)), z5, z6] [] (I, z)))))))) : cw d cd_Search_isSpanning Q 67 [some (vR 6 185), some (vI x1), some (vI x2), some (vI x3), some (vI x4), z5, z6] [] (I, z) := by
  refine w_iload rfl rfl ?_
  refine w_aload rfl rfl ?_
  refine n_getR 2 9 rfl rfl rfl rfl (by decide) y_185_2 ?_
  refine m_getI 0 rfl rfl rfl (isSh_pos p_sh) ?_
  refine w_icmp rfl (And.intro (fun hc => ?_) (fun hc => ?_))
  · replace H := H.1 hc
    refine w_aload rfl rfl ?_
    refine n_getR 1 1 rfl rfl rfl rfl (by decide) (wz_R hz 185 1 63 rfl (by decide)) ?_
    refine w_iload rfl rfl ?_
    refine w_aload rfl rfl ?_
    refine n_getR 2 9 rfl rfl rfl rfl (by decide) y_185_2 ?_
    refine m_getI 0 rfl rfl rfl (isSh_pos p_sh) ?_
    refine w_iconst rfl ⟨by decide, by decide⟩ ?_
    refine w_icmp rfl (And.intro (fun hc => ?_) (fun hc => ?_))
    · replace H := H.1 hc
      refine w_iconst rfl ⟨by decide, by decide⟩ ?_
      refine n_callU rfl (fun _ => rfl) rfl (zcU_mono H fun I1 Z2 H => ?_)
      refine w_iconst rfl ⟨by decide, by decide⟩ ?_
      refine w_istore rfl rfl ?_
      exact H
    · replace H := H.2 hc
      refine w_iconst rfl ⟨by decide, by decide⟩ ?_
      refine w_goto rfl ?_
      refine n_callU rfl (fun _ => rfl) rfl (zcU_mono H fun I3 Z4 H => ?_)
      refine w_iconst rfl ⟨by decide, by decide⟩ ?_
      refine w_istore rfl rfl ?_
      exact H
  · replace H := H.2 hc
    refine w_iload rfl rfl ?_
    refine w_aload rfl rfl ?_
    refine n_getR 2 9 rfl rfl rfl rfl (by decide) y_185_2 ?_
    refine n_getR 2 20 rfl rfl rfl rfl (isSh_pos p_sh) (wz_sh2 hz p_sh) ?_
    refine w_iload rfl rfl ?_
    refine w_aload rfl rfl ?_
    refine n_getR 11 25 rfl rfl rfl rfl (by decide) (wz_R hz 185 11 189 rfl (by decide)) ?_
    refine w_iload rfl rfl ?_
    have o5 := H.1
    replace H := H.2
    refine n_aaload rfl rfl rfl (by decide) (wz_L hz 189 3 rfl (by decide)) o5 (wz_pieces hz o5) ?_
    refine m_getI 2 rfl rfl rfl (by omega) ?_
    have o6 := H.1
    replace H := H.2
    refine w_isub rfl o6 ?_
    refine w_iconst rfl ⟨by decide, by decide⟩ ?_
    have o7 := H.1
    replace H := H.2
    refine w_iadd rfl o7 ?_
    have o8 := H.1
    replace H := H.2
    refine n_iaload rfl (Nat.add_pos_right _ (by decide)) (wz_shL1 hz p_sh) o8 ?_
    have o9 := H.1
    replace H := H.2
    refine w_iadd rfl o9 ?_
    refine w_istore rfl rfl ?_
    have o10 := H.1
    replace H := H.2
    refine w_iinc rfl rfl rfl o10 ?_
    refine w_goto rfl ?_
    exact H
set_option maxHeartbeats 4000000 in
set_option maxRecDepth 100000 in
theorem wr_Search_isSpanning_137 {d : Nat} {Q : cm_Q} {z : cm_Z} {I : cm_I} (hz : wz z) {x1 : Int} {x2 : Int} {x3 : Int} {x4 : Int} {z5 : Option cm_V} {z6 : Option cm_V} {sh : Nat} (y_185_2 : z.1 185 2 = sh) (p_sh : isSh sh) (H : (((I sh 0) ≤ x4 → ((¬ (I 63 1) = x2 → Q (some (vI 0)) (I, z)) ∧ ((I 63 1) = x2 → Q (some (vI 1)) (I, z)))) ∧ (x4 < (I sh 0) → ((0:Int) ≤ x4 ∧ x4 < 3) ∧ (cm_i (x1 - (I (192 + 2 * Int.toNat x4) 2)) ∧ (cm_i ((x1 - (I (192 + 2 * Int.toNat x4) 2)) + 1) ∧ ((0:Int) ≤ ((x1 - (I (192 + 2 * Int.toNat x4) 2)) + 1) ∧ ((x1 - (I (192 + 2 * Int.toNat x4) 2)) + 1) < 19) ∧ cw d cd_Search_isSpanning Q 176 [some (vR 6 185), some (vI x1), some (vI x2), some (vI x3), some (vI x4), some (vI (I (sh + 1) ((x1 - (I (192 + 2 * Int.toNat x4) 2)) + 1))), some (vI 0)] [] (I, z)))))) : cw d cd_Search_isSpanning Q 137 [some (vR 6 185), some (vI x1), some (vI x2), some (vI x3), some (vI x4), z5, z6] [] (I, z) := by
  refine w_iload rfl rfl ?_
  refine w_aload rfl rfl ?_
  refine n_getR 2 9 rfl rfl rfl rfl (by decide) y_185_2 ?_
  refine m_getI 0 rfl rfl rfl (isSh_pos p_sh) ?_
  refine w_icmp rfl (And.intro (fun hc => ?_) (fun hc => ?_))
  · replace H := H.1 hc
    refine w_aload rfl rfl ?_
    refine n_getR 1 1 rfl rfl rfl rfl (by decide) (wz_R hz 185 1 63 rfl (by decide)) ?_
    refine m_getI 1 rfl rfl rfl (by decide) ?_
    refine w_iload rfl rfl ?_
    refine w_icmp rfl (And.intro (fun hc => ?_) (fun hc => ?_))
    · replace H := H.1 hc
      refine w_iconst rfl ⟨by decide, by decide⟩ ?_
      exact w_zreturn rfl (by decide) H
    · replace H := H.2 hc
      refine w_iconst rfl ⟨by decide, by decide⟩ ?_
      refine w_goto rfl ?_
      exact w_zreturn rfl (by decide) H
  · replace H := H.2 hc
    refine w_aload rfl rfl ?_
    refine n_getR 2 9 rfl rfl rfl rfl (by decide) y_185_2 ?_
    refine n_getR 2 20 rfl rfl rfl rfl (isSh_pos p_sh) (wz_sh2 hz p_sh) ?_
    refine w_iload rfl rfl ?_
    refine w_aload rfl rfl ?_
    refine n_getR 11 25 rfl rfl rfl rfl (by decide) (wz_R hz 185 11 189 rfl (by decide)) ?_
    refine w_iload rfl rfl ?_
    have o1 := H.1
    replace H := H.2
    refine n_aaload rfl rfl rfl (by decide) (wz_L hz 189 3 rfl (by decide)) o1 (wz_pieces hz o1) ?_
    refine m_getI 2 rfl rfl rfl (by omega) ?_
    have o2 := H.1
    replace H := H.2
    refine w_isub rfl o2 ?_
    refine w_iconst rfl ⟨by decide, by decide⟩ ?_
    have o3 := H.1
    replace H := H.2
    refine w_iadd rfl o3 ?_
    have o4 := H.1
    replace H := H.2
    refine n_iaload rfl (Nat.add_pos_right _ (by decide)) (wz_shL1 hz p_sh) o4 ?_
    refine w_istore rfl rfl ?_
    refine w_iconst rfl ⟨by decide, by decide⟩ ?_
    refine w_istore rfl rfl ?_
    exact H
set_option maxHeartbeats 4000000 in
set_option maxRecDepth 100000 in
theorem wr_Search_isSpanning_176 {d : Nat} {Q : cm_Q} {z : cm_Z} {I : cm_I} (hz : wz z) {x1 : Int} {x2 : Int} {x3 : Int} {x4 : Int} {x5 : Int} {x6 : Int}  (H : ((x5 ≤ x6 → (cm_i (x4 + 1) ∧ cw d cd_Search_isSpanning Q 137 [some (vR 6 185), some (vI x1), some (vI x2), some (vI x3), some (vI (x4 + 1)), some (vI x5), some (vI x6)] [] (I, z))) ∧ (x6 < x5 → (cm_i ((I 63 1) + x3) ∧ ((((I 63 1) + x3) < x2 → (cm_i (x4 + 1) ∧ cw d cd_Search_isSpanning Q 137 [some (vR 6 185), some (vI x1), some (vI x2), some (vI x3), some (vI (x4 + 1)), some (vI x5), some (vI x6)] [] (I, z))) ∧ (x2 ≤ ((I 63 1) + x3) → ((0:Int) ≤ x4 ∧ x4 < 3) ∧ (mU d m_Search_putSpread [vR 6 185, vR 5 (192 + 2 * Int.toNat x4), vI x6] z I fun I5 => (mU d m_Echelon_insert [vR 1 63, vR 20 188] z I5 fun I6 => (cm_i (x3 + (-1)) ∧ (cm_i (x6 + 1) ∧ cw d cd_Search_isSpanning Q 176 [some (vR 6 185), some (vI x1), some (vI x2), some (vI (x3 + (-1))), some (vI x4), some (vI x5), some (vI (x6 + 1))] [] (I6, z))))))))))) : cw d cd_Search_isSpanning Q 176 [some (vR 6 185), some (vI x1), some (vI x2), some (vI x3), some (vI x4), some (vI x5), some (vI x6)] [] (I, z) := by
  refine w_iload rfl rfl ?_
  refine w_iload rfl rfl ?_
  refine w_icmp rfl (And.intro (fun hc => ?_) (fun hc => ?_))
  · replace H := H.1 hc
    have o1 := H.1
    replace H := H.2
    refine w_iinc rfl rfl rfl o1 ?_
    refine w_goto rfl ?_
    exact H
  · replace H := H.2 hc
    refine w_aload rfl rfl ?_
    refine n_getR 1 1 rfl rfl rfl rfl (by decide) (wz_R hz 185 1 63 rfl (by decide)) ?_
    refine m_getI 1 rfl rfl rfl (by decide) ?_
    refine w_iload rfl rfl ?_
    have o2 := H.1
    replace H := H.2
    refine w_iadd rfl o2 ?_
    refine w_iload rfl rfl ?_
    refine w_icmp rfl (And.intro (fun hc => ?_) (fun hc => ?_))
    · replace H := H.1 hc
      have o3 := H.1
      replace H := H.2
      refine w_iinc rfl rfl rfl o3 ?_
      refine w_goto rfl ?_
      exact H
    · replace H := H.2 hc
      refine w_aload rfl rfl ?_
      refine w_aload rfl rfl ?_
      refine n_getR 11 25 rfl rfl rfl rfl (by decide) (wz_R hz 185 11 189 rfl (by decide)) ?_
      refine w_iload rfl rfl ?_
      have o4 := H.1
      replace H := H.2
      refine n_aaload rfl rfl rfl (by decide) (wz_L hz 189 3 rfl (by decide)) o4 (wz_pieces hz o4) ?_
      refine w_iload rfl rfl ?_
      refine m_callU rfl (fun _ => rfl) rfl (mU_mono H fun I5 H => ?_)
      refine w_aload rfl rfl ?_
      refine n_getR 1 1 rfl rfl rfl rfl (by decide) (wz_R hz 185 1 63 rfl (by decide)) ?_
      refine w_aload rfl rfl ?_
      refine n_getR 10 20 rfl rfl rfl rfl (by decide) (wz_R hz 185 10 188 rfl (by decide)) ?_
      refine m_callU rfl (fun _ => rfl) rfl (mU_mono H fun I6 H => ?_)
      have o7 := H.1
      replace H := H.2
      refine w_iinc rfl rfl rfl o7 ?_
      have o8 := H.1
      replace H := H.2
      refine w_iinc rfl rfl rfl o8 ?_
      refine w_goto rfl ?_
      exact H
set_option maxHeartbeats 4000000 in
set_option maxRecDepth 100000 in
theorem wr_Search_isSpanning {d : Nat} {Q : cm_Q} {z : cm_Z} {I : cm_I} (hz : wz z) {sh : Nat} (y_185_2 : z.1 185 2 = sh) (p_sh : isSh sh) (H : (cm_i (1 - (I sh 0)) ∧ cw d cd_Search_isSpanning Q 12 [some (vR 6 185), some (vI (1 - (I sh 0))), some (vI 0), none, none, none, none] [] (I, z))) : cm_call (d + 1) m_Search_isSpanning [vR 6 185] (I, z) Q := by
  refine cm_call_in (C := cd_Search_isSpanning) (ls := [some (vR 6 185), none, none, none, none, none, none]) rfl rfl (show 0 < 185 by decide) rfl ?_
  refine w_iconst rfl ⟨by decide, by decide⟩ ?_
  refine w_aload rfl rfl ?_
  refine n_getR 2 9 rfl rfl rfl rfl (by decide) y_185_2 ?_
  refine m_getI 0 rfl rfl rfl (isSh_pos p_sh) ?_
  have o1 := H.1
  replace H := H.2
  refine w_isub rfl o1 ?_
  refine w_istore rfl rfl ?_
  refine w_iconst rfl ⟨by decide, by decide⟩ ?_
  refine w_istore rfl rfl ?_
  exact H
set_option maxHeartbeats 4000000 in
set_option maxRecDepth 100000 in
theorem wr_Search_isCornerMissing_2 {d : Nat} {Q : cm_Q} {z : cm_Z} {I : cm_I} (hz : wz z) {x1 : Int} {z2 : Option cm_V} {z3 : Option cm_V} {z4 : Option cm_V} {z5 : Option cm_V} {sh : Nat} (y_185_2 : z.1 185 2 = sh) (p_sh : isSh sh) (H : (((I sh 0) ≤ x1 → Q (some (vI 0)) (I, z)) ∧ (x1 < (I sh 0) → cw d cd_Search_isCornerMissing Q 17 [some (vR 6 185), some (vI x1), some (vI 1), some (vI 0), z4, z5] [] (I, z)))) : cw d cd_Search_isCornerMissing Q 2 [some (vR 6 185), some (vI x1), z2, z3, z4, z5] [] (I, z) := by
  refine w_iload rfl rfl ?_
  refine w_aload rfl rfl ?_
  refine n_getR 2 9 rfl rfl rfl rfl (by decide) y_185_2 ?_
  refine m_getI 0 rfl rfl rfl (isSh_pos p_sh) ?_
  refine w_icmp rfl (And.intro (fun hc => ?_) (fun hc => ?_))
  · replace H := H.1 hc
    refine w_iconst rfl ⟨by decide, by decide⟩ ?_
    exact w_zreturn rfl (by decide) H
  · replace H := H.2 hc
    refine w_iconst rfl ⟨by decide, by decide⟩ ?_
    refine w_istore rfl rfl ?_
    refine w_iconst rfl ⟨by decide, by decide⟩ ?_
    refine w_istore rfl rfl ?_
    exact H
set_option maxHeartbeats 4000000 in
set_option maxRecDepth 100000 in
theorem wr_Search_isCornerMissing_17 {d : Nat} {Q : cm_Q} {z : cm_Z} {I : cm_I} (hz : wz z) {x1 : Int} {x2 : Int} {x3 : Int} {z4 : Option cm_V} {z5 : Option cm_V} {sh : Nat} (y_185_2 : z.1 185 2 = sh) (p_sh : isSh sh) (H : (((I sh 0) ≤ x3 → ((x2 = 0 → (cm_i (x1 + 1) ∧ cw d cd_Search_isCornerMissing Q 2 [some (vR 6 185), some (vI (x1 + 1)), some (vI x2), some (vI x3), z4, z5] [] (I, z))) ∧ (¬ x2 = 0 → Q (some (vI 1)) (I, z)))) ∧ (x3 < (I sh 0) → ((0:Int) ≤ x3 ∧ x3 < 3) ∧ ((¬ x1 = 0 → ((0:Int) ≤ (I (192 + 2 * Int.toNat x3) 2) ∧ (I (192 + 2 * Int.toNat x3) 2) < 19) ∧ cw d cd_Search_isCornerMissing Q 57 [some (vR 6 185), some (vI x1), some (vI x2), some (vI x3), some (vR 5 (192 + 2 * Int.toNat x3)), z5] [vI (I (sh + 1) (I (192 + 2 * Int.toNat x3) 2))] (I, z)) ∧ (x1 = 0 → cw d cd_Search_isCornerMissing Q 57 [some (vR 6 185), some (vI x1), some (vI x2), some (vI x3), some (vR 5 (192 + 2 * Int.toNat x3)), z5] [vI 0] (I, z)))))) : cw d cd_Search_isCornerMissing Q 17 [some (vR 6 185), some (vI x1), some (vI x2), some (vI x3), z4, z5] [] (I, z) := by
  refine w_iload rfl rfl ?_
  refine w_aload rfl rfl ?_
  refine n_getR 2 9 rfl rfl rfl rfl (by decide) y_185_2 ?_
  refine m_getI 0 rfl rfl rfl (isSh_pos p_sh) ?_
  refine w_icmp rfl (And.intro (fun hc => ?_) (fun hc => ?_))
  · replace H := H.1 hc
    refine w_iload rfl rfl ?_
    refine w_if rfl (And.intro (fun hc => ?_) (fun hc => ?_))
    · replace H := H.1 hc
      have o1 := H.1
      replace H := H.2
      refine w_iinc rfl rfl rfl o1 ?_
      refine w_goto rfl ?_
      exact H
    · replace H := H.2 hc
      refine w_iconst rfl ⟨by decide, by decide⟩ ?_
      exact w_zreturn rfl (by decide) H
  · replace H := H.2 hc
    refine w_aload rfl rfl ?_
    refine n_getR 11 25 rfl rfl rfl rfl (by decide) (wz_R hz 185 11 189 rfl (by decide)) ?_
    refine w_iload rfl rfl ?_
    have o2 := H.1
    replace H := H.2
    refine n_aaload rfl rfl rfl (by decide) (wz_L hz 189 3 rfl (by decide)) o2 (wz_pieces hz o2) ?_
    refine w_astore rfl rfl ?_
    refine w_iload rfl rfl ?_
    refine w_if rfl (And.intro (fun hc => ?_) (fun hc => ?_))
    · replace H := H.1 hc
      refine w_aload rfl rfl ?_
      refine n_getR 2 9 rfl rfl rfl rfl (by decide) y_185_2 ?_
      refine n_getR 2 20 rfl rfl rfl rfl (isSh_pos p_sh) (wz_sh2 hz p_sh) ?_
      refine w_aload rfl rfl ?_
      refine m_getI 2 rfl rfl rfl (by omega) ?_
      have o3 := H.1
      replace H := H.2
      refine n_iaload rfl (Nat.add_pos_right _ (by decide)) (wz_shL1 hz p_sh) o3 ?_
      exact H
    · replace H := H.2 hc
      refine w_iconst rfl ⟨by decide, by decide⟩ ?_
      refine w_goto rfl ?_
      exact H
set_option maxHeartbeats 4000000 in
set_option maxRecDepth 100000 in
theorem wr_Search_isCornerMissing_57 {d : Nat} {Q : cm_Q} {z : cm_Z} {I : cm_I} (hz : wz z) {x1 : Int} {x2 : Int} {x3 : Int} {a4 : Nat} {z5 : Option cm_V} {s0 : Int} (p_a4 : 0 < a4) (H : ((¬ x1 = 2 → cw d cd_Search_isCornerMissing Q 75 [some (vR 6 185), some (vI x1), some (vI x2), some (vI x3), some (vR 5 a4), some (vI s0)] [vI 0, vI s0] (I, z)) ∧ (x1 = 2 → cw d cd_Search_isCornerMissing Q 75 [some (vR 6 185), some (vI x1), some (vI x2), some (vI x3), some (vR 5 a4), some (vI s0)] [vI (I a4 2), vI s0] (I, z)))) : cw d cd_Search_isCornerMissing Q 57 [some (vR 6 185), some (vI x1), some (vI x2), some (vI x3), some (vR 5 a4), z5] [vI s0] (I, z) := by
  refine w_istore rfl rfl ?_
  refine w_iload rfl rfl ?_
  refine w_iload rfl rfl ?_
  refine w_iconst rfl ⟨by decide, by decide⟩ ?_
  refine w_icmp rfl (And.intro (fun hc => ?_) (fun hc => ?_))
  · replace H := H.1 hc
    refine w_iconst rfl ⟨by decide, by decide⟩ ?_
    exact H
  · replace H := H.2 hc
    refine w_aload rfl rfl ?_
    refine m_getI 2 rfl rfl rfl p_a4 ?_
    refine w_goto rfl ?_
    exact H
set_option maxHeartbeats 4000000 in
set_option maxRecDepth 100000 in
theorem wr_Search_isCornerMissing_75 {d : Nat} {Q : cm_Q} {z : cm_Z} {I : cm_I} (hz : wz z) {x1 : Int} {x2 : Int} {x3 : Int} {a4 : Nat} {z5 : Option cm_V} {s0 : Int} {s1 : Int} {q_a4_0 : Nat} (p_a4 : 0 < a4) (y_a4_0 : z.1 a4 0 = q_a4_0) (p_q_a4_0 : 0 < q_a4_0) (H : (cm_i (s1 + s0) ∧ ((x2 = 0 → (cm_i (x3 + 1) ∧ cw d cd_Search_isCornerMissing Q 17 [some (vR 6 185), some (vI x1), some (vI 0), some (vI (x3 + 1)), some (vR 5 a4), some (vI (s1 + s0))] [] (I, z))) ∧ (¬ x2 = 0 → (cm_i ((I a4 1) + (s1 + s0)) ∧ ((0:Int) ≤ ((I a4 1) + (s1 + s0)) ∧ ((I a4 1) + (s1 + s0)) < z.2.1 q_a4_0) ∧ ((¬ (I q_a4_0 ((I a4 1) + (s1 + s0))) = 0 → (cm_i (x3 + 1) ∧ cw d cd_Search_isCornerMissing Q 17 [some (vR 6 185), some (vI x1), some (vI 0), some (vI (x3 + 1)), some (vR 5 a4), some (vI (s1 + s0))] [] (I, z))) ∧ ((I q_a4_0 ((I a4 1) + (s1 + s0))) = 0 → (cm_i (x3 + 1) ∧ cw d cd_Search_isCornerMissing Q 17 [some (vR 6 185), some (vI x1), some (vI 1), some (vI (x3 + 1)), some (vR 5 a4), some (vI (s1 + s0))] [] (I, z))))))))) : cw d cd_Search_isCornerMissing Q 75 [some (vR 6 185), some (vI x1), some (vI x2), some (vI x3), some (vR 5 a4), z5] [vI s0, vI s1] (I, z) := by
  have o1 := H.1
  replace H := H.2
  refine w_iadd rfl o1 ?_
  refine w_istore rfl rfl ?_
  refine w_iload rfl rfl ?_
  refine w_if rfl (And.intro (fun hc => ?_) (fun hc => ?_))
  · replace H := H.1 hc
    refine w_iconst rfl ⟨by decide, by decide⟩ ?_
    refine w_istore rfl rfl ?_
    have o2 := H.1
    replace H := H.2
    refine w_iinc rfl rfl rfl o2 ?_
    refine w_goto rfl ?_
    exact H
  · replace H := H.2 hc
    refine w_aload rfl rfl ?_
    refine n_getR 0 20 rfl rfl rfl rfl p_a4 y_a4_0 ?_
    refine w_aload rfl rfl ?_
    refine m_getI 1 rfl rfl rfl p_a4 ?_
    refine w_iload rfl rfl ?_
    have o3 := H.1
    replace H := H.2
    refine w_iadd rfl o3 ?_
    have o4 := H.1
    replace H := H.2
    refine n_iaload rfl p_q_a4_0 rfl o4 ?_
    refine w_if rfl (And.intro (fun hc => ?_) (fun hc => ?_))
    · replace H := H.1 hc
      refine w_iconst rfl ⟨by decide, by decide⟩ ?_
      refine w_istore rfl rfl ?_
      have o5 := H.1
      replace H := H.2
      refine w_iinc rfl rfl rfl o5 ?_
      refine w_goto rfl ?_
      exact H
    · replace H := H.2 hc
      refine w_iconst rfl ⟨by decide, by decide⟩ ?_
      refine w_goto rfl ?_
      refine w_istore rfl rfl ?_
      have o6 := H.1
      replace H := H.2
      refine w_iinc rfl rfl rfl o6 ?_
      refine w_goto rfl ?_
      exact H
set_option maxHeartbeats 4000000 in
set_option maxRecDepth 100000 in
theorem wr_Search_isCornerMissing {d : Nat} {Q : cm_Q} {z : cm_Z} {I : cm_I} (hz : wz z)   (H : cw d cd_Search_isCornerMissing Q 2 [some (vR 6 185), some (vI 0), none, none, none, none] [] (I, z)) : cm_call (d + 1) m_Search_isCornerMissing [vR 6 185] (I, z) Q := by
  refine cm_call_in (C := cd_Search_isCornerMissing) (ls := [some (vR 6 185), none, none, none, none, none]) rfl rfl (show 0 < 185 by decide) rfl ?_
  refine w_iconst rfl ⟨by decide, by decide⟩ ?_
  refine w_istore rfl rfl ?_
  exact H
set_option maxHeartbeats 4000000 in
set_option maxRecDepth 100000 in
theorem wr_Search_putSpread_38 {d : Nat} {Q : cm_Q} {z : cm_Z} {I : cm_I} (hz : wz z) {a1 : Nat} {z2 : Option cm_V} {a3 : Nat} {x4 : Int} {x5 : Int} {x6 : Int} {z7 : Option cm_V} {sh : Nat} {q_a1_0 : Nat} (p_a1 : 0 < a1) (p_a3 : 0 < a3) (y_185_2 : z.1 185 2 = sh) (p_sh : isSh sh) (y_a1_0 : z.1 a1 0 = q_a1_0) (p_q_a1_0 : 0 < q_a1_0) (H : (cm_i ((I a1 2) + 1) ∧ ((0:Int) ≤ ((I a1 2) + 1) ∧ ((I a1 2) + 1) < z.2.1 a3) ∧ (((I a3 ((I a1 2) + 1)) ≤ x6 → Q none (I, z)) ∧ (x6 < (I a3 ((I a1 2) + 1)) → ((0:Int) ≤ x6 ∧ x6 < z.2.1 ((sh + 7))) ∧ (cm_i (x4 + (I (sh + 7) x6)) ∧ ((0:Int) ≤ (x4 + (I (sh + 7) x6)) ∧ (x4 + (I (sh + 7) x6)) < z.2.1 a3) ∧ (cm_i ((I a3 (x4 + (I (sh + 7) x6))) + x5) ∧ (cm_i (((I a3 (x4 + (I (sh + 7) x6))) + x5) + x6) ∧ ((0:Int) ≤ (I (sh + 7) x6) ∧ (I (sh + 7) x6) < z.2.1 a3) ∧ (cm_i ((((I a3 (x4 + (I (sh + 7) x6))) + x5) + x6) - (I a3 (I (sh + 7) x6))) ∧ (cm_i ((I a1 1) + x6) ∧ ((0:Int) ≤ ((I a1 1) + x6) ∧ ((I a1 1) + x6) < z.2.1 q_a1_0) ∧ ((0:Int) ≤ ((((I a3 (x4 + (I (sh + 7) x6))) + x5) + x6) - (I a3 (I (sh + 7) x6))) ∧ ((((I a3 (x4 + (I (sh + 7) x6))) + x5) + x6) - (I a3 (I (sh + 7) x6))) < 153) ∧ (∀ I13 : cm_I, I13 = iu I 188 ((((I a3 (x4 + (I (sh + 7) x6))) + x5) + x6) - (I a3 (I (sh + 7) x6))) (I q_a1_0 ((I a1 1) + x6)) → (cm_i (x6 + 1) ∧ cw d cd_Search_putSpread Q 38 [some (vR 6 185), some (vR 5 a1), z2, some (vR 20 a3), some (vI x4), some (vI x5), some (vI (x6 + 1)), some (vI (I (sh + 7) x6))] [] (I13, z)))))))))))) : cw d cd_Search_putSpread Q 38 [some (vR 6 185), some (vR 5 a1), z2, some (vR 20 a3), some (vI x4), some (vI x5), some (vI x6), z7] [] (I, z) := by
  refine w_iload rfl rfl ?_
  refine w_aload rfl rfl ?_
  refine w_aload rfl rfl ?_
  refine m_getI 2 rfl rfl rfl p_a1 ?_
  refine w_iconst rfl ⟨by decide, by decide⟩ ?_
  have o1 := H.1
  replace H := H.2
  refine w_iadd rfl o1 ?_
  have o2 := H.1
  replace H := H.2
  refine n_iaload rfl p_a3 rfl o2 ?_
  refine w_icmp rfl (And.intro (fun hc => ?_) (fun hc => ?_))
  · replace H := H.1 hc
    exact w_return rfl H
  · replace H := H.2 hc
    refine w_aload rfl rfl ?_
    refine n_getR 2 9 rfl rfl rfl rfl (by decide) y_185_2 ?_
    refine n_getR 4 20 rfl rfl rfl rfl (isSh_pos p_sh) (wz_sh4 hz p_sh) ?_
    refine w_iload rfl rfl ?_
    have o3 := H.1
    replace H := H.2
    refine n_iaload rfl (Nat.add_pos_right _ (by decide)) rfl o3 ?_
    refine w_istore rfl rfl ?_
    refine w_aload rfl rfl ?_
    refine n_getR 10 20 rfl rfl rfl rfl (by decide) (wz_R hz 185 10 188 rfl (by decide)) ?_
    refine w_aload rfl rfl ?_
    refine w_iload rfl rfl ?_
    refine w_iload rfl rfl ?_
    have o4 := H.1
    replace H := H.2
    refine w_iadd rfl o4 ?_
    have o5 := H.1
    replace H := H.2
    refine n_iaload rfl p_a3 rfl o5 ?_
    refine w_iload rfl rfl ?_
    have o6 := H.1
    replace H := H.2
    refine w_iadd rfl o6 ?_
    refine w_iload rfl rfl ?_
    have o7 := H.1
    replace H := H.2
    refine w_iadd rfl o7 ?_
    refine w_aload rfl rfl ?_
    refine w_iload rfl rfl ?_
    have o8 := H.1
    replace H := H.2
    refine n_iaload rfl p_a3 rfl o8 ?_
    have o9 := H.1
    replace H := H.2
    refine w_isub rfl o9 ?_
    refine w_aload rfl rfl ?_
    refine n_getR 0 20 rfl rfl rfl rfl p_a1 y_a1_0 ?_
    refine w_aload rfl rfl ?_
    refine m_getI 1 rfl rfl rfl p_a1 ?_
    refine w_iload rfl rfl ?_
    have o10 := H.1
    replace H := H.2
    refine w_iadd rfl o10 ?_
    have o11 := H.1
    replace H := H.2
    refine n_iaload rfl p_q_a1_0 rfl o11 ?_
    have o12 := H.1
    replace H := H.2
    refine n_iastore rfl (by decide) (wz_L hz 188 153 rfl (by decide)) o12 (fun I13 eI13 => ?_)
    replace H := H I13 eI13
    have o14 := H.1
    replace H := H.2
    refine w_iinc rfl rfl rfl o14 ?_
    refine w_goto rfl ?_
    exact H
set_option maxHeartbeats 4000000 in
set_option maxRecDepth 100000 in
theorem wr_Search_putSpread {d : Nat} {Q : cm_Q} {z : cm_Z} {I : cm_I} (hz : wz z) {a1 : Nat} {x2 : Int} {sh : Nat} (y_185_2 : z.1 185 2 = sh) (p_sh : isSh sh) (H : ((0:Int) ≤ x2 ∧ x2 < z.2.1 ((sh + 7))) ∧ ((0:Int) ≤ (I (sh + 7) x2) ∧ (I (sh + 7) x2) < 19) ∧ (cm_i (x2 - (I (sh + 1) (I (sh + 7) x2))) ∧ (mU d m_Arr_fill [vR 20 188, vI 0] z I fun I4 => cw d cd_Search_putSpread Q 38 [some (vR 6 185), some (vR 5 a1), some (vI x2), some (vR 20 (sh + 1)), some (vI (I (sh + 7) x2)), some (vI (x2 - (I (sh + 1) (I (sh + 7) x2)))), some (vI 0), none] [] (I4, z)))) : cm_call (d + 1) m_Search_putSpread [vR 6 185, vR 5 a1, vI x2] (I, z) Q := by
  refine cm_call_in (C := cd_Search_putSpread) (ls := [some (vR 6 185), some (vR 5 a1), some (vI x2), none, none, none, none, none]) rfl rfl (show 0 < 185 by decide) rfl ?_
  refine w_aload rfl rfl ?_
  refine n_getR 2 9 rfl rfl rfl rfl (by decide) y_185_2 ?_
  refine n_getR 2 20 rfl rfl rfl rfl (isSh_pos p_sh) (wz_sh2 hz p_sh) ?_
  refine w_astore rfl rfl ?_
  refine w_aload rfl rfl ?_
  refine n_getR 2 9 rfl rfl rfl rfl (by decide) y_185_2 ?_
  refine n_getR 4 20 rfl rfl rfl rfl (isSh_pos p_sh) (wz_sh4 hz p_sh) ?_
  refine w_iload rfl rfl ?_
  have o1 := H.1
  replace H := H.2
  refine n_iaload rfl (Nat.add_pos_right _ (by decide)) rfl o1 ?_
  refine w_istore rfl rfl ?_
  refine w_iload rfl rfl ?_
  refine w_aload rfl rfl ?_
  refine w_iload rfl rfl ?_
  have o2 := H.1
  replace H := H.2
  refine n_iaload rfl (Nat.add_pos_right _ (by decide)) (wz_shL1 hz p_sh) o2 ?_
  have o3 := H.1
  replace H := H.2
  refine w_isub rfl o3 ?_
  refine w_istore rfl rfl ?_
  refine w_aload rfl rfl ?_
  refine n_getR 10 20 rfl rfl rfl rfl (by decide) (wz_R hz 185 10 188 rfl (by decide)) ?_
  refine w_iconst rfl ⟨by decide, by decide⟩ ?_
  refine m_callU rfl (fun _ => rfl) rfl (mU_mono H fun I4 H => ?_)
  refine w_iconst rfl ⟨by decide, by decide⟩ ?_
  refine w_istore rfl rfl ?_
  exact H
set_option maxHeartbeats 4000000 in
set_option maxRecDepth 100000 in
theorem wr_Rewriter_begin {d : Nat} {Q : cm_Q} {z : cm_Z} {I : cm_I} (hz : wz z) {a1 : Nat}  (H : (∀ Z1 : cm_Z, Z1 = zr z 198 2 a1 → (∀ I2 : cm_I, I2 = iu I 198 3 0 → (∀ I3 : cm_I, I3 = iu I2 198 4 (-1) → (∀ I4 : cm_I, I4 = iu I3 198 7 (-1) → (∀ I5 : cm_I, I5 = iu I4 198 9 (-1) → (∀ I6 : cm_I, I6 = iu I5 198 10 (-1) → Q none (I6, Z1)))))))) : cm_call (d + 1) m_Rewriter_begin [vR 8 198, vR 9 a1] (I, z) Q := by
  refine cm_call_in (C := cd_Rewriter_begin) (ls := [some (vR 8 198), some (vR 9 a1)]) rfl rfl (show 0 < 198 by decide) rfl ?_
  refine w_aload rfl rfl ?_
  refine w_aload rfl rfl ?_
  refine n_putR 2 rfl rfl rfl rfl (by decide) (fun Z1 eZ1 => ?_)
  replace H := H Z1 eZ1
  refine w_aload rfl rfl ?_
  refine w_iconst rfl ⟨by decide, by decide⟩ ?_
  refine m_putI 3 rfl rfl rfl (by decide) (fun I2 eI2 => ?_)
  replace H := H I2 eI2
  refine w_aload rfl rfl ?_
  refine w_iconst rfl ⟨by decide, by decide⟩ ?_
  refine m_putI 4 rfl rfl rfl (by decide) (fun I3 eI3 => ?_)
  replace H := H I3 eI3
  refine w_aload rfl rfl ?_
  refine w_iconst rfl ⟨by decide, by decide⟩ ?_
  refine m_putI 7 rfl rfl rfl (by decide) (fun I4 eI4 => ?_)
  replace H := H I4 eI4
  refine w_aload rfl rfl ?_
  refine w_iconst rfl ⟨by decide, by decide⟩ ?_
  refine m_putI 9 rfl rfl rfl (by decide) (fun I5 eI5 => ?_)
  replace H := H I5 eI5
  refine w_aload rfl rfl ?_
  refine w_iconst rfl ⟨by decide, by decide⟩ ?_
  refine m_putI 10 rfl rfl rfl (by decide) (fun I6 eI6 => ?_)
  replace H := H I6 eI6
  exact w_return rfl H
set_option maxHeartbeats 4000000 in
set_option maxRecDepth 100000 in
theorem wr_Rewriter_extendToAll_4 {d : Nat} {Q : cm_Q} {z : cm_Z} {I : cm_I} (hz : wz z) {x1 : Int} {x2 : Int} {z3 : Option cm_V} {sh : Nat} (y_198_2 : z.1 198 2 = sh) (p_sh : isSh sh) (H : (((I sh 0) ≤ x2 → ((¬ (I 185 3) = 0 → (0 < (I 185 3) ∧ (cm_i ((I 198 4) + 1) ∧ cw d cd_Rewriter_extendToAll Q 64 [some (vR 8 198), some (vI x1), some (vI (Int.tdiv x1 (I 185 3))), some (vI ((I 198 4) + 1))] [] (I, z)))) ∧ ((I 185 3) = 0 → (cm_i ((I 198 4) + 1) ∧ cw d cd_Rewriter_extendToAll Q 64 [some (vR 8 198), some (vI x1), some (vI 0), some (vI ((I 198 4) + 1))] [] (I, z))))) ∧ (x2 < (I sh 0) → ((0:Int) ≤ x2 ∧ x2 < 3) ∧ (cm_i (x1 * (I 190 x2)) ∧ (cm_i (x2 + 1) ∧ cw d cd_Rewriter_extendToAll Q 4 [some (vR 8 198), some (vI (x1 * (I 190 x2))), some (vI (x2 + 1)), z3] [] (I, z)))))) : cw d cd_Rewriter_extendToAll Q 4 [some (vR 8 198), some (vI x1), some (vI x2), z3] [] (I, z) := by
  refine w_iload rfl rfl ?_
  refine w_aload rfl rfl ?_
  refine n_getR 2 9 rfl rfl rfl rfl (by decide) y_198_2 ?_
  refine m_getI 0 rfl rfl rfl (isSh_pos p_sh) ?_
  refine w_icmp rfl (And.intro (fun hc => ?_) (fun hc => ?_))
  · replace H := H.1 hc
    refine w_aload rfl rfl ?_
    refine n_getR 1 6 rfl rfl rfl rfl (by decide) (wz_R hz 198 1 185 rfl (by decide)) ?_
    refine m_getI 3 rfl rfl rfl (by decide) ?_
    refine w_if rfl (And.intro (fun hc => ?_) (fun hc => ?_))
    · replace H := H.1 hc
      refine w_iload rfl rfl ?_
      refine w_aload rfl rfl ?_
      refine n_getR 1 6 rfl rfl rfl rfl (by decide) (wz_R hz 198 1 185 rfl (by decide)) ?_
      refine m_getI 3 rfl rfl rfl (by decide) ?_
      have o1 := H.1
      replace H := H.2
      refine w_idiv rfl o1 ?_
      refine w_istore rfl rfl ?_
      refine w_aload rfl rfl ?_
      refine m_getI 4 rfl rfl rfl (by decide) ?_
      refine w_iconst rfl ⟨by decide, by decide⟩ ?_
      have o2 := H.1
      replace H := H.2
      refine w_iadd rfl o2 ?_
      refine w_istore rfl rfl ?_
      exact H
    · replace H := H.2 hc
      refine w_iconst rfl ⟨by decide, by decide⟩ ?_
      refine w_goto rfl ?_
      refine w_istore rfl rfl ?_
      refine w_aload rfl rfl ?_
      refine m_getI 4 rfl rfl rfl (by decide) ?_
      refine w_iconst rfl ⟨by decide, by decide⟩ ?_
      have o3 := H.1
      replace H := H.2
      refine w_iadd rfl o3 ?_
      refine w_istore rfl rfl ?_
      exact H
  · replace H := H.2 hc
    refine w_iload rfl rfl ?_
    refine w_aload rfl rfl ?_
    refine n_getR 1 6 rfl rfl rfl rfl (by decide) (wz_R hz 198 1 185 rfl (by decide)) ?_
    refine n_getR 12 20 rfl rfl rfl rfl (by decide) (wz_R hz 185 12 190 rfl (by decide)) ?_
    refine w_iload rfl rfl ?_
    have o4 := H.1
    replace H := H.2
    refine n_iaload rfl (by decide) (wz_L hz 190 3 rfl (by decide)) o4 ?_
    have o5 := H.1
    replace H := H.2
    refine w_imul rfl o5 ?_
    refine w_istore rfl rfl ?_
    have o6 := H.1
    replace H := H.2
    refine w_iinc rfl rfl rfl o6 ?_
    refine w_goto rfl ?_
    exact H
set_option maxHeartbeats 4000000 in
set_option maxRecDepth 100000 in
theorem wr_Rewriter_extendToAll_64 {d : Nat} {Q : cm_Q} {z : cm_Z} {I : cm_I} (hz : wz z) {z1 : Option cm_V} {x2 : Int} {x3 : Int}  (H : ((15 < x3 → Q none (I, z)) ∧ (x3 ≤ 15 → ((x2 ≤ (I 198 3) → Q none (I, z)) ∧ ((I 198 3) < x2 → (zcA d m_Bases_grade [vR 0 66, vI x3] z I 2 fun v3 I1 Z2 => (zcU d m_Rewriter_fillGrade [vR 8 198, vR 2 v3] Z2 I1 fun I4 Z5 => (cm_i (x3 + 1) ∧ cw d cd_Rewriter_extendToAll Q 64 [some (vR 8 198), z1, some (vI x2), some (vI (x3 + 1))] [] (I4, Z5))))))))) : cw d cd_Rewriter_extendToAll Q 64 [some (vR 8 198), z1, some (vI x2), some (vI x3)] [] (I, z) := by
  refine w_iload rfl rfl ?_
  refine w_iconst rfl ⟨by decide, by decide⟩ ?_
  refine w_icmp rfl (And.intro (fun hc => ?_) (fun hc => ?_))
  · replace H := H.1 hc
    exact w_return rfl H
  · replace H := H.2 hc
    refine w_aload rfl rfl ?_
    refine m_getI 3 rfl rfl rfl (by decide) ?_
    refine w_iload rfl rfl ?_
    refine w_icmp rfl (And.intro (fun hc => ?_) (fun hc => ?_))
    · replace H := H.1 hc
      exact w_return rfl H
    · replace H := H.2 hc
      refine w_aload rfl rfl ?_
      refine w_aload rfl rfl ?_
      refine n_getR 0 0 rfl rfl rfl rfl (by decide) (wz_R hz 198 0 66 rfl (by decide)) ?_
      refine w_iload rfl rfl ?_
      refine n_callA rfl (fun _ => rfl) rfl (zcA_mono H fun v3 I1 Z2 H => ?_)
      refine n_callU rfl (fun _ => rfl) rfl (zcU_mono H fun I4 Z5 H => ?_)
      have o6 := H.1
      replace H := H.2
      refine w_iinc rfl rfl rfl o6 ?_
      refine w_goto rfl ?_
      exact H
set_option maxHeartbeats 4000000 in
set_option maxRecDepth 100000 in
theorem wr_Rewriter_extendToAll {d : Nat} {Q : cm_Q} {z : cm_Z} {I : cm_I} (hz : wz z)   (H : cw d cd_Rewriter_extendToAll Q 4 [some (vR 8 198), some (vI 1), some (vI 0), none] [] (I, z)) : cm_call (d + 1) m_Rewriter_extendToAll [vR 8 198] (I, z) Q := by
  refine cm_call_in (C := cd_Rewriter_extendToAll) (ls := [some (vR 8 198), none, none, none]) rfl rfl (show 0 < 198 by decide) rfl ?_
  refine w_iconst rfl ⟨by decide, by decide⟩ ?_
  refine w_istore rfl rfl ?_
  refine w_iconst rfl ⟨by decide, by decide⟩ ?_
  refine w_istore rfl rfl ?_
  exact H
set_option maxHeartbeats 4000000 in
set_option maxRecDepth 100000 in
theorem wr_Rewriter_extend_7 {d : Nat} {Q : cm_Q} {z : cm_Z} {I : cm_I} (hz : wz z) {x1 : Int} {x2 : Int}  (H : ((15 < x2 → Q none (I, z)) ∧ (x2 ≤ 15 → ((x1 < x2 → Q none (I, z)) ∧ (x2 ≤ x1 → (zcA d m_Bases_grade [vR 0 66, vI x2] z I 2 fun v3 I1 Z2 => (zcU d m_Rewriter_fillGrade [vR 8 198, vR 2 v3] Z2 I1 fun I4 Z5 => (cm_i (x2 + 1) ∧ cw d cd_Rewriter_extend Q 7 [some (vR 8 198), some (vI x1), some (vI (x2 + 1))] [] (I4, Z5))))))))) : cw d cd_Rewriter_extend Q 7 [some (vR 8 198), some (vI x1), some (vI x2)] [] (I, z) := by
  refine w_iload rfl rfl ?_
  refine w_iconst rfl ⟨by decide, by decide⟩ ?_
  refine w_icmp rfl (And.intro (fun hc => ?_) (fun hc => ?_))
  · replace H := H.1 hc
    exact w_return rfl H
  · replace H := H.2 hc
    refine w_iload rfl rfl ?_
    refine w_iload rfl rfl ?_
    refine w_icmp rfl (And.intro (fun hc => ?_) (fun hc => ?_))
    · replace H := H.1 hc
      exact w_return rfl H
    · replace H := H.2 hc
      refine w_aload rfl rfl ?_
      refine w_aload rfl rfl ?_
      refine n_getR 0 0 rfl rfl rfl rfl (by decide) (wz_R hz 198 0 66 rfl (by decide)) ?_
      refine w_iload rfl rfl ?_
      refine n_callA rfl (fun _ => rfl) rfl (zcA_mono H fun v3 I1 Z2 H => ?_)
      refine n_callU rfl (fun _ => rfl) rfl (zcU_mono H fun I4 Z5 H => ?_)
      have o6 := H.1
      replace H := H.2
      refine w_iinc rfl rfl rfl o6 ?_
      refine w_goto rfl ?_
      exact H
set_option maxHeartbeats 4000000 in
set_option maxRecDepth 100000 in
theorem wr_Rewriter_extend {d : Nat} {Q : cm_Q} {z : cm_Z} {I : cm_I} (hz : wz z) {x1 : Int}  (H : (cm_i ((I 198 4) + 1) ∧ cw d cd_Rewriter_extend Q 7 [some (vR 8 198), some (vI x1), some (vI ((I 198 4) + 1))] [] (I, z))) : cm_call (d + 1) m_Rewriter_extend [vR 8 198, vI x1] (I, z) Q := by
  refine cm_call_in (C := cd_Rewriter_extend) (ls := [some (vR 8 198), some (vI x1), none]) rfl rfl (show 0 < 198 by decide) rfl ?_
  refine w_aload rfl rfl ?_
  refine m_getI 4 rfl rfl rfl (by decide) ?_
  refine w_iconst rfl ⟨by decide, by decide⟩ ?_
  have o1 := H.1
  replace H := H.2
  refine w_iadd rfl o1 ?_
  refine w_istore rfl rfl ?_
  exact H
set_option maxHeartbeats 4000000 in
set_option maxRecDepth 100000 in
theorem wr_Rewriter_fillGrade_6 {d : Nat} {Q : cm_Q} {z : cm_Z} {I : cm_I} (hz : wz z) {a1 : Nat} {x2 : Int} {sh : Nat} (y_198_2 : z.1 198 2 = sh) (p_sh : isSh sh) (p_a1 : 0 < a1) (H : (((I sh 0) ≤ x2 → (mU d m_Rewriter_addSecondaries [vR 8 198, vR 2 a1] z I fun I1 => (∀ I2 : cm_I, I2 = iu I1 198 4 (I1 a1 0) → Q none (I2, z)))) ∧ (x2 < (I sh 0) → ((0:Int) ≤ x2 ∧ x2 < 3) ∧ (((I a1 0) < (I 190 x2) → (cm_i (x2 + 1) ∧ cw d cd_Rewriter_fillGrade Q 6 [some (vR 8 198), some (vR 2 a1), some (vI (x2 + 1))] [] (I, z))) ∧ ((I 190 x2) ≤ (I a1 0) → (zcU d m_Rewriter_addProducts [vR 8 198, vR 2 a1, vI x2] z I fun I5 Z6 => (cm_i (x2 + 1) ∧ cw d cd_Rewriter_fillGrade Q 6 [some (vR 8 198), some (vR 2 a1), some (vI (x2 + 1))] [] (I5, Z6)))))))) : cw d cd_Rewriter_fillGrade Q 6 [some (vR 8 198), some (vR 2 a1), some (vI x2)] [] (I, z) := by
  refine w_iload rfl rfl ?_
  refine w_aload rfl rfl ?_
  refine n_getR 2 9 rfl rfl rfl rfl (by decide) y_198_2 ?_
  refine m_getI 0 rfl rfl rfl (isSh_pos p_sh) ?_
  refine w_icmp rfl (And.intro (fun hc => ?_) (fun hc => ?_))
  · replace H := H.1 hc
    refine w_aload rfl rfl ?_
    refine w_aload rfl rfl ?_
    refine m_callU rfl (fun _ => rfl) rfl (mU_mono H fun I1 H => ?_)
    refine w_aload rfl rfl ?_
    refine w_aload rfl rfl ?_
    refine m_getI 0 rfl rfl rfl p_a1 ?_
    refine m_putI 4 rfl rfl rfl (by decide) (fun I2 eI2 => ?_)
    replace H := H I2 eI2
    exact w_return rfl H
  · replace H := H.2 hc
    refine w_aload rfl rfl ?_
    refine n_getR 1 6 rfl rfl rfl rfl (by decide) (wz_R hz 198 1 185 rfl (by decide)) ?_
    refine n_getR 12 20 rfl rfl rfl rfl (by decide) (wz_R hz 185 12 190 rfl (by decide)) ?_
    refine w_iload rfl rfl ?_
    have o3 := H.1
    replace H := H.2
    refine n_iaload rfl (by decide) (wz_L hz 190 3 rfl (by decide)) o3 ?_
    refine w_aload rfl rfl ?_
    refine m_getI 0 rfl rfl rfl p_a1 ?_
    refine w_icmp rfl (And.intro (fun hc => ?_) (fun hc => ?_))
    · replace H := H.1 hc
      have o4 := H.1
      replace H := H.2
      refine w_iinc rfl rfl rfl o4 ?_
      refine w_goto rfl ?_
      exact H
    · replace H := H.2 hc
      refine w_aload rfl rfl ?_
      refine w_aload rfl rfl ?_
      refine w_iload rfl rfl ?_
      refine n_callU rfl (fun _ => rfl) rfl (zcU_mono H fun I5 Z6 H => ?_)
      have o7 := H.1
      replace H := H.2
      refine w_iinc rfl rfl rfl o7 ?_
      refine w_goto rfl ?_
      exact H
set_option maxHeartbeats 4000000 in
set_option maxRecDepth 100000 in
theorem wr_Rewriter_fillGrade {d : Nat} {Q : cm_Q} {z : cm_Z} {I : cm_I} (hz : wz z) {a1 : Nat}  (H : (zcU d m_Grade_beginProducts [vR 2 a1] z I fun I1 Z2 => cw d cd_Rewriter_fillGrade Q 6 [some (vR 8 198), some (vR 2 a1), some (vI 0)] [] (I1, Z2))) : cm_call (d + 1) m_Rewriter_fillGrade [vR 8 198, vR 2 a1] (I, z) Q := by
  refine cm_call_in (C := cd_Rewriter_fillGrade) (ls := [some (vR 8 198), some (vR 2 a1), none]) rfl rfl (show 0 < 198 by decide) rfl ?_
  refine w_aload rfl rfl ?_
  refine n_callU rfl (fun _ => rfl) rfl (zcU_mono H fun I1 Z2 H => ?_)
  refine w_iconst rfl ⟨by decide, by decide⟩ ?_
  refine w_istore rfl rfl ?_
  exact H
set_option maxHeartbeats 4000000 in
set_option maxRecDepth 100000 in
theorem wr_Rewriter_addProducts_77 {d : Nat} {Q : cm_Q} {z : cm_Z} {I : cm_I} (hz : wz z) {a1 : Nat} {x2 : Int} {a3 : Nat} {z4 : Option cm_V} {x5 : Int} {z6 : Option cm_V} {z7 : Option cm_V} {z8 : Option cm_V} {z9 : Option cm_V} {z10 : Option cm_V} {q_a3_8 : Nat} (p_a3 : 0 < a3) (p_a1 : 0 < a1) (y_a3_8 : z.1 a3 8 = q_a3_8) (p_q_a3_8 : 0 < q_a3_8) (H : (((I a3 6) ≤ x5 → Q none (I, z)) ∧ (x5 < (I a3 6) → (((I a1 3) ≤ (I a1 6) → Q none (I, z)) ∧ ((I a1 6) < (I a1 3) → (cm_i (4 * x5) ∧ (cm_i ((4 * x5) + 2) ∧ ((0:Int) ≤ ((4 * x5) + 2) ∧ ((4 * x5) + 2) < z.2.1 q_a3_8) ∧ (cm_i ((4 * x5) + 3) ∧ ((0:Int) ≤ ((4 * x5) + 3) ∧ ((4 * x5) + 3) < z.2.1 q_a3_8) ∧ ((1 ≤ x2 → cw d cd_Rewriter_addProducts Q 135 [some (vR 8 198), some (vR 2 a1), some (vI x2), some (vR 2 a3), z4, some (vI x5), some (vI (4 * x5)), some (vI (I q_a3_8 ((4 * x5) + 2))), some (vI (I q_a3_8 ((4 * x5) + 3))), z9, z10] [] (I, z)) ∧ (x2 < 1 → ((0 < (I q_a3_8 ((4 * x5) + 2)) → (cm_i (x5 + 1) ∧ cw d cd_Rewriter_addProducts Q 77 [some (vR 8 198), some (vR 2 a1), some (vI x2), some (vR 2 a3), z4, some (vI (x5 + 1)), some (vI (4 * x5)), some (vI (I q_a3_8 ((4 * x5) + 2))), some (vI (I q_a3_8 ((4 * x5) + 3))), z9, z10] [] (I, z))) ∧ ((I q_a3_8 ((4 * x5) + 2)) ≤ 0 → cw d cd_Rewriter_addProducts Q 135 [some (vR 8 198), some (vR 2 a1), some (vI x2), some (vR 2 a3), z4, some (vI x5), some (vI (4 * x5)), some (vI (I q_a3_8 ((4 * x5) + 2))), some (vI (I q_a3_8 ((4 * x5) + 3))), z9, z10] [] (I, z))))))))))))) : cw d cd_Rewriter_addProducts Q 77 [some (vR 8 198), some (vR 2 a1), some (vI x2), some (vR 2 a3), z4, some (vI x5), z6, z7, z8, z9, z10] [] (I, z) := by
  refine w_iload rfl rfl ?_
  refine w_aload rfl rfl ?_
  refine m_getI 6 rfl rfl rfl p_a3 ?_
  refine w_icmp rfl (And.intro (fun hc => ?_) (fun hc => ?_))
  · replace H := H.1 hc
    exact w_return rfl H
  · replace H := H.2 hc
    refine w_aload rfl rfl ?_
    refine m_getI 6 rfl rfl rfl p_a1 ?_
    refine w_aload rfl rfl ?_
    refine m_getI 3 rfl rfl rfl p_a1 ?_
    refine w_icmp rfl (And.intro (fun hc => ?_) (fun hc => ?_))
    · replace H := H.1 hc
      exact w_return rfl H
    · replace H := H.2 hc
      refine w_iconst rfl ⟨by decide, by decide⟩ ?_
      refine w_iload rfl rfl ?_
      have o1 := H.1
      replace H := H.2
      refine w_imul rfl o1 ?_
      refine w_istore rfl rfl ?_
      refine w_aload rfl rfl ?_
      refine n_getR 8 20 rfl rfl rfl rfl p_a3 y_a3_8 ?_
      refine w_iload rfl rfl ?_
      refine w_iconst rfl ⟨by decide, by decide⟩ ?_
      have o2 := H.1
      replace H := H.2
      refine w_iadd rfl o2 ?_
      have o3 := H.1
      replace H := H.2
      refine n_iaload rfl p_q_a3_8 rfl o3 ?_
      refine w_istore rfl rfl ?_
      refine w_aload rfl rfl ?_
      refine n_getR 8 20 rfl rfl rfl rfl p_a3 y_a3_8 ?_
      refine w_iload rfl rfl ?_
      refine w_iconst rfl ⟨by decide, by decide⟩ ?_
      have o4 := H.1
      replace H := H.2
      refine w_iadd rfl o4 ?_
      have o5 := H.1
      replace H := H.2
      refine n_iaload rfl p_q_a3_8 rfl o5 ?_
      refine w_istore rfl rfl ?_
      refine w_iload rfl rfl ?_
      refine w_iconst rfl ⟨by decide, by decide⟩ ?_
      refine w_icmp rfl (And.intro (fun hc => ?_) (fun hc => ?_))
      · replace H := H.1 hc
        exact H
      · replace H := H.2 hc
        refine w_iload rfl rfl ?_
        refine w_if rfl (And.intro (fun hc => ?_) (fun hc => ?_))
        · replace H := H.1 hc
          have o6 := H.1
          replace H := H.2
          refine w_iinc rfl rfl rfl o6 ?_
          refine w_goto rfl ?_
          exact H
        · replace H := H.2 hc
          exact H
set_option maxHeartbeats 4000000 in
set_option maxRecDepth 100000 in
theorem wr_Rewriter_addProducts_135 {d : Nat} {Q : cm_Q} {z : cm_Z} {I : cm_I} (hz : wz z) {a1 : Nat} {x2 : Int} {a3 : Nat} {z4 : Option cm_V} {x5 : Int} {x6 : Int} {x7 : Int} {x8 : Int} {z9 : Option cm_V} {z10 : Option cm_V}  (H : ((2 ≤ x2 → cw d cd_Rewriter_addProducts Q 148 [some (vR 8 198), some (vR 2 a1), some (vI x2), some (vR 2 a3), z4, some (vI x5), some (vI x6), some (vI x7), some (vI x8), z9, z10] [] (I, z)) ∧ (x2 < 2 → ((x8 ≤ 0 → cw d cd_Rewriter_addProducts Q 148 [some (vR 8 198), some (vR 2 a1), some (vI x2), some (vR 2 a3), z4, some (vI x5), some (vI x6), some (vI x7), some (vI x8), z9, z10] [] (I, z)) ∧ (0 < x8 → (cm_i (x5 + 1) ∧ cw d cd_Rewriter_addProducts Q 77 [some (vR 8 198), some (vR 2 a1), some (vI x2), some (vR 2 a3), z4, some (vI (x5 + 1)), some (vI x6), some (vI x7), some (vI x8), z9, z10] [] (I, z))))))) : cw d cd_Rewriter_addProducts Q 135 [some (vR 8 198), some (vR 2 a1), some (vI x2), some (vR 2 a3), z4, some (vI x5), some (vI x6), some (vI x7), some (vI x8), z9, z10] [] (I, z) := by
  refine w_iload rfl rfl ?_
  refine w_iconst rfl ⟨by decide, by decide⟩ ?_
  refine w_icmp rfl (And.intro (fun hc => ?_) (fun hc => ?_))
  · replace H := H.1 hc
    exact H
  · replace H := H.2 hc
    refine w_iload rfl rfl ?_
    refine w_if rfl (And.intro (fun hc => ?_) (fun hc => ?_))
    · replace H := H.1 hc
      exact H
    · replace H := H.2 hc
      refine w_goto rfl ?_
      have o1 := H.1
      replace H := H.2
      refine w_iinc rfl rfl rfl o1 ?_
      refine w_goto rfl ?_
      exact H
set_option maxHeartbeats 4000000 in
set_option maxRecDepth 100000 in
theorem wr_Rewriter_addProducts_148 {d : Nat} {Q : cm_Q} {z : cm_Z} {I : cm_I} (hz : wz z) {a1 : Nat} {x2 : Int} {a3 : Nat} {z4 : Option cm_V} {x5 : Int} {x6 : Int} {x7 : Int} {x8 : Int} {z9 : Option cm_V} {z10 : Option cm_V} {q_a3_7 : Nat} (p_a3 : 0 < a3) (y_a3_7 : z.1 a3 7 = q_a3_7) (p_a1 : 0 < a1) (H : (cm_i ((I a3 2) * x5) ∧ (zcU d m_Piece_put [vR 5 207, vR 20 q_a3_7, vI ((I a3 2) * x5), vI (I a3 0)] z I fun I2 Z3 => (mU d m_Rewriter_putSum [vR 8 198, vR 2 a1] Z3 I2 fun I4 => (wz Z3 ∧ (mU d m_Grade_takeParts [vR 2 a1, vR 20 204, vI 0, vR 20 203] Z3 I4 fun I6 => (mI d m_Grade_insert [vR 2 a1, vR 20 203] Z3 I6 fun v8 I7 => ((v8 = 0 → (cm_i (x5 + 1) ∧ cw d cd_Rewriter_addProducts Q 77 [some (vR 8 198), some (vR 2 a1), some (vI x2), some (vR 2 a3), z4, some (vI (x5 + 1)), some (vI x6), some (vI x7), some (vI x8), z9, z10] [] (I7, Z3))) ∧ (¬ v8 = 0 → (cm_i ((I7 a1 6) - 1) ∧ (cm_i (x6 + 1) ∧ (0 < ((Z3.1 a3 8)) ∧ ((0:Int) ≤ (x6 + 1) ∧ (x6 + 1) < Z3.2.1 ((Z3.1 a3 8))) ∧ ((¬ x2 = 0 → cw d cd_Rewriter_addProducts Q 225 [some (vR 8 198), some (vR 2 a1), some (vI x2), some (vR 2 a3), z4, some (vI x5), some (vI x6), some (vI x7), some (vI x8), some (vI ((I7 a1 6) - 1)), z10] [vI 0, vI (I7 (Z3.1 a3 8) (x6 + 1))] (I7, Z3)) ∧ (x2 = 0 → cw d cd_Rewriter_addProducts Q 225 [some (vR 8 198), some (vR 2 a1), some (vI x2), some (vR 2 a3), z4, some (vI x5), some (vI x6), some (vI x7), some (vI x8), some (vI ((I7 a1 6) - 1)), z10] [vI 1, vI (I7 (Z3.1 a3 8) (x6 + 1))] (I7, Z3))))))))))))))) : cw d cd_Rewriter_addProducts Q 148 [some (vR 8 198), some (vR 2 a1), some (vI x2), some (vR 2 a3), z4, some (vI x5), some (vI x6), some (vI x7), some (vI x8), z9, z10] [] (I, z) := by
  refine w_aload rfl rfl ?_
  refine n_getR 15 5 rfl rfl rfl rfl (by decide) (wz_R hz 198 15 207 rfl (by decide)) ?_
  refine w_aload rfl rfl ?_
  refine n_getR 7 20 rfl rfl rfl rfl p_a3 y_a3_7 ?_
  refine w_aload rfl rfl ?_
  refine m_getI 2 rfl rfl rfl p_a3 ?_
  refine w_iload rfl rfl ?_
  have o1 := H.1
  replace H := H.2
  refine w_imul rfl o1 ?_
  refine w_aload rfl rfl ?_
  refine m_getI 0 rfl rfl rfl p_a3 ?_
  refine n_callU rfl (fun _ => rfl) rfl (zcU_mono H fun I2 Z3 H => ?_)
  refine w_aload rfl rfl ?_
  refine w_aload rfl rfl ?_
  refine m_callU rfl (fun _ => rfl) rfl (mU_mono H fun I4 H => ?_)
  refine w_aload rfl rfl ?_
  refine w_aload rfl rfl ?_
  have o5 := H.1
  replace H := H.2
  refine n_getR 13 20 rfl rfl rfl rfl (by decide) (wz_R o5 198 13 204 rfl (by decide)) ?_
  refine w_iconst rfl ⟨by decide, by decide⟩ ?_
  refine w_aload rfl rfl ?_
  refine n_getR 12 20 rfl rfl rfl rfl (by decide) (wz_R o5 198 12 203 rfl (by decide)) ?_
  refine m_callU rfl (fun _ => rfl) rfl (mU_mono H fun I6 H => ?_)
  refine w_aload rfl rfl ?_
  refine w_aload rfl rfl ?_
  refine n_getR 12 20 rfl rfl rfl rfl (by decide) (wz_R o5 198 12 203 rfl (by decide)) ?_
  refine m_callI rfl (fun _ => rfl) rfl (mI_mono H fun v8 I7 H => ?_)
  refine w_if rfl (And.intro (fun hc => ?_) (fun hc => ?_))
  · replace H := H.1 hc
    have o9 := H.1
    replace H := H.2
    refine w_iinc rfl rfl rfl o9 ?_
    refine w_goto rfl ?_
    exact H
  · replace H := H.2 hc
    refine w_aload rfl rfl ?_
    refine m_getI 6 rfl rfl rfl p_a1 ?_
    refine w_iconst rfl ⟨by decide, by decide⟩ ?_
    have o10 := H.1
    replace H := H.2
    refine w_isub rfl o10 ?_
    refine w_istore rfl rfl ?_
    refine w_aload rfl rfl ?_
    refine n_getR 8 20 rfl rfl rfl rfl p_a3 rfl ?_
    refine w_iload rfl rfl ?_
    refine w_iconst rfl ⟨by decide, by decide⟩ ?_
    have o11 := H.1
    replace H := H.2
    refine w_iadd rfl o11 ?_
    have o12 := H.1
    replace H := H.2
    have o13 := H.1
    replace H := H.2
    refine n_iaload rfl o12 rfl o13 ?_
    refine w_iload rfl rfl ?_
    refine w_if rfl (And.intro (fun hc => ?_) (fun hc => ?_))
    · replace H := H.1 hc
      refine w_iconst rfl ⟨by decide, by decide⟩ ?_
      exact H
    · replace H := H.2 hc
      refine w_iconst rfl ⟨by decide, by decide⟩ ?_
      refine w_goto rfl ?_
      exact H
set_option maxHeartbeats 4000000 in
set_option maxRecDepth 100000 in
theorem wr_Rewriter_addProducts_225 {d : Nat} {Q : cm_Q} {z : cm_Z} {I : cm_I} (hz : wz z) {a1 : Nat} {x2 : Int} {a3 : Nat} {z4 : Option cm_V} {x5 : Int} {x6 : Int} {x7 : Int} {x8 : Int} {x9 : Int} {z10 : Option cm_V} {s0 : Int} {s1 : Int} {q_a3_8 : Nat} (p_a3 : 0 < a3) (y_a3_8 : z.1 a3 8 = q_a3_8) (p_q_a3_8 : 0 < q_a3_8) (H : (cm_i (s1 + s0) ∧ ((0:Int) ≤ x6 ∧ x6 < z.2.1 q_a3_8) ∧ ((¬ x2 = 1 → cw d cd_Rewriter_addProducts Q 252 [some (vR 8 198), some (vR 2 a1), some (vI x2), some (vR 2 a3), z4, some (vI x5), some (vI x6), some (vI x7), some (vI x8), some (vI x9), some (vI (s1 + s0))] [vI 0, vI x7, vI (s1 + s0), vI (I q_a3_8 x6), vI x9, vR 2 a1] (I, z)) ∧ (x2 = 1 → cw d cd_Rewriter_addProducts Q 252 [some (vR 8 198), some (vR 2 a1), some (vI x2), some (vR 2 a3), z4, some (vI x5), some (vI x6), some (vI x7), some (vI x8), some (vI x9), some (vI (s1 + s0))] [vI 1, vI x7, vI (s1 + s0), vI (I q_a3_8 x6), vI x9, vR 2 a1] (I, z))))) : cw d cd_Rewriter_addProducts Q 225 [some (vR 8 198), some (vR 2 a1), some (vI x2), some (vR 2 a3), z4, some (vI x5), some (vI x6), some (vI x7), some (vI x8), some (vI x9), z10] [vI s0, vI s1] (I, z) := by
  have o1 := H.1
  replace H := H.2
  refine w_iadd rfl o1 ?_
  refine w_istore rfl rfl ?_
  refine w_aload rfl rfl ?_
  refine w_iload rfl rfl ?_
  refine w_aload rfl rfl ?_
  refine n_getR 8 20 rfl rfl rfl rfl p_a3 y_a3_8 ?_
  refine w_iload rfl rfl ?_
  have o2 := H.1
  replace H := H.2
  refine n_iaload rfl p_q_a3_8 rfl o2 ?_
  refine w_iload rfl rfl ?_
  refine w_iload rfl rfl ?_
  refine w_iload rfl rfl ?_
  refine w_iconst rfl ⟨by decide, by decide⟩ ?_
  refine w_icmp rfl (And.intro (fun hc => ?_) (fun hc => ?_))
  · replace H := H.1 hc
    refine w_iconst rfl ⟨by decide, by decide⟩ ?_
    exact H
  · replace H := H.2 hc
    refine w_iconst rfl ⟨by decide, by decide⟩ ?_
    refine w_goto rfl ?_
    exact H
set_option maxHeartbeats 4000000 in
set_option maxRecDepth 100000 in
theorem wr_Rewriter_addProducts_252 {d : Nat} {Q : cm_Q} {z : cm_Z} {I : cm_I} (hz : wz z) {a1 : Nat} {x2 : Int} {a3 : Nat} {z4 : Option cm_V} {x5 : Int} {z6 : Option cm_V} {z7 : Option cm_V} {x8 : Int} {x9 : Int} {z10 : Option cm_V} {s0 : Int} {s1 : Int} {s2 : Int} {s3 : Int} {s4 : Int} {b5 : Nat}  (H : (cm_i (s1 + s0) ∧ ((¬ x2 = 2 → cw d cd_Rewriter_addProducts Q 265 [some (vR 8 198), some (vR 2 a1), some (vI x2), some (vR 2 a3), z4, some (vI x5), z6, z7, some (vI x8), some (vI x9), z10] [vI 0, vI x8, vI (s1 + s0), vI s2, vI s3, vI s4, vR 2 b5] (I, z)) ∧ (x2 = 2 → cw d cd_Rewriter_addProducts Q 265 [some (vR 8 198), some (vR 2 a1), some (vI x2), some (vR 2 a3), z4, some (vI x5), z6, z7, some (vI x8), some (vI x9), z10] [vI 1, vI x8, vI (s1 + s0), vI s2, vI s3, vI s4, vR 2 b5] (I, z))))) : cw d cd_Rewriter_addProducts Q 252 [some (vR 8 198), some (vR 2 a1), some (vI x2), some (vR 2 a3), z4, some (vI x5), z6, z7, some (vI x8), some (vI x9), z10] [vI s0, vI s1, vI s2, vI s3, vI s4, vR 2 b5] (I, z) := by
  have o1 := H.1
  replace H := H.2
  refine w_iadd rfl o1 ?_
  refine w_iload rfl rfl ?_
  refine w_iload rfl rfl ?_
  refine w_iconst rfl ⟨by decide, by decide⟩ ?_
  refine w_icmp rfl (And.intro (fun hc => ?_) (fun hc => ?_))
  · replace H := H.1 hc
    refine w_iconst rfl ⟨by decide, by decide⟩ ?_
    exact H
  · replace H := H.2 hc
    refine w_iconst rfl ⟨by decide, by decide⟩ ?_
    refine w_goto rfl ?_
    exact H
set_option maxHeartbeats 4000000 in
set_option maxRecDepth 100000 in
theorem wr_Rewriter_addProducts_265 {d : Nat} {Q : cm_Q} {z : cm_Z} {I : cm_I} (hz : wz z) {a1 : Nat} {x2 : Int} {a3 : Nat} {z4 : Option cm_V} {x5 : Int} {z6 : Option cm_V} {z7 : Option cm_V} {z8 : Option cm_V} {x9 : Int} {z10 : Option cm_V} {s0 : Int} {s1 : Int} {s2 : Int} {s3 : Int} {s4 : Int} {s5 : Int} {b6 : Nat} {q_a1_7 : Nat} (p_a1 : 0 < a1) (y_a1_7 : z.1 a1 7 = q_a1_7) (p_q_a1_7 : 0 < q_a1_7) (H : (cm_i (s1 + s0) ∧ (mU d m_Grade_label [vR 2 b6, vI s5, vI s4, vI s3, vI s2, vI (s1 + s0)] z I fun I2 => (cm_i ((I2 a1 2) * x9) ∧ ((0:Int) ≤ 0 ∧ (0:Int) ≤ ((I2 a1 2) * x9) ∧ (0:Int) ≤ (I2 a1 2) ∧ (0 : Int) + (I2 a1 2) ≤ 136 ∧ (((I2 a1 2) * x9) : Int) + (I2 a1 2) ≤ z.2.1 q_a1_7) ∧ (∀ I5 : cm_I, I5 = iw I2 q_a1_7 (cpyF (I2 204) 0 (I2 q_a1_7) ((I2 a1 2) * x9) (I2 a1 2)) → (cm_i (x5 + 1) ∧ cw d cd_Rewriter_addProducts Q 77 [some (vR 8 198), some (vR 2 a1), some (vI x2), some (vR 2 a3), z4, some (vI (x5 + 1)), z6, z7, z8, some (vI x9), z10] [] (I5, z))))))) : cw d cd_Rewriter_addProducts Q 265 [some (vR 8 198), some (vR 2 a1), some (vI x2), some (vR 2 a3), z4, some (vI x5), z6, z7, z8, some (vI x9), z10] [vI s0, vI s1, vI s2, vI s3, vI s4, vI s5, vR 2 b6] (I, z) := by
  have o1 := H.1
  replace H := H.2
  refine w_iadd rfl o1 ?_
  refine m_callU rfl (fun _ => rfl) rfl (mU_mono H fun I2 H => ?_)
  refine w_aload rfl rfl ?_
  refine n_getR 13 20 rfl rfl rfl rfl (by decide) (wz_R hz 198 13 204 rfl (by decide)) ?_
  refine w_iconst rfl ⟨by decide, by decide⟩ ?_
  refine w_aload rfl rfl ?_
  refine n_getR 7 20 rfl rfl rfl rfl p_a1 y_a1_7 ?_
  refine w_aload rfl rfl ?_
  refine m_getI 2 rfl rfl rfl p_a1 ?_
  refine w_iload rfl rfl ?_
  have o3 := H.1
  replace H := H.2
  refine w_imul rfl o3 ?_
  refine w_aload rfl rfl ?_
  refine m_getI 2 rfl rfl rfl p_a1 ?_
  have o4 := H.1
  replace H := H.2
  refine n_copy rfl rfl (by decide) p_q_a1_7 (wz_L hz 204 136 rfl (by decide)) rfl o4 (fun I5 eI5 => ?_)
  replace H := H I5 eI5
  have o6 := H.1
  replace H := H.2
  refine w_iinc rfl rfl rfl o6 ?_
  refine w_goto rfl ?_
  exact H
set_option maxHeartbeats 4000000 in
set_option maxRecDepth 100000 in
theorem wr_Rewriter_addProducts {d : Nat} {Q : cm_Q} {z : cm_Z} {I : cm_I} (hz : wz z) {a1 : Nat} {x2 : Int} (p_a1 : 0 < a1) (H : ((0:Int) ≤ x2 ∧ x2 < 3) ∧ (cm_i ((I a1 0) - (I 190 x2)) ∧ ((0:Int) ≤ ((I a1 0) - (I 190 x2)) ∧ ((I a1 0) - (I 190 x2)) < 16) ∧ ((0:Int) ≤ (I 190 x2) ∧ (I 190 x2) < 16) ∧ (cm_i ((I (73 + 7 * Int.toNat (I 190 x2)) 2) * (I 191 x2)) ∧ (zcU d m_Piece_put [vR 5 205, vR 20 (z.1 (73 + 7 * Int.toNat (I 190 x2)) 4), vI ((I (73 + 7 * Int.toNat (I 190 x2)) 2) * (I 191 x2)), vI (I (73 + 7 * Int.toNat (I 190 x2)) 0)] z I fun I6 Z7 => cw d cd_Rewriter_addProducts Q 77 [some (vR 8 198), some (vR 2 a1), some (vI x2), some (vR 2 (73 + 7 * Int.toNat ((I a1 0) - (I 190 x2)))), some (vR 2 (73 + 7 * Int.toNat (I 190 x2))), some (vI 0), none, none, none, none, none] [] (I6, Z7))))) : cm_call (d + 1) m_Rewriter_addProducts [vR 8 198, vR 2 a1, vI x2] (I, z) Q := by
  refine cm_call_in (C := cd_Rewriter_addProducts) (ls := [some (vR 8 198), some (vR 2 a1), some (vI x2), none, none, none, none, none, none, none, none]) rfl rfl (show 0 < 198 by decide) rfl ?_
  refine w_aload rfl rfl ?_
  refine n_getR 0 0 rfl rfl rfl rfl (by decide) (wz_R hz 198 0 66 rfl (by decide)) ?_
  refine n_getR 5 24 rfl rfl rfl rfl (by decide) (wz_R hz 66 5 68 rfl (by decide)) ?_
  refine w_aload rfl rfl ?_
  refine m_getI 0 rfl rfl rfl p_a1 ?_
  refine w_aload rfl rfl ?_
  refine n_getR 1 6 rfl rfl rfl rfl (by decide) (wz_R hz 198 1 185 rfl (by decide)) ?_
  refine n_getR 12 20 rfl rfl rfl rfl (by decide) (wz_R hz 185 12 190 rfl (by decide)) ?_
  refine w_iload rfl rfl ?_
  have o1 := H.1
  replace H := H.2
  refine n_iaload rfl (by decide) (wz_L hz 190 3 rfl (by decide)) o1 ?_
  have o2 := H.1
  replace H := H.2
  refine w_isub rfl o2 ?_
  have o3 := H.1
  replace H := H.2
  refine n_aaload rfl rfl rfl (by decide) (wz_L hz 68 16 rfl (by decide)) o3 (wz_grades hz o3) ?_
  refine w_astore rfl rfl ?_
  refine w_aload rfl rfl ?_
  refine n_getR 0 0 rfl rfl rfl rfl (by decide) (wz_R hz 198 0 66 rfl (by decide)) ?_
  refine n_getR 5 24 rfl rfl rfl rfl (by decide) (wz_R hz 66 5 68 rfl (by decide)) ?_
  refine w_aload rfl rfl ?_
  refine n_getR 1 6 rfl rfl rfl rfl (by decide) (wz_R hz 198 1 185 rfl (by decide)) ?_
  refine n_getR 12 20 rfl rfl rfl rfl (by decide) (wz_R hz 185 12 190 rfl (by decide)) ?_
  refine w_iload rfl rfl ?_
  refine n_iaload rfl (by decide) (wz_L hz 190 3 rfl (by decide)) o1 ?_
  have o4 := H.1
  replace H := H.2
  refine n_aaload rfl rfl rfl (by decide) (wz_L hz 68 16 rfl (by decide)) o4 (wz_grades hz o4) ?_
  refine w_astore rfl rfl ?_
  refine w_aload rfl rfl ?_
  refine n_getR 14 5 rfl rfl rfl rfl (by decide) (wz_R hz 198 14 205 rfl (by decide)) ?_
  refine w_aload rfl rfl ?_
  refine n_getR 4 20 rfl rfl rfl rfl (by omega) rfl ?_
  refine w_aload rfl rfl ?_
  refine m_getI 2 rfl rfl rfl (by omega) ?_
  refine w_aload rfl rfl ?_
  refine n_getR 1 6 rfl rfl rfl rfl (by decide) (wz_R hz 198 1 185 rfl (by decide)) ?_
  refine n_getR 13 20 rfl rfl rfl rfl (by decide) (wz_R hz 185 13 191 rfl (by decide)) ?_
  refine w_iload rfl rfl ?_
  refine n_iaload rfl (by decide) (wz_L hz 191 3 rfl (by decide)) o1 ?_
  have o5 := H.1
  replace H := H.2
  refine w_imul rfl o5 ?_
  refine w_aload rfl rfl ?_
  refine m_getI 0 rfl rfl rfl (by omega) ?_
  refine n_callU rfl (fun _ => rfl) rfl (zcU_mono H fun I6 Z7 H => ?_)
  refine w_iconst rfl ⟨by decide, by decide⟩ ?_
  refine w_istore rfl rfl ?_
  exact H
set_option maxHeartbeats 4000000 in
set_option maxRecDepth 100000 in
theorem wr_Rewriter_putSum_30 {d : Nat} {Q : cm_Q} {z : cm_Z} {I : cm_I} (hz : wz z) {a1 : Nat} {x2 : Int} (p_a1 : 0 < a1) (H : (((I a1 2) ≤ x2 → Q none (I, z)) ∧ (x2 < (I a1 2) → ((0:Int) ≤ x2 ∧ x2 < 136) ∧ (∀ I2 : cm_I, I2 = iu I 204 x2 (Int.tmod (I 204 x2) 2521) → (cm_i (x2 + 1) ∧ cw d cd_Rewriter_putSum Q 30 [some (vR 8 198), some (vR 2 a1), some (vI (x2 + 1))] [] (I2, z)))))) : cw d cd_Rewriter_putSum Q 30 [some (vR 8 198), some (vR 2 a1), some (vI x2)] [] (I, z) := by
  refine w_iload rfl rfl ?_
  refine w_aload rfl rfl ?_
  refine m_getI 2 rfl rfl rfl p_a1 ?_
  refine w_icmp rfl (And.intro (fun hc => ?_) (fun hc => ?_))
  · replace H := H.1 hc
    exact w_return rfl H
  · replace H := H.2 hc
    refine w_aload rfl rfl ?_
    refine n_getR 13 20 rfl rfl rfl rfl (by decide) (wz_R hz 198 13 204 rfl (by decide)) ?_
    refine w_iload rfl rfl ?_
    refine w_dup2 rfl rfl ?_
    have o1 := H.1
    replace H := H.2
    refine n_iaload rfl (by decide) (wz_L hz 204 136 rfl (by decide)) o1 ?_
    refine w_iconst rfl ⟨by decide, by decide⟩ ?_
    refine w_irem rfl (by decide) ?_
    refine n_iastore rfl (by decide) (wz_L hz 204 136 rfl (by decide)) o1 (fun I2 eI2 => ?_)
    replace H := H I2 eI2
    have o3 := H.1
    replace H := H.2
    refine w_iinc rfl rfl rfl o3 ?_
    refine w_goto rfl ?_
    exact H
set_option maxHeartbeats 4000000 in
set_option maxRecDepth 100000 in
theorem wr_Rewriter_putSum {d : Nat} {Q : cm_Q} {z : cm_Z} {I : cm_I} (hz : wz z) {a1 : Nat} {sh : Nat} (y_198_2 : z.1 198 2 = sh) (H : (mU d m_Arr_fill [vR 20 204, vI 0] z I fun I1 => (mU d m_Shape_addProduct [vR 9 sh, vR 5 205, vR 5 207, vR 20 204, vI 0] z I1 fun I2 => cw d cd_Rewriter_putSum Q 30 [some (vR 8 198), some (vR 2 a1), some (vI 0)] [] (I2, z)))) : cm_call (d + 1) m_Rewriter_putSum [vR 8 198, vR 2 a1] (I, z) Q := by
  refine cm_call_in (C := cd_Rewriter_putSum) (ls := [some (vR 8 198), some (vR 2 a1), none]) rfl rfl (show 0 < 198 by decide) rfl ?_
  refine w_aload rfl rfl ?_
  refine n_getR 13 20 rfl rfl rfl rfl (by decide) (wz_R hz 198 13 204 rfl (by decide)) ?_
  refine w_iconst rfl ⟨by decide, by decide⟩ ?_
  refine m_callU rfl (fun _ => rfl) rfl (mU_mono H fun I1 H => ?_)
  refine w_aload rfl rfl ?_
  refine n_getR 2 9 rfl rfl rfl rfl (by decide) y_198_2 ?_
  refine w_aload rfl rfl ?_
  refine n_getR 14 5 rfl rfl rfl rfl (by decide) (wz_R hz 198 14 205 rfl (by decide)) ?_
  refine w_aload rfl rfl ?_
  refine n_getR 15 5 rfl rfl rfl rfl (by decide) (wz_R hz 198 15 207 rfl (by decide)) ?_
  refine w_aload rfl rfl ?_
  refine n_getR 13 20 rfl rfl rfl rfl (by decide) (wz_R hz 198 13 204 rfl (by decide)) ?_
  refine w_iconst rfl ⟨by decide, by decide⟩ ?_
  refine m_callU rfl (fun _ => rfl) rfl (mU_mono H fun I2 H => ?_)
  refine w_iconst rfl ⟨by decide, by decide⟩ ?_
  refine w_istore rfl rfl ?_
  exact H
set_option maxHeartbeats 4000000 in
set_option maxRecDepth 100000 in
theorem wr_Rewriter_addSecondaries_2 {d : Nat} {Q : cm_Q} {z : cm_Z} {I : cm_I} (hz : wz z) {a1 : Nat} {x2 : Int} {z3 : Option cm_V} {z4 : Option cm_V} {q_a1_4 : Nat} {q_a1_7 : Nat} (p_a1 : 0 < a1) (y_a1_4 : z.1 a1 4 = q_a1_4) (y_a1_7 : z.1 a1 7 = q_a1_7) (p_q_a1_4 : 0 < q_a1_4) (p_q_a1_7 : 0 < q_a1_7) (H : (((I a1 3) ≤ x2 → Q none (I, z)) ∧ (x2 < (I a1 3) → (((I a1 3) ≤ (I a1 6) → Q none (I, z)) ∧ ((I a1 6) < (I a1 3) → (cm_i ((I a1 2) * x2) ∧ (mU d m_Grade_takeParts [vR 2 a1, vR 20 q_a1_4, vI ((I a1 2) * x2), vR 20 203] z I fun I2 => ((216 ≤ (I2 198 3) → (cm_i (x2 + 1) ∧ cw d cd_Rewriter_addSecondaries Q 2 [some (vR 8 198), some (vR 2 a1), some (vI (x2 + 1)), some (vI ((I a1 2) * x2)), z4] [] (I2, z))) ∧ ((I2 198 3) < 216 → (mI d m_Grade_insert [vR 2 a1, vR 20 203] z I2 fun v5 I4 => ((v5 = 0 → (cm_i (x2 + 1) ∧ cw d cd_Rewriter_addSecondaries Q 2 [some (vR 8 198), some (vR 2 a1), some (vI (x2 + 1)), some (vI ((I a1 2) * x2)), z4] [] (I4, z))) ∧ (¬ v5 = 0 → (cm_i ((I4 a1 6) - 1) ∧ (mU d m_Grade_label [vR 2 a1, vI ((I4 a1 6) - 1), vI (I4 198 3), vI 0, vI 0, vI 0] z I4 fun I8 => (cm_i ((I8 a1 2) * ((I4 a1 6) - 1)) ∧ ((0:Int) ≤ ((I a1 2) * x2) ∧ (0:Int) ≤ ((I8 a1 2) * ((I4 a1 6) - 1)) ∧ (0:Int) ≤ (I8 a1 2) ∧ (((I a1 2) * x2) : Int) + (I8 a1 2) ≤ z.2.1 q_a1_4 ∧ (((I8 a1 2) * ((I4 a1 6) - 1)) : Int) + (I8 a1 2) ≤ z.2.1 q_a1_7) ∧ (∀ I11 : cm_I, I11 = iw I8 q_a1_7 (cpyF (I8 q_a1_4) ((I a1 2) * x2) (I8 q_a1_7) ((I8 a1 2) * ((I4 a1 6) - 1)) (I8 a1 2)) → ((0:Int) ≤ (I11 198 3) ∧ (I11 198 3) < 216) ∧ (∀ I13 : cm_I, I13 = iu I11 199 (I11 198 3) (I11 a1 0) → ((0:Int) ≤ (I13 198 3) ∧ (I13 198 3) < 216) ∧ (∀ I15 : cm_I, I15 = iu I13 200 (I13 198 3) x2 → (cm_i ((I15 198 3) + 1) ∧ (∀ I17 : cm_I, I17 = iu I15 198 3 ((I15 198 3) + 1) → (cm_i (x2 + 1) ∧ cw d cd_Rewriter_addSecondaries Q 2 [some (vR 8 198), some (vR 2 a1), some (vI (x2 + 1)), some (vI ((I a1 2) * x2)), some (vI ((I4 a1 6) - 1))] [] (I17, z)))))))))))))))))))))) : cw d cd_Rewriter_addSecondaries Q 2 [some (vR 8 198), some (vR 2 a1), some (vI x2), z3, z4] [] (I, z) := by
  refine w_iload rfl rfl ?_
  refine w_aload rfl rfl ?_
  refine m_getI 3 rfl rfl rfl p_a1 ?_
  refine w_icmp rfl (And.intro (fun hc => ?_) (fun hc => ?_))
  · replace H := H.1 hc
    exact w_return rfl H
  · replace H := H.2 hc
    refine w_aload rfl rfl ?_
    refine m_getI 6 rfl rfl rfl p_a1 ?_
    refine w_aload rfl rfl ?_
    refine m_getI 3 rfl rfl rfl p_a1 ?_
    refine w_icmp rfl (And.intro (fun hc => ?_) (fun hc => ?_))
    · replace H := H.1 hc
      exact w_return rfl H
    · replace H := H.2 hc
      refine w_aload rfl rfl ?_
      refine m_getI 2 rfl rfl rfl p_a1 ?_
      refine w_iload rfl rfl ?_
      have o1 := H.1
      replace H := H.2
      refine w_imul rfl o1 ?_
      refine w_istore rfl rfl ?_
      refine w_aload rfl rfl ?_
      refine w_aload rfl rfl ?_
      refine n_getR 4 20 rfl rfl rfl rfl p_a1 y_a1_4 ?_
      refine w_iload rfl rfl ?_
      refine w_aload rfl rfl ?_
      refine n_getR 12 20 rfl rfl rfl rfl (by decide) (wz_R hz 198 12 203 rfl (by decide)) ?_
      refine m_callU rfl (fun _ => rfl) rfl (mU_mono H fun I2 H => ?_)
      refine w_aload rfl rfl ?_
      refine m_getI 3 rfl rfl rfl (by decide) ?_
      refine w_iconst rfl ⟨by decide, by decide⟩ ?_
      refine w_icmp rfl (And.intro (fun hc => ?_) (fun hc => ?_))
      · replace H := H.1 hc
        have o3 := H.1
        replace H := H.2
        refine w_iinc rfl rfl rfl o3 ?_
        refine w_goto rfl ?_
        exact H
      · replace H := H.2 hc
        refine w_aload rfl rfl ?_
        refine w_aload rfl rfl ?_
        refine n_getR 12 20 rfl rfl rfl rfl (by decide) (wz_R hz 198 12 203 rfl (by decide)) ?_
        refine m_callI rfl (fun _ => rfl) rfl (mI_mono H fun v5 I4 H => ?_)
        refine w_if rfl (And.intro (fun hc => ?_) (fun hc => ?_))
        · replace H := H.1 hc
          have o6 := H.1
          replace H := H.2
          refine w_iinc rfl rfl rfl o6 ?_
          refine w_goto rfl ?_
          exact H
        · replace H := H.2 hc
          refine w_aload rfl rfl ?_
          refine m_getI 6 rfl rfl rfl p_a1 ?_
          refine w_iconst rfl ⟨by decide, by decide⟩ ?_
          have o7 := H.1
          replace H := H.2
          refine w_isub rfl o7 ?_
          refine w_istore rfl rfl ?_
          refine w_aload rfl rfl ?_
          refine w_iload rfl rfl ?_
          refine w_aload rfl rfl ?_
          refine m_getI 3 rfl rfl rfl (by decide) ?_
          refine w_iconst rfl ⟨by decide, by decide⟩ ?_
          refine w_iconst rfl ⟨by decide, by decide⟩ ?_
          refine w_iconst rfl ⟨by decide, by decide⟩ ?_
          refine m_callU rfl (fun _ => rfl) rfl (mU_mono H fun I8 H => ?_)
          refine w_aload rfl rfl ?_
          refine n_getR 4 20 rfl rfl rfl rfl p_a1 y_a1_4 ?_
          refine w_iload rfl rfl ?_
          refine w_aload rfl rfl ?_
          refine n_getR 7 20 rfl rfl rfl rfl p_a1 y_a1_7 ?_
          refine w_aload rfl rfl ?_
          refine m_getI 2 rfl rfl rfl p_a1 ?_
          refine w_iload rfl rfl ?_
          have o9 := H.1
          replace H := H.2
          refine w_imul rfl o9 ?_
          refine w_aload rfl rfl ?_
          refine m_getI 2 rfl rfl rfl p_a1 ?_
          have o10 := H.1
          replace H := H.2
          refine n_copy rfl rfl p_q_a1_4 p_q_a1_7 rfl rfl o10 (fun I11 eI11 => ?_)
          replace H := H I11 eI11
          refine w_aload rfl rfl ?_
          refine n_getR 5 20 rfl rfl rfl rfl (by decide) (wz_R hz 198 5 199 rfl (by decide)) ?_
          refine w_aload rfl rfl ?_
          refine m_getI 3 rfl rfl rfl (by decide) ?_
          refine w_aload rfl rfl ?_
          refine m_getI 0 rfl rfl rfl p_a1 ?_
          have o12 := H.1
          replace H := H.2
          refine n_iastore rfl (by decide) (wz_L hz 199 216 rfl (by decide)) o12 (fun I13 eI13 => ?_)
          replace H := H I13 eI13
          refine w_aload rfl rfl ?_
          refine n_getR 6 20 rfl rfl rfl rfl (by decide) (wz_R hz 198 6 200 rfl (by decide)) ?_
          refine w_aload rfl rfl ?_
          refine m_getI 3 rfl rfl rfl (by decide) ?_
          refine w_iload rfl rfl ?_
          have o14 := H.1
          replace H := H.2
          refine n_iastore rfl (by decide) (wz_L hz 200 216 rfl (by decide)) o14 (fun I15 eI15 => ?_)
          replace H := H I15 eI15
          refine w_aload rfl rfl ?_
          refine w_dup rfl rfl ?_
          refine m_getI 3 rfl rfl rfl (by decide) ?_
          refine w_iconst rfl ⟨by decide, by decide⟩ ?_
          have o16 := H.1
          replace H := H.2
          refine w_iadd rfl o16 ?_
          refine m_putI 3 rfl rfl rfl (by decide) (fun I17 eI17 => ?_)
          replace H := H I17 eI17
          have o18 := H.1
          replace H := H.2
          refine w_iinc rfl rfl rfl o18 ?_
          refine w_goto rfl ?_
          exact H
set_option maxHeartbeats 4000000 in
set_option maxRecDepth 100000 in
theorem wr_Rewriter_addSecondaries {d : Nat} {Q : cm_Q} {z : cm_Z} {I : cm_I} (hz : wz z) {a1 : Nat}  (H : cw d cd_Rewriter_addSecondaries Q 2 [some (vR 8 198), some (vR 2 a1), some (vI 0), none, none] [] (I, z)) : cm_call (d + 1) m_Rewriter_addSecondaries [vR 8 198, vR 2 a1] (I, z) Q := by
  refine cm_call_in (C := cd_Rewriter_addSecondaries) (ls := [some (vR 8 198), some (vR 2 a1), none, none, none]) rfl rfl (show 0 < 198 by decide) rfl ?_
  refine w_iconst rfl ⟨by decide, by decide⟩ ?_
  refine w_istore rfl rfl ?_
  exact H
set_option maxHeartbeats 4000000 in
set_option maxRecDepth 100000 in
theorem wr_Rewriter_tell_10 {d : Nat} {Q : cm_Q} {z : cm_Z} {I : cm_I} (hz : wz z) {a1 : Nat} {x2 : Int} {z3 : Option cm_V} {sh : Nat} (y_198_2 : z.1 198 2 = sh) (p_sh : isSh sh) (H : (((I 198 4) < x2 → (mI d m_Shape_termsOf [vR 9 sh, vR 20 201] z I fun v2 I1 => (∀ I3 : cm_I, I3 = iu I1 198 7 v2 → Q none (I3, z)))) ∧ (x2 ≤ (I 198 4) → (mI d m_Shape_isZero [vR 9 sh, vR 20 a1, vI x2] z I fun v5 I4 => ((¬ v5 = 0 → (cm_i (x2 + 1) ∧ cw d cd_Rewriter_tell Q 10 [some (vR 8 198), some (vR 20 a1), some (vI (x2 + 1)), z3] [] (I4, z))) ∧ (v5 = 0 → ((0:Int) ≤ x2 ∧ x2 < 16) ∧ ((0:Int) ≤ x2 ∧ x2 < 17) ∧ (mU d m_Grade_takeParts [vR 2 (73 + 7 * Int.toNat x2), vR 20 a1, vI (I4 (sh + 2) x2), vR 20 203] z I4 fun I9 => (mU d m_Grade_solve [vR 2 (73 + 7 * Int.toNat x2), vR 20 203] z I9 fun I10 => ((0:Int) ≤ 0 ∧ (0:Int) ≤ (I10 (sh + 2) x2) ∧ (0:Int) ≤ (I10 (73 + 7 * Int.toNat x2) 3) ∧ (0 : Int) + (I10 (73 + 7 * Int.toNat x2) 3) ≤ 136 ∧ ((I10 (sh + 2) x2) : Int) + (I10 (73 + 7 * Int.toNat x2) 3) ≤ 816) ∧ (∀ I12 : cm_I, I12 = iw I10 201 (cpyF (I10 203) 0 (I10 201) (I10 (sh + 2) x2) (I10 (73 + 7 * Int.toNat x2) 3)) → (cm_i (x2 + 1) ∧ cw d cd_Rewriter_tell Q 10 [some (vR 8 198), some (vR 20 a1), some (vI (x2 + 1)), some (vR 2 (73 + 7 * Int.toNat x2))] [] (I12, z))))))))))) : cw d cd_Rewriter_tell Q 10 [some (vR 8 198), some (vR 20 a1), some (vI x2), z3] [] (I, z) := by
  refine w_iload rfl rfl ?_
  refine w_aload rfl rfl ?_
  refine m_getI 4 rfl rfl rfl (by decide) ?_
  refine w_icmp rfl (And.intro (fun hc => ?_) (fun hc => ?_))
  · replace H := H.1 hc
    refine w_aload rfl rfl ?_
    refine w_aload rfl rfl ?_
    refine n_getR 2 9 rfl rfl rfl rfl (by decide) y_198_2 ?_
    refine w_aload rfl rfl ?_
    refine n_getR 8 20 rfl rfl rfl rfl (by decide) (wz_R hz 198 8 201 rfl (by decide)) ?_
    refine m_callI rfl (fun _ => rfl) rfl (mI_mono H fun v2 I1 H => ?_)
    refine m_putI 7 rfl rfl rfl (by decide) (fun I3 eI3 => ?_)
    replace H := H I3 eI3
    exact w_return rfl H
  · replace H := H.2 hc
    refine w_aload rfl rfl ?_
    refine n_getR 2 9 rfl rfl rfl rfl (by decide) y_198_2 ?_
    refine w_aload rfl rfl ?_
    refine w_iload rfl rfl ?_
    refine m_callI rfl (fun _ => rfl) rfl (mI_mono H fun v5 I4 H => ?_)
    refine w_if rfl (And.intro (fun hc => ?_) (fun hc => ?_))
    · replace H := H.1 hc
      have o6 := H.1
      replace H := H.2
      refine w_iinc rfl rfl rfl o6 ?_
      refine w_goto rfl ?_
      exact H
    · replace H := H.2 hc
      refine w_aload rfl rfl ?_
      refine n_getR 0 0 rfl rfl rfl rfl (by decide) (wz_R hz 198 0 66 rfl (by decide)) ?_
      refine n_getR 5 24 rfl rfl rfl rfl (by decide) (wz_R hz 66 5 68 rfl (by decide)) ?_
      refine w_iload rfl rfl ?_
      have o7 := H.1
      replace H := H.2
      refine n_aaload rfl rfl rfl (by decide) (wz_L hz 68 16 rfl (by decide)) o7 (wz_grades hz o7) ?_
      refine w_astore rfl rfl ?_
      refine w_aload rfl rfl ?_
      refine w_aload rfl rfl ?_
      refine w_aload rfl rfl ?_
      refine n_getR 2 9 rfl rfl rfl rfl (by decide) y_198_2 ?_
      refine n_getR 3 20 rfl rfl rfl rfl (isSh_pos p_sh) (wz_sh3 hz p_sh) ?_
      refine w_iload rfl rfl ?_
      have o8 := H.1
      replace H := H.2
      refine n_iaload rfl (Nat.add_pos_right _ (by decide)) (wz_shL2 hz p_sh) o8 ?_
      refine w_aload rfl rfl ?_
      refine n_getR 12 20 rfl rfl rfl rfl (by decide) (wz_R hz 198 12 203 rfl (by decide)) ?_
      refine m_callU rfl (fun _ => rfl) rfl (mU_mono H fun I9 H => ?_)
      refine w_aload rfl rfl ?_
      refine w_aload rfl rfl ?_
      refine n_getR 12 20 rfl rfl rfl rfl (by decide) (wz_R hz 198 12 203 rfl (by decide)) ?_
      refine m_callU rfl (fun _ => rfl) rfl (mU_mono H fun I10 H => ?_)
      refine w_aload rfl rfl ?_
      refine n_getR 12 20 rfl rfl rfl rfl (by decide) (wz_R hz 198 12 203 rfl (by decide)) ?_
      refine w_iconst rfl ⟨by decide, by decide⟩ ?_
      refine w_aload rfl rfl ?_
      refine n_getR 8 20 rfl rfl rfl rfl (by decide) (wz_R hz 198 8 201 rfl (by decide)) ?_
      refine w_aload rfl rfl ?_
      refine n_getR 2 9 rfl rfl rfl rfl (by decide) y_198_2 ?_
      refine n_getR 3 20 rfl rfl rfl rfl (isSh_pos p_sh) (wz_sh3 hz p_sh) ?_
      refine w_iload rfl rfl ?_
      refine n_iaload rfl (Nat.add_pos_right _ (by decide)) (wz_shL2 hz p_sh) o8 ?_
      refine w_aload rfl rfl ?_
      refine m_getI 3 rfl rfl rfl (by omega) ?_
      have o11 := H.1
      replace H := H.2
      refine n_copy rfl rfl (by decide) (by decide) (wz_L hz 203 136 rfl (by decide)) (wz_L hz 201 816 rfl (by decide)) o11 (fun I12 eI12 => ?_)
      replace H := H I12 eI12
      have o13 := H.1
      replace H := H.2
      refine w_iinc rfl rfl rfl o13 ?_
      refine w_goto rfl ?_
      exact H
set_option maxHeartbeats 4000000 in
set_option maxRecDepth 100000 in
theorem wr_Rewriter_tell {d : Nat} {Q : cm_Q} {z : cm_Z} {I : cm_I} (hz : wz z) {a1 : Nat}  (H : (mU d m_Arr_fill [vR 20 201, vI 0] z I fun I1 => cw d cd_Rewriter_tell Q 10 [some (vR 8 198), some (vR 20 a1), some (vI 0), none] [] (I1, z))) : cm_call (d + 1) m_Rewriter_tell [vR 8 198, vR 20 a1] (I, z) Q := by
  refine cm_call_in (C := cd_Rewriter_tell) (ls := [some (vR 8 198), some (vR 20 a1), none, none]) rfl rfl (show 0 < 198 by decide) rfl ?_
  refine w_aload rfl rfl ?_
  refine n_getR 8 20 rfl rfl rfl rfl (by decide) (wz_R hz 198 8 201 rfl (by decide)) ?_
  refine w_iconst rfl ⟨by decide, by decide⟩ ?_
  refine m_callU rfl (fun _ => rfl) rfl (mU_mono H fun I1 H => ?_)
  refine w_iconst rfl ⟨by decide, by decide⟩ ?_
  refine w_istore rfl rfl ?_
  exact H
set_option maxHeartbeats 4000000 in
set_option maxRecDepth 100000 in
theorem wr_Rewriter_relate_17 {d : Nat} {Q : cm_Q} {z : cm_Z} {I : cm_I} (hz : wz z) {x1 : Int} {x2 : Int} {z3 : Option cm_V} {z4 : Option cm_V} {z5 : Option cm_V}  (H : ((0:Int) ≤ x1 ∧ x1 < 216) ∧ ((0:Int) ≤ (I 199 x1) ∧ (I 199 x1) < 16) ∧ ((0:Int) ≤ x2 ∧ x2 < 216) ∧ ((0:Int) ≤ (I 199 x2) ∧ (I 199 x2) < 16) ∧ (cm_i ((I 199 x1) + (I 199 x2)) ∧ ((0:Int) ≤ ((I 199 x1) + (I 199 x2)) ∧ ((I 199 x1) + (I 199 x2)) < 16) ∧ (cm_i ((I (73 + 7 * Int.toNat (I 199 x1)) 2) * (I 200 x1)) ∧ (zcU d m_Piece_put [vR 5 205, vR 20 (z.1 (73 + 7 * Int.toNat (I 199 x1)) 4), vI ((I (73 + 7 * Int.toNat (I 199 x1)) 2) * (I 200 x1)), vI (I (73 + 7 * Int.toNat (I 199 x1)) 0)] z I fun I8 Z9 => (wz Z9 ∧ (cm_i ((I8 (73 + 7 * Int.toNat (I 199 x2)) 2) * (I8 200 x2)) ∧ (zcU d m_Piece_put [vR 5 207, vR 20 (Z9.1 (73 + 7 * Int.toNat (I 199 x2)) 4), vI ((I8 (73 + 7 * Int.toNat (I 199 x2)) 2) * (I8 200 x2)), vI (I8 (73 + 7 * Int.toNat (I 199 x2)) 0)] Z9 I8 fun I12 Z13 => (mU d m_Rewriter_putSum [vR 8 198, vR 2 (73 + 7 * Int.toNat ((I 199 x1) + (I 199 x2)))] Z13 I12 fun I14 => (wz Z13 ∧ (mU d m_Grade_takeParts [vR 2 (73 + 7 * Int.toNat ((I 199 x1) + (I 199 x2))), vR 20 204, vI 0, vR 20 203] Z13 I14 fun I16 => (mU d m_Grade_solve [vR 2 (73 + 7 * Int.toNat ((I 199 x1) + (I 199 x2))), vR 20 203] Z13 I16 fun I17 => (mU d m_Arr_fill [vR 20 202, vI 0] Z13 I17 fun I18 => ((0:Int) ≤ 0 ∧ (0:Int) ≤ 0 ∧ (0:Int) ≤ (I18 (73 + 7 * Int.toNat ((I 199 x1) + (I 199 x2))) 3) ∧ (0 : Int) + (I18 (73 + 7 * Int.toNat ((I 199 x1) + (I 199 x2))) 3) ≤ 136 ∧ (0 : Int) + (I18 (73 + 7 * Int.toNat ((I 199 x1) + (I 199 x2))) 3) ≤ 136) ∧ (∀ I20 : cm_I, I20 = iw I18 202 (cpyF (I18 203) 0 (I18 202) 0 (I18 (73 + 7 * Int.toNat ((I 199 x1) + (I 199 x2))) 3)) → (∀ I21 : cm_I, I21 = iu I20 198 9 x1 → (∀ I22 : cm_I, I22 = iu I21 198 10 x2 → Q none (I22, Z13)))))))))))))))) : cw d cd_Rewriter_relate Q 17 [some (vR 8 198), some (vI x1), some (vI x2), z3, z4, z5] [] (I, z) := by
  refine w_aload rfl rfl ?_
  refine n_getR 0 0 rfl rfl rfl rfl (by decide) (wz_R hz 198 0 66 rfl (by decide)) ?_
  refine n_getR 5 24 rfl rfl rfl rfl (by decide) (wz_R hz 66 5 68 rfl (by decide)) ?_
  refine w_aload rfl rfl ?_
  refine n_getR 5 20 rfl rfl rfl rfl (by decide) (wz_R hz 198 5 199 rfl (by decide)) ?_
  refine w_iload rfl rfl ?_
  have o1 := H.1
  replace H := H.2
  refine n_iaload rfl (by decide) (wz_L hz 199 216 rfl (by decide)) o1 ?_
  have o2 := H.1
  replace H := H.2
  refine n_aaload rfl rfl rfl (by decide) (wz_L hz 68 16 rfl (by decide)) o2 (wz_grades hz o2) ?_
  refine w_astore rfl rfl ?_
  refine w_aload rfl rfl ?_
  refine n_getR 0 0 rfl rfl rfl rfl (by decide) (wz_R hz 198 0 66 rfl (by decide)) ?_
  refine n_getR 5 24 rfl rfl rfl rfl (by decide) (wz_R hz 66 5 68 rfl (by decide)) ?_
  refine w_aload rfl rfl ?_
  refine n_getR 5 20 rfl rfl rfl rfl (by decide) (wz_R hz 198 5 199 rfl (by decide)) ?_
  refine w_iload rfl rfl ?_
  have o3 := H.1
  replace H := H.2
  refine n_iaload rfl (by decide) (wz_L hz 199 216 rfl (by decide)) o3 ?_
  have o4 := H.1
  replace H := H.2
  refine n_aaload rfl rfl rfl (by decide) (wz_L hz 68 16 rfl (by decide)) o4 (wz_grades hz o4) ?_
  refine w_astore rfl rfl ?_
  refine w_aload rfl rfl ?_
  refine n_getR 0 0 rfl rfl rfl rfl (by decide) (wz_R hz 198 0 66 rfl (by decide)) ?_
  refine n_getR 5 24 rfl rfl rfl rfl (by decide) (wz_R hz 66 5 68 rfl (by decide)) ?_
  refine w_aload rfl rfl ?_
  refine n_getR 5 20 rfl rfl rfl rfl (by decide) (wz_R hz 198 5 199 rfl (by decide)) ?_
  refine w_iload rfl rfl ?_
  refine n_iaload rfl (by decide) (wz_L hz 199 216 rfl (by decide)) o1 ?_
  refine w_aload rfl rfl ?_
  refine n_getR 5 20 rfl rfl rfl rfl (by decide) (wz_R hz 198 5 199 rfl (by decide)) ?_
  refine w_iload rfl rfl ?_
  refine n_iaload rfl (by decide) (wz_L hz 199 216 rfl (by decide)) o3 ?_
  have o5 := H.1
  replace H := H.2
  refine w_iadd rfl o5 ?_
  have o6 := H.1
  replace H := H.2
  refine n_aaload rfl rfl rfl (by decide) (wz_L hz 68 16 rfl (by decide)) o6 (wz_grades hz o6) ?_
  refine w_astore rfl rfl ?_
  refine w_aload rfl rfl ?_
  refine n_getR 14 5 rfl rfl rfl rfl (by decide) (wz_R hz 198 14 205 rfl (by decide)) ?_
  refine w_aload rfl rfl ?_
  refine n_getR 4 20 rfl rfl rfl rfl (by omega) rfl ?_
  refine w_aload rfl rfl ?_
  refine m_getI 2 rfl rfl rfl (by omega) ?_
  refine w_aload rfl rfl ?_
  refine n_getR 6 20 rfl rfl rfl rfl (by decide) (wz_R hz 198 6 200 rfl (by decide)) ?_
  refine w_iload rfl rfl ?_
  refine n_iaload rfl (by decide) (wz_L hz 200 216 rfl (by decide)) o1 ?_
  have o7 := H.1
  replace H := H.2
  refine w_imul rfl o7 ?_
  refine w_aload rfl rfl ?_
  refine m_getI 0 rfl rfl rfl (by omega) ?_
  refine n_callU rfl (fun _ => rfl) rfl (zcU_mono H fun I8 Z9 H => ?_)
  refine w_aload rfl rfl ?_
  have o10 := H.1
  replace H := H.2
  refine n_getR 15 5 rfl rfl rfl rfl (by decide) (wz_R o10 198 15 207 rfl (by decide)) ?_
  refine w_aload rfl rfl ?_
  refine n_getR 4 20 rfl rfl rfl rfl (by omega) rfl ?_
  refine w_aload rfl rfl ?_
  refine m_getI 2 rfl rfl rfl (by omega) ?_
  refine w_aload rfl rfl ?_
  refine n_getR 6 20 rfl rfl rfl rfl (by decide) (wz_R o10 198 6 200 rfl (by decide)) ?_
  refine w_iload rfl rfl ?_
  refine n_iaload rfl (by decide) (wz_L o10 200 216 rfl (by decide)) o3 ?_
  have o11 := H.1
  replace H := H.2
  refine w_imul rfl o11 ?_
  refine w_aload rfl rfl ?_
  refine m_getI 0 rfl rfl rfl (by omega) ?_
  refine n_callU rfl (fun _ => rfl) rfl (zcU_mono H fun I12 Z13 H => ?_)
  refine w_aload rfl rfl ?_
  refine w_aload rfl rfl ?_
  refine m_callU rfl (fun _ => rfl) rfl (mU_mono H fun I14 H => ?_)
  refine w_aload rfl rfl ?_
  refine w_aload rfl rfl ?_
  have o15 := H.1
  replace H := H.2
  refine n_getR 13 20 rfl rfl rfl rfl (by decide) (wz_R o15 198 13 204 rfl (by decide)) ?_
  refine w_iconst rfl ⟨by decide, by decide⟩ ?_
  refine w_aload rfl rfl ?_
  refine n_getR 12 20 rfl rfl rfl rfl (by decide) (wz_R o15 198 12 203 rfl (by decide)) ?_
  refine m_callU rfl (fun _ => rfl) rfl (mU_mono H fun I16 H => ?_)
  refine w_aload rfl rfl ?_
  refine w_aload rfl rfl ?_
  refine n_getR 12 20 rfl rfl rfl rfl (by decide) (wz_R o15 198 12 203 rfl (by decide)) ?_
  refine m_callU rfl (fun _ => rfl) rfl (mU_mono H fun I17 H => ?_)
  refine w_aload rfl rfl ?_
  refine n_getR 11 20 rfl rfl rfl rfl (by decide) (wz_R o15 198 11 202 rfl (by decide)) ?_
  refine w_iconst rfl ⟨by decide, by decide⟩ ?_
  refine m_callU rfl (fun _ => rfl) rfl (mU_mono H fun I18 H => ?_)
  refine w_aload rfl rfl ?_
  refine n_getR 12 20 rfl rfl rfl rfl (by decide) (wz_R o15 198 12 203 rfl (by decide)) ?_
  refine w_iconst rfl ⟨by decide, by decide⟩ ?_
  refine w_aload rfl rfl ?_
  refine n_getR 11 20 rfl rfl rfl rfl (by decide) (wz_R o15 198 11 202 rfl (by decide)) ?_
  refine w_iconst rfl ⟨by decide, by decide⟩ ?_
  refine w_aload rfl rfl ?_
  refine m_getI 3 rfl rfl rfl (by omega) ?_
  have o19 := H.1
  replace H := H.2
  refine n_copy rfl rfl (by decide) (by decide) (wz_L o15 203 136 rfl (by decide)) (wz_L o15 202 136 rfl (by decide)) o19 (fun I20 eI20 => ?_)
  replace H := H I20 eI20
  refine w_aload rfl rfl ?_
  refine w_iload rfl rfl ?_
  refine m_putI 9 rfl rfl rfl (by decide) (fun I21 eI21 => ?_)
  replace H := H I21 eI21
  refine w_aload rfl rfl ?_
  refine w_iload rfl rfl ?_
  refine m_putI 10 rfl rfl rfl (by decide) (fun I22 eI22 => ?_)
  replace H := H I22 eI22
  exact w_return rfl H
set_option maxHeartbeats 4000000 in
set_option maxRecDepth 100000 in
theorem wr_Rewriter_relate {d : Nat} {Q : cm_Q} {z : cm_Z} {I : cm_I} (hz : wz z) {x1 : Int} {x2 : Int}  (H : ((¬ (I 198 9) = x1 → cw d cd_Rewriter_relate Q 17 [some (vR 8 198), some (vI x1), some (vI x2), none, none, none] [] (I, z)) ∧ ((I 198 9) = x1 → ((¬ (I 198 10) = x2 → cw d cd_Rewriter_relate Q 17 [some (vR 8 198), some (vI x1), some (vI x2), none, none, none] [] (I, z)) ∧ ((I 198 10) = x2 → Q none (I, z)))))) : cm_call (d + 1) m_Rewriter_relate [vR 8 198, vI x1, vI x2] (I, z) Q := by
  refine cm_call_in (C := cd_Rewriter_relate) (ls := [some (vR 8 198), some (vI x1), some (vI x2), none, none, none]) rfl rfl (show 0 < 198 by decide) rfl ?_
  refine w_aload rfl rfl ?_
  refine m_getI 9 rfl rfl rfl (by decide) ?_
  refine w_iload rfl rfl ?_
  refine w_icmp rfl (And.intro (fun hc => ?_) (fun hc => ?_))
  · replace H := H.1 hc
    exact H
  · replace H := H.2 hc
    refine w_aload rfl rfl ?_
    refine m_getI 10 rfl rfl rfl (by decide) ?_
    refine w_iload rfl rfl ?_
    refine w_icmp rfl (And.intro (fun hc => ?_) (fun hc => ?_))
    · replace H := H.1 hc
      exact H
    · replace H := H.2 hc
      exact w_return rfl H
set_option maxHeartbeats 4000000 in
set_option maxRecDepth 100000 in
theorem wr_Rewriter_placeOf_68 {d : Nat} {Q : cm_Q} {z : cm_Z} {I : cm_I} (hz : wz z) {x1 : Int} {x2 : Int} {x3 : Int} {x4 : Int} {z5 : Option cm_V} {z6 : Option cm_V} {z7 : Option cm_V} {w0 : Int} {w1 : Int} {sh : Nat} (y_198_2 : z.1 198 2 = sh) (p_sh : isSh sh) (H : (cm_l (w1 + w0) ∧ (((if (w1 + w0) < (I 198 4) then -1 else if (w1 + w0) = (I 198 4) then 0 else 1) ≤ 0 → (cm_i (w1 + w0) ∧ ((0:Int) ≤ (w1 + w0) ∧ (w1 + w0) < 16) ∧ (mI d m_Grade_productOf [vR 2 (73 + 7 * Int.toNat (w1 + w0)), vI x1, vI x2, vI x3, vI x4] z I fun v5 I4 => ((0 ≤ v5 → ((0:Int) ≤ (w1 + w0) ∧ (w1 + w0) < 17) ∧ (cm_i ((I4 (sh + 2) (w1 + w0)) + v5) ∧ Q (some (vI ((I4 (sh + 2) (w1 + w0)) + v5))) (I4, z))) ∧ (v5 < 0 → Q (some (vI (-1))) (I4, z)))))) ∧ (0 < (if (w1 + w0) < (I 198 4) then -1 else if (w1 + w0) = (I 198 4) then 0 else 1) → Q (some (vI (-1))) (I, z))))) : cw d cd_Rewriter_placeOf Q 68 [some (vR 8 198), some (vI x1), some (vI x2), some (vI x3), some (vI x4), z5, z6, z7] [vL w0, vL w1] (I, z) := by
  have o1 := H.1
  replace H := H.2
  refine w_ladd rfl o1 ?_
  refine w_lstore rfl rfl ?_
  refine w_lload rfl rfl ?_
  refine w_aload rfl rfl ?_
  refine m_getI 4 rfl rfl rfl (by decide) ?_
  refine w_i2l rfl ?_
  refine w_lcmp rfl ?_
  refine w_if rfl (And.intro (fun hc => ?_) (fun hc => ?_))
  · replace H := H.1 hc
    refine w_aload rfl rfl ?_
    refine n_getR 0 0 rfl rfl rfl rfl (by decide) (wz_R hz 198 0 66 rfl (by decide)) ?_
    refine n_getR 5 24 rfl rfl rfl rfl (by decide) (wz_R hz 66 5 68 rfl (by decide)) ?_
    refine w_lload rfl rfl ?_
    have o2 := H.1
    replace H := H.2
    refine w_l2i rfl o2 ?_
    have o3 := H.1
    replace H := H.2
    refine n_aaload rfl rfl rfl (by decide) (wz_L hz 68 16 rfl (by decide)) o3 (wz_grades hz o3) ?_
    refine w_iload rfl rfl ?_
    refine w_iload rfl rfl ?_
    refine w_iload rfl rfl ?_
    refine w_iload rfl rfl ?_
    refine m_callI rfl (fun _ => rfl) rfl (mI_mono H fun v5 I4 H => ?_)
    refine w_istore rfl rfl ?_
    refine w_iload rfl rfl ?_
    refine w_if rfl (And.intro (fun hc => ?_) (fun hc => ?_))
    · replace H := H.1 hc
      refine w_aload rfl rfl ?_
      refine n_getR 2 9 rfl rfl rfl rfl (by decide) y_198_2 ?_
      refine n_getR 3 20 rfl rfl rfl rfl (isSh_pos p_sh) (wz_sh3 hz p_sh) ?_
      refine w_lload rfl rfl ?_
      refine w_l2i rfl o2 ?_
      have o6 := H.1
      replace H := H.2
      refine n_iaload rfl (Nat.add_pos_right _ (by decide)) (wz_shL2 hz p_sh) o6 ?_
      refine w_iload rfl rfl ?_
      have o7 := H.1
      replace H := H.2
      refine w_iadd rfl o7 ?_
      exact w_ireturn rfl H
    · replace H := H.2 hc
      refine w_iconst rfl ⟨by decide, by decide⟩ ?_
      refine w_goto rfl ?_
      exact w_ireturn rfl H
  · replace H := H.2 hc
    refine w_iconst rfl ⟨by decide, by decide⟩ ?_
    exact w_ireturn rfl H
set_option maxHeartbeats 4000000 in
set_option maxRecDepth 100000 in
theorem wr_Rewriter_placeOf {d : Nat} {Q : cm_Q} {z : cm_Z} {I : cm_I} (hz : wz z) {x1 : Int} {x2 : Int} {x3 : Int} {x4 : Int} {sh : Nat} (y_198_2 : z.1 198 2 = sh) (p_sh : isSh sh) (H : ((0:Int) ≤ x1 ∧ x1 < 216) ∧ (cm_l (x2 * (I 190 0)) ∧ (cm_l ((I 199 x1) + (x2 * (I 190 0))) ∧ (cm_l (x3 * (I 190 1)) ∧ (cm_l (((I 199 x1) + (x2 * (I 190 0))) + (x3 * (I 190 1))) ∧ ((¬ (I sh 0) = 3 → cw d cd_Rewriter_placeOf Q 68 [some (vR 8 198), some (vI x1), some (vI x2), some (vI x3), some (vI x4), some (vL (((I 199 x1) + (x2 * (I 190 0))) + (x3 * (I 190 1)))), none, none] [vL 0, vL (((I 199 x1) + (x2 * (I 190 0))) + (x3 * (I 190 1)))] (I, z)) ∧ ((I sh 0) = 3 → (cm_l (x4 * (I 190 2)) ∧ cw d cd_Rewriter_placeOf Q 68 [some (vR 8 198), some (vI x1), some (vI x2), some (vI x3), some (vI x4), some (vL (((I 199 x1) + (x2 * (I 190 0))) + (x3 * (I 190 1)))), none, none] [vL (x4 * (I 190 2)), vL (((I 199 x1) + (x2 * (I 190 0))) + (x3 * (I 190 1)))] (I, z))))))))) : cm_call (d + 1) m_Rewriter_placeOf [vR 8 198, vI x1, vI x2, vI x3, vI x4] (I, z) Q := by
  refine cm_call_in (C := cd_Rewriter_placeOf) (ls := [some (vR 8 198), some (vI x1), some (vI x2), some (vI x3), some (vI x4), none, none, none]) rfl rfl (show 0 < 198 by decide) rfl ?_
  refine w_aload rfl rfl ?_
  refine n_getR 5 20 rfl rfl rfl rfl (by decide) (wz_R hz 198 5 199 rfl (by decide)) ?_
  refine w_iload rfl rfl ?_
  have o1 := H.1
  replace H := H.2
  refine n_iaload rfl (by decide) (wz_L hz 199 216 rfl (by decide)) o1 ?_
  refine w_i2l rfl ?_
  refine w_iload rfl rfl ?_
  refine w_i2l rfl ?_
  refine w_aload rfl rfl ?_
  refine n_getR 1 6 rfl rfl rfl rfl (by decide) (wz_R hz 198 1 185 rfl (by decide)) ?_
  refine n_getR 12 20 rfl rfl rfl rfl (by decide) (wz_R hz 185 12 190 rfl (by decide)) ?_
  refine w_iconst rfl ⟨by decide, by decide⟩ ?_
  refine n_iaload rfl (by decide) (wz_L hz 190 3 rfl (by decide)) (by decide) ?_
  refine w_i2l rfl ?_
  have o2 := H.1
  replace H := H.2
  refine w_lmul rfl o2 ?_
  have o3 := H.1
  replace H := H.2
  refine w_ladd rfl o3 ?_
  refine w_iload rfl rfl ?_
  refine w_i2l rfl ?_
  refine w_aload rfl rfl ?_
  refine n_getR 1 6 rfl rfl rfl rfl (by decide) (wz_R hz 198 1 185 rfl (by decide)) ?_
  refine n_getR 12 20 rfl rfl rfl rfl (by decide) (wz_R hz 185 12 190 rfl (by decide)) ?_
  refine w_iconst rfl ⟨by decide, by decide⟩ ?_
  refine n_iaload rfl (by decide) (wz_L hz 190 3 rfl (by decide)) (by decide) ?_
  refine w_i2l rfl ?_
  have o4 := H.1
  replace H := H.2
  refine w_lmul rfl o4 ?_
  have o5 := H.1
  replace H := H.2
  refine w_ladd rfl o5 ?_
  refine w_lstore rfl rfl ?_
  refine w_lload rfl rfl ?_
  refine w_aload rfl rfl ?_
  refine n_getR 2 9 rfl rfl rfl rfl (by decide) y_198_2 ?_
  refine m_getI 0 rfl rfl rfl (isSh_pos p_sh) ?_
  refine w_iconst rfl ⟨by decide, by decide⟩ ?_
  refine w_icmp rfl (And.intro (fun hc => ?_) (fun hc => ?_))
  · replace H := H.1 hc
    refine w_lconst rfl ⟨by decide, by decide⟩ ?_
    exact H
  · replace H := H.2 hc
    refine w_iload rfl rfl ?_
    refine w_i2l rfl ?_
    refine w_aload rfl rfl ?_
    refine n_getR 1 6 rfl rfl rfl rfl (by decide) (wz_R hz 198 1 185 rfl (by decide)) ?_
    refine n_getR 12 20 rfl rfl rfl rfl (by decide) (wz_R hz 185 12 190 rfl (by decide)) ?_
    refine w_iconst rfl ⟨by decide, by decide⟩ ?_
    refine n_iaload rfl (by decide) (wz_L hz 190 3 rfl (by decide)) (by decide) ?_
    refine w_i2l rfl ?_
    have o6 := H.1
    replace H := H.2
    refine w_lmul rfl o6 ?_
    refine w_goto rfl ?_
    exact H
