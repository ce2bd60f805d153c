/-! RULES of the class's methods, its layout put in (wip/whole/genwrules.py): Reader, Sum, Mover -/
set_option maxHeartbeats 4000000 in
set_option maxRecDepth 100000 in
theorem wr_Mover_begin {d : Nat} {Q : cm_Q} {z : cm_Z} {I : cm_I} (hz : wz z) {a1 : Nat} {a2 : Nat}  (H : (∀ Z1 : cm_Z, Z1 = zr z 53 0 a1 → (∀ Z2 : cm_Z, Z2 = zr Z1 53 1 a2 → Q none (I, Z2)))) : cm_call (d + 1) m_Mover_begin [vR 4 53, vR 9 a1, vR 3 a2] (I, z) Q := by
  refine cm_call_in (C := cd_Mover_begin) (ls := [some (vR 4 53), some (vR 9 a1), some (vR 3 a2)]) rfl rfl (show 0 < 53 by decide) rfl ?_
  refine w_aload rfl rfl ?_
  refine w_aload rfl rfl ?_
  refine n_putR 0 rfl rfl rfl rfl (by decide) (fun Z1 eZ1 => ?_)
  replace H := H Z1 eZ1
  refine w_aload rfl rfl ?_
  refine w_aload rfl rfl ?_
  refine n_putR 1 rfl rfl rfl rfl (by decide) (fun Z2 eZ2 => ?_)
  replace H := H Z2 eZ2
  exact w_return rfl H
set_option maxHeartbeats 4000000 in
set_option maxRecDepth 100000 in
theorem wr_Mover_use_15 {d : Nat} {Q : cm_Q} {z : cm_Z} {I : cm_I} (hz : wz z) {x1 : Int} {x2 : Int} {x3 : Int} {z4 : Option cm_V} {z5 : Option cm_V} {z6 : Option cm_V}  (H : ((3 ≤ x3 → (∀ I1 : cm_I, I1 = iu I 60 0 1 → (∀ I2 : cm_I, I2 = iu I1 53 10 0 → Q none (I2, z)))) ∧ (x3 < 3 → cw d cd_Mover_use Q 26 [some (vR 4 53), some (vI x1), some (vI x2), some (vI x3), some (vI 0), some (vI 0), z6] [] (I, z)))) : cw d cd_Mover_use Q 15 [some (vR 4 53), some (vI x1), some (vI x2), some (vI x3), z4, z5, z6] [] (I, z) := by
  refine w_iload rfl rfl ?_
  refine w_iconst rfl ⟨by decide, by decide⟩ ?_
  refine w_icmp rfl (And.intro (fun hc => ?_) (fun hc => ?_))
  · replace H := H.1 hc
    refine w_aload rfl rfl ?_
    refine n_getR 9 20 rfl rfl rfl rfl (by decide) (wz_R hz 53 9 60 rfl (by decide)) ?_
    refine w_iconst rfl ⟨by decide, by decide⟩ ?_
    refine w_iconst rfl ⟨by decide, by decide⟩ ?_
    refine n_iastore rfl (by decide) (wz_L hz 60 816 rfl (by decide)) (by decide) (fun I1 eI1 => ?_)
    replace H := H I1 eI1
    refine w_aload rfl rfl ?_
    refine w_iconst rfl ⟨by decide, by decide⟩ ?_
    refine m_putI 10 rfl rfl rfl (by decide) (fun I2 eI2 => ?_)
    replace H := H I2 eI2
    exact w_return rfl H
  · replace H := H.2 hc
    refine w_iconst rfl ⟨by decide, by decide⟩ ?_
    refine w_istore rfl rfl ?_
    refine w_iconst rfl ⟨by decide, by decide⟩ ?_
    refine w_istore rfl rfl ?_
    exact H
set_option maxHeartbeats 4000000 in
set_option maxRecDepth 100000 in
theorem wr_Mover_use_26 {d : Nat} {Q : cm_Q} {z : cm_Z} {I : cm_I} (hz : wz z) {x1 : Int} {x2 : Int} {x3 : Int} {x4 : Int} {x5 : Int} {z6 : Option cm_V}  (H : ((3 ≤ x5 → (((I 53 3) = 0 → (∀ I1 : cm_I, I1 = iu I 53 3 0 → (cm_i (x3 + 1) ∧ cw d cd_Mover_use Q 15 [some (vR 4 53), some (vI x1), some (vI x2), some (vI (x3 + 1)), some (vI x4), some (vI x5), z6] [] (I1, z)))) ∧ (¬ (I 53 3) = 0 → ((¬ x4 = 1 → (∀ I3 : cm_I, I3 = iu I 53 3 0 → (cm_i (x3 + 1) ∧ cw d cd_Mover_use Q 15 [some (vR 4 53), some (vI x1), some (vI x2), some (vI (x3 + 1)), some (vI x4), some (vI x5), z6] [] (I3, z)))) ∧ (x4 = 1 → (∀ I5 : cm_I, I5 = iu I 53 3 1 → (cm_i (x3 + 1) ∧ cw d cd_Mover_use Q 15 [some (vR 4 53), some (vI x1), some (vI x2), some (vI (x3 + 1)), some (vI x4), some (vI x5), z6] [] (I5, z)))))))) ∧ (x5 < 3 → ((¬ x3 = x5 → cw d cd_Mover_use Q 43 [some (vR 4 53), some (vI x1), some (vI x2), some (vI x3), some (vI x4), some (vI x5), z6] [vI 0] (I, z)) ∧ (x3 = x5 → cw d cd_Mover_use Q 43 [some (vR 4 53), some (vI x1), some (vI x2), some (vI x3), some (vI x4), some (vI x5), z6] [vI 1] (I, z)))))) : cw d cd_Mover_use Q 26 [some (vR 4 53), some (vI x1), some (vI x2), some (vI x3), some (vI x4), some (vI x5), z6] [] (I, z) := by
  refine w_iload rfl rfl ?_
  refine w_iconst rfl ⟨by decide, by decide⟩ ?_
  refine w_icmp rfl (And.intro (fun hc => ?_) (fun hc => ?_))
  · replace H := H.1 hc
    refine w_aload rfl rfl ?_
    refine w_aload rfl rfl ?_
    refine m_getI 3 rfl rfl rfl (by decide) ?_
    refine w_if rfl (And.intro (fun hc => ?_) (fun hc => ?_))
    · replace H := H.1 hc
      refine w_iconst rfl ⟨by decide, by decide⟩ ?_
      refine m_putZ 3 rfl rfl rfl (by decide) (by decide) (fun I1 eI1 => ?_)
      replace H := H I1 eI1
      have o2 := H.1
      replace H := H.2
      refine w_iinc rfl rfl rfl o2 ?_
      refine w_goto rfl ?_
      exact H
    · replace H := H.2 hc
      refine w_iload rfl rfl ?_
      refine w_iconst rfl ⟨by decide, by decide⟩ ?_
      refine w_icmp rfl (And.intro (fun hc => ?_) (fun hc => ?_))
      · replace H := H.1 hc
        refine w_iconst rfl ⟨by decide, by decide⟩ ?_
        refine m_putZ 3 rfl rfl rfl (by decide) (by decide) (fun I3 eI3 => ?_)
        replace H := H I3 eI3
        have o4 := H.1
        replace H := H.2
        refine w_iinc rfl rfl rfl o4 ?_
        refine w_goto rfl ?_
        exact H
      · replace H := H.2 hc
        refine w_iconst rfl ⟨by decide, by decide⟩ ?_
        refine w_goto rfl ?_
        refine m_putZ 3 rfl rfl rfl (by decide) (by decide) (fun I5 eI5 => ?_)
        replace H := H I5 eI5
        have o6 := H.1
        replace H := H.2
        refine w_iinc rfl rfl rfl o6 ?_
        refine w_goto rfl ?_
        exact H
  · replace H := H.2 hc
    refine w_iload rfl rfl ?_
    refine w_iload rfl rfl ?_
    refine w_icmp rfl (And.intro (fun hc => ?_) (fun hc => ?_))
    · replace H := H.1 hc
      refine w_iconst rfl ⟨by decide, by decide⟩ ?_
      exact H
    · replace H := H.2 hc
      refine w_iconst rfl ⟨by decide, by decide⟩ ?_
      refine w_goto rfl ?_
      exact H
set_option maxHeartbeats 4000000 in
set_option maxRecDepth 100000 in
theorem wr_Mover_use_43 {d : Nat} {Q : cm_Q} {z : cm_Z} {I : cm_I} (hz : wz z) {x1 : Int} {x2 : Int} {x3 : Int} {x4 : Int} {x5 : Int} {z6 : Option cm_V} {s0 : Int}  (H : ((x2 = 3 → cw d cd_Mover_use Q 61 [some (vR 4 53), some (vI x1), some (vI x2), some (vI x3), some (vI x4), some (vI x5), some (vI s0)] [] (I, z)) ∧ (¬ x2 = 3 → ((2 ≤ x3 → cw d cd_Mover_use Q 82 [some (vR 4 53), some (vI x1), some (vI x2), some (vI x3), some (vI x4), some (vI x5), some (vI s0)] [] (I, z)) ∧ (x3 < 2 → ((2 ≤ x5 → cw d cd_Mover_use Q 82 [some (vR 4 53), some (vI x1), some (vI x2), some (vI x3), some (vI x4), some (vI x5), some (vI s0)] [] (I, z)) ∧ (x5 < 2 → cw d cd_Mover_use Q 61 [some (vR 4 53), some (vI x1), some (vI x2), some (vI x3), some (vI x4), some (vI x5), some (vI s0)] [] (I, z)))))))) : cw d cd_Mover_use Q 43 [some (vR 4 53), some (vI x1), some (vI x2), some (vI x3), some (vI x4), some (vI x5), z6] [vI s0] (I, z) := by
  refine w_istore rfl rfl ?_
  refine w_iload rfl rfl ?_
  refine w_iconst rfl ⟨by decide, by decide⟩ ?_
  refine w_icmp rfl (And.intro (fun hc => ?_) (fun hc => ?_))
  · replace H := H.1 hc
    exact H
  · replace H := H.2 hc
    refine w_iload rfl rfl ?_
    refine w_iconst rfl ⟨by decide, by decide⟩ ?_
    refine w_icmp rfl (And.intro (fun hc => ?_) (fun hc => ?_))
    · replace H := H.1 hc
      exact H
    · replace H := H.2 hc
      refine w_iload rfl rfl ?_
      refine w_iconst rfl ⟨by decide, by decide⟩ ?_
      refine w_icmp rfl (And.intro (fun hc => ?_) (fun hc => ?_))
      · replace H := H.1 hc
        exact H
      · replace H := H.2 hc
        exact H
set_option maxHeartbeats 4000000 in
set_option maxRecDepth 100000 in
theorem wr_Mover_use_61 {d : Nat} {Q : cm_Q} {z : cm_Z} {I : cm_I} (hz : wz z) {x1 : Int} {x2 : Int} {x3 : Int} {x4 : Int} {x5 : Int} {z6 : Option cm_V} {mb : Nat} (y_53_1 : z.1 53 1 = mb) (p_mb : isMb mb) (H : (cm_i (9 * x1) ∧ (cm_i (x2 * x3) ∧ (cm_i ((9 * x1) + (x2 * x3)) ∧ (cm_i (((9 * x1) + (x2 * x3)) + x5) ∧ ((0:Int) ≤ (((9 * x1) + (x2 * x3)) + x5) ∧ (((9 * x1) + (x2 * x3)) + x5) < 432) ∧ cw d cd_Mover_use Q 82 [some (vR 4 53), some (vI x1), some (vI x2), some (vI x3), some (vI x4), some (vI x5), some (vI (I (mb + 2) (((9 * x1) + (x2 * x3)) + x5)))] [] (I, z)))))) : cw d cd_Mover_use Q 61 [some (vR 4 53), some (vI x1), some (vI x2), some (vI x3), some (vI x4), some (vI x5), z6] [] (I, z) := by
  refine w_aload rfl rfl ?_
  refine n_getR 1 3 rfl rfl rfl rfl (by decide) y_53_1 ?_
  refine n_getR 4 20 rfl rfl rfl rfl (isMb_pos p_mb) (wz_mb4 hz p_mb) ?_
  refine w_iconst rfl ⟨by decide, by decide⟩ ?_
  refine w_iload rfl rfl ?_
  have o1 := H.1
  replace H := H.2
  refine w_imul rfl o1 ?_
  refine w_iload rfl rfl ?_
  refine w_iload rfl rfl ?_
  have o2 := H.1
  replace H := H.2
  refine w_imul rfl o2 ?_
  have o3 := H.1
  replace H := H.2
  refine w_iadd rfl o3 ?_
  refine w_iload rfl rfl ?_
  have o4 := H.1
  replace H := H.2
  refine w_iadd rfl o4 ?_
  have o5 := H.1
  replace H := H.2
  refine n_iaload rfl (Nat.add_pos_right _ (by decide)) (wz_mbL2 hz p_mb) o5 ?_
  refine w_istore rfl rfl ?_
  exact H
set_option maxHeartbeats 4000000 in
set_option maxRecDepth 100000 in
theorem wr_Mover_use_82 {d : Nat} {Q : cm_Q} {z : cm_Z} {I : cm_I} (hz : wz z) {x1 : Int} {x2 : Int} {x3 : Int} {x4 : Int} {x5 : Int} {x6 : Int}  (H : (cm_i (3 * x3) ∧ (cm_i ((3 * x3) + x5) ∧ ((0:Int) ≤ ((3 * x3) + x5) ∧ ((3 * x3) + x5) < 9) ∧ (∀ I4 : cm_I, I4 = iu I 54 ((3 * x3) + x5) x6 → ((x6 = 0 → (cm_i (x5 + 1) ∧ cw d cd_Mover_use Q 26 [some (vR 4 53), some (vI x1), some (vI x2), some (vI x3), some (vI x4), some (vI (x5 + 1)), some (vI x6)] [] (I4, z))) ∧ (¬ x6 = 0 → (cm_i (x4 + 1) ∧ ((0:Int) ≤ x3 ∧ x3 < 3) ∧ (∀ I8 : cm_I, I8 = iu I4 55 x3 x5 → (∀ I9 : cm_I, I9 = iu I8 56 x3 x6 → (cm_i (x5 + 1) ∧ cw d cd_Mover_use Q 26 [some (vR 4 53), some (vI x1), some (vI x2), some (vI x3), some (vI (x4 + 1)), some (vI (x5 + 1)), some (vI x6)] [] (I9, z))))))))))) : cw d cd_Mover_use Q 82 [some (vR 4 53), some (vI x1), some (vI x2), some (vI x3), some (vI x4), some (vI x5), some (vI x6)] [] (I, z) := by
  refine w_aload rfl rfl ?_
  refine n_getR 2 20 rfl rfl rfl rfl (by decide) (wz_R hz 53 2 54 rfl (by decide)) ?_
  refine w_iconst rfl ⟨by decide, by decide⟩ ?_
  refine w_iload rfl rfl ?_
  have o1 := H.1
  replace H := H.2
  refine w_imul rfl o1 ?_
  refine w_iload rfl rfl ?_
  have o2 := H.1
  replace H := H.2
  refine w_iadd rfl o2 ?_
  refine w_iload rfl rfl ?_
  have o3 := H.1
  replace H := H.2
  refine n_iastore rfl (by decide) (wz_L hz 54 9 rfl (by decide)) o3 (fun I4 eI4 => ?_)
  replace H := H I4 eI4
  refine w_iload rfl rfl ?_
  refine w_if rfl (And.intro (fun hc => ?_) (fun hc => ?_))
  · replace H := H.1 hc
    have o5 := H.1
    replace H := H.2
    refine w_iinc rfl rfl rfl o5 ?_
    refine w_goto rfl ?_
    exact H
  · replace H := H.2 hc
    have o6 := H.1
    replace H := H.2
    refine w_iinc rfl rfl rfl o6 ?_
    refine w_aload rfl rfl ?_
    refine n_getR 4 20 rfl rfl rfl rfl (by decide) (wz_R hz 53 4 55 rfl (by decide)) ?_
    refine w_iload rfl rfl ?_
    refine w_iload rfl rfl ?_
    have o7 := H.1
    replace H := H.2
    refine n_iastore rfl (by decide) (wz_L hz 55 3 rfl (by decide)) o7 (fun I8 eI8 => ?_)
    replace H := H I8 eI8
    refine w_aload rfl rfl ?_
    refine n_getR 5 20 rfl rfl rfl rfl (by decide) (wz_R hz 53 5 56 rfl (by decide)) ?_
    refine w_iload rfl rfl ?_
    refine w_iload rfl rfl ?_
    refine n_iastore rfl (by decide) (wz_L hz 56 3 rfl (by decide)) o7 (fun I9 eI9 => ?_)
    replace H := H I9 eI9
    have o10 := H.1
    replace H := H.2
    refine w_iinc rfl rfl rfl o10 ?_
    refine w_goto rfl ?_
    exact H
set_option maxHeartbeats 4000000 in
set_option maxRecDepth 100000 in
theorem wr_Mover_use {d : Nat} {Q : cm_Q} {z : cm_Z} {I : cm_I} (hz : wz z) {x1 : Int} {sh : Nat} (y_53_0 : z.1 53 0 = sh) (p_sh : isSh sh) (H : (∀ I1 : cm_I, I1 = iu I 53 3 1 → cw d cd_Mover_use Q 15 [some (vR 4 53), some (vI x1), some (vI (I sh 0)), some (vI 0), none, none, none] [] (I1, z))) : cm_call (d + 1) m_Mover_use [vR 4 53, vI x1] (I, z) Q := by
  refine cm_call_in (C := cd_Mover_use) (ls := [some (vR 4 53), some (vI x1), none, none, none, none, none]) rfl rfl (show 0 < 53 by decide) rfl ?_
  refine w_aload rfl rfl ?_
  refine n_getR 0 9 rfl rfl rfl rfl (by decide) y_53_0 ?_
  refine m_getI 0 rfl rfl rfl (isSh_pos p_sh) ?_
  refine w_istore rfl rfl ?_
  refine w_aload rfl rfl ?_
  refine w_iconst rfl ⟨by decide, by decide⟩ ?_
  refine m_putZ 3 rfl rfl rfl (by decide) (by decide) (fun I1 eI1 => ?_)
  replace H := H I1 eI1
  refine w_iconst rfl ⟨by decide, by decide⟩ ?_
  refine w_istore rfl rfl ?_
  exact H
set_option maxHeartbeats 4000000 in
set_option maxRecDepth 100000 in
theorem wr_Mover_addAllMoved_2 {d : Nat} {Q : cm_Q} {z : cm_Z} {I : cm_I} (hz : wz z) {a1 : Nat} {a2 : Nat} {x3 : Int} {sh : Nat} (y_53_0 : z.1 53 0 = sh) (p_sh : isSh sh) (H : ((15 < x3 → Q none (I, z)) ∧ (x3 ≤ 15 → (mI d m_Shape_isZero [vR 9 sh, vR 20 a1, vI x3] z I fun v2 I1 => ((¬ v2 = 0 → (cm_i (x3 + 1) ∧ cw d cd_Mover_addAllMoved Q 2 [some (vR 4 53), some (vR 20 a1), some (vR 20 a2), some (vI (x3 + 1))] [] (I1, z))) ∧ (v2 = 0 → ((0:Int) ≤ x3 ∧ x3 < 17) ∧ (zcU d m_Piece_put [vR 5 61, vR 20 a1, vI (I1 (sh + 2) x3), vI x3] z I1 fun I5 Z6 => (wz Z6 ∧ (Z6.1 53 0 = sh ∧ (mU d m_Mover_addMoved [vR 4 53, vR 5 61, vR 20 a2, vI (I5 (sh + 2) x3)] Z6 I5 fun I9 => (cm_i (x3 + 1) ∧ cw d cd_Mover_addAllMoved Q 2 [some (vR 4 53), some (vR 20 a1), some (vR 20 a2), some (vI (x3 + 1))] [] (I9, Z6)))))))))))) : cw d cd_Mover_addAllMoved Q 2 [some (vR 4 53), some (vR 20 a1), some (vR 20 a2), some (vI x3)] [] (I, z) := by
  refine w_iload rfl rfl ?_
  refine w_iconst rfl ⟨by decide, by decide⟩ ?_
  refine w_icmp rfl (And.intro (fun hc => ?_) (fun hc => ?_))
  · replace H := H.1 hc
    exact w_return rfl H
  · replace H := H.2 hc
    refine w_aload rfl rfl ?_
    refine n_getR 0 9 rfl rfl rfl rfl (by decide) y_53_0 ?_
    refine w_aload rfl rfl ?_
    refine w_iload rfl rfl ?_
    refine m_callI rfl (fun _ => rfl) rfl (mI_mono H fun v2 I1 H => ?_)
    refine w_if rfl (And.intro (fun hc => ?_) (fun hc => ?_))
    · replace H := H.1 hc
      have o3 := H.1
      replace H := H.2
      refine w_iinc rfl rfl rfl o3 ?_
      refine w_goto rfl ?_
      exact H
    · replace H := H.2 hc
      refine w_aload rfl rfl ?_
      refine n_getR 11 5 rfl rfl rfl rfl (by decide) (wz_R hz 53 11 61 rfl (by decide)) ?_
      refine w_aload rfl rfl ?_
      refine w_aload rfl rfl ?_
      refine n_getR 0 9 rfl rfl rfl rfl (by decide) y_53_0 ?_
      refine n_getR 3 20 rfl rfl rfl rfl (isSh_pos p_sh) (wz_sh3 hz p_sh) ?_
      refine w_iload rfl rfl ?_
      have o4 := H.1
      replace H := H.2
      refine n_iaload rfl (Nat.add_pos_right _ (by decide)) (wz_shL2 hz p_sh) o4 ?_
      refine w_iload rfl rfl ?_
      refine n_callU rfl (fun _ => rfl) rfl (zcU_mono H fun I5 Z6 H => ?_)
      refine w_aload rfl rfl ?_
      refine w_aload rfl rfl ?_
      have o7 := H.1
      replace H := H.2
      refine n_getR 11 5 rfl rfl rfl rfl (by decide) (wz_R o7 53 11 61 rfl (by decide)) ?_
      refine w_aload rfl rfl ?_
      refine w_aload rfl rfl ?_
      have o8 := H.1
      replace H := H.2
      refine n_getR 0 9 rfl rfl rfl rfl (by decide) o8 ?_
      refine n_getR 3 20 rfl rfl rfl rfl (isSh_pos p_sh) (wz_sh3 o7 p_sh) ?_
      refine w_iload rfl rfl ?_
      refine n_iaload rfl (Nat.add_pos_right _ (by decide)) (wz_shL2 o7 p_sh) o4 ?_
      refine m_callU rfl (fun _ => rfl) rfl (mU_mono H fun I9 H => ?_)
      have o10 := H.1
      replace H := H.2
      refine w_iinc rfl rfl rfl o10 ?_
      refine w_goto rfl ?_
      exact H
set_option maxHeartbeats 4000000 in
set_option maxRecDepth 100000 in
theorem wr_Mover_addAllMoved {d : Nat} {Q : cm_Q} {z : cm_Z} {I : cm_I} (hz : wz z) {a1 : Nat} {a2 : Nat}  (H : cw d cd_Mover_addAllMoved Q 2 [some (vR 4 53), some (vR 20 a1), some (vR 20 a2), some (vI 0)] [] (I, z)) : cm_call (d + 1) m_Mover_addAllMoved [vR 4 53, vR 20 a1, vR 20 a2] (I, z) Q := by
  refine cm_call_in (C := cd_Mover_addAllMoved) (ls := [some (vR 4 53), some (vR 20 a1), some (vR 20 a2), none]) rfl rfl (show 0 < 53 by decide) rfl ?_
  refine w_iconst rfl ⟨by decide, by decide⟩ ?_
  refine w_istore rfl rfl ?_
  exact H
set_option maxHeartbeats 4000000 in
set_option maxRecDepth 100000 in
theorem wr_Mover_addMoved_26 {d : Nat} {Q : cm_Q} {z : cm_Z} {I : cm_I} (hz : wz z) {a1 : Nat} {a2 : Nat} {x3 : Int} {x4 : Int} {x5 : Int} {z6 : Option cm_V} (p_a1 : 0 < a1) (H : (((I a1 2) < x5 → ((x4 = 0 → Q none (I, z)) ∧ (¬ x4 = 0 → cw d cd_Mover_addMoved Q 149 [some (vR 4 53), some (vR 5 a1), some (vR 20 a2), some (vI x3), some (vI x4), some (vI 0), z6] [] (I, z)))) ∧ (x5 ≤ (I a1 2) → ((x4 = 0 → cw d cd_Mover_addMoved Q 54 [some (vR 4 53), some (vR 5 a1), some (vR 20 a2), some (vI x3), some (vI x4), some (vI x5), z6] [] (I, z)) ∧ (¬ x4 = 0 → (cm_i (x5 - 1) ∧ (mU d m_Mover_timesForm [vR 4 53, vR 20 58, vI 0, vI (x5 - 1), vI 0] z I fun I2 => cw d cd_Mover_addMoved Q 54 [some (vR 4 53), some (vR 5 a1), some (vR 20 a2), some (vI x3), some (vI x4), some (vI x5), z6] [] (I2, z)))))))) : cw d cd_Mover_addMoved Q 26 [some (vR 4 53), some (vR 5 a1), some (vR 20 a2), some (vI x3), some (vI x4), some (vI x5), z6] [] (I, z) := by
  refine w_iload rfl rfl ?_
  refine w_aload rfl rfl ?_
  refine m_getI 2 rfl rfl rfl p_a1 ?_
  refine w_icmp rfl (And.intro (fun hc => ?_) (fun hc => ?_))
  · replace H := H.1 hc
    refine w_iload rfl rfl ?_
    refine w_if rfl (And.intro (fun hc => ?_) (fun hc => ?_))
    · replace H := H.1 hc
      exact w_return rfl H
    · replace H := H.2 hc
      refine w_iconst rfl ⟨by decide, by decide⟩ ?_
      refine w_istore rfl rfl ?_
      exact H
  · replace H := H.2 hc
    refine w_iload rfl rfl ?_
    refine w_if rfl (And.intro (fun hc => ?_) (fun hc => ?_))
    · replace H := H.1 hc
      exact H
    · replace H := H.2 hc
      refine w_aload rfl rfl ?_
      refine w_aload rfl rfl ?_
      refine n_getR 7 20 rfl rfl rfl rfl (by decide) (wz_R hz 53 7 58 rfl (by decide)) ?_
      refine w_iconst rfl ⟨by decide, by decide⟩ ?_
      refine w_iload rfl rfl ?_
      refine w_iconst rfl ⟨by decide, by decide⟩ ?_
      have o1 := H.1
      replace H := H.2
      refine w_isub rfl o1 ?_
      refine w_iconst rfl ⟨by decide, by decide⟩ ?_
      refine m_callU rfl (fun _ => rfl) rfl (mU_mono H fun I2 H => ?_)
      exact H
set_option maxHeartbeats 4000000 in
set_option maxRecDepth 100000 in
theorem wr_Mover_addMoved_54 {d : Nat} {Q : cm_Q} {z : cm_Z} {I : cm_I} (hz : wz z) {a1 : Nat} {a2 : Nat} {x3 : Int} {x4 : Int} {x5 : Int} {z6 : Option cm_V}  (H : (mI d m_Mover_moveBlock [vR 4 53, vR 5 a1, vI x5] z I fun v2 I1 => ((¬ v2 = 0 → ((¬ x4 = 0 → cw d cd_Mover_addMoved Q 86 [some (vR 4 53), some (vR 5 a1), some (vR 20 a2), some (vI x3), some (vI x4), some (vI x5), some (vI 0)] [] (I1, z)) ∧ (x4 = 0 → (mU d m_Arr_fill [vR 20 58, vI 0] z I1 fun I3 => cw d cd_Mover_addMoved Q 86 [some (vR 4 53), some (vR 5 a1), some (vR 20 a2), some (vI x3), some (vI 1), some (vI x5), some (vI 0)] [] (I3, z))))) ∧ (v2 = 0 → (cm_i (x5 + 1) ∧ cw d cd_Mover_addMoved Q 26 [some (vR 4 53), some (vR 5 a1), some (vR 20 a2), some (vI x3), some (vI x4), some (vI (x5 + 1)), z6] [] (I1, z)))))) : cw d cd_Mover_addMoved Q 54 [some (vR 4 53), some (vR 5 a1), some (vR 20 a2), some (vI x3), some (vI x4), some (vI x5), z6] [] (I, z) := by
  refine w_aload rfl rfl ?_
  refine w_aload rfl rfl ?_
  refine w_iload rfl rfl ?_
  refine m_callI rfl (fun _ => rfl) rfl (mI_mono H fun v2 I1 H => ?_)
  refine w_if rfl (And.intro (fun hc => ?_) (fun hc => ?_))
  · replace H := H.1 hc
    refine w_iload rfl rfl ?_
    refine w_if rfl (And.intro (fun hc => ?_) (fun hc => ?_))
    · replace H := H.1 hc
      refine w_iconst rfl ⟨by decide, by decide⟩ ?_
      refine w_istore rfl rfl ?_
      exact H
    · replace H := H.2 hc
      refine w_aload rfl rfl ?_
      refine n_getR 7 20 rfl rfl rfl rfl (by decide) (wz_R hz 53 7 58 rfl (by decide)) ?_
      refine w_iconst rfl ⟨by decide, by decide⟩ ?_
      refine m_callU rfl (fun _ => rfl) rfl (mU_mono H fun I3 H => ?_)
      refine w_iconst rfl ⟨by decide, by decide⟩ ?_
      refine w_istore rfl rfl ?_
      refine w_iconst rfl ⟨by decide, by decide⟩ ?_
      refine w_istore rfl rfl ?_
      exact H
  · replace H := H.2 hc
    refine w_goto rfl ?_
    have o4 := H.1
    replace H := H.2
    refine w_iinc rfl rfl rfl o4 ?_
    refine w_goto rfl ?_
    exact H
set_option maxHeartbeats 4000000 in
set_option maxRecDepth 100000 in
theorem wr_Mover_addMoved_86 {d : Nat} {Q : cm_Q} {z : cm_Z} {I : cm_I} (hz : wz z) {a1 : Nat} {a2 : Nat} {x3 : Int} {x4 : Int} {x5 : Int} {x6 : Int} {sh : Nat} (y_53_0 : z.1 53 0 = sh) (p_sh : isSh sh) (H : (cm_i (x5 + 1) ∧ ((0:Int) ≤ (x5 + 1) ∧ (x5 + 1) < 19) ∧ (((I (sh + 1) (x5 + 1)) ≤ x6 → cw d cd_Mover_addMoved Q 26 [some (vR 4 53), some (vR 5 a1), some (vR 20 a2), some (vI x3), some (vI x4), some (vI (x5 + 1)), some (vI x6)] [] (I, z)) ∧ (x6 < (I (sh + 1) (x5 + 1)) → ((0:Int) ≤ x6 ∧ x6 < 136) ∧ (cm_i ((I 58 x6) + (I 59 x6)) ∧ (∀ I5 : cm_I, I5 = iu I 58 x6 (Int.tmod ((I 58 x6) + (I 59 x6)) 2521) → (cm_i (x6 + 1) ∧ cw d cd_Mover_addMoved Q 86 [some (vR 4 53), some (vR 5 a1), some (vR 20 a2), some (vI x3), some (vI x4), some (vI x5), some (vI (x6 + 1))] [] (I5, z)))))))) : cw d cd_Mover_addMoved Q 86 [some (vR 4 53), some (vR 5 a1), some (vR 20 a2), some (vI x3), some (vI x4), some (vI x5), some (vI x6)] [] (I, z) := by
  refine w_iload rfl rfl ?_
  refine w_aload rfl rfl ?_
  refine n_getR 0 9 rfl rfl rfl rfl (by decide) y_53_0 ?_
  refine n_getR 2 20 rfl rfl rfl rfl (isSh_pos p_sh) (wz_sh2 hz p_sh) ?_
  refine w_iload rfl rfl ?_
  refine w_iconst rfl ⟨by decide, by decide⟩ ?_
  have o1 := H.1
  replace H := H.2
  refine w_iadd rfl o1 ?_
  have o2 := H.1
  replace H := H.2
  refine n_iaload rfl (Nat.add_pos_right _ (by decide)) (wz_shL1 hz p_sh) o2 ?_
  refine w_icmp rfl (And.intro (fun hc => ?_) (fun hc => ?_))
  · replace H := H.1 hc
    refine w_iinc rfl rfl rfl o1 ?_
    refine w_goto rfl ?_
    exact H
  · replace H := H.2 hc
    refine w_aload rfl rfl ?_
    refine n_getR 7 20 rfl rfl rfl rfl (by decide) (wz_R hz 53 7 58 rfl (by decide)) ?_
    refine w_iload rfl rfl ?_
    refine w_aload rfl rfl ?_
    refine n_getR 7 20 rfl rfl rfl rfl (by decide) (wz_R hz 53 7 58 rfl (by decide)) ?_
    refine w_iload rfl rfl ?_
    have o3 := H.1
    replace H := H.2
    refine n_iaload rfl (by decide) (wz_L hz 58 136 rfl (by decide)) o3 ?_
    refine w_aload rfl rfl ?_
    refine n_getR 8 20 rfl rfl rfl rfl (by decide) (wz_R hz 53 8 59 rfl (by decide)) ?_
    refine w_iload rfl rfl ?_
    refine n_iaload rfl (by decide) (wz_L hz 59 136 rfl (by decide)) o3 ?_
    have o4 := H.1
    replace H := H.2
    refine w_iadd rfl o4 ?_
    refine w_iconst rfl ⟨by decide, by decide⟩ ?_
    refine w_irem rfl (by decide) ?_
    refine n_iastore rfl (by decide) (wz_L hz 58 136 rfl (by decide)) o3 (fun I5 eI5 => ?_)
    replace H := H I5 eI5
    have o6 := H.1
    replace H := H.2
    refine w_iinc rfl rfl rfl o6 ?_
    refine w_goto rfl ?_
    exact H
set_option maxHeartbeats 4000000 in
set_option maxRecDepth 100000 in
theorem wr_Mover_addMoved_149 {d : Nat} {Q : cm_Q} {z : cm_Z} {I : cm_I} (hz : wz z) {a1 : Nat} {a2 : Nat} {x3 : Int} {z4 : Option cm_V} {x5 : Int} {z6 : Option cm_V} {sh : Nat} (y_53_0 : z.1 53 0 = sh) (p_sh : isSh sh) (p_a1 : 0 < a1) (p_a2 : 0 < a2) (H : (cm_i ((I a1 2) + 1) ∧ ((0:Int) ≤ ((I a1 2) + 1) ∧ ((I a1 2) + 1) < 19) ∧ (((I (sh + 1) ((I a1 2) + 1)) ≤ x5 → Q none (I, z)) ∧ (x5 < (I (sh + 1) ((I a1 2) + 1)) → (cm_i (x3 + x5) ∧ ((0:Int) ≤ (x3 + x5) ∧ (x3 + x5) < z.2.1 a2) ∧ ((0:Int) ≤ x5 ∧ x5 < 136) ∧ (cm_i ((I a2 (x3 + x5)) + (I 58 x5)) ∧ (∀ I7 : cm_I, I7 = iu I a2 (x3 + x5) ((I a2 (x3 + x5)) + (I 58 x5)) → (cm_i (x5 + 1) ∧ cw d cd_Mover_addMoved Q 149 [some (vR 4 53), some (vR 5 a1), some (vR 20 a2), some (vI x3), z4, some (vI (x5 + 1)), z6] [] (I7, z))))))))) : cw d cd_Mover_addMoved Q 149 [some (vR 4 53), some (vR 5 a1), some (vR 20 a2), some (vI x3), z4, some (vI x5), z6] [] (I, z) := by
  refine w_iload rfl rfl ?_
  refine w_aload rfl rfl ?_
  refine n_getR 0 9 rfl rfl rfl rfl (by decide) y_53_0 ?_
  refine n_getR 2 20 rfl rfl rfl rfl (isSh_pos p_sh) (wz_sh2 hz p_sh) ?_
  refine w_aload rfl rfl ?_
  refine m_getI 2 rfl rfl rfl p_a1 ?_
  refine w_iconst rfl ⟨by decide, by decide⟩ ?_
  have o1 := H.1
  replace H := H.2
  refine w_iadd rfl o1 ?_
  have o2 := H.1
  replace H := H.2
  refine n_iaload rfl (Nat.add_pos_right _ (by decide)) (wz_shL1 hz p_sh) o2 ?_
  refine w_icmp rfl (And.intro (fun hc => ?_) (fun hc => ?_))
  · replace H := H.1 hc
    exact w_return rfl H
  · replace H := H.2 hc
    refine w_aload rfl rfl ?_
    refine w_iload rfl rfl ?_
    refine w_iload rfl rfl ?_
    have o3 := H.1
    replace H := H.2
    refine w_iadd rfl o3 ?_
    refine w_dup2 rfl rfl ?_
    have o4 := H.1
    replace H := H.2
    refine n_iaload rfl p_a2 rfl o4 ?_
    refine w_aload rfl rfl ?_
    refine n_getR 7 20 rfl rfl rfl rfl (by decide) (wz_R hz 53 7 58 rfl (by decide)) ?_
    refine w_iload rfl rfl ?_
    have o5 := H.1
    replace H := H.2
    refine n_iaload rfl (by decide) (wz_L hz 58 136 rfl (by decide)) o5 ?_
    have o6 := H.1
    replace H := H.2
    refine w_iadd rfl o6 ?_
    refine n_iastore rfl p_a2 rfl o4 (fun I7 eI7 => ?_)
    replace H := H I7 eI7
    have o8 := H.1
    replace H := H.2
    refine w_iinc rfl rfl rfl o8 ?_
    refine w_goto rfl ?_
    exact H
set_option maxHeartbeats 4000000 in
set_option maxRecDepth 100000 in
theorem wr_Mover_addMoved {d : Nat} {Q : cm_Q} {z : cm_Z} {I : cm_I} (hz : wz z) {a1 : Nat} {a2 : Nat} {x3 : Int}  (H : (((I 53 3) = 0 → (mU d m_Mover_growLastPowers [vR 4 53, vR 5 a1] z I fun I1 => cw d cd_Mover_addMoved Q 26 [some (vR 4 53), some (vR 5 a1), some (vR 20 a2), some (vI x3), some (vI 0), some (vI 0), none] [] (I1, z))) ∧ (¬ (I 53 3) = 0 → (mU d m_Mover_addStraight [vR 4 53, vR 5 a1, vR 20 a2, vI x3] z I fun I2 => Q none (I2, z))))) : cm_call (d + 1) m_Mover_addMoved [vR 4 53, vR 5 a1, vR 20 a2, vI x3] (I, z) Q := by
  refine cm_call_in (C := cd_Mover_addMoved) (ls := [some (vR 4 53), some (vR 5 a1), some (vR 20 a2), some (vI x3), none, none, none]) rfl rfl (show 0 < 53 by decide) rfl ?_
  refine w_aload rfl rfl ?_
  refine m_getI 3 rfl rfl rfl (by decide) ?_
  refine w_if rfl (And.intro (fun hc => ?_) (fun hc => ?_))
  · replace H := H.1 hc
    refine w_aload rfl rfl ?_
    refine w_aload rfl rfl ?_
    refine m_callU rfl (fun _ => rfl) rfl (mU_mono H fun I1 H => ?_)
    refine w_iconst rfl ⟨by decide, by decide⟩ ?_
    refine w_istore rfl rfl ?_
    refine w_iconst rfl ⟨by decide, by decide⟩ ?_
    refine w_istore rfl rfl ?_
    exact H
  · replace H := H.2 hc
    refine w_aload rfl rfl ?_
    refine w_aload rfl rfl ?_
    refine w_aload rfl rfl ?_
    refine w_iload rfl rfl ?_
    refine m_callU rfl (fun _ => rfl) rfl (mU_mono H fun I2 H => ?_)
    exact w_return rfl H
set_option maxHeartbeats 4000000 in
set_option maxRecDepth 100000 in
theorem wr_Mover_addStraight_12 {d : Nat} {Q : cm_Q} {z : cm_Z} {I : cm_I} (hz : wz z) {a1 : Nat} {a2 : Nat} {x3 : Int} {a4 : Nat} {x5 : Int} {z6 : Option cm_V} {z7 : Option cm_V} {z8 : Option cm_V} {q_a1_0 : Nat} {sh : Nat} (p_a1 : 0 < a1) (p_a4 : 0 < a4) (y_a1_0 : z.1 a1 0 = q_a1_0) (p_q_a1_0 : 0 < q_a1_0) (y_53_0 : z.1 53 0 = sh) (p_sh : isSh sh) (p_a2 : 0 < a2) (H : (cm_i ((I a1 2) + 1) ∧ ((0:Int) ≤ ((I a1 2) + 1) ∧ ((I a1 2) + 1) < z.2.1 a4) ∧ (((I a4 ((I a1 2) + 1)) ≤ x5 → Q none (I, z)) ∧ (x5 < (I a4 ((I a1 2) + 1)) → (cm_i ((I a1 1) + x5) ∧ ((0:Int) ≤ ((I a1 1) + x5) ∧ ((I a1 1) + x5) < z.2.1 q_a1_0) ∧ ((¬ (I q_a1_0 ((I a1 1) + x5)) = 0 → ((0:Int) ≤ x5 ∧ x5 < z.2.1 ((sh + 7))) ∧ ((0:Int) ≤ (I (sh + 7) x5) ∧ (I (sh + 7) x5) < z.2.1 a4) ∧ (cm_i (x5 - (I a4 (I (sh + 7) x5))) ∧ (cm_i ((I a1 2) - (I (sh + 7) x5)) ∧ ((0:Int) ≤ (I 55 0) ∧ (I 55 0) < 3) ∧ (∀ I10 : cm_I, I10 = iu I 57 (I 55 0) ((I a1 2) - (I (sh + 7) x5)) → (cm_i ((I (sh + 7) x5) - (x5 - (I a4 (I (sh + 7) x5)))) ∧ ((0:Int) ≤ (I10 55 1) ∧ (I10 55 1) < 3) ∧ (∀ I13 : cm_I, I13 = iu I10 57 (I10 55 1) ((I (sh + 7) x5) - (x5 - (I a4 (I (sh + 7) x5)))) → ((0:Int) ≤ (I13 55 2) ∧ (I13 55 2) < 3) ∧ (∀ I15 : cm_I, I15 = iu I13 57 (I13 55 2) (x5 - (I a4 (I (sh + 7) x5))) → (cm_i ((I15 a1 2) - (I (sh + 7) x5)) ∧ (mI d m_Works_raise [vI (I15 56 0), vI ((I15 a1 2) - (I (sh + 7) x5))] z I15 fun v18 I17 => (cm_i ((I q_a1_0 ((I a1 1) + x5)) * v18) ∧ (mI d m_Works_raise [vI (I17 56 1), vI ((I (sh + 7) x5) - (x5 - (I a4 (I (sh + 7) x5))))] z I17 fun v21 I20 => (cm_i ((Int.tmod ((I q_a1_0 ((I a1 1) + x5)) * v18) 2521) * v21) ∧ (mI d m_Works_raise [vI (I20 56 2), vI (x5 - (I a4 (I (sh + 7) x5)))] z I20 fun v24 I23 => (cm_i ((Int.tmod ((Int.tmod ((I q_a1_0 ((I a1 1) + x5)) * v18) 2521) * v21) 2521) * v24) ∧ (cm_i ((I23 a1 2) - (I23 57 0)) ∧ ((0:Int) ≤ ((I23 a1 2) - (I23 57 0)) ∧ ((I23 a1 2) - (I23 57 0)) < z.2.1 a4) ∧ (cm_i (x3 + (I23 a4 ((I23 a1 2) - (I23 57 0)))) ∧ (cm_i ((x3 + (I23 a4 ((I23 a1 2) - (I23 57 0)))) + (I23 57 2)) ∧ ((0:Int) ≤ ((x3 + (I23 a4 ((I23 a1 2) - (I23 57 0)))) + (I23 57 2)) ∧ ((x3 + (I23 a4 ((I23 a1 2) - (I23 57 0)))) + (I23 57 2)) < z.2.1 a2) ∧ (cm_i ((I23 a2 ((x3 + (I23 a4 ((I23 a1 2) - (I23 57 0)))) + (I23 57 2))) + (Int.tmod ((Int.tmod ((Int.tmod ((I q_a1_0 ((I a1 1) + x5)) * v18) 2521) * v21) 2521) * v24) 2521)) ∧ (∀ I32 : cm_I, I32 = iu I23 a2 ((x3 + (I23 a4 ((I23 a1 2) - (I23 57 0)))) + (I23 57 2)) ((I23 a2 ((x3 + (I23 a4 ((I23 a1 2) - (I23 57 0)))) + (I23 57 2))) + (Int.tmod ((Int.tmod ((Int.tmod ((I q_a1_0 ((I a1 1) + x5)) * v18) 2521) * v21) 2521) * v24) 2521)) → (cm_i (x5 + 1) ∧ cw d cd_Mover_addStraight Q 12 [some (vR 4 53), some (vR 5 a1), some (vR 20 a2), some (vI x3), some (vR 20 a4), some (vI (x5 + 1)), some (vI (Int.tmod ((Int.tmod ((Int.tmod ((I q_a1_0 ((I a1 1) + x5)) * v18) 2521) * v21) 2521) * v24) 2521)), some (vI (I (sh + 7) x5)), some (vI (x5 - (I a4 (I (sh + 7) x5))))] [] (I32, z))))))))))))))))))))) ∧ ((I q_a1_0 ((I a1 1) + x5)) = 0 → (cm_i (x5 + 1) ∧ cw d cd_Mover_addStraight Q 12 [some (vR 4 53), some (vR 5 a1), some (vR 20 a2), some (vI x3), some (vR 20 a4), some (vI (x5 + 1)), some (vI (I q_a1_0 ((I a1 1) + x5))), z7, z8] [] (I, z))))))))) : cw d cd_Mover_addStraight Q 12 [some (vR 4 53), some (vR 5 a1), some (vR 20 a2), some (vI x3), some (vR 20 a4), some (vI x5), z6, z7, z8] [] (I, z) := by
  refine w_iload rfl rfl ?_
  refine w_aload rfl rfl ?_
  refine w_aload rfl rfl ?_
  refine m_getI 2 rfl rfl rfl p_a1 ?_
  refine w_iconst rfl ⟨by decide, by decide⟩ ?_
  have o1 := H.1
  replace H := H.2
  refine w_iadd rfl o1 ?_
  have o2 := H.1
  replace H := H.2
  refine n_iaload rfl p_a4 rfl o2 ?_
  refine w_icmp rfl (And.intro (fun hc => ?_) (fun hc => ?_))
  · replace H := H.1 hc
    exact w_return rfl H
  · replace H := H.2 hc
    refine w_aload rfl rfl ?_
    refine n_getR 0 20 rfl rfl rfl rfl p_a1 y_a1_0 ?_
    refine w_aload rfl rfl ?_
    refine m_getI 1 rfl rfl rfl p_a1 ?_
    refine w_iload rfl rfl ?_
    have o3 := H.1
    replace H := H.2
    refine w_iadd rfl o3 ?_
    have o4 := H.1
    replace H := H.2
    refine n_iaload rfl p_q_a1_0 rfl o4 ?_
    refine w_istore rfl rfl ?_
    refine w_iload rfl rfl ?_
    refine w_if rfl (And.intro (fun hc => ?_) (fun hc => ?_))
    · replace H := H.1 hc
      refine w_aload rfl rfl ?_
      refine n_getR 0 9 rfl rfl rfl rfl (by decide) y_53_0 ?_
      refine n_getR 4 20 rfl rfl rfl rfl (isSh_pos p_sh) (wz_sh4 hz p_sh) ?_
      refine w_iload rfl rfl ?_
      have o5 := H.1
      replace H := H.2
      refine n_iaload rfl (Nat.add_pos_right _ (by decide)) rfl o5 ?_
      refine w_istore rfl rfl ?_
      refine w_iload rfl rfl ?_
      refine w_aload rfl rfl ?_
      refine w_iload rfl rfl ?_
      have o6 := H.1
      replace H := H.2
      refine n_iaload rfl p_a4 rfl o6 ?_
      have o7 := H.1
      replace H := H.2
      refine w_isub rfl o7 ?_
      refine w_istore rfl rfl ?_
      refine w_aload rfl rfl ?_
      refine n_getR 6 20 rfl rfl rfl rfl (by decide) (wz_R hz 53 6 57 rfl (by decide)) ?_
      refine w_aload rfl rfl ?_
      refine n_getR 4 20 rfl rfl rfl rfl (by decide) (wz_R hz 53 4 55 rfl (by decide)) ?_
      refine w_iconst rfl ⟨by decide, by decide⟩ ?_
      refine n_iaload rfl (by decide) (wz_L hz 55 3 rfl (by decide)) (by decide) ?_
      refine w_aload rfl rfl ?_
      refine m_getI 2 rfl rfl rfl p_a1 ?_
      refine w_iload rfl rfl ?_
      have o8 := H.1
      replace H := H.2
      refine w_isub rfl o8 ?_
      have o9 := H.1
      replace H := H.2
      refine n_iastore rfl (by decide) (wz_L hz 57 3 rfl (by decide)) o9 (fun I10 eI10 => ?_)
      replace H := H I10 eI10
      refine w_aload rfl rfl ?_
      refine n_getR 6 20 rfl rfl rfl rfl (by decide) (wz_R hz 53 6 57 rfl (by decide)) ?_
      refine w_aload rfl rfl ?_
      refine n_getR 4 20 rfl rfl rfl rfl (by decide) (wz_R hz 53 4 55 rfl (by decide)) ?_
      refine w_iconst rfl ⟨by decide, by decide⟩ ?_
      refine n_iaload rfl (by decide) (wz_L hz 55 3 rfl (by decide)) (by decide) ?_
      refine w_iload rfl rfl ?_
      refine w_iload rfl rfl ?_
      have o11 := H.1
      replace H := H.2
      refine w_isub rfl o11 ?_
      have o12 := H.1
      replace H := H.2
      refine n_iastore rfl (by decide) (wz_L hz 57 3 rfl (by decide)) o12 (fun I13 eI13 => ?_)
      replace H := H I13 eI13
      refine w_aload rfl rfl ?_
      refine n_getR 6 20 rfl rfl rfl rfl (by decide) (wz_R hz 53 6 57 rfl (by decide)) ?_
      refine w_aload rfl rfl ?_
      refine n_getR 4 20 rfl rfl rfl rfl (by decide) (wz_R hz 53 4 55 rfl (by decide)) ?_
      refine w_iconst rfl ⟨by decide, by decide⟩ ?_
      refine n_iaload rfl (by decide) (wz_L hz 55 3 rfl (by decide)) (by decide) ?_
      refine w_iload rfl rfl ?_
      have o14 := H.1
      replace H := H.2
      refine n_iastore rfl (by decide) (wz_L hz 57 3 rfl (by decide)) o14 (fun I15 eI15 => ?_)
      replace H := H I15 eI15
      refine w_iload rfl rfl ?_
      refine w_aload rfl rfl ?_
      refine n_getR 5 20 rfl rfl rfl rfl (by decide) (wz_R hz 53 5 56 rfl (by decide)) ?_
      refine w_iconst rfl ⟨by decide, by decide⟩ ?_
      refine n_iaload rfl (by decide) (wz_L hz 56 3 rfl (by decide)) (by decide) ?_
      refine w_aload rfl rfl ?_
      refine m_getI 2 rfl rfl rfl p_a1 ?_
      refine w_iload rfl rfl ?_
      have o16 := H.1
      replace H := H.2
      refine w_isub rfl o16 ?_
      refine m_callI rfl (fun _ => rfl) rfl (mI_mono H fun v18 I17 H => ?_)
      have o19 := H.1
      replace H := H.2
      refine w_imul rfl o19 ?_
      refine w_iconst rfl ⟨by decide, by decide⟩ ?_
      refine w_irem rfl (by decide) ?_
      refine w_istore rfl rfl ?_
      refine w_iload rfl rfl ?_
      refine w_aload rfl rfl ?_
      refine n_getR 5 20 rfl rfl rfl rfl (by decide) (wz_R hz 53 5 56 rfl (by decide)) ?_
      refine w_iconst rfl ⟨by decide, by decide⟩ ?_
      refine n_iaload rfl (by decide) (wz_L hz 56 3 rfl (by decide)) (by decide) ?_
      refine w_iload rfl rfl ?_
      refine w_iload rfl rfl ?_
      refine w_isub rfl o11 ?_
      refine m_callI rfl (fun _ => rfl) rfl (mI_mono H fun v21 I20 H => ?_)
      have o22 := H.1
      replace H := H.2
      refine w_imul rfl o22 ?_
      refine w_iconst rfl ⟨by decide, by decide⟩ ?_
      refine w_irem rfl (by decide) ?_
      refine w_istore rfl rfl ?_
      refine w_iload rfl rfl ?_
      refine w_aload rfl rfl ?_
      refine n_getR 5 20 rfl rfl rfl rfl (by decide) (wz_R hz 53 5 56 rfl (by decide)) ?_
      refine w_iconst rfl ⟨by decide, by decide⟩ ?_
      refine n_iaload rfl (by decide) (wz_L hz 56 3 rfl (by decide)) (by decide) ?_
      refine w_iload rfl rfl ?_
      refine m_callI rfl (fun _ => rfl) rfl (mI_mono H fun v24 I23 H => ?_)
      have o25 := H.1
      replace H := H.2
      refine w_imul rfl o25 ?_
      refine w_iconst rfl ⟨by decide, by decide⟩ ?_
      refine w_irem rfl (by decide) ?_
      refine w_istore rfl rfl ?_
      refine w_aload rfl rfl ?_
      refine w_iload rfl rfl ?_
      refine w_aload rfl rfl ?_
      refine w_aload rfl rfl ?_
      refine m_getI 2 rfl rfl rfl p_a1 ?_
      refine w_aload rfl rfl ?_
      refine n_getR 6 20 rfl rfl rfl rfl (by decide) (wz_R hz 53 6 57 rfl (by decide)) ?_
      refine w_iconst rfl ⟨by decide, by decide⟩ ?_
      refine n_iaload rfl (by decide) (wz_L hz 57 3 rfl (by decide)) (by decide) ?_
      have o26 := H.1
      replace H := H.2
      refine w_isub rfl o26 ?_
      have o27 := H.1
      replace H := H.2
      refine n_iaload rfl p_a4 rfl o27 ?_
      have o28 := H.1
      replace H := H.2
      refine w_iadd rfl o28 ?_
      refine w_aload rfl rfl ?_
      refine n_getR 6 20 rfl rfl rfl rfl (by decide) (wz_R hz 53 6 57 rfl (by decide)) ?_
      refine w_iconst rfl ⟨by decide, by decide⟩ ?_
      refine n_iaload rfl (by decide) (wz_L hz 57 3 rfl (by decide)) (by decide) ?_
      have o29 := H.1
      replace H := H.2
      refine w_iadd rfl o29 ?_
      refine w_dup2 rfl rfl ?_
      have o30 := H.1
      replace H := H.2
      refine n_iaload rfl p_a2 rfl o30 ?_
      refine w_iload rfl rfl ?_
      have o31 := H.1
      replace H := H.2
      refine w_iadd rfl o31 ?_
      refine n_iastore rfl p_a2 rfl o30 (fun I32 eI32 => ?_)
      replace H := H I32 eI32
      have o33 := H.1
      replace H := H.2
      refine w_iinc rfl rfl rfl o33 ?_
      refine w_goto rfl ?_
      exact H
    · replace H := H.2 hc
      refine w_goto rfl ?_
      have o34 := H.1
      replace H := H.2
      refine w_iinc rfl rfl rfl o34 ?_
      refine w_goto rfl ?_
      exact H
set_option maxHeartbeats 4000000 in
set_option maxRecDepth 100000 in
theorem wr_Mover_addStraight {d : Nat} {Q : cm_Q} {z : cm_Z} {I : cm_I} (hz : wz z) {a1 : Nat} {a2 : Nat} {x3 : Int} {sh : Nat} (y_53_0 : z.1 53 0 = sh) (p_sh : isSh sh) (H : cw d cd_Mover_addStraight Q 12 [some (vR 4 53), some (vR 5 a1), some (vR 20 a2), some (vI x3), some (vR 20 (sh + 1)), some (vI 0), none, none, none] [] (I, z)) : cm_call (d + 1) m_Mover_addStraight [vR 4 53, vR 5 a1, vR 20 a2, vI x3] (I, z) Q := by
  refine cm_call_in (C := cd_Mover_addStraight) (ls := [some (vR 4 53), some (vR 5 a1), some (vR 20 a2), some (vI x3), none, none, none, none, none]) rfl rfl (show 0 < 53 by decide) rfl ?_
  refine w_aload rfl rfl ?_
  refine n_getR 0 9 rfl rfl rfl rfl (by decide) y_53_0 ?_
  refine n_getR 2 20 rfl rfl rfl rfl (isSh_pos p_sh) (wz_sh2 hz p_sh) ?_
  refine w_astore rfl rfl ?_
  refine w_iconst rfl ⟨by decide, by decide⟩ ?_
  refine w_istore rfl rfl ?_
  exact H
set_option maxHeartbeats 4000000 in
set_option maxRecDepth 100000 in
theorem wr_Mover_growLastPowers_4 {d : Nat} {Q : cm_Q} {z : cm_Z} {I : cm_I} (hz : wz z) {a1 : Nat} {x2 : Int} {x3 : Int} {z4 : Option cm_V} {z5 : Option cm_V} {sh : Nat} {q_a1_0 : Nat} (y_53_0 : z.1 53 0 = sh) (p_sh : isSh sh) (p_a1 : 0 < a1) (y_a1_0 : z.1 a1 0 = q_a1_0) (p_q_a1_0 : 0 < q_a1_0) (H : (cm_i ((I a1 2) + 1) ∧ ((0:Int) ≤ ((I a1 2) + 1) ∧ ((I a1 2) + 1) < 19) ∧ (((I (sh + 1) ((I a1 2) + 1)) ≤ x3 → cw d cd_Mover_growLastPowers Q 91 [some (vR 4 53), some (vR 5 a1), some (vI x2), some (vI (I 53 10)), z4, z5] [] (I, z)) ∧ (x3 < (I (sh + 1) ((I a1 2) + 1)) → (cm_i ((I a1 1) + x3) ∧ ((0:Int) ≤ ((I a1 1) + x3) ∧ ((I a1 1) + x3) < z.2.1 q_a1_0) ∧ (((I q_a1_0 ((I a1 1) + x3)) = 0 → (cm_i (x3 + 1) ∧ cw d cd_Mover_growLastPowers Q 4 [some (vR 4 53), some (vR 5 a1), some (vI x2), some (vI (x3 + 1)), z4, z5] [] (I, z))) ∧ (¬ (I q_a1_0 ((I a1 1) + x3)) = 0 → ((0:Int) ≤ x3 ∧ x3 < z.2.1 ((sh + 7))) ∧ ((¬ (I sh 0) = 3 → (cm_i (x3 + 1) ∧ cw d cd_Mover_growLastPowers Q 4 [some (vR 4 53), some (vR 5 a1), some (vI (max x2 (I (sh + 7) x3))), some (vI (x3 + 1)), some (vI (I (sh + 7) x3)), z5] [] (I, z))) ∧ ((I sh 0) = 3 → ((0:Int) ≤ (I (sh + 7) x3) ∧ (I (sh + 7) x3) < 19) ∧ (cm_i (x3 - (I (sh + 1) (I (sh + 7) x3))) ∧ (cm_i (x3 + 1) ∧ cw d cd_Mover_growLastPowers Q 4 [some (vR 4 53), some (vR 5 a1), some (vI (max x2 (x3 - (I (sh + 1) (I (sh + 7) x3))))), some (vI (x3 + 1)), some (vI (I (sh + 7) x3)), z5] [] (I, z)))))))))))) : cw d cd_Mover_growLastPowers Q 4 [some (vR 4 53), some (vR 5 a1), some (vI x2), some (vI x3), z4, z5] [] (I, z) := by
  refine w_iload rfl rfl ?_
  refine w_aload rfl rfl ?_
  refine n_getR 0 9 rfl rfl rfl rfl (by decide) y_53_0 ?_
  refine n_getR 2 20 rfl rfl rfl rfl (isSh_pos p_sh) (wz_sh2 hz p_sh) ?_
  refine w_aload rfl rfl ?_
  refine m_getI 2 rfl rfl rfl p_a1 ?_
  refine w_iconst rfl ⟨by decide, by decide⟩ ?_
  have o1 := H.1
  replace H := H.2
  refine w_iadd rfl o1 ?_
  have o2 := H.1
  replace H := H.2
  refine n_iaload rfl (Nat.add_pos_right _ (by decide)) (wz_shL1 hz p_sh) o2 ?_
  refine w_icmp rfl (And.intro (fun hc => ?_) (fun hc => ?_))
  · replace H := H.1 hc
    refine w_aload rfl rfl ?_
    refine m_getI 10 rfl rfl rfl (by decide) ?_
    refine w_istore rfl rfl ?_
    exact H
  · replace H := H.2 hc
    refine w_aload rfl rfl ?_
    refine n_getR 0 20 rfl rfl rfl rfl p_a1 y_a1_0 ?_
    refine w_aload rfl rfl ?_
    refine m_getI 1 rfl rfl rfl p_a1 ?_
    refine w_iload rfl rfl ?_
    have o3 := H.1
    replace H := H.2
    refine w_iadd rfl o3 ?_
    have o4 := H.1
    replace H := H.2
    refine n_iaload rfl p_q_a1_0 rfl o4 ?_
    refine w_if rfl (And.intro (fun hc => ?_) (fun hc => ?_))
    · replace H := H.1 hc
      have o5 := H.1
      replace H := H.2
      refine w_iinc rfl rfl rfl o5 ?_
      refine w_goto rfl ?_
      exact H
    · replace H := H.2 hc
      refine w_aload rfl rfl ?_
      refine n_getR 0 9 rfl rfl rfl rfl (by decide) y_53_0 ?_
      refine n_getR 4 20 rfl rfl rfl rfl (isSh_pos p_sh) (wz_sh4 hz p_sh) ?_
      refine w_iload rfl rfl ?_
      have o6 := H.1
      replace H := H.2
      refine n_iaload rfl (Nat.add_pos_right _ (by decide)) rfl o6 ?_
      refine w_istore rfl rfl ?_
      refine w_iload rfl rfl ?_
      refine w_aload rfl rfl ?_
      refine n_getR 0 9 rfl rfl rfl rfl (by decide) y_53_0 ?_
      refine m_getI 0 rfl rfl rfl (isSh_pos p_sh) ?_
      refine w_iconst rfl ⟨by decide, by decide⟩ ?_
      refine w_icmp rfl (And.intro (fun hc => ?_) (fun hc => ?_))
      · replace H := H.1 hc
        refine w_iload rfl rfl ?_
        refine w_max rfl rfl ?_
        refine w_istore rfl rfl ?_
        have o7 := H.1
        replace H := H.2
        refine w_iinc rfl rfl rfl o7 ?_
        refine w_goto rfl ?_
        exact H
      · replace H := H.2 hc
        refine w_iload rfl rfl ?_
        refine w_aload rfl rfl ?_
        refine n_getR 0 9 rfl rfl rfl rfl (by decide) y_53_0 ?_
        refine n_getR 2 20 rfl rfl rfl rfl (isSh_pos p_sh) (wz_sh2 hz p_sh) ?_
        refine w_iload rfl rfl ?_
        have o8 := H.1
        replace H := H.2
        refine n_iaload rfl (Nat.add_pos_right _ (by decide)) (wz_shL1 hz p_sh) o8 ?_
        have o9 := H.1
        replace H := H.2
        refine w_isub rfl o9 ?_
        refine w_goto rfl ?_
        refine w_max rfl rfl ?_
        refine w_istore rfl rfl ?_
        have o10 := H.1
        replace H := H.2
        refine w_iinc rfl rfl rfl o10 ?_
        refine w_goto rfl ?_
        exact H
set_option maxHeartbeats 4000000 in
set_option maxRecDepth 100000 in
theorem wr_Mover_growLastPowers_91 {d : Nat} {Q : cm_Q} {z : cm_Z} {I : cm_I} (hz : wz z) {z1 : Option cm_V} {x2 : Int} {x3 : Int} {z4 : Option cm_V} {z5 : Option cm_V} {sh : Nat} (y_53_0 : z.1 53 0 = sh) (p_sh : isSh sh) (H : ((x2 ≤ x3 → (∀ I1 : cm_I, I1 = iu I 53 10 (max (I 53 10) x2) → Q none (I1, z))) ∧ (x3 < x2 → ((0:Int) ≤ x3 ∧ x3 < 17) ∧ (cm_i (x3 + 1) ∧ ((0:Int) ≤ (x3 + 1) ∧ (x3 + 1) < 17) ∧ (cm_i ((I (sh + 2) (x3 + 1)) - (I (sh + 2) x3)) ∧ ((0:Int) ≤ (I (sh + 2) x3) ∧ (0:Int) ≤ (I (sh + 2) (x3 + 1)) ∧ (0:Int) ≤ ((I (sh + 2) (x3 + 1)) - (I (sh + 2) x3)) ∧ ((I (sh + 2) x3) : Int) + ((I (sh + 2) (x3 + 1)) - (I (sh + 2) x3)) ≤ 816 ∧ ((I (sh + 2) (x3 + 1)) : Int) + ((I (sh + 2) (x3 + 1)) - (I (sh + 2) x3)) ≤ 816) ∧ (∀ I7 : cm_I, I7 = iw I 60 (cpyF (I 60) (I (sh + 2) x3) (I 60) (I (sh + 2) (x3 + 1)) ((I (sh + 2) (x3 + 1)) - (I (sh + 2) x3))) → (cm_i ((I7 sh 0) - 1) ∧ (mU d m_Mover_timesForm [vR 4 53, vR 20 60, vI (I (sh + 2) (x3 + 1)), vI x3, vI ((I7 sh 0) - 1)] z I7 fun I9 => cw d cd_Mover_growLastPowers Q 91 [some (vR 4 53), z1, some (vI x2), some (vI (x3 + 1)), some (vI (I (sh + 2) x3)), some (vI (I (sh + 2) (x3 + 1)))] [] (I9, z))))))))) : cw d cd_Mover_growLastPowers Q 91 [some (vR 4 53), z1, some (vI x2), some (vI x3), z4, z5] [] (I, z) := by
  refine w_iload rfl rfl ?_
  refine w_iload rfl rfl ?_
  refine w_icmp rfl (And.intro (fun hc => ?_) (fun hc => ?_))
  · replace H := H.1 hc
    refine w_aload rfl rfl ?_
    refine w_aload rfl rfl ?_
    refine m_getI 10 rfl rfl rfl (by decide) ?_
    refine w_iload rfl rfl ?_
    refine w_max rfl rfl ?_
    refine m_putI 10 rfl rfl rfl (by decide) (fun I1 eI1 => ?_)
    replace H := H I1 eI1
    exact w_return rfl H
  · replace H := H.2 hc
    refine w_aload rfl rfl ?_
    refine n_getR 0 9 rfl rfl rfl rfl (by decide) y_53_0 ?_
    refine n_getR 3 20 rfl rfl rfl rfl (isSh_pos p_sh) (wz_sh3 hz p_sh) ?_
    refine w_iload rfl rfl ?_
    have o2 := H.1
    replace H := H.2
    refine n_iaload rfl (Nat.add_pos_right _ (by decide)) (wz_shL2 hz p_sh) o2 ?_
    refine w_istore rfl rfl ?_
    refine w_aload rfl rfl ?_
    refine n_getR 0 9 rfl rfl rfl rfl (by decide) y_53_0 ?_
    refine n_getR 3 20 rfl rfl rfl rfl (isSh_pos p_sh) (wz_sh3 hz p_sh) ?_
    refine w_iload rfl rfl ?_
    refine w_iconst rfl ⟨by decide, by decide⟩ ?_
    have o3 := H.1
    replace H := H.2
    refine w_iadd rfl o3 ?_
    have o4 := H.1
    replace H := H.2
    refine n_iaload rfl (Nat.add_pos_right _ (by decide)) (wz_shL2 hz p_sh) o4 ?_
    refine w_istore rfl rfl ?_
    refine w_aload rfl rfl ?_
    refine n_getR 9 20 rfl rfl rfl rfl (by decide) (wz_R hz 53 9 60 rfl (by decide)) ?_
    refine w_iload rfl rfl ?_
    refine w_aload rfl rfl ?_
    refine n_getR 9 20 rfl rfl rfl rfl (by decide) (wz_R hz 53 9 60 rfl (by decide)) ?_
    refine w_iload rfl rfl ?_
    refine w_iload rfl rfl ?_
    refine w_iload rfl rfl ?_
    have o5 := H.1
    replace H := H.2
    refine w_isub rfl o5 ?_
    have o6 := H.1
    replace H := H.2
    refine n_copy rfl rfl (by decide) (by decide) (wz_L hz 60 816 rfl (by decide)) (wz_L hz 60 816 rfl (by decide)) o6 (fun I7 eI7 => ?_)
    replace H := H I7 eI7
    refine w_aload rfl rfl ?_
    refine w_aload rfl rfl ?_
    refine n_getR 9 20 rfl rfl rfl rfl (by decide) (wz_R hz 53 9 60 rfl (by decide)) ?_
    refine w_iload rfl rfl ?_
    refine w_iload rfl rfl ?_
    refine w_aload rfl rfl ?_
    refine n_getR 0 9 rfl rfl rfl rfl (by decide) y_53_0 ?_
    refine m_getI 0 rfl rfl rfl (isSh_pos p_sh) ?_
    refine w_iconst rfl ⟨by decide, by decide⟩ ?_
    have o8 := H.1
    replace H := H.2
    refine w_isub rfl o8 ?_
    refine m_callU rfl (fun _ => rfl) rfl (mU_mono H fun I9 H => ?_)
    refine w_iinc rfl rfl rfl o3 ?_
    refine w_goto rfl ?_
    exact H
set_option maxHeartbeats 4000000 in
set_option maxRecDepth 100000 in
theorem wr_Mover_growLastPowers {d : Nat} {Q : cm_Q} {z : cm_Z} {I : cm_I} (hz : wz z) {a1 : Nat}  (H : cw d cd_Mover_growLastPowers Q 4 [some (vR 4 53), some (vR 5 a1), some (vI 0), some (vI 0), none, none] [] (I, z)) : cm_call (d + 1) m_Mover_growLastPowers [vR 4 53, vR 5 a1] (I, z) Q := by
  refine cm_call_in (C := cd_Mover_growLastPowers) (ls := [some (vR 4 53), some (vR 5 a1), none, none, none, none]) rfl rfl (show 0 < 53 by decide) rfl ?_
  refine w_iconst rfl ⟨by decide, by decide⟩ ?_
  refine w_istore rfl rfl ?_
  refine w_iconst rfl ⟨by decide, by decide⟩ ?_
  refine w_istore rfl rfl ?_
  exact H
set_option maxHeartbeats 4000000 in
set_option maxRecDepth 100000 in
theorem wr_Mover_moveBlock_23 {d : Nat} {Q : cm_Q} {z : cm_Z} {I : cm_I} (hz : wz z) {a1 : Nat} {x2 : Int} {x3 : Int} {x4 : Int} {x5 : Int} {z6 : Option cm_V} {z7 : Option cm_V} {z8 : Option cm_V}  (H : ((x2 < x5 → ((x4 = 0 ∨ x4 = 1) ∧ Q (some (vI x4)) (I, z))) ∧ (x5 ≤ x2 → ((x4 = 0 → cw d cd_Mover_moveBlock Q 48 [some (vR 4 53), some (vR 5 a1), some (vI x2), some (vI x3), some (vI x4), some (vI x5), z6, z7, z8] [] (I, z)) ∧ (¬ x4 = 0 → (cm_i (x5 - 1) ∧ (mU d m_Mover_timesForm [vR 4 53, vR 20 59, vI 0, vI (x5 - 1), vI 1] z I fun I2 => cw d cd_Mover_moveBlock Q 48 [some (vR 4 53), some (vR 5 a1), some (vI x2), some (vI x3), some (vI x4), some (vI x5), z6, z7, z8] [] (I2, z)))))))) : cw d cd_Mover_moveBlock Q 23 [some (vR 4 53), some (vR 5 a1), some (vI x2), some (vI x3), some (vI x4), some (vI x5), z6, z7, z8] [] (I, z) := by
  refine w_iload rfl rfl ?_
  refine w_iload rfl rfl ?_
  refine w_icmp rfl (And.intro (fun hc => ?_) (fun hc => ?_))
  · replace H := H.1 hc
    refine w_iload rfl rfl ?_
    exact w_zreturn rfl H.1 H.2
  · replace H := H.2 hc
    refine w_iload rfl rfl ?_
    refine w_if rfl (And.intro (fun hc => ?_) (fun hc => ?_))
    · replace H := H.1 hc
      exact H
    · replace H := H.2 hc
      refine w_aload rfl rfl ?_
      refine w_aload rfl rfl ?_
      refine n_getR 8 20 rfl rfl rfl rfl (by decide) (wz_R hz 53 8 59 rfl (by decide)) ?_
      refine w_iconst rfl ⟨by decide, by decide⟩ ?_
      refine w_iload rfl rfl ?_
      refine w_iconst rfl ⟨by decide, by decide⟩ ?_
      have o1 := H.1
      replace H := H.2
      refine w_isub rfl o1 ?_
      refine w_iconst rfl ⟨by decide, by decide⟩ ?_
      refine m_callU rfl (fun _ => rfl) rfl (mU_mono H fun I2 H => ?_)
      exact H
set_option maxHeartbeats 4000000 in
set_option maxRecDepth 100000 in
theorem wr_Mover_moveBlock_48 {d : Nat} {Q : cm_Q} {z : cm_Z} {I : cm_I} (hz : wz z) {a1 : Nat} {x2 : Int} {x3 : Int} {x4 : Int} {x5 : Int} {z6 : Option cm_V} {z7 : Option cm_V} {z8 : Option cm_V} {q_a1_0 : Nat} {sh : Nat} (p_a1 : 0 < a1) (y_a1_0 : z.1 a1 0 = q_a1_0) (y_53_0 : z.1 53 0 = sh) (p_sh : isSh sh) (p_q_a1_0 : 0 < q_a1_0) (H : ((0:Int) ≤ x2 ∧ x2 < 19) ∧ (cm_i ((I a1 1) + (I (sh + 1) x2)) ∧ (cm_i (((I a1 1) + (I (sh + 1) x2)) + x5) ∧ (cm_i ((((I a1 1) + (I (sh + 1) x2)) + x5) - x3) ∧ ((0:Int) ≤ ((((I a1 1) + (I (sh + 1) x2)) + x5) - x3) ∧ ((((I a1 1) + (I (sh + 1) x2)) + x5) - x3) < z.2.1 q_a1_0) ∧ ((¬ (I q_a1_0 ((((I a1 1) + (I (sh + 1) x2)) + x5) - x3)) = 0 → ((¬ x4 = 0 → ((0:Int) ≤ x5 ∧ x5 < 17) ∧ cw d cd_Mover_moveBlock Q 113 [some (vR 4 53), some (vR 5 a1), some (vI x2), some (vI x3), some (vI x4), some (vI x5), some (vI (I q_a1_0 ((((I a1 1) + (I (sh + 1) x2)) + x5) - x3))), some (vI (I (sh + 2) x5)), some (vI 0)] [] (I, z)) ∧ (x4 = 0 → (mU d m_Arr_fill [vR 20 59, vI 0] z I fun I7 => ((0:Int) ≤ x5 ∧ x5 < 17) ∧ cw d cd_Mover_moveBlock Q 113 [some (vR 4 53), some (vR 5 a1), some (vI x2), some (vI x3), some (vI 1), some (vI x5), some (vI (I q_a1_0 ((((I a1 1) + (I (sh + 1) x2)) + x5) - x3))), some (vI (I7 (sh + 2) x5)), some (vI 0)] [] (I7, z))))) ∧ ((I q_a1_0 ((((I a1 1) + (I (sh + 1) x2)) + x5) - x3)) = 0 → (cm_i (x5 + 1) ∧ cw d cd_Mover_moveBlock Q 23 [some (vR 4 53), some (vR 5 a1), some (vI x2), some (vI x3), some (vI x4), some (vI (x5 + 1)), some (vI (I q_a1_0 ((((I a1 1) + (I (sh + 1) x2)) + x5) - x3))), z7, z8] [] (I, z)))))))) : cw d cd_Mover_moveBlock Q 48 [some (vR 4 53), some (vR 5 a1), some (vI x2), some (vI x3), some (vI x4), some (vI x5), z6, z7, z8] [] (I, z) := by
  refine w_aload rfl rfl ?_
  refine n_getR 0 20 rfl rfl rfl rfl p_a1 y_a1_0 ?_
  refine w_aload rfl rfl ?_
  refine m_getI 1 rfl rfl rfl p_a1 ?_
  refine w_aload rfl rfl ?_
  refine n_getR 0 9 rfl rfl rfl rfl (by decide) y_53_0 ?_
  refine n_getR 2 20 rfl rfl rfl rfl (isSh_pos p_sh) (wz_sh2 hz p_sh) ?_
  refine w_iload rfl rfl ?_
  have o1 := H.1
  replace H := H.2
  refine n_iaload rfl (Nat.add_pos_right _ (by decide)) (wz_shL1 hz p_sh) o1 ?_
  have o2 := H.1
  replace H := H.2
  refine w_iadd rfl o2 ?_
  refine w_iload rfl rfl ?_
  have o3 := H.1
  replace H := H.2
  refine w_iadd rfl o3 ?_
  refine w_iload rfl rfl ?_
  have o4 := H.1
  replace H := H.2
  refine w_isub rfl o4 ?_
  have o5 := H.1
  replace H := H.2
  refine n_iaload rfl p_q_a1_0 rfl o5 ?_
  refine w_istore rfl rfl ?_
  refine w_iload rfl rfl ?_
  refine w_if rfl (And.intro (fun hc => ?_) (fun hc => ?_))
  · replace H := H.1 hc
    refine w_iload rfl rfl ?_
    refine w_if rfl (And.intro (fun hc => ?_) (fun hc => ?_))
    · replace H := H.1 hc
      refine w_aload rfl rfl ?_
      refine n_getR 0 9 rfl rfl rfl rfl (by decide) y_53_0 ?_
      refine n_getR 3 20 rfl rfl rfl rfl (isSh_pos p_sh) (wz_sh3 hz p_sh) ?_
      refine w_iload rfl rfl ?_
      have o6 := H.1
      replace H := H.2
      refine n_iaload rfl (Nat.add_pos_right _ (by decide)) (wz_shL2 hz p_sh) o6 ?_
      refine w_istore rfl rfl ?_
      refine w_iconst rfl ⟨by decide, by decide⟩ ?_
      refine w_istore rfl rfl ?_
      exact H
    · replace H := H.2 hc
      refine w_aload rfl rfl ?_
      refine n_getR 8 20 rfl rfl rfl rfl (by decide) (wz_R hz 53 8 59 rfl (by decide)) ?_
      refine w_iconst rfl ⟨by decide, by decide⟩ ?_
      refine m_callU rfl (fun _ => rfl) rfl (mU_mono H fun I7 H => ?_)
      refine w_iconst rfl ⟨by decide, by decide⟩ ?_
      refine w_istore rfl rfl ?_
      refine w_aload rfl rfl ?_
      refine n_getR 0 9 rfl rfl rfl rfl (by decide) y_53_0 ?_
      refine n_getR 3 20 rfl rfl rfl rfl (isSh_pos p_sh) (wz_sh3 hz p_sh) ?_
      refine w_iload rfl rfl ?_
      have o8 := H.1
      replace H := H.2
      refine n_iaload rfl (Nat.add_pos_right _ (by decide)) (wz_shL2 hz p_sh) o8 ?_
      refine w_istore rfl rfl ?_
      refine w_iconst rfl ⟨by decide, by decide⟩ ?_
      refine w_istore rfl rfl ?_
      exact H
  · replace H := H.2 hc
    refine w_goto rfl ?_
    have o9 := H.1
    replace H := H.2
    refine w_iinc rfl rfl rfl o9 ?_
    refine w_goto rfl ?_
    exact H
set_option maxHeartbeats 4000000 in
set_option maxRecDepth 100000 in
theorem wr_Mover_moveBlock_113 {d : Nat} {Q : cm_Q} {z : cm_Z} {I : cm_I} (hz : wz z) {a1 : Nat} {x2 : Int} {x3 : Int} {x4 : Int} {x5 : Int} {x6 : Int} {x7 : Int} {x8 : Int} {sh : Nat} (y_53_0 : z.1 53 0 = sh) (p_sh : isSh sh) (H : (cm_i (x5 + 1) ∧ ((0:Int) ≤ (x5 + 1) ∧ (x5 + 1) < 19) ∧ (((I (sh + 1) (x5 + 1)) ≤ x8 → cw d cd_Mover_moveBlock Q 23 [some (vR 4 53), some (vR 5 a1), some (vI x2), some (vI x3), some (vI x4), some (vI (x5 + 1)), some (vI x6), some (vI x7), some (vI x8)] [] (I, z)) ∧ (x8 < (I (sh + 1) (x5 + 1)) → ((0:Int) ≤ x8 ∧ x8 < 136) ∧ (cm_i (x7 + x8) ∧ ((0:Int) ≤ (x7 + x8) ∧ (x7 + x8) < 816) ∧ (cm_i (x6 * (I 60 (x7 + x8))) ∧ (cm_i ((I 59 x8) + (x6 * (I 60 (x7 + x8)))) ∧ (∀ I8 : cm_I, I8 = iu I 59 x8 (Int.tmod ((I 59 x8) + (x6 * (I 60 (x7 + x8)))) 2521) → (cm_i (x8 + 1) ∧ cw d cd_Mover_moveBlock Q 113 [some (vR 4 53), some (vR 5 a1), some (vI x2), some (vI x3), some (vI x4), some (vI x5), some (vI x6), some (vI x7), some (vI (x8 + 1))] [] (I8, z)))))))))) : cw d cd_Mover_moveBlock Q 113 [some (vR 4 53), some (vR 5 a1), some (vI x2), some (vI x3), some (vI x4), some (vI x5), some (vI x6), some (vI x7), some (vI x8)] [] (I, z) := by
  refine w_iload rfl rfl ?_
  refine w_aload rfl rfl ?_
  refine n_getR 0 9 rfl rfl rfl rfl (by decide) y_53_0 ?_
  refine n_getR 2 20 rfl rfl rfl rfl (isSh_pos p_sh) (wz_sh2 hz p_sh) ?_
  refine w_iload rfl rfl ?_
  refine w_iconst rfl ⟨by decide, by decide⟩ ?_
  have o1 := H.1
  replace H := H.2
  refine w_iadd rfl o1 ?_
  have o2 := H.1
  replace H := H.2
  refine n_iaload rfl (Nat.add_pos_right _ (by decide)) (wz_shL1 hz p_sh) o2 ?_
  refine w_icmp rfl (And.intro (fun hc => ?_) (fun hc => ?_))
  · replace H := H.1 hc
    refine w_iinc rfl rfl rfl o1 ?_
    refine w_goto rfl ?_
    exact H
  · replace H := H.2 hc
    refine w_aload rfl rfl ?_
    refine n_getR 8 20 rfl rfl rfl rfl (by decide) (wz_R hz 53 8 59 rfl (by decide)) ?_
    refine w_iload rfl rfl ?_
    refine w_aload rfl rfl ?_
    refine n_getR 8 20 rfl rfl rfl rfl (by decide) (wz_R hz 53 8 59 rfl (by decide)) ?_
    refine w_iload rfl rfl ?_
    have o3 := H.1
    replace H := H.2
    refine n_iaload rfl (by decide) (wz_L hz 59 136 rfl (by decide)) o3 ?_
    refine w_iload rfl rfl ?_
    refine w_aload rfl rfl ?_
    refine n_getR 9 20 rfl rfl rfl rfl (by decide) (wz_R hz 53 9 60 rfl (by decide)) ?_
    refine w_iload rfl rfl ?_
    refine w_iload rfl rfl ?_
    have o4 := H.1
    replace H := H.2
    refine w_iadd rfl o4 ?_
    have o5 := H.1
    replace H := H.2
    refine n_iaload rfl (by decide) (wz_L hz 60 816 rfl (by decide)) o5 ?_
    have o6 := H.1
    replace H := H.2
    refine w_imul rfl o6 ?_
    have o7 := H.1
    replace H := H.2
    refine w_iadd rfl o7 ?_
    refine w_iconst rfl ⟨by decide, by decide⟩ ?_
    refine w_irem rfl (by decide) ?_
    refine n_iastore rfl (by decide) (wz_L hz 59 136 rfl (by decide)) o3 (fun I8 eI8 => ?_)
    replace H := H I8 eI8
    have o9 := H.1
    replace H := H.2
    refine w_iinc rfl rfl rfl o9 ?_
    refine w_goto rfl ?_
    exact H
set_option maxHeartbeats 4000000 in
set_option maxRecDepth 100000 in
theorem wr_Mover_moveBlock {d : Nat} {Q : cm_Q} {z : cm_Z} {I : cm_I} (hz : wz z) {a1 : Nat} {x2 : Int} {sh : Nat} (y_53_0 : z.1 53 0 = sh) (p_sh : isSh sh) (H : ((¬ (I sh 0) = 3 → cw d cd_Mover_moveBlock Q 23 [some (vR 4 53), some (vR 5 a1), some (vI x2), some (vI x2), some (vI 0), some (vI x2), none, none, none] [] (I, z)) ∧ ((I sh 0) = 3 → cw d cd_Mover_moveBlock Q 23 [some (vR 4 53), some (vR 5 a1), some (vI x2), some (vI 0), some (vI 0), some (vI 0), none, none, none] [] (I, z)))) : cm_call (d + 1) m_Mover_moveBlock [vR 4 53, vR 5 a1, vI x2] (I, z) Q := by
  refine cm_call_in (C := cd_Mover_moveBlock) (ls := [some (vR 4 53), some (vR 5 a1), some (vI x2), none, none, none, none, none, none]) rfl rfl (show 0 < 53 by decide) rfl ?_
  refine w_aload rfl rfl ?_
  refine n_getR 0 9 rfl rfl rfl rfl (by decide) y_53_0 ?_
  refine m_getI 0 rfl rfl rfl (isSh_pos p_sh) ?_
  refine w_iconst rfl ⟨by decide, by decide⟩ ?_
  refine w_icmp rfl (And.intro (fun hc => ?_) (fun hc => ?_))
  · replace H := H.1 hc
    refine w_iload rfl rfl ?_
    refine w_istore rfl rfl ?_
    refine w_iconst rfl ⟨by decide, by decide⟩ ?_
    refine w_istore rfl rfl ?_
    refine w_iload rfl rfl ?_
    refine w_istore rfl rfl ?_
    exact H
  · replace H := H.2 hc
    refine w_iconst rfl ⟨by decide, by decide⟩ ?_
    refine w_goto rfl ?_
    refine w_istore rfl rfl ?_
    refine w_iconst rfl ⟨by decide, by decide⟩ ?_
    refine w_istore rfl rfl ?_
    refine w_iload rfl rfl ?_
    refine w_istore rfl rfl ?_
    exact H
set_option maxHeartbeats 4000000 in
set_option maxRecDepth 100000 in
theorem wr_Mover_timesForm_82 {d : Nat} {Q : cm_Q} {z : cm_Z} {I : cm_I} (hz : wz z) {a1 : Nat} {x2 : Int} {z3 : Option cm_V} {z4 : Option cm_V} {z5 : Option cm_V} {x6 : Int} {x7 : Int} {x8 : Int} {x9 : Int} {x10 : Int} {z11 : Option cm_V} {z12 : Option cm_V} {sh : Nat} (p_a1 : 0 < a1) (y_53_0 : z.1 53 0 = sh) (p_sh : isSh sh) (H : ((x10 < 0 → cw d cd_Mover_timesForm Q 171 [some (vR 4 53), some (vR 20 a1), some (vI x2), z3, z4, z5, some (vI x6), some (vI x7), some (vI x8), some (vI x9), some (vI x2), z11, z12] [] (I, z)) ∧ (0 ≤ x10 → (cm_i (x2 + x10) ∧ ((0:Int) ≤ (x2 + x10) ∧ (x2 + x10) < z.2.1 a1) ∧ ((¬ (I a1 (x2 + x10)) = 0 → ((0:Int) ≤ x10 ∧ x10 < z.2.1 ((sh + 8))) ∧ (cm_i ((x2 + x10) + (I (sh + 8) x10)) ∧ (cm_i (x7 * (I a1 (x2 + x10))) ∧ (∀ I6 : cm_I, I6 = iu I a1 (x2 + x10) (x7 * (I a1 (x2 + x10))) → ((0:Int) ≤ ((x2 + x10) + (I (sh + 8) x10)) ∧ ((x2 + x10) + (I (sh + 8) x10)) < z.2.1 a1) ∧ (cm_i (x8 * (I a1 (x2 + x10))) ∧ (cm_i ((I6 a1 ((x2 + x10) + (I (sh + 8) x10))) + (x8 * (I a1 (x2 + x10)))) ∧ (∀ I10 : cm_I, I10 = iu I6 a1 ((x2 + x10) + (I (sh + 8) x10)) ((I6 a1 ((x2 + x10) + (I (sh + 8) x10))) + (x8 * (I a1 (x2 + x10)))) → ((x9 = 0 → (cm_i (x10 + (-1)) ∧ cw d cd_Mover_timesForm Q 82 [some (vR 4 53), some (vR 20 a1), some (vI x2), z3, z4, z5, some (vI x6), some (vI x7), some (vI x8), some (vI x9), some (vI (x10 + (-1))), some (vI (I a1 (x2 + x10))), some (vI ((x2 + x10) + (I (sh + 8) x10)))] [] (I10, z))) ∧ (¬ x9 = 0 → (cm_i (((x2 + x10) + (I (sh + 8) x10)) + 1) ∧ ((0:Int) ≤ (((x2 + x10) + (I (sh + 8) x10)) + 1) ∧ (((x2 + x10) + (I (sh + 8) x10)) + 1) < z.2.1 a1) ∧ (cm_i (x9 * (I a1 (x2 + x10))) ∧ (cm_i ((I10 a1 (((x2 + x10) + (I (sh + 8) x10)) + 1)) + (x9 * (I a1 (x2 + x10)))) ∧ (∀ I16 : cm_I, I16 = iu I10 a1 (((x2 + x10) + (I (sh + 8) x10)) + 1) ((I10 a1 (((x2 + x10) + (I (sh + 8) x10)) + 1)) + (x9 * (I a1 (x2 + x10)))) → (cm_i (x10 + (-1)) ∧ cw d cd_Mover_timesForm Q 82 [some (vR 4 53), some (vR 20 a1), some (vI x2), z3, z4, z5, some (vI x6), some (vI x7), some (vI x8), some (vI x9), some (vI (x10 + (-1))), some (vI (I a1 (x2 + x10))), some (vI ((x2 + x10) + (I (sh + 8) x10)))] [] (I16, z))))))))))))))) ∧ ((I a1 (x2 + x10)) = 0 → (cm_i (x10 + (-1)) ∧ cw d cd_Mover_timesForm Q 82 [some (vR 4 53), some (vR 20 a1), some (vI x2), z3, z4, z5, some (vI x6), some (vI x7), some (vI x8), some (vI x9), some (vI (x10 + (-1))), some (vI (I a1 (x2 + x10))), z12] [] (I, z)))))))) : cw d cd_Mover_timesForm Q 82 [some (vR 4 53), some (vR 20 a1), some (vI x2), z3, z4, z5, some (vI x6), some (vI x7), some (vI x8), some (vI x9), some (vI x10), z11, z12] [] (I, z) := by
  refine w_iload rfl rfl ?_
  refine w_if rfl (And.intro (fun hc => ?_) (fun hc => ?_))
  · replace H := H.1 hc
    refine w_iload rfl rfl ?_
    refine w_istore rfl rfl ?_
    exact H
  · replace H := H.2 hc
    refine w_aload rfl rfl ?_
    refine w_iload rfl rfl ?_
    refine w_iload rfl rfl ?_
    have o1 := H.1
    replace H := H.2
    refine w_iadd rfl o1 ?_
    have o2 := H.1
    replace H := H.2
    refine n_iaload rfl p_a1 rfl o2 ?_
    refine w_istore rfl rfl ?_
    refine w_iload rfl rfl ?_
    refine w_if rfl (And.intro (fun hc => ?_) (fun hc => ?_))
    · replace H := H.1 hc
      refine w_iload rfl rfl ?_
      refine w_iload rfl rfl ?_
      refine w_iadd rfl o1 ?_
      refine w_aload rfl rfl ?_
      refine n_getR 0 9 rfl rfl rfl rfl (by decide) y_53_0 ?_
      refine n_getR 5 20 rfl rfl rfl rfl (isSh_pos p_sh) (wz_sh5 hz p_sh) ?_
      refine w_iload rfl rfl ?_
      have o3 := H.1
      replace H := H.2
      refine n_iaload rfl (Nat.add_pos_right _ (by decide)) rfl o3 ?_
      have o4 := H.1
      replace H := H.2
      refine w_iadd rfl o4 ?_
      refine w_istore rfl rfl ?_
      refine w_aload rfl rfl ?_
      refine w_iload rfl rfl ?_
      refine w_iload rfl rfl ?_
      refine w_iadd rfl o1 ?_
      refine w_iload rfl rfl ?_
      refine w_iload rfl rfl ?_
      have o5 := H.1
      replace H := H.2
      refine w_imul rfl o5 ?_
      refine n_iastore rfl p_a1 rfl o2 (fun I6 eI6 => ?_)
      replace H := H I6 eI6
      refine w_aload rfl rfl ?_
      refine w_iload rfl rfl ?_
      refine w_dup2 rfl rfl ?_
      have o7 := H.1
      replace H := H.2
      refine n_iaload rfl p_a1 rfl o7 ?_
      refine w_iload rfl rfl ?_
      refine w_iload rfl rfl ?_
      have o8 := H.1
      replace H := H.2
      refine w_imul rfl o8 ?_
      have o9 := H.1
      replace H := H.2
      refine w_iadd rfl o9 ?_
      refine n_iastore rfl p_a1 rfl o7 (fun I10 eI10 => ?_)
      replace H := H I10 eI10
      refine w_iload rfl rfl ?_
      refine w_if rfl (And.intro (fun hc => ?_) (fun hc => ?_))
      · replace H := H.1 hc
        have o11 := H.1
        replace H := H.2
        refine w_iinc rfl rfl rfl o11 ?_
        refine w_goto rfl ?_
        exact H
      · replace H := H.2 hc
        refine w_aload rfl rfl ?_
        refine w_iload rfl rfl ?_
        refine w_iconst rfl ⟨by decide, by decide⟩ ?_
        have o12 := H.1
        replace H := H.2
        refine w_iadd rfl o12 ?_
        refine w_dup2 rfl rfl ?_
        have o13 := H.1
        replace H := H.2
        refine n_iaload rfl p_a1 rfl o13 ?_
        refine w_iload rfl rfl ?_
        refine w_iload rfl rfl ?_
        have o14 := H.1
        replace H := H.2
        refine w_imul rfl o14 ?_
        have o15 := H.1
        replace H := H.2
        refine w_iadd rfl o15 ?_
        refine n_iastore rfl p_a1 rfl o13 (fun I16 eI16 => ?_)
        replace H := H I16 eI16
        have o17 := H.1
        replace H := H.2
        refine w_iinc rfl rfl rfl o17 ?_
        refine w_goto rfl ?_
        exact H
    · replace H := H.2 hc
      refine w_goto rfl ?_
      have o18 := H.1
      replace H := H.2
      refine w_iinc rfl rfl rfl o18 ?_
      refine w_goto rfl ?_
      exact H
set_option maxHeartbeats 4000000 in
set_option maxRecDepth 100000 in
theorem wr_Mover_timesForm_171 {d : Nat} {Q : cm_Q} {z : cm_Z} {I : cm_I} (hz : wz z) {z0 : Option cm_V} {a1 : Nat} {x2 : Int} {z3 : Option cm_V} {z4 : Option cm_V} {z5 : Option cm_V} {x6 : Int} {z7 : Option cm_V} {z8 : Option cm_V} {z9 : Option cm_V} {x10 : Int} {z11 : Option cm_V} {z12 : Option cm_V} (p_a1 : 0 < a1) (H : (cm_i (x2 + x6) ∧ (((x2 + x6) ≤ x10 → Q none (I, z)) ∧ (x10 < (x2 + x6) → ((0:Int) ≤ x10 ∧ x10 < z.2.1 a1) ∧ (∀ I3 : cm_I, I3 = iu I a1 x10 (Int.tmod (I a1 x10) 2521) → (cm_i (x10 + 1) ∧ cw d cd_Mover_timesForm Q 171 [z0, some (vR 20 a1), some (vI x2), z3, z4, z5, some (vI x6), z7, z8, z9, some (vI (x10 + 1)), z11, z12] [] (I3, z))))))) : cw d cd_Mover_timesForm Q 171 [z0, some (vR 20 a1), some (vI x2), z3, z4, z5, some (vI x6), z7, z8, z9, some (vI x10), z11, z12] [] (I, z) := by
  refine w_iload rfl rfl ?_
  refine w_iload rfl rfl ?_
  refine w_iload rfl rfl ?_
  have o1 := H.1
  replace H := H.2
  refine w_iadd rfl o1 ?_
  refine w_icmp rfl (And.intro (fun hc => ?_) (fun hc => ?_))
  · replace H := H.1 hc
    exact w_return rfl H
  · replace H := H.2 hc
    refine w_aload rfl rfl ?_
    refine w_iload rfl rfl ?_
    refine w_dup2 rfl rfl ?_
    have o2 := H.1
    replace H := H.2
    refine n_iaload rfl p_a1 rfl o2 ?_
    refine w_iconst rfl ⟨by decide, by decide⟩ ?_
    refine w_irem rfl (by decide) ?_
    refine n_iastore rfl p_a1 rfl o2 (fun I3 eI3 => ?_)
    replace H := H I3 eI3
    have o4 := H.1
    replace H := H.2
    refine w_iinc rfl rfl rfl o4 ?_
    refine w_goto rfl ?_
    exact H
set_option maxHeartbeats 4000000 in
set_option maxRecDepth 100000 in
theorem wr_Mover_timesForm {d : Nat} {Q : cm_Q} {z : cm_Z} {I : cm_I} (hz : wz z) {a1 : Nat} {x2 : Int} {x3 : Int} {x4 : Int} {sh : Nat} (y_53_0 : z.1 53 0 = sh) (p_sh : isSh sh) (H : (cm_i (x3 + 1) ∧ ((0:Int) ≤ (x3 + 1) ∧ (x3 + 1) < 19) ∧ (cm_i (x3 + 2) ∧ ((0:Int) ≤ (x3 + 2) ∧ (x3 + 2) < 19) ∧ (cm_i (3 * x4) ∧ ((0:Int) ≤ (3 * x4) ∧ (3 * x4) < 9) ∧ (cm_i ((3 * x4) + 1) ∧ ((0:Int) ≤ ((3 * x4) + 1) ∧ ((3 * x4) + 1) < 9) ∧ (cm_i ((3 * x4) + 2) ∧ ((0:Int) ≤ ((3 * x4) + 2) ∧ ((3 * x4) + 2) < 9) ∧ (cm_i (x2 + (I (sh + 1) (x3 + 1))) ∧ (cm_i (x2 + (I (sh + 1) (x3 + 2))) ∧ (mU d m_Arr_fill4 [vR 20 a1, vI (x2 + (I (sh + 1) (x3 + 1))), vI (x2 + (I (sh + 1) (x3 + 2))), vI 0] z I fun I13 => (cm_i ((I (sh + 1) (x3 + 1)) - 1) ∧ cw d cd_Mover_timesForm Q 82 [some (vR 4 53), some (vR 20 a1), some (vI x2), some (vI x3), some (vI x4), some (vI (I (sh + 1) (x3 + 1))), some (vI (I (sh + 1) (x3 + 2))), some (vI (I 54 (3 * x4))), some (vI (I 54 ((3 * x4) + 1))), some (vI (I 54 ((3 * x4) + 2))), some (vI ((I (sh + 1) (x3 + 1)) - 1)), none, none] [] (I13, z))))))))))) : cm_call (d + 1) m_Mover_timesForm [vR 4 53, vR 20 a1, vI x2, vI x3, vI x4] (I, z) Q := by
  refine cm_call_in (C := cd_Mover_timesForm) (ls := [some (vR 4 53), some (vR 20 a1), some (vI x2), some (vI x3), some (vI x4), none, none, none, none, none, none, none, none]) rfl rfl (show 0 < 53 by decide) rfl ?_
  refine w_aload rfl rfl ?_
  refine n_getR 0 9 rfl rfl rfl rfl (by decide) y_53_0 ?_
  refine n_getR 2 20 rfl rfl rfl rfl (isSh_pos p_sh) (wz_sh2 hz p_sh) ?_
  refine w_iload rfl rfl ?_
  refine w_iconst rfl ⟨by decide, by decide⟩ ?_
  have o1 := H.1
  replace H := H.2
  refine w_iadd rfl o1 ?_
  have o2 := H.1
  replace H := H.2
  refine n_iaload rfl (Nat.add_pos_right _ (by decide)) (wz_shL1 hz p_sh) o2 ?_
  refine w_istore rfl rfl ?_
  refine w_aload rfl rfl ?_
  refine n_getR 0 9 rfl rfl rfl rfl (by decide) y_53_0 ?_
  refine n_getR 2 20 rfl rfl rfl rfl (isSh_pos p_sh) (wz_sh2 hz p_sh) ?_
  refine w_iload rfl rfl ?_
  refine w_iconst rfl ⟨by decide, by decide⟩ ?_
  have o3 := H.1
  replace H := H.2
  refine w_iadd rfl o3 ?_
  have o4 := H.1
  replace H := H.2
  refine n_iaload rfl (Nat.add_pos_right _ (by decide)) (wz_shL1 hz p_sh) o4 ?_
  refine w_istore rfl rfl ?_
  refine w_aload rfl rfl ?_
  refine n_getR 2 20 rfl rfl rfl rfl (by decide) (wz_R hz 53 2 54 rfl (by decide)) ?_
  refine w_iconst rfl ⟨by decide, by decide⟩ ?_
  refine w_iload rfl rfl ?_
  have o5 := H.1
  replace H := H.2
  refine w_imul rfl o5 ?_
  have o6 := H.1
  replace H := H.2
  refine n_iaload rfl (by decide) (wz_L hz 54 9 rfl (by decide)) o6 ?_
  refine w_istore rfl rfl ?_
  refine w_aload rfl rfl ?_
  refine n_getR 2 20 rfl rfl rfl rfl (by decide) (wz_R hz 53 2 54 rfl (by decide)) ?_
  refine w_iconst rfl ⟨by decide, by decide⟩ ?_
  refine w_iload rfl rfl ?_
  refine w_imul rfl o5 ?_
  refine w_iconst rfl ⟨by decide, by decide⟩ ?_
  have o7 := H.1
  replace H := H.2
  refine w_iadd rfl o7 ?_
  have o8 := H.1
  replace H := H.2
  refine n_iaload rfl (by decide) (wz_L hz 54 9 rfl (by decide)) o8 ?_
  refine w_istore rfl rfl ?_
  refine w_aload rfl rfl ?_
  refine n_getR 2 20 rfl rfl rfl rfl (by decide) (wz_R hz 53 2 54 rfl (by decide)) ?_
  refine w_iconst rfl ⟨by decide, by decide⟩ ?_
  refine w_iload rfl rfl ?_
  refine w_imul rfl o5 ?_
  refine w_iconst rfl ⟨by decide, by decide⟩ ?_
  have o9 := H.1
  replace H := H.2
  refine w_iadd rfl o9 ?_
  have o10 := H.1
  replace H := H.2
  refine n_iaload rfl (by decide) (wz_L hz 54 9 rfl (by decide)) o10 ?_
  refine w_istore rfl rfl ?_
  refine w_aload rfl rfl ?_
  refine w_iload rfl rfl ?_
  refine w_iload rfl rfl ?_
  have o11 := H.1
  replace H := H.2
  refine w_iadd rfl o11 ?_
  refine w_iload rfl rfl ?_
  refine w_iload rfl rfl ?_
  have o12 := H.1
  replace H := H.2
  refine w_iadd rfl o12 ?_
  refine w_iconst rfl ⟨by decide, by decide⟩ ?_
  refine m_callU rfl (fun _ => rfl) rfl (mU_mono H fun I13 H => ?_)
  refine w_iload rfl rfl ?_
  refine w_iconst rfl ⟨by decide, by decide⟩ ?_
  have o14 := H.1
  replace H := H.2
  refine w_isub rfl o14 ?_
  refine w_istore rfl rfl ?_
  exact H
set_option maxHeartbeats 4000000 in
set_option maxRecDepth 100000 in
theorem wr_Reader_open {d : Nat} {Q : cm_Q} {z : cm_Z} {I : cm_I} (hz : wz z) {x1 : Int}  (H : (∀ I1 : cm_I, I1 = iu I 49 2 x1 → (∀ I2 : cm_I, I2 = iu I1 49 3 0 → (∀ I3 : cm_I, I3 = iu I2 49 8 0 → (mU d m_Reader_advance [vR 7 49] z I3 fun I4 => Q none (I4, z)))))) : cm_call (d + 1) m_Reader_open [vR 7 49, vI x1] (I, z) Q := by
  refine cm_call_in (C := cd_Reader_open) (ls := [some (vR 7 49), some (vI x1)]) rfl rfl (show 0 < 49 by decide) rfl ?_
  refine w_aload rfl rfl ?_
  refine w_iload rfl rfl ?_
  refine m_putI 2 rfl rfl rfl (by decide) (fun I1 eI1 => ?_)
  replace H := H I1 eI1
  refine w_aload rfl rfl ?_
  refine w_iconst rfl ⟨by decide, by decide⟩ ?_
  refine m_putI 3 rfl rfl rfl (by decide) (fun I2 eI2 => ?_)
  replace H := H I2 eI2
  refine w_aload rfl rfl ?_
  refine w_iconst rfl ⟨by decide, by decide⟩ ?_
  refine m_putI 8 rfl rfl rfl (by decide) (fun I3 eI3 => ?_)
  replace H := H I3 eI3
  refine w_aload rfl rfl ?_
  refine m_callU rfl (fun _ => rfl) rfl (mU_mono H fun I4 H => ?_)
  exact w_return rfl H
set_option maxHeartbeats 4000000 in
set_option maxRecDepth 100000 in
theorem wr_Reader_advance_0 {d : Nat} {Q : cm_Q} {z : cm_Z} {I : cm_I} (hz : wz z)   (H : (((I 49 2) ≤ (I 49 3) → cw d cd_Reader_advance Q 52 [some (vR 7 49)] [] (I, z)) ∧ ((I 49 3) < (I 49 2) → ((0:Int) ≤ (I 49 3) ∧ (I 49 3) < 400) ∧ (((I 2 (I 49 3)) = 32 → (cm_i ((I 49 3) + 1) ∧ (∀ I3 : cm_I, I3 = iu I 49 3 ((I 49 3) + 1) → cw d cd_Reader_advance Q 0 [some (vR 7 49)] [] (I3, z)))) ∧ (¬ (I 2 (I 49 3)) = 32 → ((¬ (I 2 (I 49 3)) = 10 → cw d cd_Reader_advance Q 52 [some (vR 7 49)] [] (I, z)) ∧ ((I 2 (I 49 3)) = 10 → (cm_i ((I 49 3) + 1) ∧ (∀ I5 : cm_I, I5 = iu I 49 3 ((I 49 3) + 1) → cw d cd_Reader_advance Q 0 [some (vR 7 49)] [] (I5, z)))))))))) : cw d cd_Reader_advance Q 0 [some (vR 7 49)] [] (I, z) := by
  refine w_aload rfl rfl ?_
  refine m_getI 3 rfl rfl rfl (by decide) ?_
  refine w_aload rfl rfl ?_
  refine m_getI 2 rfl rfl rfl (by decide) ?_
  refine w_icmp rfl (And.intro (fun hc => ?_) (fun hc => ?_))
  · replace H := H.1 hc
    exact H
  · replace H := H.2 hc
    refine w_aload rfl rfl ?_
    refine n_getR 0 21 rfl rfl rfl rfl (by decide) (wz_R hz 49 0 2 rfl (by decide)) ?_
    refine w_aload rfl rfl ?_
    refine m_getI 3 rfl rfl rfl (by decide) ?_
    have o1 := H.1
    replace H := H.2
    refine n_baload rfl rfl (by decide) (wz_L hz 2 400 rfl (by decide)) o1 ?_
    refine w_iconst rfl ⟨by decide, by decide⟩ ?_
    refine w_icmp rfl (And.intro (fun hc => ?_) (fun hc => ?_))
    · replace H := H.1 hc
      refine w_aload rfl rfl ?_
      refine w_dup rfl rfl ?_
      refine m_getI 3 rfl rfl rfl (by decide) ?_
      refine w_iconst rfl ⟨by decide, by decide⟩ ?_
      have o2 := H.1
      replace H := H.2
      refine w_iadd rfl o2 ?_
      refine m_putI 3 rfl rfl rfl (by decide) (fun I3 eI3 => ?_)
      replace H := H I3 eI3
      refine w_goto rfl ?_
      exact H
    · replace H := H.2 hc
      refine w_aload rfl rfl ?_
      refine n_getR 0 21 rfl rfl rfl rfl (by decide) (wz_R hz 49 0 2 rfl (by decide)) ?_
      refine w_aload rfl rfl ?_
      refine m_getI 3 rfl rfl rfl (by decide) ?_
      refine n_baload rfl rfl (by decide) (wz_L hz 2 400 rfl (by decide)) o1 ?_
      refine w_iconst rfl ⟨by decide, by decide⟩ ?_
      refine w_icmp rfl (And.intro (fun hc => ?_) (fun hc => ?_))
      · replace H := H.1 hc
        exact H
      · replace H := H.2 hc
        refine w_aload rfl rfl ?_
        refine w_dup rfl rfl ?_
        refine m_getI 3 rfl rfl rfl (by decide) ?_
        refine w_iconst rfl ⟨by decide, by decide⟩ ?_
        have o4 := H.1
        replace H := H.2
        refine w_iadd rfl o4 ?_
        refine m_putI 3 rfl rfl rfl (by decide) (fun I5 eI5 => ?_)
        replace H := H I5 eI5
        refine w_goto rfl ?_
        exact H
set_option maxHeartbeats 4000000 in
set_option maxRecDepth 100000 in
theorem wr_Reader_advance_52 {d : Nat} {Q : cm_Q} {z : cm_Z} {I : cm_I} (hz : wz z)   (H : (∀ I1 : cm_I, I1 = iu I 49 4 (I 49 3) → (((I1 49 3) < (I1 49 2) → ((0:Int) ≤ (I1 49 3) ∧ (I1 49 3) < 400) ∧ (mI d m_Reader_isDigit [vI (I1 2 (I1 49 3))] z I1 fun v4 I3 => ((v4 = 0 → ((0:Int) ≤ (I3 49 3) ∧ (I3 49 3) < 400) ∧ (mI d m_Reader_isSign [vI (I3 2 (I3 49 3))] z I3 fun v7 I6 => ((v7 = 0 → (∀ I8 : cm_I, I8 = iu I6 49 5 1 → (cm_i ((I8 49 3) + 1) ∧ (∀ I10 : cm_I, I10 = iu I8 49 3 ((I8 49 3) + 1) → Q none (I10, z))))) ∧ (¬ v7 = 0 → ((0:Int) ≤ (I6 49 3) ∧ (I6 49 3) < 400) ∧ (∀ I12 : cm_I, I12 = iu I6 49 5 (I6 2 (I6 49 3)) → (cm_i ((I12 49 3) + 1) ∧ (∀ I14 : cm_I, I14 = iu I12 49 3 ((I12 49 3) + 1) → Q none (I14, z)))))))) ∧ (¬ v4 = 0 → (mU d m_Reader_takeDigits [vR 7 49] z I3 fun I15 => Q none (I15, z)))))) ∧ ((I1 49 2) ≤ (I1 49 3) → (∀ I16 : cm_I, I16 = iu I1 49 5 0 → Q none (I16, z)))))) : cw d cd_Reader_advance Q 52 [some (vR 7 49)] [] (I, z) := by
  refine w_aload rfl rfl ?_
  refine w_aload rfl rfl ?_
  refine m_getI 3 rfl rfl rfl (by decide) ?_
  refine m_putI 4 rfl rfl rfl (by decide) (fun I1 eI1 => ?_)
  replace H := H I1 eI1
  refine w_aload rfl rfl ?_
  refine m_getI 3 rfl rfl rfl (by decide) ?_
  refine w_aload rfl rfl ?_
  refine m_getI 2 rfl rfl rfl (by decide) ?_
  refine w_icmp rfl (And.intro (fun hc => ?_) (fun hc => ?_))
  · replace H := H.1 hc
    refine w_aload rfl rfl ?_
    refine n_getR 0 21 rfl rfl rfl rfl (by decide) (wz_R hz 49 0 2 rfl (by decide)) ?_
    refine w_aload rfl rfl ?_
    refine m_getI 3 rfl rfl rfl (by decide) ?_
    have o2 := H.1
    replace H := H.2
    refine n_baload rfl rfl (by decide) (wz_L hz 2 400 rfl (by decide)) o2 ?_
    refine m_callI rfl (fun _ => rfl) rfl (mI_mono H fun v4 I3 H => ?_)
    refine w_if rfl (And.intro (fun hc => ?_) (fun hc => ?_))
    · replace H := H.1 hc
      refine w_aload rfl rfl ?_
      refine w_aload rfl rfl ?_
      refine n_getR 0 21 rfl rfl rfl rfl (by decide) (wz_R hz 49 0 2 rfl (by decide)) ?_
      refine w_aload rfl rfl ?_
      refine m_getI 3 rfl rfl rfl (by decide) ?_
      have o5 := H.1
      replace H := H.2
      refine n_baload rfl rfl (by decide) (wz_L hz 2 400 rfl (by decide)) o5 ?_
      refine m_callI rfl (fun _ => rfl) rfl (mI_mono H fun v7 I6 H => ?_)
      refine w_if rfl (And.intro (fun hc => ?_) (fun hc => ?_))
      · replace H := H.1 hc
        refine w_iconst rfl ⟨by decide, by decide⟩ ?_
        refine m_putI 5 rfl rfl rfl (by decide) (fun I8 eI8 => ?_)
        replace H := H I8 eI8
        refine w_aload rfl rfl ?_
        refine w_dup rfl rfl ?_
        refine m_getI 3 rfl rfl rfl (by decide) ?_
        refine w_iconst rfl ⟨by decide, by decide⟩ ?_
        have o9 := H.1
        replace H := H.2
        refine w_iadd rfl o9 ?_
        refine m_putI 3 rfl rfl rfl (by decide) (fun I10 eI10 => ?_)
        replace H := H I10 eI10
        exact w_return rfl H
      · replace H := H.2 hc
        refine w_aload rfl rfl ?_
        refine n_getR 0 21 rfl rfl rfl rfl (by decide) (wz_R hz 49 0 2 rfl (by decide)) ?_
        refine w_aload rfl rfl ?_
        refine m_getI 3 rfl rfl rfl (by decide) ?_
        have o11 := H.1
        replace H := H.2
        refine n_baload rfl rfl (by decide) (wz_L hz 2 400 rfl (by decide)) o11 ?_
        refine w_goto rfl ?_
        refine m_putI 5 rfl rfl rfl (by decide) (fun I12 eI12 => ?_)
        replace H := H I12 eI12
        refine w_aload rfl rfl ?_
        refine w_dup rfl rfl ?_
        refine m_getI 3 rfl rfl rfl (by decide) ?_
        refine w_iconst rfl ⟨by decide, by decide⟩ ?_
        have o13 := H.1
        replace H := H.2
        refine w_iadd rfl o13 ?_
        refine m_putI 3 rfl rfl rfl (by decide) (fun I14 eI14 => ?_)
        replace H := H I14 eI14
        exact w_return rfl H
    · replace H := H.2 hc
      refine w_aload rfl rfl ?_
      refine m_callU rfl (fun _ => rfl) rfl (mU_mono H fun I15 H => ?_)
      refine w_goto rfl ?_
      exact w_return rfl H
  · replace H := H.2 hc
    refine w_aload rfl rfl ?_
    refine w_iconst rfl ⟨by decide, by decide⟩ ?_
    refine m_putI 5 rfl rfl rfl (by decide) (fun I16 eI16 => ?_)
    replace H := H I16 eI16
    refine w_goto rfl ?_
    exact w_return rfl H
set_option maxHeartbeats 4000000 in
set_option maxRecDepth 100000 in
theorem wr_Reader_advance {d : Nat} {Q : cm_Q} {z : cm_Z} {I : cm_I} (hz : wz z)   (H : cw d cd_Reader_advance Q 0 [some (vR 7 49)] [] (I, z)) : cm_call (d + 1) m_Reader_advance [vR 7 49] (I, z) Q := by
  refine cm_call_in (C := cd_Reader_advance) (ls := [some (vR 7 49)]) rfl rfl (show 0 < 49 by decide) rfl ?_
  exact H
set_option maxHeartbeats 4000000 in
set_option maxRecDepth 100000 in
theorem wr_Reader_refuse {d : Nat} {Q : cm_Q} {z : cm_Z} {I : cm_I} (hz : wz z) {x1 : Int}  (H : ((¬ (I 49 8) = 0 → Q (some (vI 0)) (I, z)) ∧ ((I 49 8) = 0 → (cm_i (8 * (I 49 4)) ∧ (cm_i ((8 * (I 49 4)) + x1) ∧ (∀ I3 : cm_I, I3 = iu I 49 8 ((8 * (I 49 4)) + x1) → Q (some (vI 0)) (I3, z))))))) : cm_call (d + 1) m_Reader_refuse [vR 7 49, vI x1] (I, z) Q := by
  refine cm_call_in (C := cd_Reader_refuse) (ls := [some (vR 7 49), some (vI x1)]) rfl rfl (show 0 < 49 by decide) rfl ?_
  refine w_aload rfl rfl ?_
  refine m_getI 8 rfl rfl rfl (by decide) ?_
  refine w_if rfl (And.intro (fun hc => ?_) (fun hc => ?_))
  · replace H := H.1 hc
    refine w_iconst rfl ⟨by decide, by decide⟩ ?_
    exact w_zreturn rfl (by decide) H
  · replace H := H.2 hc
    refine w_aload rfl rfl ?_
    refine w_iconst rfl ⟨by decide, by decide⟩ ?_
    refine w_aload rfl rfl ?_
    refine m_getI 4 rfl rfl rfl (by decide) ?_
    have o1 := H.1
    replace H := H.2
    refine w_imul rfl o1 ?_
    refine w_iload rfl rfl ?_
    have o2 := H.1
    replace H := H.2
    refine w_iadd rfl o2 ?_
    refine m_putI 8 rfl rfl rfl (by decide) (fun I3 eI3 => ?_)
    replace H := H I3 eI3
    refine w_iconst rfl ⟨by decide, by decide⟩ ?_
    exact w_zreturn rfl (by decide) H
set_option maxHeartbeats 4000000 in
set_option maxRecDepth 100000 in
theorem wr_Reader_takeDigits_15 {d : Nat} {Q : cm_Q} {z : cm_Z} {I : cm_I} (hz : wz z)   (H : (((I 49 2) ≤ (I 49 3) → Q none (I, z)) ∧ ((I 49 3) < (I 49 2) → ((0:Int) ≤ (I 49 3) ∧ (I 49 3) < 400) ∧ (mI d m_Reader_isDigit [vI (I 2 (I 49 3))] z I fun v3 I2 => ((v3 = 0 → Q none (I2, z)) ∧ (¬ v3 = 0 → ((4 ≤ (I2 49 7) → cw d cd_Reader_takeDigits Q 73 [some (vR 7 49)] [] (I2, z)) ∧ ((I2 49 7) < 4 → (cm_i (10 * (I2 49 6)) ∧ ((0:Int) ≤ (I2 49 3) ∧ (I2 49 3) < 400) ∧ (cm_i ((10 * (I2 49 6)) + (I2 2 (I2 49 3))) ∧ (cm_i (((10 * (I2 49 6)) + (I2 2 (I2 49 3))) - 48) ∧ (∀ I8 : cm_I, I8 = iu I2 49 6 (((10 * (I2 49 6)) + (I2 2 (I2 49 3))) - 48) → cw d cd_Reader_takeDigits Q 73 [some (vR 7 49)] [] (I8, z))))))))))))) : cw d cd_Reader_takeDigits Q 15 [some (vR 7 49)] [] (I, z) := by
  refine w_aload rfl rfl ?_
  refine m_getI 3 rfl rfl rfl (by decide) ?_
  refine w_aload rfl rfl ?_
  refine m_getI 2 rfl rfl rfl (by decide) ?_
  refine w_icmp rfl (And.intro (fun hc => ?_) (fun hc => ?_))
  · replace H := H.1 hc
    exact w_return rfl H
  · replace H := H.2 hc
    refine w_aload rfl rfl ?_
    refine n_getR 0 21 rfl rfl rfl rfl (by decide) (wz_R hz 49 0 2 rfl (by decide)) ?_
    refine w_aload rfl rfl ?_
    refine m_getI 3 rfl rfl rfl (by decide) ?_
    have o1 := H.1
    replace H := H.2
    refine n_baload rfl rfl (by decide) (wz_L hz 2 400 rfl (by decide)) o1 ?_
    refine m_callI rfl (fun _ => rfl) rfl (mI_mono H fun v3 I2 H => ?_)
    refine w_if rfl (And.intro (fun hc => ?_) (fun hc => ?_))
    · replace H := H.1 hc
      exact w_return rfl H
    · replace H := H.2 hc
      refine w_aload rfl rfl ?_
      refine m_getI 7 rfl rfl rfl (by decide) ?_
      refine w_iconst rfl ⟨by decide, by decide⟩ ?_
      refine w_icmp rfl (And.intro (fun hc => ?_) (fun hc => ?_))
      · replace H := H.1 hc
        exact H
      · replace H := H.2 hc
        refine w_aload rfl rfl ?_
        refine w_iconst rfl ⟨by decide, by decide⟩ ?_
        refine w_aload rfl rfl ?_
        refine m_getI 6 rfl rfl rfl (by decide) ?_
        have o4 := H.1
        replace H := H.2
        refine w_imul rfl o4 ?_
        refine w_aload rfl rfl ?_
        refine n_getR 0 21 rfl rfl rfl rfl (by decide) (wz_R hz 49 0 2 rfl (by decide)) ?_
        refine w_aload rfl rfl ?_
        refine m_getI 3 rfl rfl rfl (by decide) ?_
        have o5 := H.1
        replace H := H.2
        refine n_baload rfl rfl (by decide) (wz_L hz 2 400 rfl (by decide)) o5 ?_
        have o6 := H.1
        replace H := H.2
        refine w_iadd rfl o6 ?_
        refine w_iconst rfl ⟨by decide, by decide⟩ ?_
        have o7 := H.1
        replace H := H.2
        refine w_isub rfl o7 ?_
        refine m_putI 6 rfl rfl rfl (by decide) (fun I8 eI8 => ?_)
        replace H := H I8 eI8
        exact H
set_option maxHeartbeats 4000000 in
set_option maxRecDepth 100000 in
theorem wr_Reader_takeDigits_73 {d : Nat} {Q : cm_Q} {z : cm_Z} {I : cm_I} (hz : wz z)   (H : (cm_i ((I 49 7) + 1) ∧ (∀ I2 : cm_I, I2 = iu I 49 7 ((I 49 7) + 1) → (cm_i ((I2 49 3) + 1) ∧ (∀ I4 : cm_I, I4 = iu I2 49 3 ((I2 49 3) + 1) → cw d cd_Reader_takeDigits Q 15 [some (vR 7 49)] [] (I4, z)))))) : cw d cd_Reader_takeDigits Q 73 [some (vR 7 49)] [] (I, z) := by
  refine w_aload rfl rfl ?_
  refine w_dup rfl rfl ?_
  refine m_getI 7 rfl rfl rfl (by decide) ?_
  refine w_iconst rfl ⟨by decide, by decide⟩ ?_
  have o1 := H.1
  replace H := H.2
  refine w_iadd rfl o1 ?_
  refine m_putI 7 rfl rfl rfl (by decide) (fun I2 eI2 => ?_)
  replace H := H I2 eI2
  refine w_aload rfl rfl ?_
  refine w_dup rfl rfl ?_
  refine m_getI 3 rfl rfl rfl (by decide) ?_
  refine w_iconst rfl ⟨by decide, by decide⟩ ?_
  have o3 := H.1
  replace H := H.2
  refine w_iadd rfl o3 ?_
  refine m_putI 3 rfl rfl rfl (by decide) (fun I4 eI4 => ?_)
  replace H := H I4 eI4
  refine w_goto rfl ?_
  exact H
set_option maxHeartbeats 4000000 in
set_option maxRecDepth 100000 in
theorem wr_Reader_takeDigits {d : Nat} {Q : cm_Q} {z : cm_Z} {I : cm_I} (hz : wz z)   (H : (∀ I1 : cm_I, I1 = iu I 49 5 2 → (∀ I2 : cm_I, I2 = iu I1 49 6 0 → (∀ I3 : cm_I, I3 = iu I2 49 7 0 → cw d cd_Reader_takeDigits Q 15 [some (vR 7 49)] [] (I3, z))))) : cm_call (d + 1) m_Reader_takeDigits [vR 7 49] (I, z) Q := by
  refine cm_call_in (C := cd_Reader_takeDigits) (ls := [some (vR 7 49)]) rfl rfl (show 0 < 49 by decide) rfl ?_
  refine w_aload rfl rfl ?_
  refine w_iconst rfl ⟨by decide, by decide⟩ ?_
  refine m_putI 5 rfl rfl rfl (by decide) (fun I1 eI1 => ?_)
  replace H := H I1 eI1
  refine w_aload rfl rfl ?_
  refine w_iconst rfl ⟨by decide, by decide⟩ ?_
  refine m_putI 6 rfl rfl rfl (by decide) (fun I2 eI2 => ?_)
  replace H := H I2 eI2
  refine w_aload rfl rfl ?_
  refine w_iconst rfl ⟨by decide, by decide⟩ ?_
  refine m_putI 7 rfl rfl rfl (by decide) (fun I3 eI3 => ?_)
  replace H := H I3 eI3
  exact H
set_option maxHeartbeats 4000000 in
set_option maxRecDepth 100000 in
theorem wr_Reader_isDigit {d : Nat} {Q : cm_Q} {z : cm_Z} {I : cm_I} (hz : wz z) {x0 : Int}  (H : ((x0 < 48 → Q (some (vI 0)) (I, z)) ∧ (48 ≤ x0 → ((57 < x0 → Q (some (vI 0)) (I, z)) ∧ (x0 ≤ 57 → Q (some (vI 1)) (I, z)))))) : cm_call (d + 1) m_Reader_isDigit [vI x0] (I, z) Q := by
  refine cm_call_in (C := cd_Reader_isDigit) (ls := [some (vI x0)]) rfl rfl trivial rfl ?_
  refine w_iload rfl rfl ?_
  refine w_iconst rfl ⟨by decide, by decide⟩ ?_
  refine w_icmp rfl (And.intro (fun hc => ?_) (fun hc => ?_))
  · replace H := H.1 hc
    refine w_iconst rfl ⟨by decide, by decide⟩ ?_
    exact w_zreturn rfl (by decide) H
  · replace H := H.2 hc
    refine w_iload rfl rfl ?_
    refine w_iconst rfl ⟨by decide, by decide⟩ ?_
    refine w_icmp rfl (And.intro (fun hc => ?_) (fun hc => ?_))
    · replace H := H.1 hc
      refine w_iconst rfl ⟨by decide, by decide⟩ ?_
      exact w_zreturn rfl (by decide) H
    · replace H := H.2 hc
      refine w_iconst rfl ⟨by decide, by decide⟩ ?_
      refine w_goto rfl ?_
      exact w_zreturn rfl (by decide) H
set_option maxHeartbeats 4000000 in
set_option maxRecDepth 100000 in
theorem wr_Reader_isSign {d : Nat} {Q : cm_Q} {z : cm_Z} {I : cm_I} (hz : wz z) {x0 : Int}  (H : ((x0 = 40 → Q (some (vI 1)) (I, z)) ∧ (¬ x0 = 40 → ((x0 = 41 → Q (some (vI 1)) (I, z)) ∧ (¬ x0 = 41 → ((x0 = 42 → Q (some (vI 1)) (I, z)) ∧ (¬ x0 = 42 → ((x0 = 43 → Q (some (vI 1)) (I, z)) ∧ (¬ x0 = 43 → ((x0 = 45 → Q (some (vI 1)) (I, z)) ∧ (¬ x0 = 45 → ((x0 = 47 → Q (some (vI 1)) (I, z)) ∧ (¬ x0 = 47 → ((x0 = 59 → Q (some (vI 1)) (I, z)) ∧ (¬ x0 = 59 → ((x0 = 94 → Q (some (vI 1)) (I, z)) ∧ (¬ x0 = 94 → ((x0 = 120 → Q (some (vI 1)) (I, z)) ∧ (¬ x0 = 120 → ((x0 = 121 → Q (some (vI 1)) (I, z)) ∧ (¬ x0 = 121 → ((x0 = 122 → Q (some (vI 1)) (I, z)) ∧ (¬ x0 = 122 → Q (some (vI 0)) (I, z)))))))))))))))))))))))) : cm_call (d + 1) m_Reader_isSign [vI x0] (I, z) Q := by
  refine cm_call_in (C := cd_Reader_isSign) (ls := [some (vI x0)]) rfl rfl trivial rfl ?_
  refine w_iload rfl rfl ?_
  refine w_switch rfl ?_
  refine And.intro (fun hc => ?_) (fun hc => ?_)
  · replace H := H.1 hc
    show cw _ _ _ 100 _ _ _
    refine w_iconst rfl ⟨by decide, by decide⟩ ?_
    exact w_zreturn rfl (by decide) H
  · replace H := H.2 hc
    refine And.intro (fun hc => ?_) (fun hc => ?_)
    · replace H := H.1 hc
      show cw _ _ _ 100 _ _ _
      refine w_iconst rfl ⟨by decide, by decide⟩ ?_
      exact w_zreturn rfl (by decide) H
    · replace H := H.2 hc
      refine And.intro (fun hc => ?_) (fun hc => ?_)
      · replace H := H.1 hc
        show cw _ _ _ 100 _ _ _
        refine w_iconst rfl ⟨by decide, by decide⟩ ?_
        exact w_zreturn rfl (by decide) H
      · replace H := H.2 hc
        refine And.intro (fun hc => ?_) (fun hc => ?_)
        · replace H := H.1 hc
          show cw _ _ _ 100 _ _ _
          refine w_iconst rfl ⟨by decide, by decide⟩ ?_
          exact w_zreturn rfl (by decide) H
        · replace H := H.2 hc
          refine And.intro (fun hc => ?_) (fun hc => ?_)
          · replace H := H.1 hc
            show cw _ _ _ 100 _ _ _
            refine w_iconst rfl ⟨by decide, by decide⟩ ?_
            exact w_zreturn rfl (by decide) H
          · replace H := H.2 hc
            refine And.intro (fun hc => ?_) (fun hc => ?_)
            · replace H := H.1 hc
              show cw _ _ _ 100 _ _ _
              refine w_iconst rfl ⟨by decide, by decide⟩ ?_
              exact w_zreturn rfl (by decide) H
            · replace H := H.2 hc
              refine And.intro (fun hc => ?_) (fun hc => ?_)
              · replace H := H.1 hc
                show cw _ _ _ 100 _ _ _
                refine w_iconst rfl ⟨by decide, by decide⟩ ?_
                exact w_zreturn rfl (by decide) H
              · replace H := H.2 hc
                refine And.intro (fun hc => ?_) (fun hc => ?_)
                · replace H := H.1 hc
                  show cw _ _ _ 100 _ _ _
                  refine w_iconst rfl ⟨by decide, by decide⟩ ?_
                  exact w_zreturn rfl (by decide) H
                · replace H := H.2 hc
                  refine And.intro (fun hc => ?_) (fun hc => ?_)
                  · replace H := H.1 hc
                    show cw _ _ _ 100 _ _ _
                    refine w_iconst rfl ⟨by decide, by decide⟩ ?_
                    exact w_zreturn rfl (by decide) H
                  · replace H := H.2 hc
                    refine And.intro (fun hc => ?_) (fun hc => ?_)
                    · replace H := H.1 hc
                      show cw _ _ _ 100 _ _ _
                      refine w_iconst rfl ⟨by decide, by decide⟩ ?_
                      exact w_zreturn rfl (by decide) H
                    · replace H := H.2 hc
                      refine And.intro (fun hc => ?_) (fun hc => ?_)
                      · replace H := H.1 hc
                        show cw _ _ _ 100 _ _ _
                        refine w_iconst rfl ⟨by decide, by decide⟩ ?_
                        exact w_zreturn rfl (by decide) H
                      · replace H := H.2 hc
                        show cw _ _ _ 102 _ _ _
                        refine w_iconst rfl ⟨by decide, by decide⟩ ?_
                        exact w_zreturn rfl (by decide) H
set_option maxHeartbeats 4000000 in
set_option maxRecDepth 100000 in
theorem wr_Reader_readTables_7 {d : Nat} {Q : cm_Q} {z : cm_Z} {I : cm_I} (hz : wz z) {a1 : Nat} {x2 : Int} (p_a1 : isMb a1) (H : ((4 ≤ x2 → Q (some (vI 0)) (I, z)) ∧ (x2 < 4 → ((0:Int) ≤ x2 ∧ x2 < 4) ∧ (∀ I2 : cm_I, I2 = iu I 50 x2 (I 49 4) → (mI d m_Reader_readTable [vR 7 49, vR 3 a1, vI x2] z I2 fun v4 I3 => ((¬ v4 = 0 → (cm_i (x2 + 1) ∧ (∀ I6 : cm_I, I6 = iu I3 a1 1 (x2 + 1) → ((¬ (I6 49 5) = 0 → (((I6 49 5) = 59 → ((¬ (x2 + 1) = 4 → (mU d m_Reader_advance [vR 7 49] z I6 fun I7 => cw d cd_Reader_readTables Q 7 [some (vR 7 49), some (vR 3 a1), some (vI (x2 + 1))] [] (I7, z))) ∧ ((x2 + 1) = 4 → (mI d m_Reader_refuse [vR 7 49, vI 2] z I6 fun v9 I8 => ((v9 = 0 ∨ v9 = 1) ∧ Q (some (vI v9)) (I8, z)))))) ∧ (¬ (I6 49 5) = 59 → (mI d m_Reader_refuse [vR 7 49, vI 1] z I6 fun v11 I10 => ((v11 = 0 ∨ v11 = 1) ∧ Q (some (vI v11)) (I10, z)))))) ∧ ((I6 49 5) = 0 → (mI d m_Reader_haveInverses [vR 7 49, vR 3 a1] z I6 fun v13 I12 => ((v13 = 0 ∨ v13 = 1) ∧ Q (some (vI v13)) (I12, z)))))))) ∧ (v4 = 0 → Q (some (vI 0)) (I3, z)))))))) : cw d cd_Reader_readTables Q 7 [some (vR 7 49), some (vR 3 a1), some (vI x2)] [] (I, z) := by
  refine w_iload rfl rfl ?_
  refine w_iconst rfl ⟨by decide, by decide⟩ ?_
  refine w_icmp rfl (And.intro (fun hc => ?_) (fun hc => ?_))
  · replace H := H.1 hc
    refine w_iconst rfl ⟨by decide, by decide⟩ ?_
    exact w_zreturn rfl (by decide) H
  · replace H := H.2 hc
    refine w_aload rfl rfl ?_
    refine n_getR 1 20 rfl rfl rfl rfl (by decide) (wz_R hz 49 1 50 rfl (by decide)) ?_
    refine w_iload rfl rfl ?_
    refine w_aload rfl rfl ?_
    refine m_getI 4 rfl rfl rfl (by decide) ?_
    have o1 := H.1
    replace H := H.2
    refine n_iastore rfl (by decide) (wz_L hz 50 4 rfl (by decide)) o1 (fun I2 eI2 => ?_)
    replace H := H I2 eI2
    refine w_aload rfl rfl ?_
    refine w_aload rfl rfl ?_
    refine w_iload rfl rfl ?_
    refine m_callI rfl (fun _ => rfl) rfl (mI_mono H fun v4 I3 H => ?_)
    refine w_if rfl (And.intro (fun hc => ?_) (fun hc => ?_))
    · replace H := H.1 hc
      refine w_aload rfl rfl ?_
      refine w_iload rfl rfl ?_
      refine w_iconst rfl ⟨by decide, by decide⟩ ?_
      have o5 := H.1
      replace H := H.2
      refine w_iadd rfl o5 ?_
      refine m_putI 1 rfl rfl rfl (isMb_pos p_a1) (fun I6 eI6 => ?_)
      replace H := H I6 eI6
      refine w_aload rfl rfl ?_
      refine m_getI 5 rfl rfl rfl (by decide) ?_
      refine w_if rfl (And.intro (fun hc => ?_) (fun hc => ?_))
      · replace H := H.1 hc
        refine w_aload rfl rfl ?_
        refine m_getI 5 rfl rfl rfl (by decide) ?_
        refine w_iconst rfl ⟨by decide, by decide⟩ ?_
        refine w_icmp rfl (And.intro (fun hc => ?_) (fun hc => ?_))
        · replace H := H.1 hc
          refine w_iload rfl rfl ?_
          refine w_iconst rfl ⟨by decide, by decide⟩ ?_
          refine w_iadd rfl o5 ?_
          refine w_iconst rfl ⟨by decide, by decide⟩ ?_
          refine w_icmp rfl (And.intro (fun hc => ?_) (fun hc => ?_))
          · replace H := H.1 hc
            refine w_aload rfl rfl ?_
            refine m_callU rfl (fun _ => rfl) rfl (mU_mono H fun I7 H => ?_)
            refine w_iinc rfl rfl rfl o5 ?_
            refine w_goto rfl ?_
            exact H
          · replace H := H.2 hc
            refine w_aload rfl rfl ?_
            refine w_iconst rfl ⟨by decide, by decide⟩ ?_
            refine m_callI rfl (fun _ => rfl) rfl (mI_mono H fun v9 I8 H => ?_)
            exact w_zreturn rfl H.1 H.2
        · replace H := H.2 hc
          refine w_aload rfl rfl ?_
          refine w_iconst rfl ⟨by decide, by decide⟩ ?_
          refine m_callI rfl (fun _ => rfl) rfl (mI_mono H fun v11 I10 H => ?_)
          exact w_zreturn rfl H.1 H.2
      · replace H := H.2 hc
        refine w_aload rfl rfl ?_
        refine w_aload rfl rfl ?_
        refine m_callI rfl (fun _ => rfl) rfl (mI_mono H fun v13 I12 H => ?_)
        exact w_zreturn rfl H.1 H.2
    · replace H := H.2 hc
      refine w_iconst rfl ⟨by decide, by decide⟩ ?_
      exact w_zreturn rfl (by decide) H
set_option maxHeartbeats 4000000 in
set_option maxRecDepth 100000 in
theorem wr_Reader_readTables {d : Nat} {Q : cm_Q} {z : cm_Z} {I : cm_I} (hz : wz z) {a1 : Nat} (p_a1 : isMb a1) (H : (∀ I1 : cm_I, I1 = iu I a1 0 0 → cw d cd_Reader_readTables Q 7 [some (vR 7 49), some (vR 3 a1), some (vI 0)] [] (I1, z))) : cm_call (d + 1) m_Reader_readTables [vR 7 49, vR 3 a1] (I, z) Q := by
  refine cm_call_in (C := cd_Reader_readTables) (ls := [some (vR 7 49), some (vR 3 a1), none]) rfl rfl (show 0 < 49 by decide) rfl ?_
  refine w_aload rfl rfl ?_
  refine w_iconst rfl ⟨by decide, by decide⟩ ?_
  refine m_putI 0 rfl rfl rfl (isMb_pos p_a1) (fun I1 eI1 => ?_)
  replace H := H I1 eI1
  refine w_iconst rfl ⟨by decide, by decide⟩ ?_
  refine w_istore rfl rfl ?_
  exact H
set_option maxHeartbeats 4000000 in
set_option maxRecDepth 100000 in
theorem wr_Reader_readTable_14 {d : Nat} {Q : cm_Q} {z : cm_Z} {I : cm_I} (hz : wz z) {a1 : Nat} {x2 : Int} {x3 : Int} (p_a1 : isMb a1) (H : (((I a1 0) ≤ x3 → Q (some (vI 1)) (I, z)) ∧ (x3 < (I a1 0) → (((I 49 5) = 47 → (mU d m_Reader_advance [vR 7 49] z I fun I1 => (mI d m_Reader_readRow [vR 7 49, vR 3 a1, vI x2, vI x3] z I1 fun v3 I2 => ((¬ v3 = 0 → (cm_i (x3 + 1) ∧ cw d cd_Reader_readTable Q 14 [some (vR 7 49), some (vR 3 a1), some (vI x2), some (vI (x3 + 1))] [] (I2, z))) ∧ (v3 = 0 → Q (some (vI 0)) (I2, z)))))) ∧ (¬ (I 49 5) = 47 → (mI d m_Reader_refuse [vR 7 49, vI 1] z I fun v6 I5 => ((v6 = 0 ∨ v6 = 1) ∧ Q (some (vI v6)) (I5, z)))))))) : cw d cd_Reader_readTable Q 14 [some (vR 7 49), some (vR 3 a1), some (vI x2), some (vI x3)] [] (I, z) := by
  refine w_iload rfl rfl ?_
  refine w_aload rfl rfl ?_
  refine m_getI 0 rfl rfl rfl (isMb_pos p_a1) ?_
  refine w_icmp rfl (And.intro (fun hc => ?_) (fun hc => ?_))
  · replace H := H.1 hc
    refine w_iconst rfl ⟨by decide, by decide⟩ ?_
    exact w_zreturn rfl (by decide) H
  · replace H := H.2 hc
    refine w_aload rfl rfl ?_
    refine m_getI 5 rfl rfl rfl (by decide) ?_
    refine w_iconst rfl ⟨by decide, by decide⟩ ?_
    refine w_icmp rfl (And.intro (fun hc => ?_) (fun hc => ?_))
    · replace H := H.1 hc
      refine w_aload rfl rfl ?_
      refine m_callU rfl (fun _ => rfl) rfl (mU_mono H fun I1 H => ?_)
      refine w_aload rfl rfl ?_
      refine w_aload rfl rfl ?_
      refine w_iload rfl rfl ?_
      refine w_iload rfl rfl ?_
      refine m_callI rfl (fun _ => rfl) rfl (mI_mono H fun v3 I2 H => ?_)
      refine w_if rfl (And.intro (fun hc => ?_) (fun hc => ?_))
      · replace H := H.1 hc
        have o4 := H.1
        replace H := H.2
        refine w_iinc rfl rfl rfl o4 ?_
        refine w_goto rfl ?_
        exact H
      · replace H := H.2 hc
        refine w_iconst rfl ⟨by decide, by decide⟩ ?_
        exact w_zreturn rfl (by decide) H
    · replace H := H.2 hc
      refine w_aload rfl rfl ?_
      refine w_iconst rfl ⟨by decide, by decide⟩ ?_
      refine m_callI rfl (fun _ => rfl) rfl (mI_mono H fun v6 I5 H => ?_)
      exact w_zreturn rfl H.1 H.2
set_option maxHeartbeats 4000000 in
set_option maxRecDepth 100000 in
theorem wr_Reader_readTable {d : Nat} {Q : cm_Q} {z : cm_Z} {I : cm_I} (hz : wz z) {a1 : Nat} {x2 : Int}  (H : (mI d m_Reader_readRow [vR 7 49, vR 3 a1, vI x2, vI 0] z I fun v2 I1 => ((¬ v2 = 0 → cw d cd_Reader_readTable Q 14 [some (vR 7 49), some (vR 3 a1), some (vI x2), some (vI 1)] [] (I1, z)) ∧ (v2 = 0 → Q (some (vI 0)) (I1, z))))) : cm_call (d + 1) m_Reader_readTable [vR 7 49, vR 3 a1, vI x2] (I, z) Q := by
  refine cm_call_in (C := cd_Reader_readTable) (ls := [some (vR 7 49), some (vR 3 a1), some (vI x2), none]) rfl rfl (show 0 < 49 by decide) rfl ?_
  refine w_aload rfl rfl ?_
  refine w_aload rfl rfl ?_
  refine w_iload rfl rfl ?_
  refine w_iconst rfl ⟨by decide, by decide⟩ ?_
  refine m_callI rfl (fun _ => rfl) rfl (mI_mono H fun v2 I1 H => ?_)
  refine w_if rfl (And.intro (fun hc => ?_) (fun hc => ?_))
  · replace H := H.1 hc
    refine w_iconst rfl ⟨by decide, by decide⟩ ?_
    refine w_istore rfl rfl ?_
    exact H
  · replace H := H.2 hc
    refine w_iconst rfl ⟨by decide, by decide⟩ ?_
    exact w_zreturn rfl (by decide) H
set_option maxHeartbeats 4000000 in
set_option maxRecDepth 100000 in
theorem wr_Reader_readRow_20 {d : Nat} {Q : cm_Q} {z : cm_Z} {I : cm_I} (hz : wz z) {a1 : Nat} {x2 : Int} {x3 : Int} {x4 : Int} {x5 : Int} {z6 : Option cm_V} {z7 : Option cm_V} (p_a1 : isMb a1) (H : ((x4 ≤ x5 → (∀ I1 : cm_I, I1 = iu I a1 0 x4 → Q (some (vI 1)) (I1, z))) ∧ (x5 < x4 → ((¬ (I a1 0) = 0 → cw d cd_Reader_readRow Q 64 [some (vR 7 49), some (vR 3 a1), some (vI x2), some (vI x3), some (vI x4), some (vI x5), z6, z7] [] (I, z)) ∧ ((I a1 0) = 0 → ((¬ x5 = 2 → cw d cd_Reader_readRow Q 64 [some (vR 7 49), some (vR 3 a1), some (vI x2), some (vI x3), some (vI x4), some (vI x5), z6, z7] [] (I, z)) ∧ (x5 = 2 → (((I 49 5) = 2 → cw d cd_Reader_readRow Q 64 [some (vR 7 49), some (vR 3 a1), some (vI x2), some (vI x3), some (vI x4), some (vI x5), z6, z7] [] (I, z)) ∧ (¬ (I 49 5) = 2 → (((I 49 5) = 45 → cw d cd_Reader_readRow Q 64 [some (vR 7 49), some (vR 3 a1), some (vI x2), some (vI x3), some (vI x4), some (vI x5), z6, z7] [] (I, z)) ∧ (¬ (I 49 5) = 45 → (∀ I2 : cm_I, I2 = iu I a1 0 2 → Q (some (vI 1)) (I2, z))))))))))))) : cw d cd_Reader_readRow Q 20 [some (vR 7 49), some (vR 3 a1), some (vI x2), some (vI x3), some (vI x4), some (vI x5), z6, z7] [] (I, z) := by
  refine w_iload rfl rfl ?_
  refine w_iload rfl rfl ?_
  refine w_icmp rfl (And.intro (fun hc => ?_) (fun hc => ?_))
  · replace H := H.1 hc
    refine w_aload rfl rfl ?_
    refine w_iload rfl rfl ?_
    refine m_putI 0 rfl rfl rfl (isMb_pos p_a1) (fun I1 eI1 => ?_)
    replace H := H I1 eI1
    refine w_iconst rfl ⟨by decide, by decide⟩ ?_
    exact w_zreturn rfl (by decide) H
  · replace H := H.2 hc
    refine w_aload rfl rfl ?_
    refine m_getI 0 rfl rfl rfl (isMb_pos p_a1) ?_
    refine w_if rfl (And.intro (fun hc => ?_) (fun hc => ?_))
    · replace H := H.1 hc
      exact H
    · replace H := H.2 hc
      refine w_iload rfl rfl ?_
      refine w_iconst rfl ⟨by decide, by decide⟩ ?_
      refine w_icmp rfl (And.intro (fun hc => ?_) (fun hc => ?_))
      · replace H := H.1 hc
        exact H
      · replace H := H.2 hc
        refine w_aload rfl rfl ?_
        refine m_getI 5 rfl rfl rfl (by decide) ?_
        refine w_iconst rfl ⟨by decide, by decide⟩ ?_
        refine w_icmp rfl (And.intro (fun hc => ?_) (fun hc => ?_))
        · replace H := H.1 hc
          exact H
        · replace H := H.2 hc
          refine w_aload rfl rfl ?_
          refine m_getI 5 rfl rfl rfl (by decide) ?_
          refine w_iconst rfl ⟨by decide, by decide⟩ ?_
          refine w_icmp rfl (And.intro (fun hc => ?_) (fun hc => ?_))
          · replace H := H.1 hc
            exact H
          · replace H := H.2 hc
            refine w_aload rfl rfl ?_
            refine w_iconst rfl ⟨by decide, by decide⟩ ?_
            refine m_putI 0 rfl rfl rfl (isMb_pos p_a1) (fun I2 eI2 => ?_)
            replace H := H I2 eI2
            refine w_iconst rfl ⟨by decide, by decide⟩ ?_
            exact w_zreturn rfl (by decide) H
set_option maxHeartbeats 4000000 in
set_option maxRecDepth 100000 in
theorem wr_Reader_readRow_64 {d : Nat} {Q : cm_Q} {z : cm_Z} {I : cm_I} (hz : wz z) {a1 : Nat} {x2 : Int} {x3 : Int} {x4 : Int} {x5 : Int} {z6 : Option cm_V} {z7 : Option cm_V}  (H : ((¬ (I 49 5) = 45 → cw d cd_Reader_readRow Q 78 [some (vR 7 49), some (vR 3 a1), some (vI x2), some (vI x3), some (vI x4), some (vI x5), z6, z7] [vI 0] (I, z)) ∧ ((I 49 5) = 45 → cw d cd_Reader_readRow Q 78 [some (vR 7 49), some (vR 3 a1), some (vI x2), some (vI x3), some (vI x4), some (vI x5), z6, z7] [vI 1] (I, z)))) : cw d cd_Reader_readRow Q 64 [some (vR 7 49), some (vR 3 a1), some (vI x2), some (vI x3), some (vI x4), some (vI x5), z6, z7] [] (I, z) := by
  refine w_aload rfl rfl ?_
  refine m_getI 5 rfl rfl rfl (by decide) ?_
  refine w_iconst rfl ⟨by decide, by decide⟩ ?_
  refine w_icmp rfl (And.intro (fun hc => ?_) (fun hc => ?_))
  · replace H := H.1 hc
    refine w_iconst rfl ⟨by decide, by decide⟩ ?_
    exact H
  · replace H := H.2 hc
    refine w_iconst rfl ⟨by decide, by decide⟩ ?_
    refine w_goto rfl ?_
    exact H
set_option maxHeartbeats 4000000 in
set_option maxRecDepth 100000 in
theorem wr_Reader_readRow_78 {d : Nat} {Q : cm_Q} {z : cm_Z} {I : cm_I} (hz : wz z) {a1 : Nat} {x2 : Int} {x3 : Int} {x4 : Int} {x5 : Int} {z6 : Option cm_V} {z7 : Option cm_V} {s0 : Int}  (H : ((s0 = 0 → cw d cd_Reader_readRow Q 89 [some (vR 7 49), some (vR 3 a1), some (vI x2), some (vI x3), some (vI x4), some (vI x5), some (vI s0), z7] [] (I, z)) ∧ (¬ s0 = 0 → (mU d m_Reader_advance [vR 7 49] z I fun I1 => cw d cd_Reader_readRow Q 89 [some (vR 7 49), some (vR 3 a1), some (vI x2), some (vI x3), some (vI x4), some (vI x5), some (vI s0), z7] [] (I1, z))))) : cw d cd_Reader_readRow Q 78 [some (vR 7 49), some (vR 3 a1), some (vI x2), some (vI x3), some (vI x4), some (vI x5), z6, z7] [vI s0] (I, z) := by
  refine w_istore rfl rfl ?_
  refine w_iload rfl rfl ?_
  refine w_if rfl (And.intro (fun hc => ?_) (fun hc => ?_))
  · replace H := H.1 hc
    exact H
  · replace H := H.2 hc
    refine w_aload rfl rfl ?_
    refine m_callU rfl (fun _ => rfl) rfl (mU_mono H fun I1 H => ?_)
    exact H
set_option maxHeartbeats 4000000 in
set_option maxRecDepth 100000 in
theorem wr_Reader_readRow_89 {d : Nat} {Q : cm_Q} {z : cm_Z} {I : cm_I} (hz : wz z) {a1 : Nat} {x2 : Int} {x3 : Int} {x4 : Int} {x5 : Int} {x6 : Int} {z7 : Option cm_V}  (H : ((¬ (I 49 5) = 2 → (mI d m_Reader_refuse [vR 7 49, vI 1] z I fun v2 I1 => ((v2 = 0 ∨ v2 = 1) ∧ Q (some (vI v2)) (I1, z)))) ∧ ((I 49 5) = 2 → (((I 49 7) ≤ 4 → ((x6 = 0 → cw d cd_Reader_readRow Q 128 [some (vR 7 49), some (vR 3 a1), some (vI x2), some (vI x3), some (vI x4), some (vI x5), some (vI x6), z7] [vI (I 49 6)] (I, z)) ∧ (¬ x6 = 0 → (cm_i (-(I 49 6)) ∧ cw d cd_Reader_readRow Q 128 [some (vR 7 49), some (vR 3 a1), some (vI x2), some (vI x3), some (vI x4), some (vI x5), some (vI x6), z7] [vI (-(I 49 6))] (I, z))))) ∧ (4 < (I 49 7) → (mI d m_Reader_refuse [vR 7 49, vI 1] z I fun v5 I4 => ((v5 = 0 ∨ v5 = 1) ∧ Q (some (vI v5)) (I4, z)))))))) : cw d cd_Reader_readRow Q 89 [some (vR 7 49), some (vR 3 a1), some (vI x2), some (vI x3), some (vI x4), some (vI x5), some (vI x6), z7] [] (I, z) := by
  refine w_aload rfl rfl ?_
  refine m_getI 5 rfl rfl rfl (by decide) ?_
  refine w_iconst rfl ⟨by decide, by decide⟩ ?_
  refine w_icmp rfl (And.intro (fun hc => ?_) (fun hc => ?_))
  · replace H := H.1 hc
    refine w_aload rfl rfl ?_
    refine w_iconst rfl ⟨by decide, by decide⟩ ?_
    refine m_callI rfl (fun _ => rfl) rfl (mI_mono H fun v2 I1 H => ?_)
    exact w_zreturn rfl H.1 H.2
  · replace H := H.2 hc
    refine w_aload rfl rfl ?_
    refine m_getI 7 rfl rfl rfl (by decide) ?_
    refine w_iconst rfl ⟨by decide, by decide⟩ ?_
    refine w_icmp rfl (And.intro (fun hc => ?_) (fun hc => ?_))
    · replace H := H.1 hc
      refine w_iload rfl rfl ?_
      refine w_if rfl (And.intro (fun hc => ?_) (fun hc => ?_))
      · replace H := H.1 hc
        refine w_aload rfl rfl ?_
        refine m_getI 6 rfl rfl rfl (by decide) ?_
        exact H
      · replace H := H.2 hc
        refine w_aload rfl rfl ?_
        refine m_getI 6 rfl rfl rfl (by decide) ?_
        have o3 := H.1
        replace H := H.2
        refine w_ineg rfl o3 ?_
        refine w_goto rfl ?_
        exact H
    · replace H := H.2 hc
      refine w_aload rfl rfl ?_
      refine w_iconst rfl ⟨by decide, by decide⟩ ?_
      refine m_callI rfl (fun _ => rfl) rfl (mI_mono H fun v5 I4 H => ?_)
      exact w_zreturn rfl H.1 H.2
set_option maxHeartbeats 4000000 in
set_option maxRecDepth 100000 in
theorem wr_Reader_readRow_128 {d : Nat} {Q : cm_Q} {z : cm_Z} {I : cm_I} (hz : wz z) {a1 : Nat} {x2 : Int} {x3 : Int} {x4 : Int} {x5 : Int} {z6 : Option cm_V} {z7 : Option cm_V} {s0 : Int} (p_a1 : isMb a1) (H : (cm_i (9 * x2) ∧ (cm_i (x4 * x3) ∧ (cm_i ((9 * x2) + (x4 * x3)) ∧ (cm_i (((9 * x2) + (x4 * x3)) + x5) ∧ ((0:Int) ≤ (((9 * x2) + (x4 * x3)) + x5) ∧ (((9 * x2) + (x4 * x3)) + x5) < 36) ∧ (∀ I6 : cm_I, I6 = iu I (a1 + 1) (((9 * x2) + (x4 * x3)) + x5) (s0 % 2521) → (mU d m_Reader_advance [vR 7 49] z I6 fun I7 => (cm_i (x5 + 1) ∧ cw d cd_Reader_readRow Q 20 [some (vR 7 49), some (vR 3 a1), some (vI x2), some (vI x3), some (vI x4), some (vI (x5 + 1)), z6, some (vI s0)] [] (I7, z))))))))) : cw d cd_Reader_readRow Q 128 [some (vR 7 49), some (vR 3 a1), some (vI x2), some (vI x3), some (vI x4), some (vI x5), z6, z7] [vI s0] (I, z) := by
  refine w_istore rfl rfl ?_
  refine w_aload rfl rfl ?_
  refine n_getR 3 20 rfl rfl rfl rfl (isMb_pos p_a1) (wz_mb3 hz p_a1) ?_
  refine w_iconst rfl ⟨by decide, by decide⟩ ?_
  refine w_iload rfl rfl ?_
  have o1 := H.1
  replace H := H.2
  refine w_imul rfl o1 ?_
  refine w_iload rfl rfl ?_
  refine w_iload rfl rfl ?_
  have o2 := H.1
  replace H := H.2
  refine w_imul rfl o2 ?_
  have o3 := H.1
  replace H := H.2
  refine w_iadd rfl o3 ?_
  refine w_iload rfl rfl ?_
  have o4 := H.1
  replace H := H.2
  refine w_iadd rfl o4 ?_
  refine w_iload rfl rfl ?_
  refine w_iconst rfl ⟨by decide, by decide⟩ ?_
  refine w_floorMod rfl rfl (by decide) ?_
  have o5 := H.1
  replace H := H.2
  refine n_iastore rfl (Nat.add_pos_right _ (by decide)) (wz_mbL1 hz p_a1) o5 (fun I6 eI6 => ?_)
  replace H := H I6 eI6
  refine w_aload rfl rfl ?_
  refine m_callU rfl (fun _ => rfl) rfl (mU_mono H fun I7 H => ?_)
  have o8 := H.1
  replace H := H.2
  refine w_iinc rfl rfl rfl o8 ?_
  refine w_goto rfl ?_
  exact H
set_option maxHeartbeats 4000000 in
set_option maxRecDepth 100000 in
theorem wr_Reader_readRow {d : Nat} {Q : cm_Q} {z : cm_Z} {I : cm_I} (hz : wz z) {a1 : Nat} {x2 : Int} {x3 : Int} (p_a1 : isMb a1) (H : ((¬ (I a1 0) = 0 → cw d cd_Reader_readRow Q 20 [some (vR 7 49), some (vR 3 a1), some (vI x2), some (vI x3), some (vI (I a1 0)), some (vI 0), none, none] [] (I, z)) ∧ ((I a1 0) = 0 → cw d cd_Reader_readRow Q 20 [some (vR 7 49), some (vR 3 a1), some (vI x2), some (vI x3), some (vI 3), some (vI 0), none, none] [] (I, z)))) : cm_call (d + 1) m_Reader_readRow [vR 7 49, vR 3 a1, vI x2, vI x3] (I, z) Q := by
  refine cm_call_in (C := cd_Reader_readRow) (ls := [some (vR 7 49), some (vR 3 a1), some (vI x2), some (vI x3), none, none, none, none]) rfl rfl (show 0 < 49 by decide) rfl ?_
  refine w_aload rfl rfl ?_
  refine m_getI 0 rfl rfl rfl (isMb_pos p_a1) ?_
  refine w_if rfl (And.intro (fun hc => ?_) (fun hc => ?_))
  · replace H := H.1 hc
    refine w_aload rfl rfl ?_
    refine m_getI 0 rfl rfl rfl (isMb_pos p_a1) ?_
    refine w_istore rfl rfl ?_
    refine w_iconst rfl ⟨by decide, by decide⟩ ?_
    refine w_istore rfl rfl ?_
    exact H
  · replace H := H.2 hc
    refine w_iconst rfl ⟨by decide, by decide⟩ ?_
    refine w_goto rfl ?_
    refine w_istore rfl rfl ?_
    refine w_iconst rfl ⟨by decide, by decide⟩ ?_
    refine w_istore rfl rfl ?_
    exact H
set_option maxHeartbeats 4000000 in
set_option maxRecDepth 100000 in
theorem wr_Reader_haveInverses_2 {d : Nat} {Q : cm_Q} {z : cm_Z} {I : cm_I} (hz : wz z) {a1 : Nat} {x2 : Int} (p_a1 : isMb a1) (H : (((I a1 1) ≤ x2 → Q (some (vI 1)) (I, z)) ∧ (x2 < (I a1 1) → (cm_i (9 * x2) ∧ (mI d m_Works_determinant [vR 20 (a1 + 1), vI (9 * x2), vI (I a1 0)] z I fun v3 I2 => ((¬ v3 = 0 → (cm_i (x2 + 1) ∧ cw d cd_Reader_haveInverses Q 2 [some (vR 7 49), some (vR 3 a1), some (vI (x2 + 1))] [] (I2, z))) ∧ (v3 = 0 → ((0:Int) ≤ x2 ∧ x2 < 4) ∧ (cm_i (8 * (I2 50 x2)) ∧ (cm_i ((8 * (I2 50 x2)) + 3) ∧ (∀ I8 : cm_I, I8 = iu I2 49 8 ((8 * (I2 50 x2)) + 3) → Q (some (vI 0)) (I8, z))))))))))) : cw d cd_Reader_haveInverses Q 2 [some (vR 7 49), some (vR 3 a1), some (vI x2)] [] (I, z) := by
  refine w_iload rfl rfl ?_
  refine w_aload rfl rfl ?_
  refine m_getI 1 rfl rfl rfl (isMb_pos p_a1) ?_
  refine w_icmp rfl (And.intro (fun hc => ?_) (fun hc => ?_))
  · replace H := H.1 hc
    refine w_iconst rfl ⟨by decide, by decide⟩ ?_
    exact w_zreturn rfl (by decide) H
  · replace H := H.2 hc
    refine w_aload rfl rfl ?_
    refine n_getR 3 20 rfl rfl rfl rfl (isMb_pos p_a1) (wz_mb3 hz p_a1) ?_
    refine w_iconst rfl ⟨by decide, by decide⟩ ?_
    refine w_iload rfl rfl ?_
    have o1 := H.1
    replace H := H.2
    refine w_imul rfl o1 ?_
    refine w_aload rfl rfl ?_
    refine m_getI 0 rfl rfl rfl (isMb_pos p_a1) ?_
    refine m_callI rfl (fun _ => rfl) rfl (mI_mono H fun v3 I2 H => ?_)
    refine w_if rfl (And.intro (fun hc => ?_) (fun hc => ?_))
    · replace H := H.1 hc
      have o4 := H.1
      replace H := H.2
      refine w_iinc rfl rfl rfl o4 ?_
      refine w_goto rfl ?_
      exact H
    · replace H := H.2 hc
      refine w_aload rfl rfl ?_
      refine w_iconst rfl ⟨by decide, by decide⟩ ?_
      refine w_aload rfl rfl ?_
      refine n_getR 1 20 rfl rfl rfl rfl (by decide) (wz_R hz 49 1 50 rfl (by decide)) ?_
      refine w_iload rfl rfl ?_
      have o5 := H.1
      replace H := H.2
      refine n_iaload rfl (by decide) (wz_L hz 50 4 rfl (by decide)) o5 ?_
      have o6 := H.1
      replace H := H.2
      refine w_imul rfl o6 ?_
      refine w_iconst rfl ⟨by decide, by decide⟩ ?_
      have o7 := H.1
      replace H := H.2
      refine w_iadd rfl o7 ?_
      refine m_putI 8 rfl rfl rfl (by decide) (fun I8 eI8 => ?_)
      replace H := H I8 eI8
      refine w_iconst rfl ⟨by decide, by decide⟩ ?_
      exact w_zreturn rfl (by decide) H
set_option maxHeartbeats 4000000 in
set_option maxRecDepth 100000 in
theorem wr_Reader_haveInverses {d : Nat} {Q : cm_Q} {z : cm_Z} {I : cm_I} (hz : wz z) {a1 : Nat}  (H : cw d cd_Reader_haveInverses Q 2 [some (vR 7 49), some (vR 3 a1), some (vI 0)] [] (I, z)) : cm_call (d + 1) m_Reader_haveInverses [vR 7 49, vR 3 a1] (I, z) Q := by
  refine cm_call_in (C := cd_Reader_haveInverses) (ls := [some (vR 7 49), some (vR 3 a1), none]) rfl rfl (show 0 < 49 by decide) rfl ?_
  refine w_iconst rfl ⟨by decide, by decide⟩ ?_
  refine w_istore rfl rfl ?_
  exact H
set_option maxHeartbeats 4000000 in
set_option maxRecDepth 100000 in
theorem wr_Sum_readAll_47 {d : Nat} {Q : cm_Q} {z : cm_Z} {I : cm_I} (hz : wz z) {z1 : Option cm_V}  (H : (∀ I1 : cm_I, I1 = iu I 51 3 18 → (cm_i ((I1 51 3) + 1) ∧ (∀ I3 : cm_I, I3 = iu I1 51 4 ((I1 51 3) + 1) → (cm_i ((I3 51 3) + 2) ∧ (∀ I5 : cm_I, I5 = iu I3 51 5 ((I3 51 3) + 2) → (∀ I6 : cm_I, I6 = iu I5 51 6 0 → (zcI d m_Sum_readSum [vR 10 51, vI 0] z I6 fun v9 I7 Z8 => ((v9 = 0 → cw d cd_Sum_readAll Q 105 [some (vR 10 51), z1] [] (I7, Z8)) ∧ (¬ v9 = 0 → (wz Z8 ∧ (((I7 49 5) = 0 → cw d cd_Sum_readAll Q 105 [some (vR 10 51), z1] [] (I7, Z8)) ∧ (¬ (I7 49 5) = 0 → (mI d m_Reader_refuse [vR 7 49, vI 1] Z8 I7 fun v12 I11 => cw d cd_Sum_readAll Q 105 [some (vR 10 51), z1] [] (I11, Z8))))))))))))))) : cw d cd_Sum_readAll Q 47 [some (vR 10 51), z1] [] (I, z) := by
  refine w_aload rfl rfl ?_
  refine w_iconst rfl ⟨by decide, by decide⟩ ?_
  refine m_putI 3 rfl rfl rfl (by decide) (fun I1 eI1 => ?_)
  replace H := H I1 eI1
  refine w_aload rfl rfl ?_
  refine w_aload rfl rfl ?_
  refine m_getI 3 rfl rfl rfl (by decide) ?_
  refine w_iconst rfl ⟨by decide, by decide⟩ ?_
  have o2 := H.1
  replace H := H.2
  refine w_iadd rfl o2 ?_
  refine m_putI 4 rfl rfl rfl (by decide) (fun I3 eI3 => ?_)
  replace H := H I3 eI3
  refine w_aload rfl rfl ?_
  refine w_aload rfl rfl ?_
  refine m_getI 3 rfl rfl rfl (by decide) ?_
  refine w_iconst rfl ⟨by decide, by decide⟩ ?_
  have o4 := H.1
  replace H := H.2
  refine w_iadd rfl o4 ?_
  refine m_putI 5 rfl rfl rfl (by decide) (fun I5 eI5 => ?_)
  replace H := H I5 eI5
  refine w_aload rfl rfl ?_
  refine w_iconst rfl ⟨by decide, by decide⟩ ?_
  refine m_putZ 6 rfl rfl rfl (by decide) (by decide) (fun I6 eI6 => ?_)
  replace H := H I6 eI6
  refine w_aload rfl rfl ?_
  refine w_iconst rfl ⟨by decide, by decide⟩ ?_
  refine n_callI rfl (fun _ => rfl) rfl (zcI_mono H fun v9 I7 Z8 H => ?_)
  refine w_if rfl (And.intro (fun hc => ?_) (fun hc => ?_))
  · replace H := H.1 hc
    exact H
  · replace H := H.2 hc
    refine w_aload rfl rfl ?_
    have o10 := H.1
    replace H := H.2
    refine n_getR 0 7 rfl rfl rfl rfl (by decide) (wz_R o10 51 0 49 rfl (by decide)) ?_
    refine m_getI 5 rfl rfl rfl (by decide) ?_
    refine w_if rfl (And.intro (fun hc => ?_) (fun hc => ?_))
    · replace H := H.1 hc
      exact H
    · replace H := H.2 hc
      refine w_aload rfl rfl ?_
      refine n_getR 0 7 rfl rfl rfl rfl (by decide) (wz_R o10 51 0 49 rfl (by decide)) ?_
      refine w_iconst rfl ⟨by decide, by decide⟩ ?_
      refine m_callI rfl (fun _ => rfl) rfl (mI_mono H fun v12 I11 H => ?_)
      refine w_pop rfl rfl ?_
      exact H
set_option maxHeartbeats 4000000 in
set_option maxRecDepth 100000 in
theorem wr_Sum_readAll_105 {d : Nat} {Q : cm_Q} {z : cm_Z} {I : cm_I} (hz : wz z) {z1 : Option cm_V} {q_51_2 : Nat} (y_51_2 : z.1 51 2 = q_51_2) (p_q_51_2 : 0 < q_51_2) (w_q_51_2 : isRws z q_51_2) (H : ((¬ (I 49 8) = 0 → ((0:Int) ≤ 0 ∧ 0 < z.2.1 q_51_2) ∧ Q (some (vR 20 (q_51_2 + 1 + Int.toNat 0))) (I, z)) ∧ ((I 49 8) = 0 → (((I 51 6) = 0 → ((0:Int) ≤ 0 ∧ 0 < z.2.1 q_51_2) ∧ Q (some (vR 20 (q_51_2 + 1 + Int.toNat 0))) (I, z)) ∧ (¬ (I 51 6) = 0 → (∀ I3 : cm_I, I3 = iu I 49 8 3 → ((0:Int) ≤ 0 ∧ 0 < z.2.1 q_51_2) ∧ Q (some (vR 20 (q_51_2 + 1 + Int.toNat 0))) (I3, z))))))) : cw d cd_Sum_readAll Q 105 [some (vR 10 51), z1] [] (I, z) := by
  refine w_aload rfl rfl ?_
  refine n_getR 0 7 rfl rfl rfl rfl (by decide) (wz_R hz 51 0 49 rfl (by decide)) ?_
  refine m_getI 8 rfl rfl rfl (by decide) ?_
  refine w_if rfl (And.intro (fun hc => ?_) (fun hc => ?_))
  · replace H := H.1 hc
    refine w_aload rfl rfl ?_
    refine n_getR 2 23 rfl rfl rfl rfl (by decide) y_51_2 ?_
    refine w_iconst rfl ⟨by decide, by decide⟩ ?_
    have o1 := H.1
    replace H := H.2
    refine n_aaload rfl rfl rfl p_q_51_2 rfl o1 (w_q_51_2 0 o1) ?_
    exact w_areturn rfl (by omega) H
  · replace H := H.2 hc
    refine w_aload rfl rfl ?_
    refine m_getI 6 rfl rfl rfl (by decide) ?_
    refine w_if rfl (And.intro (fun hc => ?_) (fun hc => ?_))
    · replace H := H.1 hc
      refine w_aload rfl rfl ?_
      refine n_getR 2 23 rfl rfl rfl rfl (by decide) y_51_2 ?_
      refine w_iconst rfl ⟨by decide, by decide⟩ ?_
      have o2 := H.1
      replace H := H.2
      refine n_aaload rfl rfl rfl p_q_51_2 rfl o2 (w_q_51_2 0 o2) ?_
      exact w_areturn rfl (by omega) H
    · replace H := H.2 hc
      refine w_aload rfl rfl ?_
      refine n_getR 0 7 rfl rfl rfl rfl (by decide) (wz_R hz 51 0 49 rfl (by decide)) ?_
      refine w_iconst rfl ⟨by decide, by decide⟩ ?_
      refine m_putI 8 rfl rfl rfl (by decide) (fun I3 eI3 => ?_)
      replace H := H I3 eI3
      refine w_aload rfl rfl ?_
      refine n_getR 2 23 rfl rfl rfl rfl (by decide) y_51_2 ?_
      refine w_iconst rfl ⟨by decide, by decide⟩ ?_
      have o4 := H.1
      replace H := H.2
      refine n_aaload rfl rfl rfl p_q_51_2 rfl o4 (w_q_51_2 0 o4) ?_
      exact w_areturn rfl (by omega) H
set_option maxHeartbeats 4000000 in
set_option maxRecDepth 100000 in
theorem wr_Sum_readAll {d : Nat} {Q : cm_Q} {z : cm_Z} {I : cm_I} (hz : wz z) {a1 : Nat} {sh : Nat} (p_sh : isSh sh) (H : (∀ Z1 : cm_Z, Z1 = zr z 51 1 a1 → (0 < ((Z1.1 51 2)) ∧ (((Z1.2.1 ((Z1.1 51 2))) = 0 → (Z1.1 51 1 = sh ∧ ((0:Int) ≤ 21 ∧ 21 ≤ (1000:Int) ∧ (0:Int) ≤ (I sh 1) ∧ (I sh 1) ≤ (1000:Int)) ∧ (∀ (I5 : cm_I) (Z6 : cm_Z), (I5, Z6) = nwM (I, Z1) 21 (I sh 1) → (∀ Z7 : cm_Z, Z7 = zr Z6 51 2 ((zN Z1)) → cw d cd_Sum_readAll Q 47 [some (vR 10 51), some (vR 9 a1)] [] (I5, Z7))))) ∧ (¬ (Z1.2.1 ((Z1.1 51 2))) = 0 → ((0:Int) ≤ 0 ∧ 0 < Z1.2.1 ((Z1.1 51 2))) ∧ (0 < ((Z1.1 ((Z1.1 51 2)) 0)) ∧ (Z1.1 51 1 = sh ∧ (((I sh 1) ≤ (Z1.2.1 ((Z1.1 ((Z1.1 51 2)) 0))) → cw d cd_Sum_readAll Q 47 [some (vR 10 51), some (vR 9 a1)] [] (I, Z1)) ∧ ((Z1.2.1 ((Z1.1 ((Z1.1 51 2)) 0))) < (I sh 1) → ((0:Int) ≤ 21 ∧ 21 ≤ (1000:Int) ∧ (0:Int) ≤ (I sh 1) ∧ (I sh 1) ≤ (1000:Int)) ∧ (∀ (I12 : cm_I) (Z13 : cm_Z), (I12, Z13) = nwM (I, Z1) 21 (I sh 1) → (∀ Z14 : cm_Z, Z14 = zr Z13 51 2 ((zN Z1)) → cw d cd_Sum_readAll Q 47 [some (vR 10 51), some (vR 9 a1)] [] (I12, Z14)))))))))))) : cm_call (d + 1) m_Sum_readAll [vR 10 51, vR 9 a1] (I, z) Q := by
  refine cm_call_in (C := cd_Sum_readAll) (ls := [some (vR 10 51), some (vR 9 a1)]) rfl rfl (show 0 < 51 by decide) rfl ?_
  refine w_aload rfl rfl ?_
  refine w_aload rfl rfl ?_
  refine n_putR 1 rfl rfl rfl rfl (by decide) (fun Z1 eZ1 => ?_)
  replace H := H Z1 eZ1
  refine w_aload rfl rfl ?_
  refine n_getR 2 23 rfl rfl rfl rfl (by decide) rfl ?_
  have o2 := H.1
  replace H := H.2
  refine n_alen rfl rfl o2 rfl ?_
  refine w_if rfl (And.intro (fun hc => ?_) (fun hc => ?_))
  · replace H := H.1 hc
    refine w_aload rfl rfl ?_
    refine w_iconst rfl ⟨by decide, by decide⟩ ?_
    refine w_aload rfl rfl ?_
    have o3 := H.1
    replace H := H.2
    refine n_getR 1 9 rfl rfl rfl rfl (by decide) o3 ?_
    refine m_getI 1 rfl rfl rfl (isSh_pos p_sh) ?_
    have o4 := H.1
    replace H := H.2
    refine n_newM rfl o4 (fun I5 Z6 eI5 => ?_)
    replace H := H I5 Z6 eI5
    refine n_putR 2 rfl rfl rfl rfl (by decide) (fun Z7 eZ7 => ?_)
    replace H := H Z7 eZ7
    exact H
  · replace H := H.2 hc
    refine w_aload rfl rfl ?_
    refine n_getR 2 23 rfl rfl rfl rfl (by decide) rfl ?_
    refine w_iconst rfl ⟨by decide, by decide⟩ ?_
    have o8 := H.1
    replace H := H.2
    refine n_aaload rfl rfl rfl o2 rfl o8 rfl ?_
    have o9 := H.1
    replace H := H.2
    refine n_alen rfl rfl o9 rfl ?_
    refine w_aload rfl rfl ?_
    have o10 := H.1
    replace H := H.2
    refine n_getR 1 9 rfl rfl rfl rfl (by decide) o10 ?_
    refine m_getI 1 rfl rfl rfl (isSh_pos p_sh) ?_
    refine w_icmp rfl (And.intro (fun hc => ?_) (fun hc => ?_))
    · replace H := H.1 hc
      exact H
    · replace H := H.2 hc
      refine w_aload rfl rfl ?_
      refine w_iconst rfl ⟨by decide, by decide⟩ ?_
      refine w_aload rfl rfl ?_
      refine n_getR 1 9 rfl rfl rfl rfl (by decide) o10 ?_
      refine m_getI 1 rfl rfl rfl (isSh_pos p_sh) ?_
      have o11 := H.1
      replace H := H.2
      refine n_newM rfl o11 (fun I12 Z13 eI12 => ?_)
      replace H := H I12 Z13 eI12
      refine n_putR 2 rfl rfl rfl rfl (by decide) (fun Z14 eZ14 => ?_)
      replace H := H Z14 eZ14
      exact H
set_option maxHeartbeats 4000000 in
set_option maxRecDepth 100000 in
theorem wr_Sum_readSum_27 {d : Nat} {Q : cm_Q} {z : cm_Z} {I : cm_I} (hz : wz z) {x1 : Int} {z2 : Option cm_V} {z3 : Option cm_V} {s0 : Int}  (H : ((s0 = 0 → cw d cd_Sum_readSum Q 41 [some (vR 10 51), some (vI x1), some (vI s0), some (vI 0)] [] (I, z)) ∧ (¬ s0 = 0 → (mU d m_Reader_advance [vR 7 49] z I fun I1 => cw d cd_Sum_readSum Q 41 [some (vR 10 51), some (vI x1), some (vI s0), some (vI 0)] [] (I1, z))))) : cw d cd_Sum_readSum Q 27 [some (vR 10 51), some (vI x1), z2, z3] [vI s0] (I, z) := by
  refine w_istore rfl rfl ?_
  refine w_iload rfl rfl ?_
  refine w_if rfl (And.intro (fun hc => ?_) (fun hc => ?_))
  · replace H := H.1 hc
    refine w_iconst rfl ⟨by decide, by decide⟩ ?_
    refine w_istore rfl rfl ?_
    exact H
  · replace H := H.2 hc
    refine w_aload rfl rfl ?_
    refine n_getR 0 7 rfl rfl rfl rfl (by decide) (wz_R hz 51 0 49 rfl (by decide)) ?_
    refine m_callU rfl (fun _ => rfl) rfl (mU_mono H fun I1 H => ?_)
    refine w_iconst rfl ⟨by decide, by decide⟩ ?_
    refine w_istore rfl rfl ?_
    exact H
set_option maxHeartbeats 4000000 in
set_option maxRecDepth 100000 in
theorem wr_Sum_readSum_41 {d : Nat} {Q : cm_Q} {z : cm_Z} {I : cm_I} (hz : wz z) {x1 : Int} {x2 : Int} {x3 : Int}  (H : ((400 < x3 → Q (some (vI 0)) (I, z)) ∧ (x3 ≤ 400 → (zcI d m_Sum_readProduct [vR 10 51, vI x1] z I fun v3 I1 Z2 => ((¬ v3 = 0 → (cm_i (9 + x1) ∧ (0 < ((Z2.1 51 2)) ∧ ((0:Int) ≤ (9 + x1) ∧ (9 + x1) < Z2.2.1 ((Z2.1 51 2))) ∧ ((x2 = 0 → cw d cd_Sum_readSum Q 79 [some (vR 10 51), some (vI x1), some (vI x2), some (vI x3)] [vI 1, vR 20 (Z2.1 ((Z2.1 51 2)) (9 + x1)), vR 10 51] (I1, Z2)) ∧ (¬ x2 = 0 → cw d cd_Sum_readSum Q 79 [some (vR 10 51), some (vI x1), some (vI x2), some (vI x3)] [vI 2520, vR 20 (Z2.1 ((Z2.1 51 2)) (9 + x1)), vR 10 51] (I1, Z2)))))) ∧ (v3 = 0 → Q (some (vI 0)) (I1, Z2))))))) : cw d cd_Sum_readSum Q 41 [some (vR 10 51), some (vI x1), some (vI x2), some (vI x3)] [] (I, z) := by
  refine w_iload rfl rfl ?_
  refine w_iconst rfl ⟨by decide, by decide⟩ ?_
  refine w_icmp rfl (And.intro (fun hc => ?_) (fun hc => ?_))
  · replace H := H.1 hc
    refine w_iconst rfl ⟨by decide, by decide⟩ ?_
    exact w_zreturn rfl (by decide) H
  · replace H := H.2 hc
    refine w_aload rfl rfl ?_
    refine w_iload rfl rfl ?_
    refine n_callI rfl (fun _ => rfl) rfl (zcI_mono H fun v3 I1 Z2 H => ?_)
    refine w_if rfl (And.intro (fun hc => ?_) (fun hc => ?_))
    · replace H := H.1 hc
      refine w_aload rfl rfl ?_
      refine w_aload rfl rfl ?_
      refine n_getR 2 23 rfl rfl rfl rfl (by decide) rfl ?_
      refine w_iconst rfl ⟨by decide, by decide⟩ ?_
      refine w_iload rfl rfl ?_
      have o4 := H.1
      replace H := H.2
      refine w_iadd rfl o4 ?_
      have o5 := H.1
      replace H := H.2
      have o6 := H.1
      replace H := H.2
      refine n_aaload rfl rfl rfl o5 rfl o6 rfl ?_
      refine w_iload rfl rfl ?_
      refine w_if rfl (And.intro (fun hc => ?_) (fun hc => ?_))
      · replace H := H.1 hc
        refine w_iconst rfl ⟨by decide, by decide⟩ ?_
        exact H
      · replace H := H.2 hc
        refine w_iconst rfl ⟨by decide, by decide⟩ ?_
        refine w_goto rfl ?_
        exact H
    · replace H := H.2 hc
      refine w_iconst rfl ⟨by decide, by decide⟩ ?_
      exact w_zreturn rfl (by decide) H
set_option maxHeartbeats 4000000 in
set_option maxRecDepth 100000 in
theorem wr_Sum_readSum_79 {d : Nat} {Q : cm_Q} {z : cm_Z} {I : cm_I} (hz : wz z) {x1 : Int} {z2 : Option cm_V} {x3 : Int} {s0 : Int} {b1 : Nat} {q_51_2 : Nat} (y_51_2 : z.1 51 2 = q_51_2) (p_q_51_2 : 0 < q_51_2) (w_q_51_2 : isRws z q_51_2) (H : ((0:Int) ≤ x1 ∧ x1 < z.2.1 q_51_2) ∧ (mU d m_Sum_add [vR 10 51, vR 20 b1, vI s0, vR 20 (q_51_2 + 1 + Int.toNat x1)] z I fun I2 => (((I2 49 5) = 43 → cw d cd_Sum_readSum Q 114 [some (vR 10 51), some (vI x1), z2, some (vI x3)] [] (I2, z)) ∧ (¬ (I2 49 5) = 43 → (((I2 49 5) = 45 → cw d cd_Sum_readSum Q 114 [some (vR 10 51), some (vI x1), z2, some (vI x3)] [] (I2, z)) ∧ (¬ (I2 49 5) = 45 → Q (some (vI 1)) (I2, z))))))) : cw d cd_Sum_readSum Q 79 [some (vR 10 51), some (vI x1), z2, some (vI x3)] [vI s0, vR 20 b1, vR 10 51] (I, z) := by
  refine w_aload rfl rfl ?_
  refine n_getR 2 23 rfl rfl rfl rfl (by decide) y_51_2 ?_
  refine w_iload rfl rfl ?_
  have o1 := H.1
  replace H := H.2
  refine n_aaload rfl rfl rfl p_q_51_2 rfl o1 (w_q_51_2 x1 o1) ?_
  refine m_callU rfl (fun _ => rfl) rfl (mU_mono H fun I2 H => ?_)
  refine w_aload rfl rfl ?_
  refine n_getR 0 7 rfl rfl rfl rfl (by decide) (wz_R hz 51 0 49 rfl (by decide)) ?_
  refine m_getI 5 rfl rfl rfl (by decide) ?_
  refine w_iconst rfl ⟨by decide, by decide⟩ ?_
  refine w_icmp rfl (And.intro (fun hc => ?_) (fun hc => ?_))
  · replace H := H.1 hc
    exact H
  · replace H := H.2 hc
    refine w_aload rfl rfl ?_
    refine n_getR 0 7 rfl rfl rfl rfl (by decide) (wz_R hz 51 0 49 rfl (by decide)) ?_
    refine m_getI 5 rfl rfl rfl (by decide) ?_
    refine w_iconst rfl ⟨by decide, by decide⟩ ?_
    refine w_icmp rfl (And.intro (fun hc => ?_) (fun hc => ?_))
    · replace H := H.1 hc
      exact H
    · replace H := H.2 hc
      refine w_iconst rfl ⟨by decide, by decide⟩ ?_
      exact w_zreturn rfl (by decide) H
set_option maxHeartbeats 4000000 in
set_option maxRecDepth 100000 in
theorem wr_Sum_readSum_114 {d : Nat} {Q : cm_Q} {z : cm_Z} {I : cm_I} (hz : wz z) {x1 : Int} {z2 : Option cm_V} {x3 : Int}  (H : ((¬ (I 49 5) = 45 → (mU d m_Reader_advance [vR 7 49] z I fun I1 => (cm_i (x3 + 1) ∧ cw d cd_Sum_readSum Q 41 [some (vR 10 51), some (vI x1), some (vI 0), some (vI (x3 + 1))] [] (I1, z)))) ∧ ((I 49 5) = 45 → (mU d m_Reader_advance [vR 7 49] z I fun I3 => (cm_i (x3 + 1) ∧ cw d cd_Sum_readSum Q 41 [some (vR 10 51), some (vI x1), some (vI 1), some (vI (x3 + 1))] [] (I3, z)))))) : cw d cd_Sum_readSum Q 114 [some (vR 10 51), some (vI x1), z2, some (vI x3)] [] (I, z) := by
  refine w_aload rfl rfl ?_
  refine n_getR 0 7 rfl rfl rfl rfl (by decide) (wz_R hz 51 0 49 rfl (by decide)) ?_
  refine m_getI 5 rfl rfl rfl (by decide) ?_
  refine w_iconst rfl ⟨by decide, by decide⟩ ?_
  refine w_icmp rfl (And.intro (fun hc => ?_) (fun hc => ?_))
  · replace H := H.1 hc
    refine w_iconst rfl ⟨by decide, by decide⟩ ?_
    refine w_istore rfl rfl ?_
    refine w_aload rfl rfl ?_
    refine n_getR 0 7 rfl rfl rfl rfl (by decide) (wz_R hz 51 0 49 rfl (by decide)) ?_
    refine m_callU rfl (fun _ => rfl) rfl (mU_mono H fun I1 H => ?_)
    have o2 := H.1
    replace H := H.2
    refine w_iinc rfl rfl rfl o2 ?_
    refine w_goto rfl ?_
    exact H
  · replace H := H.2 hc
    refine w_iconst rfl ⟨by decide, by decide⟩ ?_
    refine w_goto rfl ?_
    refine w_istore rfl rfl ?_
    refine w_aload rfl rfl ?_
    refine n_getR 0 7 rfl rfl rfl rfl (by decide) (wz_R hz 51 0 49 rfl (by decide)) ?_
    refine m_callU rfl (fun _ => rfl) rfl (mU_mono H fun I3 H => ?_)
    have o4 := H.1
    replace H := H.2
    refine w_iinc rfl rfl rfl o4 ?_
    refine w_goto rfl ?_
    exact H
set_option maxHeartbeats 4000000 in
set_option maxRecDepth 100000 in
theorem wr_Sum_readSum {d : Nat} {Q : cm_Q} {z : cm_Z} {I : cm_I} (hz : wz z) {x1 : Int} {q_51_2 : Nat} (y_51_2 : z.1 51 2 = q_51_2) (p_q_51_2 : 0 < q_51_2) (w_q_51_2 : isRws z q_51_2) (H : ((0:Int) ≤ x1 ∧ x1 < z.2.1 q_51_2) ∧ (mU d m_Arr_fill [vR 20 (q_51_2 + 1 + Int.toNat x1), vI 0] z I fun I2 => ((¬ (I2 49 5) = 45 → cw d cd_Sum_readSum Q 27 [some (vR 10 51), some (vI x1), none, none] [vI 0] (I2, z)) ∧ ((I2 49 5) = 45 → cw d cd_Sum_readSum Q 27 [some (vR 10 51), some (vI x1), none, none] [vI 1] (I2, z))))) : cm_call (d + 1) m_Sum_readSum [vR 10 51, vI x1] (I, z) Q := by
  refine cm_call_in (C := cd_Sum_readSum) (ls := [some (vR 10 51), some (vI x1), none, none]) rfl rfl (show 0 < 51 by decide) rfl ?_
  refine w_aload rfl rfl ?_
  refine n_getR 2 23 rfl rfl rfl rfl (by decide) y_51_2 ?_
  refine w_iload rfl rfl ?_
  have o1 := H.1
  replace H := H.2
  refine n_aaload rfl rfl rfl p_q_51_2 rfl o1 (w_q_51_2 x1 o1) ?_
  refine w_iconst rfl ⟨by decide, by decide⟩ ?_
  refine m_callU rfl (fun _ => rfl) rfl (mU_mono H fun I2 H => ?_)
  refine w_aload rfl rfl ?_
  refine n_getR 0 7 rfl rfl rfl rfl (by decide) (wz_R hz 51 0 49 rfl (by decide)) ?_
  refine m_getI 5 rfl rfl rfl (by decide) ?_
  refine w_iconst rfl ⟨by decide, by decide⟩ ?_
  refine w_icmp rfl (And.intro (fun hc => ?_) (fun hc => ?_))
  · replace H := H.1 hc
    refine w_iconst rfl ⟨by decide, by decide⟩ ?_
    exact H
  · replace H := H.2 hc
    refine w_iconst rfl ⟨by decide, by decide⟩ ?_
    refine w_goto rfl ?_
    exact H
set_option maxHeartbeats 4000000 in
set_option maxRecDepth 100000 in
theorem wr_Sum_readProduct_7 {d : Nat} {Q : cm_Q} {z : cm_Z} {I : cm_I} (hz : wz z) {x1 : Int} {x2 : Int} {x3 : Int} {sh : Nat} (p_sh : isSh sh) (H : ((400 < x3 → Q (some (vI 0)) (I, z)) ∧ (x3 ≤ 400 → (zcI d m_Sum_readPower [vR 10 51, vI x1] z I fun v3 I1 Z2 => ((¬ v3 = 0 → ((¬ x3 = 0 → (zcU d m_Sum_multiplyBy [vR 10 51, vI x2] Z2 I1 fun I4 Z5 => cw d cd_Sum_readProduct Q 63 [some (vR 10 51), some (vI x1), some (vI x2), some (vI x3)] [] (I4, Z5))) ∧ (x3 = 0 → (0 < ((Z2.1 51 2)) ∧ ((0:Int) ≤ (I1 51 3) ∧ (I1 51 3) < Z2.2.1 ((Z2.1 51 2))) ∧ ((0:Int) ≤ x2 ∧ x2 < Z2.2.1 ((Z2.1 51 2))) ∧ (Z2.1 51 1 = sh ∧ (0 < ((Z2.1 ((Z2.1 51 2)) (I1 51 3))) ∧ 0 < ((Z2.1 ((Z2.1 51 2)) x2)) ∧ ((0:Int) ≤ 0 ∧ (0:Int) ≤ 0 ∧ (0:Int) ≤ (I1 sh 1) ∧ (0 : Int) + (I1 sh 1) ≤ Z2.2.1 ((Z2.1 ((Z2.1 51 2)) (I1 51 3))) ∧ (0 : Int) + (I1 sh 1) ≤ Z2.2.1 ((Z2.1 ((Z2.1 51 2)) x2))) ∧ (∀ I13 : cm_I, I13 = iw I1 ((Z2.1 ((Z2.1 51 2)) x2)) (cpyF (I1 ((Z2.1 ((Z2.1 51 2)) (I1 51 3)))) 0 (I1 ((Z2.1 ((Z2.1 51 2)) x2))) 0 (I1 sh 1)) → cw d cd_Sum_readProduct Q 63 [some (vR 10 51), some (vI x1), some (vI x2), some (vI x3)] [] (I13, Z2)))))))) ∧ (v3 = 0 → Q (some (vI 0)) (I1, Z2))))))) : cw d cd_Sum_readProduct Q 7 [some (vR 10 51), some (vI x1), some (vI x2), some (vI x3)] [] (I, z) := by
  refine w_iload rfl rfl ?_
  refine w_iconst rfl ⟨by decide, by decide⟩ ?_
  refine w_icmp rfl (And.intro (fun hc => ?_) (fun hc => ?_))
  · replace H := H.1 hc
    refine w_iconst rfl ⟨by decide, by decide⟩ ?_
    exact w_zreturn rfl (by decide) H
  · replace H := H.2 hc
    refine w_aload rfl rfl ?_
    refine w_iload rfl rfl ?_
    refine n_callI rfl (fun _ => rfl) rfl (zcI_mono H fun v3 I1 Z2 H => ?_)
    refine w_if rfl (And.intro (fun hc => ?_) (fun hc => ?_))
    · replace H := H.1 hc
      refine w_iload rfl rfl ?_
      refine w_if rfl (And.intro (fun hc => ?_) (fun hc => ?_))
      · replace H := H.1 hc
        refine w_aload rfl rfl ?_
        refine w_iload rfl rfl ?_
        refine n_callU rfl (fun _ => rfl) rfl (zcU_mono H fun I4 Z5 H => ?_)
        exact H
      · replace H := H.2 hc
        refine w_aload rfl rfl ?_
        refine n_getR 2 23 rfl rfl rfl rfl (by decide) rfl ?_
        refine w_aload rfl rfl ?_
        refine m_getI 3 rfl rfl rfl (by decide) ?_
        have o6 := H.1
        replace H := H.2
        have o7 := H.1
        replace H := H.2
        refine n_aaload rfl rfl rfl o6 rfl o7 rfl ?_
        refine w_iconst rfl ⟨by decide, by decide⟩ ?_
        refine w_aload rfl rfl ?_
        refine n_getR 2 23 rfl rfl rfl rfl (by decide) rfl ?_
        refine w_iload rfl rfl ?_
        have o8 := H.1
        replace H := H.2
        refine n_aaload rfl rfl rfl o6 rfl o8 rfl ?_
        refine w_iconst rfl ⟨by decide, by decide⟩ ?_
        refine w_aload rfl rfl ?_
        have o9 := H.1
        replace H := H.2
        refine n_getR 1 9 rfl rfl rfl rfl (by decide) o9 ?_
        refine m_getI 1 rfl rfl rfl (isSh_pos p_sh) ?_
        have o10 := H.1
        replace H := H.2
        have o11 := H.1
        replace H := H.2
        have o12 := H.1
        replace H := H.2
        refine n_copy rfl rfl o10 o11 rfl rfl o12 (fun I13 eI13 => ?_)
        replace H := H I13 eI13
        refine w_goto rfl ?_
        exact H
    · replace H := H.2 hc
      refine w_iconst rfl ⟨by decide, by decide⟩ ?_
      exact w_zreturn rfl (by decide) H
set_option maxHeartbeats 4000000 in
set_option maxRecDepth 100000 in
theorem wr_Sum_readProduct_63 {d : Nat} {Q : cm_Q} {z : cm_Z} {I : cm_I} (hz : wz z) {x1 : Int} {x2 : Int} {x3 : Int}  (H : (((I 49 5) = 42 → (mU d m_Reader_advance [vR 7 49] z I fun I1 => (cm_i (x3 + 1) ∧ cw d cd_Sum_readProduct Q 7 [some (vR 10 51), some (vI x1), some (vI x2), some (vI (x3 + 1))] [] (I1, z)))) ∧ (¬ (I 49 5) = 42 → Q (some (vI 1)) (I, z)))) : cw d cd_Sum_readProduct Q 63 [some (vR 10 51), some (vI x1), some (vI x2), some (vI x3)] [] (I, z) := by
  refine w_aload rfl rfl ?_
  refine n_getR 0 7 rfl rfl rfl rfl (by decide) (wz_R hz 51 0 49 rfl (by decide)) ?_
  refine m_getI 5 rfl rfl rfl (by decide) ?_
  refine w_iconst rfl ⟨by decide, by decide⟩ ?_
  refine w_icmp rfl (And.intro (fun hc => ?_) (fun hc => ?_))
  · replace H := H.1 hc
    refine w_aload rfl rfl ?_
    refine n_getR 0 7 rfl rfl rfl rfl (by decide) (wz_R hz 51 0 49 rfl (by decide)) ?_
    refine m_callU rfl (fun _ => rfl) rfl (mU_mono H fun I1 H => ?_)
    have o2 := H.1
    replace H := H.2
    refine w_iinc rfl rfl rfl o2 ?_
    refine w_goto rfl ?_
    exact H
  · replace H := H.2 hc
    refine w_iconst rfl ⟨by decide, by decide⟩ ?_
    exact w_zreturn rfl (by decide) H
set_option maxHeartbeats 4000000 in
set_option maxRecDepth 100000 in
theorem wr_Sum_readProduct {d : Nat} {Q : cm_Q} {z : cm_Z} {I : cm_I} (hz : wz z) {x1 : Int}  (H : (cm_i (9 + x1) ∧ cw d cd_Sum_readProduct Q 7 [some (vR 10 51), some (vI x1), some (vI (9 + x1)), some (vI 0)] [] (I, z))) : cm_call (d + 1) m_Sum_readProduct [vR 10 51, vI x1] (I, z) Q := by
  refine cm_call_in (C := cd_Sum_readProduct) (ls := [some (vR 10 51), some (vI x1), none, none]) rfl rfl (show 0 < 51 by decide) rfl ?_
  refine w_iconst rfl ⟨by decide, by decide⟩ ?_
  refine w_iload rfl rfl ?_
  have o1 := H.1
  replace H := H.2
  refine w_iadd rfl o1 ?_
  refine w_istore rfl rfl ?_
  refine w_iconst rfl ⟨by decide, by decide⟩ ?_
  refine w_istore rfl rfl ?_
  exact H
set_option maxHeartbeats 4000000 in
set_option maxRecDepth 100000 in
theorem wr_Sum_readPower {d : Nat} {Q : cm_Q} {z : cm_Z} {I : cm_I} (hz : wz z) {x1 : Int}  (H : (zcI d m_Sum_readPart [vR 10 51, vI x1] z I fun v3 I1 Z2 => ((¬ v3 = 0 → (wz Z2 ∧ (((I1 49 5) = 94 → (mU d m_Reader_advance [vR 7 49] Z2 I1 fun I5 => ((¬ (I5 49 5) = 2 → (mI d m_Reader_refuse [vR 7 49, vI 1] Z2 I5 fun v7 I6 => ((v7 = 0 ∨ v7 = 1) ∧ Q (some (vI v7)) (I6, Z2)))) ∧ ((I5 49 5) = 2 → (((I5 49 7) ≤ 2 → (((I5 49 6) ≤ 15 → (zcU d m_Sum_raisePart [vR 10 51, vI (I5 49 6)] Z2 I5 fun I8 Z9 => (wz Z9 ∧ (mU d m_Reader_advance [vR 7 49] Z9 I8 fun I11 => Q (some (vI 1)) (I11, Z9))))) ∧ (15 < (I5 49 6) → (mI d m_Reader_refuse [vR 7 49, vI 2] Z2 I5 fun v13 I12 => ((v13 = 0 ∨ v13 = 1) ∧ Q (some (vI v13)) (I12, Z2)))))) ∧ (2 < (I5 49 7) → (mI d m_Reader_refuse [vR 7 49, vI 1] Z2 I5 fun v15 I14 => ((v15 = 0 ∨ v15 = 1) ∧ Q (some (vI v15)) (I14, Z2))))))))) ∧ (¬ (I1 49 5) = 94 → Q (some (vI 1)) (I1, Z2))))) ∧ (v3 = 0 → Q (some (vI 0)) (I1, Z2))))) : cm_call (d + 1) m_Sum_readPower [vR 10 51, vI x1] (I, z) Q := by
  refine cm_call_in (C := cd_Sum_readPower) (ls := [some (vR 10 51), some (vI x1)]) rfl rfl (show 0 < 51 by decide) rfl ?_
  refine w_aload rfl rfl ?_
  refine w_iload rfl rfl ?_
  refine n_callI rfl (fun _ => rfl) rfl (zcI_mono H fun v3 I1 Z2 H => ?_)
  refine w_if rfl (And.intro (fun hc => ?_) (fun hc => ?_))
  · replace H := H.1 hc
    refine w_aload rfl rfl ?_
    have o4 := H.1
    replace H := H.2
    refine n_getR 0 7 rfl rfl rfl rfl (by decide) (wz_R o4 51 0 49 rfl (by decide)) ?_
    refine m_getI 5 rfl rfl rfl (by decide) ?_
    refine w_iconst rfl ⟨by decide, by decide⟩ ?_
    refine w_icmp rfl (And.intro (fun hc => ?_) (fun hc => ?_))
    · replace H := H.1 hc
      refine w_aload rfl rfl ?_
      refine n_getR 0 7 rfl rfl rfl rfl (by decide) (wz_R o4 51 0 49 rfl (by decide)) ?_
      refine m_callU rfl (fun _ => rfl) rfl (mU_mono H fun I5 H => ?_)
      refine w_aload rfl rfl ?_
      refine n_getR 0 7 rfl rfl rfl rfl (by decide) (wz_R o4 51 0 49 rfl (by decide)) ?_
      refine m_getI 5 rfl rfl rfl (by decide) ?_
      refine w_iconst rfl ⟨by decide, by decide⟩ ?_
      refine w_icmp rfl (And.intro (fun hc => ?_) (fun hc => ?_))
      · replace H := H.1 hc
        refine w_aload rfl rfl ?_
        refine n_getR 0 7 rfl rfl rfl rfl (by decide) (wz_R o4 51 0 49 rfl (by decide)) ?_
        refine w_iconst rfl ⟨by decide, by decide⟩ ?_
        refine m_callI rfl (fun _ => rfl) rfl (mI_mono H fun v7 I6 H => ?_)
        exact w_zreturn rfl H.1 H.2
      · replace H := H.2 hc
        refine w_aload rfl rfl ?_
        refine n_getR 0 7 rfl rfl rfl rfl (by decide) (wz_R o4 51 0 49 rfl (by decide)) ?_
        refine m_getI 7 rfl rfl rfl (by decide) ?_
        refine w_iconst rfl ⟨by decide, by decide⟩ ?_
        refine w_icmp rfl (And.intro (fun hc => ?_) (fun hc => ?_))
        · replace H := H.1 hc
          refine w_aload rfl rfl ?_
          refine n_getR 0 7 rfl rfl rfl rfl (by decide) (wz_R o4 51 0 49 rfl (by decide)) ?_
          refine m_getI 6 rfl rfl rfl (by decide) ?_
          refine w_iconst rfl ⟨by decide, by decide⟩ ?_
          refine w_icmp rfl (And.intro (fun hc => ?_) (fun hc => ?_))
          · replace H := H.1 hc
            refine w_aload rfl rfl ?_
            refine w_aload rfl rfl ?_
            refine n_getR 0 7 rfl rfl rfl rfl (by decide) (wz_R o4 51 0 49 rfl (by decide)) ?_
            refine m_getI 6 rfl rfl rfl (by decide) ?_
            refine n_callU rfl (fun _ => rfl) rfl (zcU_mono H fun I8 Z9 H => ?_)
            refine w_aload rfl rfl ?_
            have o10 := H.1
            replace H := H.2
            refine n_getR 0 7 rfl rfl rfl rfl (by decide) (wz_R o10 51 0 49 rfl (by decide)) ?_
            refine m_callU rfl (fun _ => rfl) rfl (mU_mono H fun I11 H => ?_)
            refine w_iconst rfl ⟨by decide, by decide⟩ ?_
            exact w_zreturn rfl (by decide) H
          · replace H := H.2 hc
            refine w_aload rfl rfl ?_
            refine n_getR 0 7 rfl rfl rfl rfl (by decide) (wz_R o4 51 0 49 rfl (by decide)) ?_
            refine w_iconst rfl ⟨by decide, by decide⟩ ?_
            refine m_callI rfl (fun _ => rfl) rfl (mI_mono H fun v13 I12 H => ?_)
            exact w_zreturn rfl H.1 H.2
        · replace H := H.2 hc
          refine w_aload rfl rfl ?_
          refine n_getR 0 7 rfl rfl rfl rfl (by decide) (wz_R o4 51 0 49 rfl (by decide)) ?_
          refine w_iconst rfl ⟨by decide, by decide⟩ ?_
          refine m_callI rfl (fun _ => rfl) rfl (mI_mono H fun v15 I14 H => ?_)
          exact w_zreturn rfl H.1 H.2
    · replace H := H.2 hc
      refine w_iconst rfl ⟨by decide, by decide⟩ ?_
      exact w_zreturn rfl (by decide) H
  · replace H := H.2 hc
    refine w_iconst rfl ⟨by decide, by decide⟩ ?_
    exact w_zreturn rfl (by decide) H
set_option maxHeartbeats 4000000 in
set_option maxRecDepth 100000 in
theorem wr_Sum_readPart_55 {d : Nat} {Q : cm_Q} {z : cm_Z} {I : cm_I} (hz : wz z) {z1 : Option cm_V} {x2 : Int} {sh : Nat} (y_51_1 : z.1 51 1 = sh) (p_sh : isSh sh) (H : ((¬ x2 = 120 → ((¬ x2 = 121 → ((¬ x2 = 122 → (mI d m_Reader_refuse [vR 7 49, vI 1] z I fun v2 I1 => ((v2 = 0 ∨ v2 = 1) ∧ Q (some (vI v2)) (I1, z)))) ∧ (x2 = 122 → ((¬ (I sh 0) = 3 → (mI d m_Reader_refuse [vR 7 49, vI 1] z I fun v4 I3 => ((v4 = 0 ∨ v4 = 1) ∧ Q (some (vI v4)) (I3, z)))) ∧ ((I sh 0) = 3 → (cm_i ((I (sh + 2) 1) + 2) ∧ (mU d m_Sum_putPart [vR 10 51, vI ((I (sh + 2) 1) + 2), vI 1] z I fun I6 => (mU d m_Reader_advance [vR 7 49] z I6 fun I7 => Q (some (vI 1)) (I7, z))))))))) ∧ (x2 = 121 → (cm_i ((I (sh + 2) 1) + 1) ∧ (mU d m_Sum_putPart [vR 10 51, vI ((I (sh + 2) 1) + 1), vI 1] z I fun I9 => (mU d m_Reader_advance [vR 7 49] z I9 fun I10 => Q (some (vI 1)) (I10, z))))))) ∧ (x2 = 120 → (mU d m_Sum_putPart [vR 10 51, vI (I (sh + 2) 1), vI 1] z I fun I11 => (mU d m_Reader_advance [vR 7 49] z I11 fun I12 => Q (some (vI 1)) (I12, z)))))) : cw d cd_Sum_readPart Q 55 [some (vR 10 51), z1, some (vI x2)] [] (I, z) := by
  refine w_iload rfl rfl ?_
  refine w_iconst rfl ⟨by decide, by decide⟩ ?_
  refine w_icmp rfl (And.intro (fun hc => ?_) (fun hc => ?_))
  · replace H := H.1 hc
    refine w_iload rfl rfl ?_
    refine w_iconst rfl ⟨by decide, by decide⟩ ?_
    refine w_icmp rfl (And.intro (fun hc => ?_) (fun hc => ?_))
    · replace H := H.1 hc
      refine w_iload rfl rfl ?_
      refine w_iconst rfl ⟨by decide, by decide⟩ ?_
      refine w_icmp rfl (And.intro (fun hc => ?_) (fun hc => ?_))
      · replace H := H.1 hc
        refine w_aload rfl rfl ?_
        refine n_getR 0 7 rfl rfl rfl rfl (by decide) (wz_R hz 51 0 49 rfl (by decide)) ?_
        refine w_iconst rfl ⟨by decide, by decide⟩ ?_
        refine m_callI rfl (fun _ => rfl) rfl (mI_mono H fun v2 I1 H => ?_)
        exact w_zreturn rfl H.1 H.2
      · replace H := H.2 hc
        refine w_aload rfl rfl ?_
        refine n_getR 1 9 rfl rfl rfl rfl (by decide) y_51_1 ?_
        refine m_getI 0 rfl rfl rfl (isSh_pos p_sh) ?_
        refine w_iconst rfl ⟨by decide, by decide⟩ ?_
        refine w_icmp rfl (And.intro (fun hc => ?_) (fun hc => ?_))
        · replace H := H.1 hc
          refine w_aload rfl rfl ?_
          refine n_getR 0 7 rfl rfl rfl rfl (by decide) (wz_R hz 51 0 49 rfl (by decide)) ?_
          refine w_iconst rfl ⟨by decide, by decide⟩ ?_
          refine m_callI rfl (fun _ => rfl) rfl (mI_mono H fun v4 I3 H => ?_)
          exact w_zreturn rfl H.1 H.2
        · replace H := H.2 hc
          refine w_aload rfl rfl ?_
          refine w_aload rfl rfl ?_
          refine n_getR 1 9 rfl rfl rfl rfl (by decide) y_51_1 ?_
          refine n_getR 3 20 rfl rfl rfl rfl (isSh_pos p_sh) (wz_sh3 hz p_sh) ?_
          refine w_iconst rfl ⟨by decide, by decide⟩ ?_
          refine n_iaload rfl (Nat.add_pos_right _ (by decide)) (wz_shL2 hz p_sh) (by decide) ?_
          refine w_iconst rfl ⟨by decide, by decide⟩ ?_
          have o5 := H.1
          replace H := H.2
          refine w_iadd rfl o5 ?_
          refine w_iconst rfl ⟨by decide, by decide⟩ ?_
          refine m_callU rfl (fun _ => rfl) rfl (mU_mono H fun I6 H => ?_)
          refine w_goto rfl ?_
          refine w_aload rfl rfl ?_
          refine n_getR 0 7 rfl rfl rfl rfl (by decide) (wz_R hz 51 0 49 rfl (by decide)) ?_
          refine m_callU rfl (fun _ => rfl) rfl (mU_mono H fun I7 H => ?_)
          refine w_iconst rfl ⟨by decide, by decide⟩ ?_
          exact w_zreturn rfl (by decide) H
    · replace H := H.2 hc
      refine w_aload rfl rfl ?_
      refine w_aload rfl rfl ?_
      refine n_getR 1 9 rfl rfl rfl rfl (by decide) y_51_1 ?_
      refine n_getR 3 20 rfl rfl rfl rfl (isSh_pos p_sh) (wz_sh3 hz p_sh) ?_
      refine w_iconst rfl ⟨by decide, by decide⟩ ?_
      refine n_iaload rfl (Nat.add_pos_right _ (by decide)) (wz_shL2 hz p_sh) (by decide) ?_
      refine w_iconst rfl ⟨by decide, by decide⟩ ?_
      have o8 := H.1
      replace H := H.2
      refine w_iadd rfl o8 ?_
      refine w_iconst rfl ⟨by decide, by decide⟩ ?_
      refine m_callU rfl (fun _ => rfl) rfl (mU_mono H fun I9 H => ?_)
      refine w_goto rfl ?_
      refine w_aload rfl rfl ?_
      refine n_getR 0 7 rfl rfl rfl rfl (by decide) (wz_R hz 51 0 49 rfl (by decide)) ?_
      refine m_callU rfl (fun _ => rfl) rfl (mU_mono H fun I10 H => ?_)
      refine w_iconst rfl ⟨by decide, by decide⟩ ?_
      exact w_zreturn rfl (by decide) H
  · replace H := H.2 hc
    refine w_aload rfl rfl ?_
    refine w_aload rfl rfl ?_
    refine n_getR 1 9 rfl rfl rfl rfl (by decide) y_51_1 ?_
    refine n_getR 3 20 rfl rfl rfl rfl (isSh_pos p_sh) (wz_sh3 hz p_sh) ?_
    refine w_iconst rfl ⟨by decide, by decide⟩ ?_
    refine n_iaload rfl (Nat.add_pos_right _ (by decide)) (wz_shL2 hz p_sh) (by decide) ?_
    refine w_iconst rfl ⟨by decide, by decide⟩ ?_
    refine m_callU rfl (fun _ => rfl) rfl (mU_mono H fun I11 H => ?_)
    refine w_goto rfl ?_
    refine w_aload rfl rfl ?_
    refine n_getR 0 7 rfl rfl rfl rfl (by decide) (wz_R hz 51 0 49 rfl (by decide)) ?_
    refine m_callU rfl (fun _ => rfl) rfl (mU_mono H fun I12 H => ?_)
    refine w_iconst rfl ⟨by decide, by decide⟩ ?_
    exact w_zreturn rfl (by decide) H
set_option maxHeartbeats 4000000 in
set_option maxRecDepth 100000 in
theorem wr_Sum_readPart {d : Nat} {Q : cm_Q} {z : cm_Z} {I : cm_I} (hz : wz z) {x1 : Int}  (H : ((¬ (I 49 5) = 40 → ((¬ (I 49 5) = 2 → cw d cd_Sum_readPart Q 55 [some (vR 10 51), some (vI x1), some (vI (I 49 5))] [] (I, z)) ∧ ((I 49 5) = 2 → ((4 < (I 49 7) → cw d cd_Sum_readPart Q 55 [some (vR 10 51), some (vI x1), some (vI (I 49 5))] [] (I, z)) ∧ ((I 49 7) ≤ 4 → (mU d m_Sum_putPart [vR 10 51, vI 0, vI (Int.tmod (I 49 6) 2521)] z I fun I1 => (mU d m_Reader_advance [vR 7 49] z I1 fun I2 => Q (some (vI 1)) (I2, z)))))))) ∧ ((I 49 5) = 40 → (zcI d m_Sum_readBracket [vR 10 51, vI x1] z I fun v5 I3 Z4 => ((v5 = 0 ∨ v5 = 1) ∧ Q (some (vI v5)) (I3, Z4)))))) : cm_call (d + 1) m_Sum_readPart [vR 10 51, vI x1] (I, z) Q := by
  refine cm_call_in (C := cd_Sum_readPart) (ls := [some (vR 10 51), some (vI x1), none]) rfl rfl (show 0 < 51 by decide) rfl ?_
  refine w_aload rfl rfl ?_
  refine n_getR 0 7 rfl rfl rfl rfl (by decide) (wz_R hz 51 0 49 rfl (by decide)) ?_
  refine m_getI 5 rfl rfl rfl (by decide) ?_
  refine w_istore rfl rfl ?_
  refine w_iload rfl rfl ?_
  refine w_iconst rfl ⟨by decide, by decide⟩ ?_
  refine w_icmp rfl (And.intro (fun hc => ?_) (fun hc => ?_))
  · replace H := H.1 hc
    refine w_iload rfl rfl ?_
    refine w_iconst rfl ⟨by decide, by decide⟩ ?_
    refine w_icmp rfl (And.intro (fun hc => ?_) (fun hc => ?_))
    · replace H := H.1 hc
      exact H
    · replace H := H.2 hc
      refine w_aload rfl rfl ?_
      refine n_getR 0 7 rfl rfl rfl rfl (by decide) (wz_R hz 51 0 49 rfl (by decide)) ?_
      refine m_getI 7 rfl rfl rfl (by decide) ?_
      refine w_iconst rfl ⟨by decide, by decide⟩ ?_
      refine w_icmp rfl (And.intro (fun hc => ?_) (fun hc => ?_))
      · replace H := H.1 hc
        exact H
      · replace H := H.2 hc
        refine w_aload rfl rfl ?_
        refine w_iconst rfl ⟨by decide, by decide⟩ ?_
        refine w_aload rfl rfl ?_
        refine n_getR 0 7 rfl rfl rfl rfl (by decide) (wz_R hz 51 0 49 rfl (by decide)) ?_
        refine m_getI 6 rfl rfl rfl (by decide) ?_
        refine w_iconst rfl ⟨by decide, by decide⟩ ?_
        refine w_irem rfl (by decide) ?_
        refine m_callU rfl (fun _ => rfl) rfl (mU_mono H fun I1 H => ?_)
        refine w_goto rfl ?_
        refine w_aload rfl rfl ?_
        refine n_getR 0 7 rfl rfl rfl rfl (by decide) (wz_R hz 51 0 49 rfl (by decide)) ?_
        refine m_callU rfl (fun _ => rfl) rfl (mU_mono H fun I2 H => ?_)
        refine w_iconst rfl ⟨by decide, by decide⟩ ?_
        exact w_zreturn rfl (by decide) H
  · replace H := H.2 hc
    refine w_aload rfl rfl ?_
    refine w_iload rfl rfl ?_
    refine n_callI rfl (fun _ => rfl) rfl (zcI_mono H fun v5 I3 Z4 H => ?_)
    exact w_zreturn rfl H.1 H.2
set_option maxHeartbeats 4000000 in
set_option maxRecDepth 100000 in
theorem wr_Sum_readBracket {d : Nat} {Q : cm_Q} {z : cm_Z} {I : cm_I} (hz : wz z) {x1 : Int} {sh : Nat} (p_sh : isSh sh) (H : ((¬ x1 = 8 → (mU d m_Reader_advance [vR 7 49] z I fun I1 => (cm_i (x1 + 1) ∧ (zcI d m_Sum_readSum [vR 10 51, vI (x1 + 1)] z I1 fun v5 I3 Z4 => ((¬ v5 = 0 → (wz Z4 ∧ (((I3 49 5) = 41 → (0 < ((Z4.1 51 2)) ∧ ((0:Int) ≤ (x1 + 1) ∧ (x1 + 1) < Z4.2.1 ((Z4.1 51 2))) ∧ ((0:Int) ≤ (I3 51 3) ∧ (I3 51 3) < Z4.2.1 ((Z4.1 51 2))) ∧ (Z4.1 51 1 = sh ∧ (0 < ((Z4.1 ((Z4.1 51 2)) (x1 + 1))) ∧ 0 < ((Z4.1 ((Z4.1 51 2)) (I3 51 3))) ∧ ((0:Int) ≤ 0 ∧ (0:Int) ≤ 0 ∧ (0:Int) ≤ (I3 sh 1) ∧ (0 : Int) + (I3 sh 1) ≤ Z4.2.1 ((Z4.1 ((Z4.1 51 2)) (x1 + 1))) ∧ (0 : Int) + (I3 sh 1) ≤ Z4.2.1 ((Z4.1 ((Z4.1 51 2)) (I3 51 3)))) ∧ (∀ I14 : cm_I, I14 = iw I3 ((Z4.1 ((Z4.1 51 2)) (I3 51 3))) (cpyF (I3 ((Z4.1 ((Z4.1 51 2)) (x1 + 1)))) 0 (I3 ((Z4.1 ((Z4.1 51 2)) (I3 51 3)))) 0 (I3 sh 1)) → (mU d m_Reader_advance [vR 7 49] Z4 I14 fun I15 => Q (some (vI 1)) (I15, Z4))))))) ∧ (¬ (I3 49 5) = 41 → (mI d m_Reader_refuse [vR 7 49, vI 1] Z4 I3 fun v17 I16 => ((v17 = 0 ∨ v17 = 1) ∧ Q (some (vI v17)) (I16, Z4))))))) ∧ (v5 = 0 → Q (some (vI 0)) (I3, Z4))))))) ∧ (x1 = 8 → (mI d m_Reader_refuse [vR 7 49, vI 2] z I fun v19 I18 => ((v19 = 0 ∨ v19 = 1) ∧ Q (some (vI v19)) (I18, z)))))) : cm_call (d + 1) m_Sum_readBracket [vR 10 51, vI x1] (I, z) Q := by
  refine cm_call_in (C := cd_Sum_readBracket) (ls := [some (vR 10 51), some (vI x1)]) rfl rfl (show 0 < 51 by decide) rfl ?_
  refine w_iload rfl rfl ?_
  refine w_iconst rfl ⟨by decide, by decide⟩ ?_
  refine w_icmp rfl (And.intro (fun hc => ?_) (fun hc => ?_))
  · replace H := H.1 hc
    refine w_aload rfl rfl ?_
    refine n_getR 0 7 rfl rfl rfl rfl (by decide) (wz_R hz 51 0 49 rfl (by decide)) ?_
    refine m_callU rfl (fun _ => rfl) rfl (mU_mono H fun I1 H => ?_)
    refine w_aload rfl rfl ?_
    refine w_iload rfl rfl ?_
    refine w_iconst rfl ⟨by decide, by decide⟩ ?_
    have o2 := H.1
    replace H := H.2
    refine w_iadd rfl o2 ?_
    refine n_callI rfl (fun _ => rfl) rfl (zcI_mono H fun v5 I3 Z4 H => ?_)
    refine w_if rfl (And.intro (fun hc => ?_) (fun hc => ?_))
    · replace H := H.1 hc
      refine w_aload rfl rfl ?_
      have o6 := H.1
      replace H := H.2
      refine n_getR 0 7 rfl rfl rfl rfl (by decide) (wz_R o6 51 0 49 rfl (by decide)) ?_
      refine m_getI 5 rfl rfl rfl (by decide) ?_
      refine w_iconst rfl ⟨by decide, by decide⟩ ?_
      refine w_icmp rfl (And.intro (fun hc => ?_) (fun hc => ?_))
      · replace H := H.1 hc
        refine w_aload rfl rfl ?_
        refine n_getR 2 23 rfl rfl rfl rfl (by decide) rfl ?_
        refine w_iload rfl rfl ?_
        refine w_iconst rfl ⟨by decide, by decide⟩ ?_
        refine w_iadd rfl o2 ?_
        have o7 := H.1
        replace H := H.2
        have o8 := H.1
        replace H := H.2
        refine n_aaload rfl rfl rfl o7 rfl o8 rfl ?_
        refine w_iconst rfl ⟨by decide, by decide⟩ ?_
        refine w_aload rfl rfl ?_
        refine n_getR 2 23 rfl rfl rfl rfl (by decide) rfl ?_
        refine w_aload rfl rfl ?_
        refine m_getI 3 rfl rfl rfl (by decide) ?_
        have o9 := H.1
        replace H := H.2
        refine n_aaload rfl rfl rfl o7 rfl o9 rfl ?_
        refine w_iconst rfl ⟨by decide, by decide⟩ ?_
        refine w_aload rfl rfl ?_
        have o10 := H.1
        replace H := H.2
        refine n_getR 1 9 rfl rfl rfl rfl (by decide) o10 ?_
        refine m_getI 1 rfl rfl rfl (isSh_pos p_sh) ?_
        have o11 := H.1
        replace H := H.2
        have o12 := H.1
        replace H := H.2
        have o13 := H.1
        replace H := H.2
        refine n_copy rfl rfl o11 o12 rfl rfl o13 (fun I14 eI14 => ?_)
        replace H := H I14 eI14
        refine w_aload rfl rfl ?_
        refine n_getR 0 7 rfl rfl rfl rfl (by decide) (wz_R o6 51 0 49 rfl (by decide)) ?_
        refine m_callU rfl (fun _ => rfl) rfl (mU_mono H fun I15 H => ?_)
        refine w_iconst rfl ⟨by decide, by decide⟩ ?_
        exact w_zreturn rfl (by decide) H
      · replace H := H.2 hc
        refine w_aload rfl rfl ?_
        refine n_getR 0 7 rfl rfl rfl rfl (by decide) (wz_R o6 51 0 49 rfl (by decide)) ?_
        refine w_iconst rfl ⟨by decide, by decide⟩ ?_
        refine m_callI rfl (fun _ => rfl) rfl (mI_mono H fun v17 I16 H => ?_)
        exact w_zreturn rfl H.1 H.2
    · replace H := H.2 hc
      refine w_iconst rfl ⟨by decide, by decide⟩ ?_
      exact w_zreturn rfl (by decide) H
  · replace H := H.2 hc
    refine w_aload rfl rfl ?_
    refine n_getR 0 7 rfl rfl rfl rfl (by decide) (wz_R hz 51 0 49 rfl (by decide)) ?_
    refine w_iconst rfl ⟨by decide, by decide⟩ ?_
    refine m_callI rfl (fun _ => rfl) rfl (mI_mono H fun v19 I18 H => ?_)
    exact w_zreturn rfl H.1 H.2
set_option maxHeartbeats 4000000 in
set_option maxRecDepth 100000 in
theorem wr_Sum_putPart {d : Nat} {Q : cm_Q} {z : cm_Z} {I : cm_I} (hz : wz z) {x1 : Int} {x2 : Int} {q_51_2 : Nat} (y_51_2 : z.1 51 2 = q_51_2) (p_q_51_2 : 0 < q_51_2) (w_q_51_2 : isRws z q_51_2) (H : ((0:Int) ≤ (I 51 3) ∧ (I 51 3) < z.2.1 q_51_2) ∧ (mU d m_Arr_fill [vR 20 (q_51_2 + 1 + Int.toNat (I 51 3)), vI 0] z I fun I2 => ((0:Int) ≤ (I2 51 3) ∧ (I2 51 3) < z.2.1 q_51_2) ∧ ((0:Int) ≤ x1 ∧ x1 < z.2.1 ((q_51_2 + 1 + Int.toNat (I2 51 3)))) ∧ (∀ I5 : cm_I, I5 = iu I2 (q_51_2 + 1 + Int.toNat (I2 51 3)) x1 x2 → Q none (I5, z)))) : cm_call (d + 1) m_Sum_putPart [vR 10 51, vI x1, vI x2] (I, z) Q := by
  refine cm_call_in (C := cd_Sum_putPart) (ls := [some (vR 10 51), some (vI x1), some (vI x2)]) rfl rfl (show 0 < 51 by decide) rfl ?_
  refine w_aload rfl rfl ?_
  refine n_getR 2 23 rfl rfl rfl rfl (by decide) y_51_2 ?_
  refine w_aload rfl rfl ?_
  refine m_getI 3 rfl rfl rfl (by decide) ?_
  have o1 := H.1
  replace H := H.2
  refine n_aaload rfl rfl rfl p_q_51_2 rfl o1 (w_q_51_2 (I 51 3) o1) ?_
  refine w_iconst rfl ⟨by decide, by decide⟩ ?_
  refine m_callU rfl (fun _ => rfl) rfl (mU_mono H fun I2 H => ?_)
  refine w_aload rfl rfl ?_
  refine n_getR 2 23 rfl rfl rfl rfl (by decide) y_51_2 ?_
  refine w_aload rfl rfl ?_
  refine m_getI 3 rfl rfl rfl (by decide) ?_
  have o3 := H.1
  replace H := H.2
  refine n_aaload rfl rfl rfl p_q_51_2 rfl o3 (w_q_51_2 (I2 51 3) o3) ?_
  refine w_iload rfl rfl ?_
  refine w_iload rfl rfl ?_
  have o4 := H.1
  replace H := H.2
  refine n_iastore rfl (by omega) rfl o4 (fun I5 eI5 => ?_)
  replace H := H I5 eI5
  exact w_return rfl H
set_option maxHeartbeats 4000000 in
set_option maxRecDepth 100000 in
theorem wr_Sum_add_3 {d : Nat} {Q : cm_Q} {z : cm_Z} {I : cm_I} (hz : wz z) {a1 : Nat} {x2 : Int} {a3 : Nat} {x4 : Int} {sh : Nat} (y_51_1 : z.1 51 1 = sh) (p_sh : isSh sh) (p_a3 : 0 < a3) (p_a1 : 0 < a1) (H : (((I sh 1) ≤ x4 → Q none (I, z)) ∧ (x4 < (I sh 1) → ((0:Int) ≤ x4 ∧ x4 < z.2.1 a3) ∧ ((0:Int) ≤ x4 ∧ x4 < z.2.1 a1) ∧ (cm_i (x2 * (I a1 x4)) ∧ (cm_i ((I a3 x4) + (x2 * (I a1 x4))) ∧ (∀ I5 : cm_I, I5 = iu I a3 x4 (Int.tmod ((I a3 x4) + (x2 * (I a1 x4))) 2521) → (cm_i (x4 + 1) ∧ cw d cd_Sum_add Q 3 [some (vR 10 51), some (vR 20 a1), some (vI x2), some (vR 20 a3), some (vI (x4 + 1))] [] (I5, z)))))))) : cw d cd_Sum_add Q 3 [some (vR 10 51), some (vR 20 a1), some (vI x2), some (vR 20 a3), some (vI x4)] [] (I, z) := by
  refine w_iload rfl rfl ?_
  refine w_aload rfl rfl ?_
  refine n_getR 1 9 rfl rfl rfl rfl (by decide) y_51_1 ?_
  refine m_getI 1 rfl rfl rfl (isSh_pos p_sh) ?_
  refine w_icmp rfl (And.intro (fun hc => ?_) (fun hc => ?_))
  · replace H := H.1 hc
    exact w_return rfl H
  · replace H := H.2 hc
    refine w_aload rfl rfl ?_
    refine w_iload rfl rfl ?_
    refine w_aload rfl rfl ?_
    refine w_iload rfl rfl ?_
    have o1 := H.1
    replace H := H.2
    refine n_iaload rfl p_a3 rfl o1 ?_
    refine w_iload rfl rfl ?_
    refine w_aload rfl rfl ?_
    refine w_iload rfl rfl ?_
    have o2 := H.1
    replace H := H.2
    refine n_iaload rfl p_a1 rfl o2 ?_
    have o3 := H.1
    replace H := H.2
    refine w_imul rfl o3 ?_
    have o4 := H.1
    replace H := H.2
    refine w_iadd rfl o4 ?_
    refine w_iconst rfl ⟨by decide, by decide⟩ ?_
    refine w_irem rfl (by decide) ?_
    refine n_iastore rfl p_a3 rfl o1 (fun I5 eI5 => ?_)
    replace H := H I5 eI5
    have o6 := H.1
    replace H := H.2
    refine w_iinc rfl rfl rfl o6 ?_
    refine w_goto rfl ?_
    exact H
set_option maxHeartbeats 4000000 in
set_option maxRecDepth 100000 in
theorem wr_Sum_add {d : Nat} {Q : cm_Q} {z : cm_Z} {I : cm_I} (hz : wz z) {a1 : Nat} {x2 : Int} {a3 : Nat}  (H : cw d cd_Sum_add Q 3 [some (vR 10 51), some (vR 20 a1), some (vI x2), some (vR 20 a3), some (vI 0)] [] (I, z)) : cm_call (d + 1) m_Sum_add [vR 10 51, vR 20 a1, vI x2, vR 20 a3] (I, z) Q := by
  refine cm_call_in (C := cd_Sum_add) (ls := [some (vR 10 51), some (vR 20 a1), some (vI x2), some (vR 20 a3), none]) rfl rfl (show 0 < 51 by decide) rfl ?_
  refine w_iconst rfl ⟨by decide, by decide⟩ ?_
  refine w_istore rfl rfl ?_
  exact H
set_option maxHeartbeats 4000000 in
set_option maxRecDepth 100000 in
theorem wr_Sum_multiplyBy_40 {d : Nat} {Q : cm_Q} {z : cm_Z} {I : cm_I} (hz : wz z) {x1 : Int} {sh : Nat} {q_51_2 : Nat} (y_51_1 : z.1 51 1 = sh) (y_51_2 : z.1 51 2 = q_51_2) (p_q_51_2 : 0 < q_51_2) (w_q_51_2 : isRws z q_51_2) (p_sh : isSh sh) (H : ((¬ (I 51 6) = 0 → Q none (I, z)) ∧ ((I 51 6) = 0 → ((0:Int) ≤ x1 ∧ x1 < z.2.1 q_51_2) ∧ ((0:Int) ≤ (I 51 3) ∧ (I 51 3) < z.2.1 q_51_2) ∧ ((0:Int) ≤ (I 51 5) ∧ (I 51 5) < z.2.1 q_51_2) ∧ (zcU d m_Shape_multiply [vR 9 sh, vR 20 (q_51_2 + 1 + Int.toNat x1), vR 20 (q_51_2 + 1 + Int.toNat (I 51 3)), vR 20 (q_51_2 + 1 + Int.toNat (I 51 5))] z I fun I4 Z5 => (0 < ((Z5.1 51 2)) ∧ ((0:Int) ≤ (I4 51 5) ∧ (I4 51 5) < Z5.2.1 ((Z5.1 51 2))) ∧ ((0:Int) ≤ x1 ∧ x1 < Z5.2.1 ((Z5.1 51 2))) ∧ (Z5.1 51 1 = sh ∧ (0 < ((Z5.1 ((Z5.1 51 2)) (I4 51 5))) ∧ 0 < ((Z5.1 ((Z5.1 51 2)) x1)) ∧ ((0:Int) ≤ 0 ∧ (0:Int) ≤ 0 ∧ (0:Int) ≤ (I4 sh 1) ∧ (0 : Int) + (I4 sh 1) ≤ Z5.2.1 ((Z5.1 ((Z5.1 51 2)) (I4 51 5))) ∧ (0 : Int) + (I4 sh 1) ≤ Z5.2.1 ((Z5.1 ((Z5.1 51 2)) x1))) ∧ (∀ I13 : cm_I, I13 = iw I4 ((Z5.1 ((Z5.1 51 2)) x1)) (cpyF (I4 ((Z5.1 ((Z5.1 51 2)) (I4 51 5)))) 0 (I4 ((Z5.1 ((Z5.1 51 2)) x1))) 0 (I4 sh 1)) → Q none (I13, Z5))))))))) : cw d cd_Sum_multiplyBy Q 40 [some (vR 10 51), some (vI x1)] [] (I, z) := by
  refine w_aload rfl rfl ?_
  refine m_getI 6 rfl rfl rfl (by decide) ?_
  refine w_if rfl (And.intro (fun hc => ?_) (fun hc => ?_))
  · replace H := H.1 hc
    exact w_return rfl H
  · replace H := H.2 hc
    refine w_aload rfl rfl ?_
    refine n_getR 1 9 rfl rfl rfl rfl (by decide) y_51_1 ?_
    refine w_aload rfl rfl ?_
    refine n_getR 2 23 rfl rfl rfl rfl (by decide) y_51_2 ?_
    refine w_iload rfl rfl ?_
    have o1 := H.1
    replace H := H.2
    refine n_aaload rfl rfl rfl p_q_51_2 rfl o1 (w_q_51_2 x1 o1) ?_
    refine w_aload rfl rfl ?_
    refine n_getR 2 23 rfl rfl rfl rfl (by decide) y_51_2 ?_
    refine w_aload rfl rfl ?_
    refine m_getI 3 rfl rfl rfl (by decide) ?_
    have o2 := H.1
    replace H := H.2
    refine n_aaload rfl rfl rfl p_q_51_2 rfl o2 (w_q_51_2 (I 51 3) o2) ?_
    refine w_aload rfl rfl ?_
    refine n_getR 2 23 rfl rfl rfl rfl (by decide) y_51_2 ?_
    refine w_aload rfl rfl ?_
    refine m_getI 5 rfl rfl rfl (by decide) ?_
    have o3 := H.1
    replace H := H.2
    refine n_aaload rfl rfl rfl p_q_51_2 rfl o3 (w_q_51_2 (I 51 5) o3) ?_
    refine n_callU rfl (fun _ => rfl) rfl (zcU_mono H fun I4 Z5 H => ?_)
    refine w_aload rfl rfl ?_
    refine n_getR 2 23 rfl rfl rfl rfl (by decide) rfl ?_
    refine w_aload rfl rfl ?_
    refine m_getI 5 rfl rfl rfl (by decide) ?_
    have o6 := H.1
    replace H := H.2
    have o7 := H.1
    replace H := H.2
    refine n_aaload rfl rfl rfl o6 rfl o7 rfl ?_
    refine w_iconst rfl ⟨by decide, by decide⟩ ?_
    refine w_aload rfl rfl ?_
    refine n_getR 2 23 rfl rfl rfl rfl (by decide) rfl ?_
    refine w_iload rfl rfl ?_
    have o8 := H.1
    replace H := H.2
    refine n_aaload rfl rfl rfl o6 rfl o8 rfl ?_
    refine w_iconst rfl ⟨by decide, by decide⟩ ?_
    refine w_aload rfl rfl ?_
    have o9 := H.1
    replace H := H.2
    refine n_getR 1 9 rfl rfl rfl rfl (by decide) o9 ?_
    refine m_getI 1 rfl rfl rfl (isSh_pos p_sh) ?_
    have o10 := H.1
    replace H := H.2
    have o11 := H.1
    replace H := H.2
    have o12 := H.1
    replace H := H.2
    refine n_copy rfl rfl o10 o11 rfl rfl o12 (fun I13 eI13 => ?_)
    replace H := H I13 eI13
    exact w_return rfl H
set_option maxHeartbeats 4000000 in
set_option maxRecDepth 100000 in
theorem wr_Sum_multiplyBy {d : Nat} {Q : cm_Q} {z : cm_Z} {I : cm_I} (hz : wz z) {x1 : Int} {sh : Nat} {q_51_2 : Nat} (y_51_1 : z.1 51 1 = sh) (y_51_2 : z.1 51 2 = q_51_2) (p_q_51_2 : 0 < q_51_2) (w_q_51_2 : isRws z q_51_2) (H : ((0:Int) ≤ x1 ∧ x1 < z.2.1 q_51_2) ∧ (mI d m_Shape_degreeOf [vR 9 sh, vR 20 (q_51_2 + 1 + Int.toNat x1)] z I fun v3 I2 => ((0:Int) ≤ (I2 51 3) ∧ (I2 51 3) < z.2.1 q_51_2) ∧ (mI d m_Shape_degreeOf [vR 9 sh, vR 20 (q_51_2 + 1 + Int.toNat (I2 51 3))] z I2 fun v6 I5 => (cm_i (v3 + v6) ∧ (((v3 + v6) ≤ 15 → cw d cd_Sum_multiplyBy Q 40 [some (vR 10 51), some (vI x1)] [] (I5, z)) ∧ (15 < (v3 + v6) → (∀ I8 : cm_I, I8 = iu I5 51 6 1 → cw d cd_Sum_multiplyBy Q 40 [some (vR 10 51), some (vI x1)] [] (I8, z)))))))) : cm_call (d + 1) m_Sum_multiplyBy [vR 10 51, vI x1] (I, z) Q := by
  refine cm_call_in (C := cd_Sum_multiplyBy) (ls := [some (vR 10 51), some (vI x1)]) rfl rfl (show 0 < 51 by decide) rfl ?_
  refine w_aload rfl rfl ?_
  refine n_getR 1 9 rfl rfl rfl rfl (by decide) y_51_1 ?_
  refine w_aload rfl rfl ?_
  refine n_getR 2 23 rfl rfl rfl rfl (by decide) y_51_2 ?_
  refine w_iload rfl rfl ?_
  have o1 := H.1
  replace H := H.2
  refine n_aaload rfl rfl rfl p_q_51_2 rfl o1 (w_q_51_2 x1 o1) ?_
  refine m_callI rfl (fun _ => rfl) rfl (mI_mono H fun v3 I2 H => ?_)
  refine w_aload rfl rfl ?_
  refine n_getR 1 9 rfl rfl rfl rfl (by decide) y_51_1 ?_
  refine w_aload rfl rfl ?_
  refine n_getR 2 23 rfl rfl rfl rfl (by decide) y_51_2 ?_
  refine w_aload rfl rfl ?_
  refine m_getI 3 rfl rfl rfl (by decide) ?_
  have o4 := H.1
  replace H := H.2
  refine n_aaload rfl rfl rfl p_q_51_2 rfl o4 (w_q_51_2 (I2 51 3) o4) ?_
  refine m_callI rfl (fun _ => rfl) rfl (mI_mono H fun v6 I5 H => ?_)
  have o7 := H.1
  replace H := H.2
  refine w_iadd rfl o7 ?_
  refine w_iconst rfl ⟨by decide, by decide⟩ ?_
  refine w_icmp rfl (And.intro (fun hc => ?_) (fun hc => ?_))
  · replace H := H.1 hc
    exact H
  · replace H := H.2 hc
    refine w_aload rfl rfl ?_
    refine w_iconst rfl ⟨by decide, by decide⟩ ?_
    refine m_putZ 6 rfl rfl rfl (by decide) (by decide) (fun I8 eI8 => ?_)
    replace H := H I8 eI8
    exact H
set_option maxHeartbeats 4000000 in
set_option maxRecDepth 100000 in
theorem wr_Sum_raisePart_28 {d : Nat} {Q : cm_Q} {z : cm_Z} {I : cm_I} (hz : wz z) {x1 : Int} {z2 : Option cm_V} {z3 : Option cm_V} {q_51_2 : Nat} (y_51_2 : z.1 51 2 = q_51_2) (p_q_51_2 : 0 < q_51_2) (w_q_51_2 : isRws z q_51_2) (H : (((I 51 6) = 0 → ((0:Int) ≤ (I 51 5) ∧ (I 51 5) < z.2.1 q_51_2) ∧ (mU d m_Arr_fill [vR 20 (q_51_2 + 1 + Int.toNat (I 51 5)), vI 0] z I fun I2 => ((0:Int) ≤ (I2 51 5) ∧ (I2 51 5) < z.2.1 q_51_2) ∧ ((0:Int) ≤ 0 ∧ 0 < z.2.1 ((q_51_2 + 1 + Int.toNat (I2 51 5)))) ∧ (∀ I5 : cm_I, I5 = iu I2 (q_51_2 + 1 + Int.toNat (I2 51 5)) 0 1 → cw d cd_Sum_raisePart Q 63 [some (vR 10 51), some (vI x1), some (vI 0), z3] [] (I5, z)))) ∧ (¬ (I 51 6) = 0 → Q none (I, z)))) : cw d cd_Sum_raisePart Q 28 [some (vR 10 51), some (vI x1), z2, z3] [] (I, z) := by
  refine w_aload rfl rfl ?_
  refine m_getI 6 rfl rfl rfl (by decide) ?_
  refine w_if rfl (And.intro (fun hc => ?_) (fun hc => ?_))
  · replace H := H.1 hc
    refine w_aload rfl rfl ?_
    refine n_getR 2 23 rfl rfl rfl rfl (by decide) y_51_2 ?_
    refine w_aload rfl rfl ?_
    refine m_getI 5 rfl rfl rfl (by decide) ?_
    have o1 := H.1
    replace H := H.2
    refine n_aaload rfl rfl rfl p_q_51_2 rfl o1 (w_q_51_2 (I 51 5) o1) ?_
    refine w_iconst rfl ⟨by decide, by decide⟩ ?_
    refine m_callU rfl (fun _ => rfl) rfl (mU_mono H fun I2 H => ?_)
    refine w_aload rfl rfl ?_
    refine n_getR 2 23 rfl rfl rfl rfl (by decide) y_51_2 ?_
    refine w_aload rfl rfl ?_
    refine m_getI 5 rfl rfl rfl (by decide) ?_
    have o3 := H.1
    replace H := H.2
    refine n_aaload rfl rfl rfl p_q_51_2 rfl o3 (w_q_51_2 (I2 51 5) o3) ?_
    refine w_iconst rfl ⟨by decide, by decide⟩ ?_
    refine w_iconst rfl ⟨by decide, by decide⟩ ?_
    have o4 := H.1
    replace H := H.2
    refine n_iastore rfl (by omega) rfl o4 (fun I5 eI5 => ?_)
    replace H := H I5 eI5
    refine w_iconst rfl ⟨by decide, by decide⟩ ?_
    refine w_istore rfl rfl ?_
    exact H
  · replace H := H.2 hc
    exact w_return rfl H
set_option maxHeartbeats 4000000 in
set_option maxRecDepth 100000 in
theorem wr_Sum_raisePart_63 {d : Nat} {Q : cm_Q} {z : cm_Z} {I : cm_I} (hz : wz z) {x1 : Int} {x2 : Int} {z3 : Option cm_V} {sh : Nat} {q_51_2 : Nat} (y_51_1 : z.1 51 1 = sh) (y_51_2 : z.1 51 2 = q_51_2) (p_q_51_2 : 0 < q_51_2) (w_q_51_2 : isRws z q_51_2) (H : ((x1 ≤ x2 → (∀ I1 : cm_I, I1 = iu I 51 5 (I 51 3) → (∀ I2 : cm_I, I2 = iu I1 51 3 (I 51 5) → Q none (I2, z)))) ∧ (x2 < x1 → (∀ I3 : cm_I, I3 = iu I 51 5 (I 51 4) → (∀ I4 : cm_I, I4 = iu I3 51 4 (I 51 5) → ((0:Int) ≤ (I4 51 3) ∧ (I4 51 3) < z.2.1 q_51_2) ∧ ((0:Int) ≤ (I4 51 4) ∧ (I4 51 4) < z.2.1 q_51_2) ∧ ((0:Int) ≤ (I4 51 5) ∧ (I4 51 5) < z.2.1 q_51_2) ∧ (zcU d m_Shape_multiply [vR 9 sh, vR 20 (q_51_2 + 1 + Int.toNat (I4 51 3)), vR 20 (q_51_2 + 1 + Int.toNat (I4 51 4)), vR 20 (q_51_2 + 1 + Int.toNat (I4 51 5))] z I4 fun I8 Z9 => (cm_i (x2 + 1) ∧ cw d cd_Sum_raisePart Q 63 [some (vR 10 51), some (vI x1), some (vI (x2 + 1)), some (vI (I 51 5))] [] (I8, Z9)))))))) : cw d cd_Sum_raisePart Q 63 [some (vR 10 51), some (vI x1), some (vI x2), z3] [] (I, z) := by
  refine w_iload rfl rfl ?_
  refine w_iload rfl rfl ?_
  refine w_icmp rfl (And.intro (fun hc => ?_) (fun hc => ?_))
  · replace H := H.1 hc
    refine w_aload rfl rfl ?_
    refine m_getI 5 rfl rfl rfl (by decide) ?_
    refine w_istore rfl rfl ?_
    refine w_aload rfl rfl ?_
    refine w_aload rfl rfl ?_
    refine m_getI 3 rfl rfl rfl (by decide) ?_
    refine m_putI 5 rfl rfl rfl (by decide) (fun I1 eI1 => ?_)
    replace H := H I1 eI1
    refine w_aload rfl rfl ?_
    refine w_iload rfl rfl ?_
    refine m_putI 3 rfl rfl rfl (by decide) (fun I2 eI2 => ?_)
    replace H := H I2 eI2
    exact w_return rfl H
  · replace H := H.2 hc
    refine w_aload rfl rfl ?_
    refine m_getI 5 rfl rfl rfl (by decide) ?_
    refine w_istore rfl rfl ?_
    refine w_aload rfl rfl ?_
    refine w_aload rfl rfl ?_
    refine m_getI 4 rfl rfl rfl (by decide) ?_
    refine m_putI 5 rfl rfl rfl (by decide) (fun I3 eI3 => ?_)
    replace H := H I3 eI3
    refine w_aload rfl rfl ?_
    refine w_iload rfl rfl ?_
    refine m_putI 4 rfl rfl rfl (by decide) (fun I4 eI4 => ?_)
    replace H := H I4 eI4
    refine w_aload rfl rfl ?_
    refine n_getR 1 9 rfl rfl rfl rfl (by decide) y_51_1 ?_
    refine w_aload rfl rfl ?_
    refine n_getR 2 23 rfl rfl rfl rfl (by decide) y_51_2 ?_
    refine w_aload rfl rfl ?_
    refine m_getI 3 rfl rfl rfl (by decide) ?_
    have o5 := H.1
    replace H := H.2
    refine n_aaload rfl rfl rfl p_q_51_2 rfl o5 (w_q_51_2 (I4 51 3) o5) ?_
    refine w_aload rfl rfl ?_
    refine n_getR 2 23 rfl rfl rfl rfl (by decide) y_51_2 ?_
    refine w_aload rfl rfl ?_
    refine m_getI 4 rfl rfl rfl (by decide) ?_
    have o6 := H.1
    replace H := H.2
    refine n_aaload rfl rfl rfl p_q_51_2 rfl o6 (w_q_51_2 (I4 51 4) o6) ?_
    refine w_aload rfl rfl ?_
    refine n_getR 2 23 rfl rfl rfl rfl (by decide) y_51_2 ?_
    refine w_aload rfl rfl ?_
    refine m_getI 5 rfl rfl rfl (by decide) ?_
    have o7 := H.1
    replace H := H.2
    refine n_aaload rfl rfl rfl p_q_51_2 rfl o7 (w_q_51_2 (I4 51 5) o7) ?_
    refine n_callU rfl (fun _ => rfl) rfl (zcU_mono H fun I8 Z9 H => ?_)
    have o10 := H.1
    replace H := H.2
    refine w_iinc rfl rfl rfl o10 ?_
    refine w_goto rfl ?_
    exact H
set_option maxHeartbeats 4000000 in
set_option maxRecDepth 100000 in
theorem wr_Sum_raisePart {d : Nat} {Q : cm_Q} {z : cm_Z} {I : cm_I} (hz : wz z) {x1 : Int} {sh : Nat} {q_51_2 : Nat} (y_51_1 : z.1 51 1 = sh) (y_51_2 : z.1 51 2 = q_51_2) (p_q_51_2 : 0 < q_51_2) (w_q_51_2 : isRws z q_51_2) (H : ((0:Int) ≤ (I 51 3) ∧ (I 51 3) < z.2.1 q_51_2) ∧ (mI d m_Shape_degreeOf [vR 9 sh, vR 20 (q_51_2 + 1 + Int.toNat (I 51 3))] z I fun v3 I2 => (cm_i (v3 * x1) ∧ (((v3 * x1) ≤ 15 → cw d cd_Sum_raisePart Q 28 [some (vR 10 51), some (vI x1), none, none] [] (I2, z)) ∧ (15 < (v3 * x1) → (∀ I5 : cm_I, I5 = iu I2 51 6 1 → cw d cd_Sum_raisePart Q 28 [some (vR 10 51), some (vI x1), none, none] [] (I5, z))))))) : cm_call (d + 1) m_Sum_raisePart [vR 10 51, vI x1] (I, z) Q := by
  refine cm_call_in (C := cd_Sum_raisePart) (ls := [some (vR 10 51), some (vI x1), none, none]) rfl rfl (show 0 < 51 by decide) rfl ?_
  refine w_aload rfl rfl ?_
  refine n_getR 1 9 rfl rfl rfl rfl (by decide) y_51_1 ?_
  refine w_aload rfl rfl ?_
  refine n_getR 2 23 rfl rfl rfl rfl (by decide) y_51_2 ?_
  refine w_aload rfl rfl ?_
  refine m_getI 3 rfl rfl rfl (by decide) ?_
  have o1 := H.1
  replace H := H.2
  refine n_aaload rfl rfl rfl p_q_51_2 rfl o1 (w_q_51_2 (I 51 3) o1) ?_
  refine m_callI rfl (fun _ => rfl) rfl (mI_mono H fun v3 I2 H => ?_)
  refine w_iload rfl rfl ?_
  have o4 := H.1
  replace H := H.2
  refine w_imul rfl o4 ?_
  refine w_iconst rfl ⟨by decide, by decide⟩ ?_
  refine w_icmp rfl (And.intro (fun hc => ?_) (fun hc => ?_))
  · replace H := H.1 hc
    exact H
  · replace H := H.2 hc
    refine w_aload rfl rfl ?_
    refine w_iconst rfl ⟨by decide, by decide⟩ ?_
    refine m_putZ 6 rfl rfl rfl (by decide) (by decide) (fun I5 eI5 => ?_)
    replace H := H I5 eI5
    exact H
