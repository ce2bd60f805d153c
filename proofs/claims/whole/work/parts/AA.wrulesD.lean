/-! RULES of the class's methods, its layout put in (wip/whole/genwrules.py): Works -/
set_option maxHeartbeats 4000000 in
set_option maxRecDepth 100000 in
theorem wr_Works_feed {d : Nat} {Q : cm_Q} {z : cm_Z} {I : cm_I} (hz : wz z) {x1 : Int} {x2 : Int} {x3 : Int} {x4 : Int} {x5 : Int}  (H : (cm_i ((I 1 1) + 20) ∧ ((((I 1 1) + 20) ≤ 400 → (mU d m_Works_putBytes [vR 11 1, vI x1] z I fun I2 => (mU d m_Works_putBytes [vR 11 1, vI x2] z I2 fun I3 => (mU d m_Works_putBytes [vR 11 1, vI x3] z I3 fun I4 => (mU d m_Works_putBytes [vR 11 1, vI x4] z I4 fun I5 => (mU d m_Works_putBytes [vR 11 1, vI x5] z I5 fun I6 => Q (some (vI (I6 1 1))) (I6, z))))))) ∧ (400 < ((I 1 1) + 20) → Q (some (vI (-1))) (I, z))))) : cm_call (d + 1) m_Works_feed [vR 11 1, vI x1, vI x2, vI x3, vI x4, vI x5] (I, z) Q := by
  refine cm_call_in (C := cd_Works_feed) (ls := [some (vR 11 1), some (vI x1), some (vI x2), some (vI x3), some (vI x4), some (vI x5)]) rfl rfl (show 0 < 1 by decide) rfl ?_
  refine w_aload rfl rfl ?_
  refine m_getI 1 rfl rfl rfl (by decide) ?_
  refine w_iconst rfl ⟨by decide, by decide⟩ ?_
  have o1 := H.1
  replace H := H.2
  refine w_iadd rfl o1 ?_
  refine w_iconst rfl ⟨by decide, by decide⟩ ?_
  refine w_icmp rfl (And.intro (fun hc => ?_) (fun hc => ?_))
  · replace H := H.1 hc
    refine w_aload rfl rfl ?_
    refine w_iload rfl rfl ?_
    refine m_callU rfl (fun _ => rfl) rfl (mU_mono H fun I2 H => ?_)
    refine w_aload rfl rfl ?_
    refine w_iload rfl rfl ?_
    refine m_callU rfl (fun _ => rfl) rfl (mU_mono H fun I3 H => ?_)
    refine w_aload rfl rfl ?_
    refine w_iload rfl rfl ?_
    refine m_callU rfl (fun _ => rfl) rfl (mU_mono H fun I4 H => ?_)
    refine w_aload rfl rfl ?_
    refine w_iload rfl rfl ?_
    refine m_callU rfl (fun _ => rfl) rfl (mU_mono H fun I5 H => ?_)
    refine w_aload rfl rfl ?_
    refine w_iload rfl rfl ?_
    refine m_callU rfl (fun _ => rfl) rfl (mU_mono H fun I6 H => ?_)
    refine w_aload rfl rfl ?_
    refine m_getI 1 rfl rfl rfl (by decide) ?_
    exact w_ireturn rfl H
  · replace H := H.2 hc
    refine w_iconst rfl ⟨by decide, by decide⟩ ?_
    exact w_ireturn rfl H
set_option maxHeartbeats 4000000 in
set_option maxRecDepth 100000 in
theorem wr_Works_tables_125 {d : Nat} {Q : cm_Q} {z : cm_Z} {I : cm_I} (hz : wz z) {z1 : Option cm_V} {z2 : Option cm_V} {x3 : Int} {mb : Nat} (p_mb : isMb mb) (H : ((6 ≤ x3 → (zcU d m_Works_startAgain [vR 11 1] z I fun I1 Z2 => (Z2.1 1 7 = mb ∧ Q (some (vI (I1 mb 2))) (I1, Z2)))) ∧ (x3 < 6 → ((0:Int) ≤ x3 ∧ x3 < 6) ∧ (mU d m_Arr_fill [vR 20 (4 + Int.toNat x3), vI 0] z I fun I5 => (cm_i (x3 + 1) ∧ cw d cd_Works_tables Q 125 [some (vR 11 1), z1, z2, some (vI (x3 + 1))] [] (I5, z)))))) : cw d cd_Works_tables Q 125 [some (vR 11 1), z1, z2, some (vI x3)] [] (I, z) := by
  refine w_iload rfl rfl ?_
  refine w_iconst rfl ⟨by decide, by decide⟩ ?_
  refine w_icmp rfl (And.intro (fun hc => ?_) (fun hc => ?_))
  · replace H := H.1 hc
    refine w_aload rfl rfl ?_
    refine n_callU rfl (fun _ => rfl) rfl (zcU_mono H fun I1 Z2 H => ?_)
    refine w_aload rfl rfl ?_
    have o3 := H.1
    replace H := H.2
    refine n_getR 7 3 rfl rfl rfl rfl (by decide) o3 ?_
    refine m_getI 2 rfl rfl rfl (isMb_pos p_mb) ?_
    exact w_ireturn rfl H
  · replace H := H.2 hc
    refine w_aload rfl rfl ?_
    refine n_getR 2 23 rfl rfl rfl rfl (by decide) (wz_R hz 1 2 3 rfl (by decide)) ?_
    refine w_iload rfl rfl ?_
    have o4 := H.1
    replace H := H.2
    refine n_aaload rfl rfl rfl (by decide) (wz_L hz 3 6 rfl (by decide)) o4 (wz_kept hz o4) ?_
    refine w_iconst rfl ⟨by decide, by decide⟩ ?_
    refine m_callU rfl (fun _ => rfl) rfl (mU_mono H fun I5 H => ?_)
    have o6 := H.1
    replace H := H.2
    refine w_iinc rfl rfl rfl o6 ?_
    refine w_goto rfl ?_
    exact H
set_option maxHeartbeats 4000000 in
set_option maxRecDepth 100000 in
theorem wr_Works_tables {d : Nat} {Q : cm_Q} {z : cm_Z} {I : cm_I} (hz : wz z) {x1 : Int} {sp : Nat} {mb : Nat} (y_1_8 : z.1 1 8 = sp) (y_1_7 : z.1 1 7 = mb) (p_mb : isMb mb) (H : ((x1 < 0 → Q (some (vI (-1))) (I, z)) ∧ (0 ≤ x1 → ((x1 ≤ (I 1 1) → (∀ I1 : cm_I, I1 = iu I 1 1 0 → (mU d m_Reader_open [vR 7 49, vI x1] z I1 fun I2 => (mI d m_Reader_readTables [vR 7 49, vR 3 sp] z I2 fun v4 I3 => ((¬ v4 = 0 → (mI d m_Members_grow [vR 3 sp] z I3 fun v6 I5 => ((¬ v6 = 0 → (∀ Z7 : cm_Z, Z7 = zr z 1 7 sp → (∀ Z8 : cm_Z, Z8 = zr Z7 1 8 mb → (Z8.1 1 7 = mb ∧ (((I5 mb 0) = (I5 mb 0) → (zcU d m_Works_startAgain [vR 11 1] Z8 I5 fun I10 Z11 => (Z11.1 1 7 = mb ∧ Q (some (vI (I10 mb 2))) (I10, Z11)))) ∧ (¬ (I5 mb 0) = (I5 mb 0) → ((¬ (I5 mb 0) = 3 → (wz Z8 ∧ (∀ Z14 : cm_Z, Z14 = zr Z8 1 6 11 → cw d cd_Works_tables Q 125 [some (vR 11 1), some (vI x1), some (vR 3 mb), some (vI 0)] [] (I5, Z14)))) ∧ ((I5 mb 0) = 3 → (wz Z8 ∧ (∀ Z16 : cm_Z, Z16 = zr Z8 1 6 20 → cw d cd_Works_tables Q 125 [some (vR 11 1), some (vI x1), some (vR 3 mb), some (vI 0)] [] (I5, Z16))))))))))) ∧ (v6 = 0 → Q (some (vI (-6))) (I5, z))))) ∧ (v4 = 0 → (cm_i ((-2) - (I3 49 8)) ∧ Q (some (vI ((-2) - (I3 49 8)))) (I3, z)))))))) ∧ ((I 1 1) < x1 → Q (some (vI (-1))) (I, z)))))) : cm_call (d + 1) m_Works_tables [vR 11 1, vI x1] (I, z) Q := by
  refine cm_call_in (C := cd_Works_tables) (ls := [some (vR 11 1), some (vI x1), none, none]) rfl rfl (show 0 < 1 by decide) rfl ?_
  refine w_iload rfl rfl ?_
  refine w_if rfl (And.intro (fun hc => ?_) (fun hc => ?_))
  · replace H := H.1 hc
    refine w_iconst rfl ⟨by decide, by decide⟩ ?_
    exact w_ireturn rfl H
  · replace H := H.2 hc
    refine w_iload rfl rfl ?_
    refine w_aload rfl rfl ?_
    refine m_getI 1 rfl rfl rfl (by decide) ?_
    refine w_icmp rfl (And.intro (fun hc => ?_) (fun hc => ?_))
    · replace H := H.1 hc
      refine w_aload rfl rfl ?_
      refine w_iconst rfl ⟨by decide, by decide⟩ ?_
      refine m_putI 1 rfl rfl rfl (by decide) (fun I1 eI1 => ?_)
      replace H := H I1 eI1
      refine w_aload rfl rfl ?_
      refine n_getR 9 7 rfl rfl rfl rfl (by decide) (wz_R hz 1 9 49 rfl (by decide)) ?_
      refine w_iload rfl rfl ?_
      refine m_callU rfl (fun _ => rfl) rfl (mU_mono H fun I2 H => ?_)
      refine w_aload rfl rfl ?_
      refine n_getR 9 7 rfl rfl rfl rfl (by decide) (wz_R hz 1 9 49 rfl (by decide)) ?_
      refine w_aload rfl rfl ?_
      refine n_getR 8 3 rfl rfl rfl rfl (by decide) y_1_8 ?_
      refine m_callI rfl (fun _ => rfl) rfl (mI_mono H fun v4 I3 H => ?_)
      refine w_if rfl (And.intro (fun hc => ?_) (fun hc => ?_))
      · replace H := H.1 hc
        refine w_aload rfl rfl ?_
        refine n_getR 8 3 rfl rfl rfl rfl (by decide) y_1_8 ?_
        refine m_callI rfl (fun _ => rfl) rfl (mI_mono H fun v6 I5 H => ?_)
        refine w_if rfl (And.intro (fun hc => ?_) (fun hc => ?_))
        · replace H := H.1 hc
          refine w_aload rfl rfl ?_
          refine n_getR 7 3 rfl rfl rfl rfl (by decide) y_1_7 ?_
          refine w_astore rfl rfl ?_
          refine w_aload rfl rfl ?_
          refine w_aload rfl rfl ?_
          refine n_getR 8 3 rfl rfl rfl rfl (by decide) y_1_8 ?_
          refine n_putR 7 rfl rfl rfl rfl (by decide) (fun Z7 eZ7 => ?_)
          replace H := H Z7 eZ7
          refine w_aload rfl rfl ?_
          refine w_aload rfl rfl ?_
          refine n_putR 8 rfl rfl rfl rfl (by decide) (fun Z8 eZ8 => ?_)
          replace H := H Z8 eZ8
          refine w_aload rfl rfl ?_
          have o9 := H.1
          replace H := H.2
          refine n_getR 7 3 rfl rfl rfl rfl (by decide) o9 ?_
          refine m_getI 0 rfl rfl rfl (isMb_pos p_mb) ?_
          refine w_aload rfl rfl ?_
          refine m_getI 0 rfl rfl rfl (isMb_pos p_mb) ?_
          refine w_icmp rfl (And.intro (fun hc => ?_) (fun hc => ?_))
          · replace H := H.1 hc
            refine w_aload rfl rfl ?_
            refine n_callU rfl (fun _ => rfl) rfl (zcU_mono H fun I10 Z11 H => ?_)
            refine w_aload rfl rfl ?_
            have o12 := H.1
            replace H := H.2
            refine n_getR 7 3 rfl rfl rfl rfl (by decide) o12 ?_
            refine m_getI 2 rfl rfl rfl (isMb_pos p_mb) ?_
            exact w_ireturn rfl H
          · replace H := H.2 hc
            refine w_aload rfl rfl ?_
            refine w_aload rfl rfl ?_
            refine n_getR 7 3 rfl rfl rfl rfl (by decide) o9 ?_
            refine m_getI 0 rfl rfl rfl (isMb_pos p_mb) ?_
            refine w_iconst rfl ⟨by decide, by decide⟩ ?_
            refine w_icmp rfl (And.intro (fun hc => ?_) (fun hc => ?_))
            · replace H := H.1 hc
              refine w_aload rfl rfl ?_
              have o13 := H.1
              replace H := H.2
              refine n_getR 4 9 rfl rfl rfl rfl (by decide) (wz_R o13 1 4 11 rfl (by decide)) ?_
              refine n_putR 6 rfl rfl rfl rfl (by decide) (fun Z14 eZ14 => ?_)
              replace H := H Z14 eZ14
              refine w_iconst rfl ⟨by decide, by decide⟩ ?_
              refine w_istore rfl rfl ?_
              exact H
            · replace H := H.2 hc
              refine w_aload rfl rfl ?_
              have o15 := H.1
              replace H := H.2
              refine n_getR 5 9 rfl rfl rfl rfl (by decide) (wz_R o15 1 5 20 rfl (by decide)) ?_
              refine w_goto rfl ?_
              refine n_putR 6 rfl rfl rfl rfl (by decide) (fun Z16 eZ16 => ?_)
              replace H := H Z16 eZ16
              refine w_iconst rfl ⟨by decide, by decide⟩ ?_
              refine w_istore rfl rfl ?_
              exact H
        · replace H := H.2 hc
          refine w_iconst rfl ⟨by decide, by decide⟩ ?_
          exact w_ireturn rfl H
      · replace H := H.2 hc
        refine w_iconst rfl ⟨by decide, by decide⟩ ?_
        refine w_aload rfl rfl ?_
        refine n_getR 9 7 rfl rfl rfl rfl (by decide) (wz_R hz 1 9 49 rfl (by decide)) ?_
        refine m_getI 8 rfl rfl rfl (by decide) ?_
        have o17 := H.1
        replace H := H.2
        refine w_isub rfl o17 ?_
        exact w_ireturn rfl H
    · replace H := H.2 hc
      refine w_iconst rfl ⟨by decide, by decide⟩ ?_
      exact w_ireturn rfl H
set_option maxHeartbeats 4000000 in
set_option maxRecDepth 100000 in
theorem wr_Works_polynomial {d : Nat} {Q : cm_Q} {z : cm_Z} {I : cm_I} (hz : wz z) {x1 : Int} {x2 : Int} {sh : Nat} (y_1_6 : z.1 1 6 = sh) (p_sh : isSh sh) (H : (mI d m_Works_isKept [vI x1] z I fun v2 I1 => ((v2 = 0 → Q (some (vI (-1))) (I1, z)) ∧ (¬ v2 = 0 → ((x2 < 0 → Q (some (vI (-1))) (I1, z)) ∧ (0 ≤ x2 → ((x2 ≤ (I1 1 1) → (∀ I3 : cm_I, I3 = iu I1 1 1 0 → (mU d m_Reader_open [vR 7 49, vI x2] z I3 fun I4 => (zcA d m_Sum_readAll [vR 10 51, vR 9 sh] z I4 20 fun v7 I5 Z6 => (wz Z6 ∧ (((I5 49 8) = 0 → ((0:Int) ≤ x1 ∧ x1 < 6) ∧ (Z6.1 1 6 = sh ∧ (0 < v7 ∧ ((0:Int) ≤ 0 ∧ (0:Int) ≤ 0 ∧ (0:Int) ≤ (I5 sh 1) ∧ (0 : Int) + (I5 sh 1) ≤ Z6.2.1 v7 ∧ (0 : Int) + (I5 sh 1) ≤ 816) ∧ (∀ I13 : cm_I, I13 = iw I5 ((4 + Int.toNat x1)) (cpyF (I5 v7) 0 (I5 ((4 + Int.toNat x1))) 0 (I5 sh 1)) → (mI d m_Shape_degreeOf [vR 9 sh, vR 20 (4 + Int.toNat x1)] Z6 I13 fun v15 I14 => Q (some (vI v15)) (I14, Z6)))))) ∧ (¬ (I5 49 8) = 0 → (cm_i ((-2) - (I5 49 8)) ∧ Q (some (vI ((-2) - (I5 49 8)))) (I5, Z6))))))))) ∧ ((I1 1 1) < x2 → Q (some (vI (-1))) (I1, z))))))))) : cm_call (d + 1) m_Works_polynomial [vR 11 1, vI x1, vI x2] (I, z) Q := by
  refine cm_call_in (C := cd_Works_polynomial) (ls := [some (vR 11 1), some (vI x1), some (vI x2), none]) rfl rfl (show 0 < 1 by decide) rfl ?_
  refine w_iload rfl rfl ?_
  refine m_callI rfl (fun _ => rfl) rfl (mI_mono H fun v2 I1 H => ?_)
  refine w_if rfl (And.intro (fun hc => ?_) (fun hc => ?_))
  · replace H := H.1 hc
    refine w_iconst rfl ⟨by decide, by decide⟩ ?_
    exact w_ireturn rfl H
  · replace H := H.2 hc
    refine w_iload rfl rfl ?_
    refine w_if rfl (And.intro (fun hc => ?_) (fun hc => ?_))
    · replace H := H.1 hc
      refine w_iconst rfl ⟨by decide, by decide⟩ ?_
      exact w_ireturn rfl H
    · replace H := H.2 hc
      refine w_iload rfl rfl ?_
      refine w_aload rfl rfl ?_
      refine m_getI 1 rfl rfl rfl (by decide) ?_
      refine w_icmp rfl (And.intro (fun hc => ?_) (fun hc => ?_))
      · replace H := H.1 hc
        refine w_aload rfl rfl ?_
        refine w_iconst rfl ⟨by decide, by decide⟩ ?_
        refine m_putI 1 rfl rfl rfl (by decide) (fun I3 eI3 => ?_)
        replace H := H I3 eI3
        refine w_aload rfl rfl ?_
        refine n_getR 9 7 rfl rfl rfl rfl (by decide) (wz_R hz 1 9 49 rfl (by decide)) ?_
        refine w_iload rfl rfl ?_
        refine m_callU rfl (fun _ => rfl) rfl (mU_mono H fun I4 H => ?_)
        refine w_aload rfl rfl ?_
        refine n_getR 10 10 rfl rfl rfl rfl (by decide) (wz_R hz 1 10 51 rfl (by decide)) ?_
        refine w_aload rfl rfl ?_
        refine n_getR 6 9 rfl rfl rfl rfl (by decide) y_1_6 ?_
        refine n_callA rfl (fun _ => rfl) rfl (zcA_mono H fun v7 I5 Z6 H => ?_)
        refine w_astore rfl rfl ?_
        refine w_aload rfl rfl ?_
        have o8 := H.1
        replace H := H.2
        refine n_getR 9 7 rfl rfl rfl rfl (by decide) (wz_R o8 1 9 49 rfl (by decide)) ?_
        refine m_getI 8 rfl rfl rfl (by decide) ?_
        refine w_if rfl (And.intro (fun hc => ?_) (fun hc => ?_))
        · replace H := H.1 hc
          refine w_aload rfl rfl ?_
          refine w_iconst rfl ⟨by decide, by decide⟩ ?_
          refine w_aload rfl rfl ?_
          refine n_getR 2 23 rfl rfl rfl rfl (by decide) (wz_R o8 1 2 3 rfl (by decide)) ?_
          refine w_iload rfl rfl ?_
          have o9 := H.1
          replace H := H.2
          refine n_aaload rfl rfl rfl (by decide) (wz_L o8 3 6 rfl (by decide)) o9 (wz_kept o8 o9) ?_
          refine w_iconst rfl ⟨by decide, by decide⟩ ?_
          refine w_aload rfl rfl ?_
          have o10 := H.1
          replace H := H.2
          refine n_getR 6 9 rfl rfl rfl rfl (by decide) o10 ?_
          refine m_getI 1 rfl rfl rfl (isSh_pos p_sh) ?_
          have o11 := H.1
          replace H := H.2
          have o12 := H.1
          replace H := H.2
          refine n_copy rfl rfl o11 (by omega) rfl (wz_keptL o8 o9) o12 (fun I13 eI13 => ?_)
          replace H := H I13 eI13
          refine w_aload rfl rfl ?_
          refine n_getR 6 9 rfl rfl rfl rfl (by decide) o10 ?_
          refine w_aload rfl rfl ?_
          refine n_getR 2 23 rfl rfl rfl rfl (by decide) (wz_R o8 1 2 3 rfl (by decide)) ?_
          refine w_iload rfl rfl ?_
          refine n_aaload rfl rfl rfl (by decide) (wz_L o8 3 6 rfl (by decide)) o9 (wz_kept o8 o9) ?_
          refine m_callI rfl (fun _ => rfl) rfl (mI_mono H fun v15 I14 H => ?_)
          exact w_ireturn rfl H
        · replace H := H.2 hc
          refine w_iconst rfl ⟨by decide, by decide⟩ ?_
          refine w_aload rfl rfl ?_
          refine n_getR 9 7 rfl rfl rfl rfl (by decide) (wz_R o8 1 9 49 rfl (by decide)) ?_
          refine m_getI 8 rfl rfl rfl (by decide) ?_
          have o16 := H.1
          replace H := H.2
          refine w_isub rfl o16 ?_
          exact w_ireturn rfl H
      · replace H := H.2 hc
        refine w_iconst rfl ⟨by decide, by decide⟩ ?_
        exact w_ireturn rfl H
set_option maxHeartbeats 4000000 in
set_option maxRecDepth 100000 in
theorem wr_Works_group {d : Nat} {Q : cm_Q} {z : cm_Z} {I : cm_I} (hz : wz z) {x1 : Int} {mb : Nat} (y_1_7 : z.1 1 7 = mb) (p_mb : isMb mb) (H : ((x1 = 0 → Q (some (vI (I mb 2))) (I, z)) ∧ (¬ x1 = 0 → ((x1 = 1 → Q (some (vI (I mb 0))) (I, z)) ∧ (¬ x1 = 1 → ((x1 = 2 → Q (some (vI (I mb 1))) (I, z)) ∧ (¬ x1 = 2 → ((x1 = 3 → (mI d m_Members_lots [vR 3 mb] z I fun v2 I1 => Q (some (vI v2)) (I1, z))) ∧ (¬ x1 = 3 → ((x1 = 4 → (mI d m_Members_commonPower [vR 3 mb] z I fun v4 I3 => Q (some (vI v4)) (I3, z))) ∧ (¬ x1 = 4 → ((x1 = 5 → (mI d m_Members_isEitherOrder [vR 3 mb] z I fun v6 I5 => ((v6 = 0 → Q (some (vI 0)) (I5, z)) ∧ (¬ v6 = 0 → Q (some (vI 1)) (I5, z))))) ∧ (¬ x1 = 5 → Q (some (vI (-1))) (I, z)))))))))))))) : cm_call (d + 1) m_Works_group [vR 11 1, vI x1] (I, z) Q := by
  refine cm_call_in (C := cd_Works_group) (ls := [some (vR 11 1), some (vI x1)]) rfl rfl (show 0 < 1 by decide) rfl ?_
  refine w_iload rfl rfl ?_
  refine w_switch rfl ?_
  refine And.intro (fun hc => ?_) (fun hc => ?_)
  · replace H := H.1 hc
    show cw _ _ _ 40 _ _ _
    refine w_aload rfl rfl ?_
    refine n_getR 7 3 rfl rfl rfl rfl (by decide) y_1_7 ?_
    refine m_getI 2 rfl rfl rfl (isMb_pos p_mb) ?_
    exact w_ireturn rfl H
  · replace H := H.2 hc
    refine And.intro (fun hc => ?_) (fun hc => ?_)
    · replace H := H.1 hc
      show cw _ _ _ 48 _ _ _
      refine w_aload rfl rfl ?_
      refine n_getR 7 3 rfl rfl rfl rfl (by decide) y_1_7 ?_
      refine m_getI 0 rfl rfl rfl (isMb_pos p_mb) ?_
      exact w_ireturn rfl H
    · replace H := H.2 hc
      refine And.intro (fun hc => ?_) (fun hc => ?_)
      · replace H := H.1 hc
        show cw _ _ _ 56 _ _ _
        refine w_aload rfl rfl ?_
        refine n_getR 7 3 rfl rfl rfl rfl (by decide) y_1_7 ?_
        refine m_getI 1 rfl rfl rfl (isMb_pos p_mb) ?_
        exact w_ireturn rfl H
      · replace H := H.2 hc
        refine And.intro (fun hc => ?_) (fun hc => ?_)
        · replace H := H.1 hc
          show cw _ _ _ 64 _ _ _
          refine w_aload rfl rfl ?_
          refine n_getR 7 3 rfl rfl rfl rfl (by decide) y_1_7 ?_
          refine m_callI rfl (fun _ => rfl) rfl (mI_mono H fun v2 I1 H => ?_)
          exact w_ireturn rfl H
        · replace H := H.2 hc
          refine And.intro (fun hc => ?_) (fun hc => ?_)
          · replace H := H.1 hc
            show cw _ _ _ 72 _ _ _
            refine w_aload rfl rfl ?_
            refine n_getR 7 3 rfl rfl rfl rfl (by decide) y_1_7 ?_
            refine m_callI rfl (fun _ => rfl) rfl (mI_mono H fun v4 I3 H => ?_)
            exact w_ireturn rfl H
          · replace H := H.2 hc
            refine And.intro (fun hc => ?_) (fun hc => ?_)
            · replace H := H.1 hc
              show cw _ _ _ 80 _ _ _
              refine w_aload rfl rfl ?_
              refine n_getR 7 3 rfl rfl rfl rfl (by decide) y_1_7 ?_
              refine m_callI rfl (fun _ => rfl) rfl (mI_mono H fun v6 I5 H => ?_)
              refine w_if rfl (And.intro (fun hc => ?_) (fun hc => ?_))
              · replace H := H.1 hc
                refine w_iconst rfl ⟨by decide, by decide⟩ ?_
                exact w_ireturn rfl H
              · replace H := H.2 hc
                refine w_iconst rfl ⟨by decide, by decide⟩ ?_
                refine w_goto rfl ?_
                exact w_ireturn rfl H
            · replace H := H.2 hc
              show cw _ _ _ 96 _ _ _
              refine w_iconst rfl ⟨by decide, by decide⟩ ?_
              exact w_ireturn rfl H
set_option maxHeartbeats 4000000 in
set_option maxRecDepth 100000 in
theorem wr_Works_member {d : Nat} {Q : cm_Q} {z : cm_Z} {I : cm_I} (hz : wz z) {x1 : Int} {x2 : Int} {x3 : Int} {mb : Nat} (y_1_7 : z.1 1 7 = mb) (p_mb : isMb mb) (H : (mI d m_Works_isMember [vR 11 1, vI x1] z I fun v2 I1 => ((v2 = 0 → Q (some (vI (-1))) (I1, z)) ∧ (¬ v2 = 0 → ((x2 < 0 → Q (some (vI (-1))) (I1, z)) ∧ (0 ≤ x2 → (((I mb 0) ≤ x2 → Q (some (vI (-1))) (I1, z)) ∧ (x2 < (I mb 0) → ((x3 < 0 → Q (some (vI (-1))) (I1, z)) ∧ (0 ≤ x3 → ((x3 < (I mb 0) → (cm_i (9 * x1) ∧ (cm_i ((I mb 0) * x2) ∧ (cm_i ((9 * x1) + ((I mb 0) * x2)) ∧ (cm_i (((9 * x1) + ((I mb 0) * x2)) + x3) ∧ ((0:Int) ≤ (((9 * x1) + ((I mb 0) * x2)) + x3) ∧ (((9 * x1) + ((I mb 0) * x2)) + x3) < 432) ∧ Q (some (vI (I1 (mb + 2) (((9 * x1) + ((I mb 0) * x2)) + x3)))) (I1, z)))))) ∧ ((I mb 0) ≤ x3 → Q (some (vI (-1))) (I1, z))))))))))))) : cm_call (d + 1) m_Works_member [vR 11 1, vI x1, vI x2, vI x3] (I, z) Q := by
  refine cm_call_in (C := cd_Works_member) (ls := [some (vR 11 1), some (vI x1), some (vI x2), some (vI x3), none]) rfl rfl (show 0 < 1 by decide) rfl ?_
  refine w_aload rfl rfl ?_
  refine n_getR 7 3 rfl rfl rfl rfl (by decide) y_1_7 ?_
  refine m_getI 0 rfl rfl rfl (isMb_pos p_mb) ?_
  refine w_istore rfl rfl ?_
  refine w_aload rfl rfl ?_
  refine w_iload rfl rfl ?_
  refine m_callI rfl (fun _ => rfl) rfl (mI_mono H fun v2 I1 H => ?_)
  refine w_if rfl (And.intro (fun hc => ?_) (fun hc => ?_))
  · replace H := H.1 hc
    refine w_iconst rfl ⟨by decide, by decide⟩ ?_
    exact w_ireturn rfl H
  · replace H := H.2 hc
    refine w_iload rfl rfl ?_
    refine w_if rfl (And.intro (fun hc => ?_) (fun hc => ?_))
    · replace H := H.1 hc
      refine w_iconst rfl ⟨by decide, by decide⟩ ?_
      exact w_ireturn rfl H
    · replace H := H.2 hc
      refine w_iload rfl rfl ?_
      refine w_iload rfl rfl ?_
      refine w_icmp rfl (And.intro (fun hc => ?_) (fun hc => ?_))
      · replace H := H.1 hc
        refine w_iconst rfl ⟨by decide, by decide⟩ ?_
        exact w_ireturn rfl H
      · replace H := H.2 hc
        refine w_iload rfl rfl ?_
        refine w_if rfl (And.intro (fun hc => ?_) (fun hc => ?_))
        · replace H := H.1 hc
          refine w_iconst rfl ⟨by decide, by decide⟩ ?_
          exact w_ireturn rfl H
        · replace H := H.2 hc
          refine w_iload rfl rfl ?_
          refine w_iload rfl rfl ?_
          refine w_icmp rfl (And.intro (fun hc => ?_) (fun hc => ?_))
          · replace H := H.1 hc
            refine w_aload rfl rfl ?_
            refine n_getR 7 3 rfl rfl rfl rfl (by decide) y_1_7 ?_
            refine n_getR 4 20 rfl rfl rfl rfl (isMb_pos p_mb) (wz_mb4 hz p_mb) ?_
            refine w_iconst rfl ⟨by decide, by decide⟩ ?_
            refine w_iload rfl rfl ?_
            have o3 := H.1
            replace H := H.2
            refine w_imul rfl o3 ?_
            refine w_iload rfl rfl ?_
            refine w_iload rfl rfl ?_
            have o4 := H.1
            replace H := H.2
            refine w_imul rfl o4 ?_
            have o5 := H.1
            replace H := H.2
            refine w_iadd rfl o5 ?_
            refine w_iload rfl rfl ?_
            have o6 := H.1
            replace H := H.2
            refine w_iadd rfl o6 ?_
            have o7 := H.1
            replace H := H.2
            refine n_iaload rfl (Nat.add_pos_right _ (by decide)) (wz_mbL2 hz p_mb) o7 ?_
            exact w_ireturn rfl H
          · replace H := H.2 hc
            refine w_iconst rfl ⟨by decide, by decide⟩ ?_
            exact w_ireturn rfl H
set_option maxHeartbeats 4000000 in
set_option maxRecDepth 100000 in
theorem wr_Works_times {d : Nat} {Q : cm_Q} {z : cm_Z} {I : cm_I} (hz : wz z) {x1 : Int} {x2 : Int} {mb : Nat} (y_1_7 : z.1 1 7 = mb) (p_mb : isMb mb) (H : (mI d m_Works_isMember [vR 11 1, vI x1] z I fun v2 I1 => ((v2 = 0 → Q (some (vI (-1))) (I1, z)) ∧ (¬ v2 = 0 → (mI d m_Works_isMember [vR 11 1, vI x2] z I1 fun v4 I3 => ((¬ v4 = 0 → (cm_i (48 * x1) ∧ (cm_i ((48 * x1) + x2) ∧ ((0:Int) ≤ ((48 * x1) + x2) ∧ ((48 * x1) + x2) < 2304) ∧ Q (some (vI (I3 (mb + 4) ((48 * x1) + x2)))) (I3, z)))) ∧ (v4 = 0 → Q (some (vI (-1))) (I3, z)))))))) : cm_call (d + 1) m_Works_times [vR 11 1, vI x1, vI x2] (I, z) Q := by
  refine cm_call_in (C := cd_Works_times) (ls := [some (vR 11 1), some (vI x1), some (vI x2)]) rfl rfl (show 0 < 1 by decide) rfl ?_
  refine w_aload rfl rfl ?_
  refine w_iload rfl rfl ?_
  refine m_callI rfl (fun _ => rfl) rfl (mI_mono H fun v2 I1 H => ?_)
  refine w_if rfl (And.intro (fun hc => ?_) (fun hc => ?_))
  · replace H := H.1 hc
    refine w_iconst rfl ⟨by decide, by decide⟩ ?_
    exact w_ireturn rfl H
  · replace H := H.2 hc
    refine w_aload rfl rfl ?_
    refine w_iload rfl rfl ?_
    refine m_callI rfl (fun _ => rfl) rfl (mI_mono H fun v4 I3 H => ?_)
    refine w_if rfl (And.intro (fun hc => ?_) (fun hc => ?_))
    · replace H := H.1 hc
      refine w_aload rfl rfl ?_
      refine n_getR 7 3 rfl rfl rfl rfl (by decide) y_1_7 ?_
      refine n_getR 6 20 rfl rfl rfl rfl (isMb_pos p_mb) (wz_mb6 hz p_mb) ?_
      refine w_iconst rfl ⟨by decide, by decide⟩ ?_
      refine w_iload rfl rfl ?_
      have o5 := H.1
      replace H := H.2
      refine w_imul rfl o5 ?_
      refine w_iload rfl rfl ?_
      have o6 := H.1
      replace H := H.2
      refine w_iadd rfl o6 ?_
      have o7 := H.1
      replace H := H.2
      refine n_iaload rfl (Nat.add_pos_right _ (by decide)) (wz_mbL4 hz p_mb) o7 ?_
      exact w_ireturn rfl H
    · replace H := H.2 hc
      refine w_iconst rfl ⟨by decide, by decide⟩ ?_
      exact w_ireturn rfl H
set_option maxHeartbeats 4000000 in
set_option maxRecDepth 100000 in
theorem wr_Works_about {d : Nat} {Q : cm_Q} {z : cm_Z} {I : cm_I} (hz : wz z) {x1 : Int} {x2 : Int} {mb : Nat} (y_1_7 : z.1 1 7 = mb) (p_mb : isMb mb) (H : (mI d m_Works_isMember [vR 11 1, vI x1] z I fun v2 I1 => ((¬ v2 = 0 → ((x2 = 0 → ((0:Int) ≤ x1 ∧ x1 < 48) ∧ Q (some (vI (I1 (mb + 5) x1))) (I1, z)) ∧ (¬ x2 = 0 → ((x2 = 1 → ((0:Int) ≤ x1 ∧ x1 < 48) ∧ Q (some (vI (I1 (mb + 6) x1))) (I1, z)) ∧ (¬ x2 = 1 → ((x2 = 2 → (cm_i (9 * x1) ∧ (mI d m_Works_determinant [vR 20 (mb + 2), vI (9 * x1), vI (I1 mb 0)] z I1 fun v7 I6 => Q (some (vI v7)) (I6, z)))) ∧ (¬ x2 = 2 → ((x2 = 3 → (mI d m_Members_trace [vR 3 mb, vI x1] z I1 fun v9 I8 => Q (some (vI v9)) (I8, z))) ∧ (¬ x2 = 3 → Q (some (vI (-1))) (I1, z)))))))))) ∧ (v2 = 0 → Q (some (vI (-1))) (I1, z))))) : cm_call (d + 1) m_Works_about [vR 11 1, vI x1, vI x2] (I, z) Q := by
  refine cm_call_in (C := cd_Works_about) (ls := [some (vR 11 1), some (vI x1), some (vI x2)]) rfl rfl (show 0 < 1 by decide) rfl ?_
  refine w_aload rfl rfl ?_
  refine w_iload rfl rfl ?_
  refine m_callI rfl (fun _ => rfl) rfl (mI_mono H fun v2 I1 H => ?_)
  refine w_if rfl (And.intro (fun hc => ?_) (fun hc => ?_))
  · replace H := H.1 hc
    refine w_iload rfl rfl ?_
    refine w_switch rfl ?_
    refine And.intro (fun hc => ?_) (fun hc => ?_)
    · replace H := H.1 hc
      show cw _ _ _ 40 _ _ _
      refine w_aload rfl rfl ?_
      refine n_getR 7 3 rfl rfl rfl rfl (by decide) y_1_7 ?_
      refine n_getR 7 20 rfl rfl rfl rfl (isMb_pos p_mb) (wz_mb7 hz p_mb) ?_
      refine w_iload rfl rfl ?_
      have o3 := H.1
      replace H := H.2
      refine n_iaload rfl (Nat.add_pos_right _ (by decide)) (wz_mbL5 hz p_mb) o3 ?_
      exact w_ireturn rfl H
    · replace H := H.2 hc
      refine And.intro (fun hc => ?_) (fun hc => ?_)
      · replace H := H.1 hc
        show cw _ _ _ 50 _ _ _
        refine w_aload rfl rfl ?_
        refine n_getR 7 3 rfl rfl rfl rfl (by decide) y_1_7 ?_
        refine n_getR 8 20 rfl rfl rfl rfl (isMb_pos p_mb) (wz_mb8 hz p_mb) ?_
        refine w_iload rfl rfl ?_
        have o4 := H.1
        replace H := H.2
        refine n_iaload rfl (Nat.add_pos_right _ (by decide)) (wz_mbL6 hz p_mb) o4 ?_
        exact w_ireturn rfl H
      · replace H := H.2 hc
        refine And.intro (fun hc => ?_) (fun hc => ?_)
        · replace H := H.1 hc
          show cw _ _ _ 60 _ _ _
          refine w_aload rfl rfl ?_
          refine n_getR 7 3 rfl rfl rfl rfl (by decide) y_1_7 ?_
          refine n_getR 4 20 rfl rfl rfl rfl (isMb_pos p_mb) (wz_mb4 hz p_mb) ?_
          refine w_iconst rfl ⟨by decide, by decide⟩ ?_
          refine w_iload rfl rfl ?_
          have o5 := H.1
          replace H := H.2
          refine w_imul rfl o5 ?_
          refine w_aload rfl rfl ?_
          refine n_getR 7 3 rfl rfl rfl rfl (by decide) y_1_7 ?_
          refine m_getI 0 rfl rfl rfl (isMb_pos p_mb) ?_
          refine m_callI rfl (fun _ => rfl) rfl (mI_mono H fun v7 I6 H => ?_)
          exact w_ireturn rfl H
        · replace H := H.2 hc
          refine And.intro (fun hc => ?_) (fun hc => ?_)
          · replace H := H.1 hc
            show cw _ _ _ 82 _ _ _
            refine w_aload rfl rfl ?_
            refine n_getR 7 3 rfl rfl rfl rfl (by decide) y_1_7 ?_
            refine w_iload rfl rfl ?_
            refine m_callI rfl (fun _ => rfl) rfl (mI_mono H fun v9 I8 H => ?_)
            exact w_ireturn rfl H
          · replace H := H.2 hc
            show cw _ _ _ 91 _ _ _
            refine w_iconst rfl ⟨by decide, by decide⟩ ?_
            exact w_ireturn rfl H
  · replace H := H.2 hc
    refine w_iconst rfl ⟨by decide, by decide⟩ ?_
    exact w_ireturn rfl H
set_option maxHeartbeats 4000000 in
set_option maxRecDepth 100000 in
theorem wr_Works_of {d : Nat} {Q : cm_Q} {z : cm_Z} {I : cm_I} (hz : wz z) {x1 : Int} {x2 : Int} {sh : Nat} (y_1_6 : z.1 1 6 = sh) (H : (mI d m_Works_isKept [vI x1] z I fun v2 I1 => ((¬ v2 = 0 → ((x2 = 0 → ((0:Int) ≤ x1 ∧ x1 < 6) ∧ (mI d m_Shape_degreeOf [vR 9 sh, vR 20 (4 + Int.toNat x1)] z I1 fun v5 I4 => Q (some (vI v5)) (I4, z))) ∧ (¬ x2 = 0 → ((x2 = 1 → ((0:Int) ≤ x1 ∧ x1 < 6) ∧ (mI d m_Shape_termsOf [vR 9 sh, vR 20 (4 + Int.toNat x1)] z I1 fun v8 I7 => Q (some (vI v8)) (I7, z))) ∧ (¬ x2 = 1 → ((x2 = 2 → ((0:Int) ≤ x1 ∧ x1 < 6) ∧ (zcI d m_Works_isLeftAlone [vR 11 1, vR 20 (4 + Int.toNat x1)] z I1 fun v12 I10 Z11 => ((v12 = 0 → Q (some (vI 0)) (I10, Z11)) ∧ (¬ v12 = 0 → Q (some (vI 1)) (I10, Z11))))) ∧ (¬ x2 = 2 → ((x2 = 3 → ((0:Int) ≤ x1 ∧ x1 < 6) ∧ (mI d m_Shape_isOneDegree [vR 9 sh, vR 20 (4 + Int.toNat x1)] z I1 fun v15 I14 => ((v15 = 0 → Q (some (vI 0)) (I14, z)) ∧ (¬ v15 = 0 → Q (some (vI 1)) (I14, z))))) ∧ (¬ x2 = 3 → ((x2 = 4 → ((0:Int) ≤ x1 ∧ x1 < 6) ∧ (zcI d m_Works_unlikeMoved [vR 11 1, vR 20 (4 + Int.toNat x1)] z I1 fun v19 I17 Z18 => Q (some (vI v19)) (I17, Z18))) ∧ (¬ x2 = 4 → Q (some (vI (-1))) (I1, z)))))))))))) ∧ (v2 = 0 → Q (some (vI (-1))) (I1, z))))) : cm_call (d + 1) m_Works_of [vR 11 1, vI x1, vI x2] (I, z) Q := by
  refine cm_call_in (C := cd_Works_of) (ls := [some (vR 11 1), some (vI x1), some (vI x2)]) rfl rfl (show 0 < 1 by decide) rfl ?_
  refine w_iload rfl rfl ?_
  refine m_callI rfl (fun _ => rfl) rfl (mI_mono H fun v2 I1 H => ?_)
  refine w_if rfl (And.intro (fun hc => ?_) (fun hc => ?_))
  · replace H := H.1 hc
    refine w_iload rfl rfl ?_
    refine w_switch rfl ?_
    refine And.intro (fun hc => ?_) (fun hc => ?_)
    · replace H := H.1 hc
      show cw _ _ _ 44 _ _ _
      refine w_aload rfl rfl ?_
      refine n_getR 6 9 rfl rfl rfl rfl (by decide) y_1_6 ?_
      refine w_aload rfl rfl ?_
      refine n_getR 2 23 rfl rfl rfl rfl (by decide) (wz_R hz 1 2 3 rfl (by decide)) ?_
      refine w_iload rfl rfl ?_
      have o3 := H.1
      replace H := H.2
      refine n_aaload rfl rfl rfl (by decide) (wz_L hz 3 6 rfl (by decide)) o3 (wz_kept hz o3) ?_
      refine m_callI rfl (fun _ => rfl) rfl (mI_mono H fun v5 I4 H => ?_)
      exact w_ireturn rfl H
    · replace H := H.2 hc
      refine And.intro (fun hc => ?_) (fun hc => ?_)
      · replace H := H.1 hc
        show cw _ _ _ 58 _ _ _
        refine w_aload rfl rfl ?_
        refine n_getR 6 9 rfl rfl rfl rfl (by decide) y_1_6 ?_
        refine w_aload rfl rfl ?_
        refine n_getR 2 23 rfl rfl rfl rfl (by decide) (wz_R hz 1 2 3 rfl (by decide)) ?_
        refine w_iload rfl rfl ?_
        have o6 := H.1
        replace H := H.2
        refine n_aaload rfl rfl rfl (by decide) (wz_L hz 3 6 rfl (by decide)) o6 (wz_kept hz o6) ?_
        refine m_callI rfl (fun _ => rfl) rfl (mI_mono H fun v8 I7 H => ?_)
        exact w_ireturn rfl H
      · replace H := H.2 hc
        refine And.intro (fun hc => ?_) (fun hc => ?_)
        · replace H := H.1 hc
          show cw _ _ _ 72 _ _ _
          refine w_aload rfl rfl ?_
          refine w_aload rfl rfl ?_
          refine n_getR 2 23 rfl rfl rfl rfl (by decide) (wz_R hz 1 2 3 rfl (by decide)) ?_
          refine w_iload rfl rfl ?_
          have o9 := H.1
          replace H := H.2
          refine n_aaload rfl rfl rfl (by decide) (wz_L hz 3 6 rfl (by decide)) o9 (wz_kept hz o9) ?_
          refine n_callI rfl (fun _ => rfl) rfl (zcI_mono H fun v12 I10 Z11 H => ?_)
          refine w_if rfl (And.intro (fun hc => ?_) (fun hc => ?_))
          · replace H := H.1 hc
            refine w_iconst rfl ⟨by decide, by decide⟩ ?_
            exact w_ireturn rfl H
          · replace H := H.2 hc
            refine w_iconst rfl ⟨by decide, by decide⟩ ?_
            refine w_goto rfl ?_
            exact w_ireturn rfl H
        · replace H := H.2 hc
          refine And.intro (fun hc => ?_) (fun hc => ?_)
          · replace H := H.1 hc
            show cw _ _ _ 91 _ _ _
            refine w_aload rfl rfl ?_
            refine n_getR 6 9 rfl rfl rfl rfl (by decide) y_1_6 ?_
            refine w_aload rfl rfl ?_
            refine n_getR 2 23 rfl rfl rfl rfl (by decide) (wz_R hz 1 2 3 rfl (by decide)) ?_
            refine w_iload rfl rfl ?_
            have o13 := H.1
            replace H := H.2
            refine n_aaload rfl rfl rfl (by decide) (wz_L hz 3 6 rfl (by decide)) o13 (wz_kept hz o13) ?_
            refine m_callI rfl (fun _ => rfl) rfl (mI_mono H fun v15 I14 H => ?_)
            refine w_if rfl (And.intro (fun hc => ?_) (fun hc => ?_))
            · replace H := H.1 hc
              refine w_iconst rfl ⟨by decide, by decide⟩ ?_
              exact w_ireturn rfl H
            · replace H := H.2 hc
              refine w_iconst rfl ⟨by decide, by decide⟩ ?_
              refine w_goto rfl ?_
              exact w_ireturn rfl H
          · replace H := H.2 hc
            refine And.intro (fun hc => ?_) (fun hc => ?_)
            · replace H := H.1 hc
              show cw _ _ _ 113 _ _ _
              refine w_aload rfl rfl ?_
              refine w_aload rfl rfl ?_
              refine n_getR 2 23 rfl rfl rfl rfl (by decide) (wz_R hz 1 2 3 rfl (by decide)) ?_
              refine w_iload rfl rfl ?_
              have o16 := H.1
              replace H := H.2
              refine n_aaload rfl rfl rfl (by decide) (wz_L hz 3 6 rfl (by decide)) o16 (wz_kept hz o16) ?_
              refine n_callI rfl (fun _ => rfl) rfl (zcI_mono H fun v19 I17 Z18 H => ?_)
              exact w_ireturn rfl H
            · replace H := H.2 hc
              show cw _ _ _ 124 _ _ _
              refine w_iconst rfl ⟨by decide, by decide⟩ ?_
              exact w_ireturn rfl H
  · replace H := H.2 hc
    refine w_iconst rfl ⟨by decide, by decide⟩ ?_
    exact w_ireturn rfl H
set_option maxHeartbeats 4000000 in
set_option maxRecDepth 100000 in
theorem wr_Works_factor_49 {d : Nat} {Q : cm_Q} {z : cm_Z} {I : cm_I} (hz : wz z) {x1 : Int} {x2 : Int} {x3 : Int} {x4 : Int} {z5 : Option cm_V} {sh : Nat} (y_1_6 : z.1 1 6 = sh) (p_sh : isSh sh) (H : (cm_i (x2 + x3) ∧ (cm_i ((x2 + x3) + x4) ∧ ((((x2 + x3) + x4) ≤ 15 → ((0:Int) ≤ x1 ∧ x1 < 6) ∧ ((0:Int) ≤ ((x2 + x3) + x4) ∧ ((x2 + x3) + x4) < 17) ∧ (cm_i (x3 + x4) ∧ ((0:Int) ≤ (x3 + x4) ∧ (x3 + x4) < 19) ∧ (cm_i ((I (sh + 2) ((x2 + x3) + x4)) + (I (sh + 1) (x3 + x4))) ∧ (cm_i (((I (sh + 2) ((x2 + x3) + x4)) + (I (sh + 1) (x3 + x4))) + x4) ∧ ((0:Int) ≤ (((I (sh + 2) ((x2 + x3) + x4)) + (I (sh + 1) (x3 + x4))) + x4) ∧ (((I (sh + 2) ((x2 + x3) + x4)) + (I (sh + 1) (x3 + x4))) + x4) < 816) ∧ Q (some (vI (I (4 + Int.toNat x1) (((I (sh + 2) ((x2 + x3) + x4)) + (I (sh + 1) (x3 + x4))) + x4)))) (I, z))))) ∧ (15 < ((x2 + x3) + x4) → Q (some (vI 0)) (I, z)))))) : cw d cd_Works_factor Q 49 [some (vR 11 1), some (vI x1), some (vI x2), some (vI x3), some (vI x4), z5] [] (I, z) := by
  refine w_iload rfl rfl ?_
  refine w_iload rfl rfl ?_
  have o1 := H.1
  replace H := H.2
  refine w_iadd rfl o1 ?_
  refine w_iload rfl rfl ?_
  have o2 := H.1
  replace H := H.2
  refine w_iadd rfl o2 ?_
  refine w_istore rfl rfl ?_
  refine w_iload rfl rfl ?_
  refine w_iconst rfl ⟨by decide, by decide⟩ ?_
  refine w_icmp rfl (And.intro (fun hc => ?_) (fun hc => ?_))
  · replace H := H.1 hc
    refine w_aload rfl rfl ?_
    refine n_getR 2 23 rfl rfl rfl rfl (by decide) (wz_R hz 1 2 3 rfl (by decide)) ?_
    refine w_iload rfl rfl ?_
    have o3 := H.1
    replace H := H.2
    refine n_aaload rfl rfl rfl (by decide) (wz_L hz 3 6 rfl (by decide)) o3 (wz_kept hz o3) ?_
    refine w_aload rfl rfl ?_
    refine n_getR 6 9 rfl rfl rfl rfl (by decide) y_1_6 ?_
    refine n_getR 3 20 rfl rfl rfl rfl (isSh_pos p_sh) (wz_sh3 hz p_sh) ?_
    refine w_iload rfl rfl ?_
    have o4 := H.1
    replace H := H.2
    refine n_iaload rfl (Nat.add_pos_right _ (by decide)) (wz_shL2 hz p_sh) o4 ?_
    refine w_aload rfl rfl ?_
    refine n_getR 6 9 rfl rfl rfl rfl (by decide) y_1_6 ?_
    refine n_getR 2 20 rfl rfl rfl rfl (isSh_pos p_sh) (wz_sh2 hz p_sh) ?_
    refine w_iload rfl rfl ?_
    refine w_iload rfl rfl ?_
    have o5 := H.1
    replace H := H.2
    refine w_iadd rfl o5 ?_
    have o6 := H.1
    replace H := H.2
    refine n_iaload rfl (Nat.add_pos_right _ (by decide)) (wz_shL1 hz p_sh) o6 ?_
    have o7 := H.1
    replace H := H.2
    refine w_iadd rfl o7 ?_
    refine w_iload rfl rfl ?_
    have o8 := H.1
    replace H := H.2
    refine w_iadd rfl o8 ?_
    have o9 := H.1
    replace H := H.2
    refine n_iaload rfl (by omega) (wz_keptL hz o3) o9 ?_
    exact w_ireturn rfl H
  · replace H := H.2 hc
    refine w_iconst rfl ⟨by decide, by decide⟩ ?_
    exact w_ireturn rfl H
set_option maxHeartbeats 4000000 in
set_option maxRecDepth 100000 in
theorem wr_Works_factor {d : Nat} {Q : cm_Q} {z : cm_Z} {I : cm_I} (hz : wz z) {x1 : Int} {x2 : Int} {x3 : Int} {x4 : Int} {sh : Nat} (y_1_6 : z.1 1 6 = sh) (p_sh : isSh sh) (H : (mI d m_Works_isKept [vI x1] z I fun v2 I1 => ((v2 = 0 → Q (some (vI (-1))) (I1, z)) ∧ (¬ v2 = 0 → (mI d m_Works_isPower [vI x2] z I1 fun v4 I3 => ((v4 = 0 → Q (some (vI (-1))) (I3, z)) ∧ (¬ v4 = 0 → (mI d m_Works_isPower [vI x3] z I3 fun v6 I5 => ((v6 = 0 → Q (some (vI (-1))) (I5, z)) ∧ (¬ v6 = 0 → (mI d m_Works_isPower [vI x4] z I5 fun v8 I7 => ((¬ v8 = 0 → ((x4 ≤ 0 → cw d cd_Works_factor Q 49 [some (vR 11 1), some (vI x1), some (vI x2), some (vI x3), some (vI x4), none] [] (I7, z)) ∧ (0 < x4 → ((3 ≤ (I7 sh 0) → cw d cd_Works_factor Q 49 [some (vR 11 1), some (vI x1), some (vI x2), some (vI x3), some (vI x4), none] [] (I7, z)) ∧ ((I7 sh 0) < 3 → Q (some (vI (-1))) (I7, z)))))) ∧ (v8 = 0 → Q (some (vI (-1))) (I7, z)))))))))))))) : cm_call (d + 1) m_Works_factor [vR 11 1, vI x1, vI x2, vI x3, vI x4] (I, z) Q := by
  refine cm_call_in (C := cd_Works_factor) (ls := [some (vR 11 1), some (vI x1), some (vI x2), some (vI x3), some (vI x4), none]) rfl rfl (show 0 < 1 by decide) rfl ?_
  refine w_iload rfl rfl ?_
  refine m_callI rfl (fun _ => rfl) rfl (mI_mono H fun v2 I1 H => ?_)
  refine w_if rfl (And.intro (fun hc => ?_) (fun hc => ?_))
  · replace H := H.1 hc
    refine w_iconst rfl ⟨by decide, by decide⟩ ?_
    exact w_ireturn rfl H
  · replace H := H.2 hc
    refine w_iload rfl rfl ?_
    refine m_callI rfl (fun _ => rfl) rfl (mI_mono H fun v4 I3 H => ?_)
    refine w_if rfl (And.intro (fun hc => ?_) (fun hc => ?_))
    · replace H := H.1 hc
      refine w_iconst rfl ⟨by decide, by decide⟩ ?_
      exact w_ireturn rfl H
    · replace H := H.2 hc
      refine w_iload rfl rfl ?_
      refine m_callI rfl (fun _ => rfl) rfl (mI_mono H fun v6 I5 H => ?_)
      refine w_if rfl (And.intro (fun hc => ?_) (fun hc => ?_))
      · replace H := H.1 hc
        refine w_iconst rfl ⟨by decide, by decide⟩ ?_
        exact w_ireturn rfl H
      · replace H := H.2 hc
        refine w_iload rfl rfl ?_
        refine m_callI rfl (fun _ => rfl) rfl (mI_mono H fun v8 I7 H => ?_)
        refine w_if rfl (And.intro (fun hc => ?_) (fun hc => ?_))
        · replace H := H.1 hc
          refine w_iload rfl rfl ?_
          refine w_if rfl (And.intro (fun hc => ?_) (fun hc => ?_))
          · replace H := H.1 hc
            exact H
          · replace H := H.2 hc
            refine w_aload rfl rfl ?_
            refine n_getR 6 9 rfl rfl rfl rfl (by decide) y_1_6 ?_
            refine m_getI 0 rfl rfl rfl (isSh_pos p_sh) ?_
            refine w_iconst rfl ⟨by decide, by decide⟩ ?_
            refine w_icmp rfl (And.intro (fun hc => ?_) (fun hc => ?_))
            · replace H := H.1 hc
              exact H
            · replace H := H.2 hc
              refine w_iconst rfl ⟨by decide, by decide⟩ ?_
              exact w_ireturn rfl H
        · replace H := H.2 hc
          refine w_iconst rfl ⟨by decide, by decide⟩ ?_
          exact w_ireturn rfl H
set_option maxHeartbeats 4000000 in
set_option maxRecDepth 100000 in
theorem wr_Works_term_37 {d : Nat} {Q : cm_Q} {z : cm_Z} {I : cm_I} (hz : wz z) {x1 : Int} {x2 : Int} {x3 : Int} {x4 : Int} {x5 : Int} {z6 : Option cm_V} {z7 : Option cm_V} {z8 : Option cm_V} {sh : Nat} (y_1_6 : z.1 1 6 = sh) (p_sh : isSh sh) (H : ((x5 < 0 → Q cm_exc (ch_thr (I, z))) ∧ (0 ≤ x5 → ((0:Int) ≤ x5 ∧ x5 < 17) ∧ (cm_i (x5 + 1) ∧ ((0:Int) ≤ (x5 + 1) ∧ (x5 + 1) < 19) ∧ cw d cd_Works_term Q 71 [some (vR 11 1), some (vI x1), some (vI x2), some (vI x3), some (vI x4), some (vI x5), some (vI (I (sh + 2) x5)), some (vI (I (sh + 1) (x5 + 1))), some (vI 0)] [] (I, z))))) : cw d cd_Works_term Q 37 [some (vR 11 1), some (vI x1), some (vI x2), some (vI x3), some (vI x4), some (vI x5), z6, z7, z8] [] (I, z) := by
  refine w_iload rfl rfl ?_
  refine w_if rfl (And.intro (fun hc => ?_) (fun hc => ?_))
  · replace H := H.1 hc
    exact w_throw rfl H
  · replace H := H.2 hc
    refine w_aload rfl rfl ?_
    refine n_getR 6 9 rfl rfl rfl rfl (by decide) y_1_6 ?_
    refine n_getR 3 20 rfl rfl rfl rfl (isSh_pos p_sh) (wz_sh3 hz p_sh) ?_
    refine w_iload rfl rfl ?_
    have o1 := H.1
    replace H := H.2
    refine n_iaload rfl (Nat.add_pos_right _ (by decide)) (wz_shL2 hz p_sh) o1 ?_
    refine w_istore rfl rfl ?_
    refine w_aload rfl rfl ?_
    refine n_getR 6 9 rfl rfl rfl rfl (by decide) y_1_6 ?_
    refine n_getR 2 20 rfl rfl rfl rfl (isSh_pos p_sh) (wz_sh2 hz p_sh) ?_
    refine w_iload rfl rfl ?_
    refine w_iconst rfl ⟨by decide, by decide⟩ ?_
    have o2 := H.1
    replace H := H.2
    refine w_iadd rfl o2 ?_
    have o3 := H.1
    replace H := H.2
    refine n_iaload rfl (Nat.add_pos_right _ (by decide)) (wz_shL1 hz p_sh) o3 ?_
    refine w_istore rfl rfl ?_
    refine w_iconst rfl ⟨by decide, by decide⟩ ?_
    refine w_istore rfl rfl ?_
    exact H
set_option maxHeartbeats 4000000 in
set_option maxRecDepth 100000 in
theorem wr_Works_term_71 {d : Nat} {Q : cm_Q} {z : cm_Z} {I : cm_I} (hz : wz z) {x1 : Int} {x2 : Int} {x3 : Int} {x4 : Int} {x5 : Int} {x6 : Int} {x7 : Int} {x8 : Int} {sh : Nat} (y_1_6 : z.1 1 6 = sh) (H : ((x7 ≤ x8 → (cm_i (x5 + (-1)) ∧ cw d cd_Works_term Q 37 [some (vR 11 1), some (vI x1), some (vI x2), some (vI x3), some (vI x4), some (vI (x5 + (-1))), some (vI x6), some (vI x7), some (vI x8)] [] (I, z))) ∧ (x8 < x7 → ((0:Int) ≤ x1 ∧ x1 < 6) ∧ (cm_i (x6 + x8) ∧ ((0:Int) ≤ (x6 + x8) ∧ (x6 + x8) < 816) ∧ ((¬ (I (4 + Int.toNat x1) (x6 + x8)) = 0 → ((¬ x4 = x2 → (cm_i (x4 + 1) ∧ (cm_i (x8 + 1) ∧ cw d cd_Works_term Q 71 [some (vR 11 1), some (vI x1), some (vI x2), some (vI x3), some (vI (x4 + 1)), some (vI x5), some (vI x6), some (vI x7), some (vI (x8 + 1))] [] (I, z)))) ∧ (x4 = x2 → ((¬ x3 = 0 → (cm_i (x3 - 1) ∧ (mI d m_Shape_power [vR 9 sh, vI x5, vI x8, vI (x3 - 1)] z I fun v9 I8 => Q (some (vI v9)) (I8, z)))) ∧ (x3 = 0 → Q (some (vI (I (4 + Int.toNat x1) (x6 + x8)))) (I, z)))))) ∧ ((I (4 + Int.toNat x1) (x6 + x8)) = 0 → (cm_i (x8 + 1) ∧ cw d cd_Works_term Q 71 [some (vR 11 1), some (vI x1), some (vI x2), some (vI x3), some (vI x4), some (vI x5), some (vI x6), some (vI x7), some (vI (x8 + 1))] [] (I, z)))))))) : cw d cd_Works_term Q 71 [some (vR 11 1), some (vI x1), some (vI x2), some (vI x3), some (vI x4), some (vI x5), some (vI x6), some (vI x7), some (vI x8)] [] (I, z) := by
  refine w_iload rfl rfl ?_
  refine w_iload rfl rfl ?_
  refine w_icmp rfl (And.intro (fun hc => ?_) (fun hc => ?_))
  · replace H := H.1 hc
    have o1 := H.1
    replace H := H.2
    refine w_iinc rfl rfl rfl o1 ?_
    refine w_goto rfl ?_
    exact H
  · replace H := H.2 hc
    refine w_aload rfl rfl ?_
    refine n_getR 2 23 rfl rfl rfl rfl (by decide) (wz_R hz 1 2 3 rfl (by decide)) ?_
    refine w_iload rfl rfl ?_
    have o2 := H.1
    replace H := H.2
    refine n_aaload rfl rfl rfl (by decide) (wz_L hz 3 6 rfl (by decide)) o2 (wz_kept hz o2) ?_
    refine w_iload rfl rfl ?_
    refine w_iload rfl rfl ?_
    have o3 := H.1
    replace H := H.2
    refine w_iadd rfl o3 ?_
    have o4 := H.1
    replace H := H.2
    refine n_iaload rfl (by omega) (wz_keptL hz o2) o4 ?_
    refine w_if rfl (And.intro (fun hc => ?_) (fun hc => ?_))
    · replace H := H.1 hc
      refine w_iload rfl rfl ?_
      refine w_iload rfl rfl ?_
      refine w_icmp rfl (And.intro (fun hc => ?_) (fun hc => ?_))
      · replace H := H.1 hc
        have o5 := H.1
        replace H := H.2
        refine w_iinc rfl rfl rfl o5 ?_
        have o6 := H.1
        replace H := H.2
        refine w_iinc rfl rfl rfl o6 ?_
        refine w_goto rfl ?_
        exact H
      · replace H := H.2 hc
        refine w_iload rfl rfl ?_
        refine w_if rfl (And.intro (fun hc => ?_) (fun hc => ?_))
        · replace H := H.1 hc
          refine w_aload rfl rfl ?_
          refine n_getR 6 9 rfl rfl rfl rfl (by decide) y_1_6 ?_
          refine w_iload rfl rfl ?_
          refine w_iload rfl rfl ?_
          refine w_iload rfl rfl ?_
          refine w_iconst rfl ⟨by decide, by decide⟩ ?_
          have o7 := H.1
          replace H := H.2
          refine w_isub rfl o7 ?_
          refine m_callI rfl (fun _ => rfl) rfl (mI_mono H fun v9 I8 H => ?_)
          exact w_ireturn rfl H
        · replace H := H.2 hc
          refine w_aload rfl rfl ?_
          refine n_getR 2 23 rfl rfl rfl rfl (by decide) (wz_R hz 1 2 3 rfl (by decide)) ?_
          refine w_iload rfl rfl ?_
          refine n_aaload rfl rfl rfl (by decide) (wz_L hz 3 6 rfl (by decide)) o2 (wz_kept hz o2) ?_
          refine w_iload rfl rfl ?_
          refine w_iload rfl rfl ?_
          refine w_iadd rfl o3 ?_
          refine n_iaload rfl (by omega) (wz_keptL hz o2) o4 ?_
          refine w_goto rfl ?_
          exact w_ireturn rfl H
    · replace H := H.2 hc
      refine w_goto rfl ?_
      have o10 := H.1
      replace H := H.2
      refine w_iinc rfl rfl rfl o10 ?_
      refine w_goto rfl ?_
      exact H
set_option maxHeartbeats 4000000 in
set_option maxRecDepth 100000 in
theorem wr_Works_term {d : Nat} {Q : cm_Q} {z : cm_Z} {I : cm_I} (hz : wz z) {x1 : Int} {x2 : Int} {x3 : Int}  (H : (mI d m_Works_isKept [vI x1] z I fun v2 I1 => ((v2 = 0 → Q cm_exc (ch_thr (I1, z))) ∧ (¬ v2 = 0 → ((x2 < 0 → Q cm_exc (ch_thr (I1, z))) ∧ (0 ≤ x2 → ((x3 < 0 → Q cm_exc (ch_thr (I1, z))) ∧ (0 ≤ x3 → ((x3 ≤ 3 → cw d cd_Works_term Q 37 [some (vR 11 1), some (vI x1), some (vI x2), some (vI x3), some (vI 0), some (vI 15), none, none, none] [] (I1, z)) ∧ (3 < x3 → Q cm_exc (ch_thr (I1, z)))))))))))) : cm_call (d + 1) m_Works_term [vR 11 1, vI x1, vI x2, vI x3] (I, z) Q := by
  refine cm_call_in (C := cd_Works_term) (ls := [some (vR 11 1), some (vI x1), some (vI x2), some (vI x3), none, none, none, none, none]) rfl rfl (show 0 < 1 by decide) rfl ?_
  refine w_iload rfl rfl ?_
  refine m_callI rfl (fun _ => rfl) rfl (mI_mono H fun v2 I1 H => ?_)
  refine w_if rfl (And.intro (fun hc => ?_) (fun hc => ?_))
  · replace H := H.1 hc
    exact w_throw rfl H
  · replace H := H.2 hc
    refine w_iload rfl rfl ?_
    refine w_if rfl (And.intro (fun hc => ?_) (fun hc => ?_))
    · replace H := H.1 hc
      exact w_throw rfl H
    · replace H := H.2 hc
      refine w_iload rfl rfl ?_
      refine w_if rfl (And.intro (fun hc => ?_) (fun hc => ?_))
      · replace H := H.1 hc
        exact w_throw rfl H
      · replace H := H.2 hc
        refine w_iload rfl rfl ?_
        refine w_iconst rfl ⟨by decide, by decide⟩ ?_
        refine w_icmp rfl (And.intro (fun hc => ?_) (fun hc => ?_))
        · replace H := H.1 hc
          refine w_iconst rfl ⟨by decide, by decide⟩ ?_
          refine w_istore rfl rfl ?_
          refine w_iconst rfl ⟨by decide, by decide⟩ ?_
          refine w_istore rfl rfl ?_
          exact H
        · replace H := H.2 hc
          exact w_throw rfl H
set_option maxHeartbeats 4000000 in
set_option maxRecDepth 100000 in
theorem wr_Works_moved {d : Nat} {Q : cm_Q} {z : cm_Z} {I : cm_I} (hz : wz z) {x1 : Int} {x2 : Int} {x3 : Int}  (H : (mI d m_Works_isKept [vI x1] z I fun v2 I1 => ((v2 = 0 → Q (some (vI (-1))) (I1, z)) ∧ (¬ v2 = 0 → (mI d m_Works_isMember [vR 11 1, vI x2] z I1 fun v4 I3 => ((v4 = 0 → Q (some (vI (-1))) (I3, z)) ∧ (¬ v4 = 0 → (mI d m_Works_isKept [vI x3] z I3 fun v6 I5 => ((¬ v6 = 0 → (mU d m_Arr_fill [vR 20 10, vI 0] z I5 fun I7 => (mU d m_Mover_use [vR 4 53, vI x2] z I7 fun I8 => ((0:Int) ≤ x1 ∧ x1 < 6) ∧ (zcU d m_Mover_addAllMoved [vR 4 53, vR 20 (4 + Int.toNat x1), vR 20 10] z I8 fun I10 Z11 => (mI d m_Works_keepFresh [vR 11 1, vI x3] Z11 I10 fun v13 I12 => Q (some (vI v13)) (I12, Z11)))))) ∧ (v6 = 0 → Q (some (vI (-1))) (I5, z))))))))))) : cm_call (d + 1) m_Works_moved [vR 11 1, vI x1, vI x2, vI x3] (I, z) Q := by
  refine cm_call_in (C := cd_Works_moved) (ls := [some (vR 11 1), some (vI x1), some (vI x2), some (vI x3)]) rfl rfl (show 0 < 1 by decide) rfl ?_
  refine w_iload rfl rfl ?_
  refine m_callI rfl (fun _ => rfl) rfl (mI_mono H fun v2 I1 H => ?_)
  refine w_if rfl (And.intro (fun hc => ?_) (fun hc => ?_))
  · replace H := H.1 hc
    refine w_iconst rfl ⟨by decide, by decide⟩ ?_
    exact w_ireturn rfl H
  · replace H := H.2 hc
    refine w_aload rfl rfl ?_
    refine w_iload rfl rfl ?_
    refine m_callI rfl (fun _ => rfl) rfl (mI_mono H fun v4 I3 H => ?_)
    refine w_if rfl (And.intro (fun hc => ?_) (fun hc => ?_))
    · replace H := H.1 hc
      refine w_iconst rfl ⟨by decide, by decide⟩ ?_
      exact w_ireturn rfl H
    · replace H := H.2 hc
      refine w_iload rfl rfl ?_
      refine m_callI rfl (fun _ => rfl) rfl (mI_mono H fun v6 I5 H => ?_)
      refine w_if rfl (And.intro (fun hc => ?_) (fun hc => ?_))
      · replace H := H.1 hc
        refine w_aload rfl rfl ?_
        refine n_getR 3 20 rfl rfl rfl rfl (by decide) (wz_R hz 1 3 10 rfl (by decide)) ?_
        refine w_iconst rfl ⟨by decide, by decide⟩ ?_
        refine m_callU rfl (fun _ => rfl) rfl (mU_mono H fun I7 H => ?_)
        refine w_aload rfl rfl ?_
        refine n_getR 11 4 rfl rfl rfl rfl (by decide) (wz_R hz 1 11 53 rfl (by decide)) ?_
        refine w_iload rfl rfl ?_
        refine m_callU rfl (fun _ => rfl) rfl (mU_mono H fun I8 H => ?_)
        refine w_aload rfl rfl ?_
        refine n_getR 11 4 rfl rfl rfl rfl (by decide) (wz_R hz 1 11 53 rfl (by decide)) ?_
        refine w_aload rfl rfl ?_
        refine n_getR 2 23 rfl rfl rfl rfl (by decide) (wz_R hz 1 2 3 rfl (by decide)) ?_
        refine w_iload rfl rfl ?_
        have o9 := H.1
        replace H := H.2
        refine n_aaload rfl rfl rfl (by decide) (wz_L hz 3 6 rfl (by decide)) o9 (wz_kept hz o9) ?_
        refine w_aload rfl rfl ?_
        refine n_getR 3 20 rfl rfl rfl rfl (by decide) (wz_R hz 1 3 10 rfl (by decide)) ?_
        refine n_callU rfl (fun _ => rfl) rfl (zcU_mono H fun I10 Z11 H => ?_)
        refine w_aload rfl rfl ?_
        refine w_iload rfl rfl ?_
        refine m_callI rfl (fun _ => rfl) rfl (mI_mono H fun v13 I12 H => ?_)
        exact w_ireturn rfl H
      · replace H := H.2 hc
        refine w_iconst rfl ⟨by decide, by decide⟩ ?_
        exact w_ireturn rfl H
set_option maxHeartbeats 4000000 in
set_option maxRecDepth 100000 in
theorem wr_Works_average_26 {d : Nat} {Q : cm_Q} {z : cm_Z} {I : cm_I} (hz : wz z) {x1 : Int} {x2 : Int} {x3 : Int} {z4 : Option cm_V} {mb : Nat} (y_1_7 : z.1 1 7 = mb) (p_mb : isMb mb) (H : (((I mb 2) ≤ x3 → (mI d m_Works_raise [vI (I mb 2), vI 2519] z I fun v2 I1 => cw d cd_Works_average Q 85 [some (vR 11 1), some (vI x1), some (vI x2), some (vI v2), some (vI 0)] [] (I1, z))) ∧ (x3 < (I mb 2) → (mU d m_Mover_use [vR 4 53, vI x3] z I fun I3 => ((0:Int) ≤ x1 ∧ x1 < 6) ∧ (zcU d m_Mover_addAllMoved [vR 4 53, vR 20 (4 + Int.toNat x1), vR 20 10] z I3 fun I5 Z6 => (cm_i (x3 + 1) ∧ cw d cd_Works_average Q 26 [some (vR 11 1), some (vI x1), some (vI x2), some (vI (x3 + 1)), z4] [] (I5, Z6))))))) : cw d cd_Works_average Q 26 [some (vR 11 1), some (vI x1), some (vI x2), some (vI x3), z4] [] (I, z) := by
  refine w_iload rfl rfl ?_
  refine w_aload rfl rfl ?_
  refine n_getR 7 3 rfl rfl rfl rfl (by decide) y_1_7 ?_
  refine m_getI 2 rfl rfl rfl (isMb_pos p_mb) ?_
  refine w_icmp rfl (And.intro (fun hc => ?_) (fun hc => ?_))
  · replace H := H.1 hc
    refine w_aload rfl rfl ?_
    refine n_getR 7 3 rfl rfl rfl rfl (by decide) y_1_7 ?_
    refine m_getI 2 rfl rfl rfl (isMb_pos p_mb) ?_
    refine w_iconst rfl ⟨by decide, by decide⟩ ?_
    refine m_callI rfl (fun _ => rfl) rfl (mI_mono H fun v2 I1 H => ?_)
    refine w_istore rfl rfl ?_
    refine w_iconst rfl ⟨by decide, by decide⟩ ?_
    refine w_istore rfl rfl ?_
    exact H
  · replace H := H.2 hc
    refine w_aload rfl rfl ?_
    refine n_getR 11 4 rfl rfl rfl rfl (by decide) (wz_R hz 1 11 53 rfl (by decide)) ?_
    refine w_iload rfl rfl ?_
    refine m_callU rfl (fun _ => rfl) rfl (mU_mono H fun I3 H => ?_)
    refine w_aload rfl rfl ?_
    refine n_getR 11 4 rfl rfl rfl rfl (by decide) (wz_R hz 1 11 53 rfl (by decide)) ?_
    refine w_aload rfl rfl ?_
    refine n_getR 2 23 rfl rfl rfl rfl (by decide) (wz_R hz 1 2 3 rfl (by decide)) ?_
    refine w_iload rfl rfl ?_
    have o4 := H.1
    replace H := H.2
    refine n_aaload rfl rfl rfl (by decide) (wz_L hz 3 6 rfl (by decide)) o4 (wz_kept hz o4) ?_
    refine w_aload rfl rfl ?_
    refine n_getR 3 20 rfl rfl rfl rfl (by decide) (wz_R hz 1 3 10 rfl (by decide)) ?_
    refine n_callU rfl (fun _ => rfl) rfl (zcU_mono H fun I5 Z6 H => ?_)
    have o7 := H.1
    replace H := H.2
    refine w_iinc rfl rfl rfl o7 ?_
    refine w_goto rfl ?_
    exact H
set_option maxHeartbeats 4000000 in
set_option maxRecDepth 100000 in
theorem wr_Works_average_85 {d : Nat} {Q : cm_Q} {z : cm_Z} {I : cm_I} (hz : wz z) {z1 : Option cm_V} {x2 : Int} {x3 : Int} {x4 : Int} {sh : Nat} (y_1_6 : z.1 1 6 = sh) (p_sh : isSh sh) (H : (((I sh 1) ≤ x4 → (mI d m_Works_keepFresh [vR 11 1, vI x2] z I fun v2 I1 => Q (some (vI v2)) (I1, z))) ∧ (x4 < (I sh 1) → ((0:Int) ≤ x4 ∧ x4 < 816) ∧ (cm_i ((Int.tmod (I 10 x4) 2521) * x3) ∧ (∀ I5 : cm_I, I5 = iu I 10 x4 (Int.tmod ((Int.tmod (I 10 x4) 2521) * x3) 2521) → (cm_i (x4 + 1) ∧ cw d cd_Works_average Q 85 [some (vR 11 1), z1, some (vI x2), some (vI x3), some (vI (x4 + 1))] [] (I5, z))))))) : cw d cd_Works_average Q 85 [some (vR 11 1), z1, some (vI x2), some (vI x3), some (vI x4)] [] (I, z) := by
  refine w_iload rfl rfl ?_
  refine w_aload rfl rfl ?_
  refine n_getR 6 9 rfl rfl rfl rfl (by decide) y_1_6 ?_
  refine m_getI 1 rfl rfl rfl (isSh_pos p_sh) ?_
  refine w_icmp rfl (And.intro (fun hc => ?_) (fun hc => ?_))
  · replace H := H.1 hc
    refine w_aload rfl rfl ?_
    refine w_iload rfl rfl ?_
    refine m_callI rfl (fun _ => rfl) rfl (mI_mono H fun v2 I1 H => ?_)
    exact w_ireturn rfl H
  · replace H := H.2 hc
    refine w_aload rfl rfl ?_
    refine n_getR 3 20 rfl rfl rfl rfl (by decide) (wz_R hz 1 3 10 rfl (by decide)) ?_
    refine w_iload rfl rfl ?_
    refine w_aload rfl rfl ?_
    refine n_getR 3 20 rfl rfl rfl rfl (by decide) (wz_R hz 1 3 10 rfl (by decide)) ?_
    refine w_iload rfl rfl ?_
    have o3 := H.1
    replace H := H.2
    refine n_iaload rfl (by decide) (wz_L hz 10 816 rfl (by decide)) o3 ?_
    refine w_iconst rfl ⟨by decide, by decide⟩ ?_
    refine w_irem rfl (by decide) ?_
    refine w_iload rfl rfl ?_
    have o4 := H.1
    replace H := H.2
    refine w_imul rfl o4 ?_
    refine w_iconst rfl ⟨by decide, by decide⟩ ?_
    refine w_irem rfl (by decide) ?_
    refine n_iastore rfl (by decide) (wz_L hz 10 816 rfl (by decide)) o3 (fun I5 eI5 => ?_)
    replace H := H I5 eI5
    have o6 := H.1
    replace H := H.2
    refine w_iinc rfl rfl rfl o6 ?_
    refine w_goto rfl ?_
    exact H
set_option maxHeartbeats 4000000 in
set_option maxRecDepth 100000 in
theorem wr_Works_average {d : Nat} {Q : cm_Q} {z : cm_Z} {I : cm_I} (hz : wz z) {x1 : Int} {x2 : Int}  (H : (mI d m_Works_isKept [vI x1] z I fun v2 I1 => ((v2 = 0 → Q (some (vI (-1))) (I1, z)) ∧ (¬ v2 = 0 → (mI d m_Works_isKept [vI x2] z I1 fun v4 I3 => ((¬ v4 = 0 → (mU d m_Arr_fill [vR 20 10, vI 0] z I3 fun I5 => cw d cd_Works_average Q 26 [some (vR 11 1), some (vI x1), some (vI x2), some (vI 0), none] [] (I5, z))) ∧ (v4 = 0 → Q (some (vI (-1))) (I3, z)))))))) : cm_call (d + 1) m_Works_average [vR 11 1, vI x1, vI x2] (I, z) Q := by
  refine cm_call_in (C := cd_Works_average) (ls := [some (vR 11 1), some (vI x1), some (vI x2), none, none]) rfl rfl (show 0 < 1 by decide) rfl ?_
  refine w_iload rfl rfl ?_
  refine m_callI rfl (fun _ => rfl) rfl (mI_mono H fun v2 I1 H => ?_)
  refine w_if rfl (And.intro (fun hc => ?_) (fun hc => ?_))
  · replace H := H.1 hc
    refine w_iconst rfl ⟨by decide, by decide⟩ ?_
    exact w_ireturn rfl H
  · replace H := H.2 hc
    refine w_iload rfl rfl ?_
    refine m_callI rfl (fun _ => rfl) rfl (mI_mono H fun v4 I3 H => ?_)
    refine w_if rfl (And.intro (fun hc => ?_) (fun hc => ?_))
    · replace H := H.1 hc
      refine w_aload rfl rfl ?_
      refine n_getR 3 20 rfl rfl rfl rfl (by decide) (wz_R hz 1 3 10 rfl (by decide)) ?_
      refine w_iconst rfl ⟨by decide, by decide⟩ ?_
      refine m_callU rfl (fun _ => rfl) rfl (mU_mono H fun I5 H => ?_)
      refine w_iconst rfl ⟨by decide, by decide⟩ ?_
      refine w_istore rfl rfl ?_
      exact H
    · replace H := H.2 hc
      refine w_iconst rfl ⟨by decide, by decide⟩ ?_
      exact w_ireturn rfl H
set_option maxHeartbeats 4000000 in
set_option maxRecDepth 100000 in
theorem wr_Works_plus_36 {d : Nat} {Q : cm_Q} {z : cm_Z} {I : cm_I} (hz : wz z) {x1 : Int} {x2 : Int} {z3 : Option cm_V} {x4 : Int} {x5 : Int} {x6 : Int} {sh : Nat} (y_1_6 : z.1 1 6 = sh) (p_sh : isSh sh) (H : (((I sh 1) ≤ x6 → (mI d m_Works_keepFresh [vR 11 1, vI x4] z I fun v2 I1 => Q (some (vI v2)) (I1, z))) ∧ (x6 < (I sh 1) → ((0:Int) ≤ x1 ∧ x1 < 6) ∧ ((0:Int) ≤ x6 ∧ x6 < 816) ∧ ((0:Int) ≤ x2 ∧ x2 < 6) ∧ (cm_i (x5 * (I (4 + Int.toNat x2) x6)) ∧ (cm_i ((I (4 + Int.toNat x1) x6) + (x5 * (I (4 + Int.toNat x2) x6))) ∧ (∀ I8 : cm_I, I8 = iu I 10 x6 (Int.tmod ((I (4 + Int.toNat x1) x6) + (x5 * (I (4 + Int.toNat x2) x6))) 2521) → (cm_i (x6 + 1) ∧ cw d cd_Works_plus Q 36 [some (vR 11 1), some (vI x1), some (vI x2), z3, some (vI x4), some (vI x5), some (vI (x6 + 1))] [] (I8, z)))))))) : cw d cd_Works_plus Q 36 [some (vR 11 1), some (vI x1), some (vI x2), z3, some (vI x4), some (vI x5), some (vI x6)] [] (I, z) := by
  refine w_iload rfl rfl ?_
  refine w_aload rfl rfl ?_
  refine n_getR 6 9 rfl rfl rfl rfl (by decide) y_1_6 ?_
  refine m_getI 1 rfl rfl rfl (isSh_pos p_sh) ?_
  refine w_icmp rfl (And.intro (fun hc => ?_) (fun hc => ?_))
  · replace H := H.1 hc
    refine w_aload rfl rfl ?_
    refine w_iload rfl rfl ?_
    refine m_callI rfl (fun _ => rfl) rfl (mI_mono H fun v2 I1 H => ?_)
    exact w_ireturn rfl H
  · replace H := H.2 hc
    refine w_aload rfl rfl ?_
    refine n_getR 3 20 rfl rfl rfl rfl (by decide) (wz_R hz 1 3 10 rfl (by decide)) ?_
    refine w_iload rfl rfl ?_
    refine w_aload rfl rfl ?_
    refine n_getR 2 23 rfl rfl rfl rfl (by decide) (wz_R hz 1 2 3 rfl (by decide)) ?_
    refine w_iload rfl rfl ?_
    have o3 := H.1
    replace H := H.2
    refine n_aaload rfl rfl rfl (by decide) (wz_L hz 3 6 rfl (by decide)) o3 (wz_kept hz o3) ?_
    refine w_iload rfl rfl ?_
    have o4 := H.1
    replace H := H.2
    refine n_iaload rfl (by omega) (wz_keptL hz o3) o4 ?_
    refine w_iload rfl rfl ?_
    refine w_aload rfl rfl ?_
    refine n_getR 2 23 rfl rfl rfl rfl (by decide) (wz_R hz 1 2 3 rfl (by decide)) ?_
    refine w_iload rfl rfl ?_
    have o5 := H.1
    replace H := H.2
    refine n_aaload rfl rfl rfl (by decide) (wz_L hz 3 6 rfl (by decide)) o5 (wz_kept hz o5) ?_
    refine w_iload rfl rfl ?_
    refine n_iaload rfl (by omega) (wz_keptL hz o5) o4 ?_
    have o6 := H.1
    replace H := H.2
    refine w_imul rfl o6 ?_
    have o7 := H.1
    replace H := H.2
    refine w_iadd rfl o7 ?_
    refine w_iconst rfl ⟨by decide, by decide⟩ ?_
    refine w_irem rfl (by decide) ?_
    refine n_iastore rfl (by decide) (wz_L hz 10 816 rfl (by decide)) o4 (fun I8 eI8 => ?_)
    replace H := H I8 eI8
    have o9 := H.1
    replace H := H.2
    refine w_iinc rfl rfl rfl o9 ?_
    refine w_goto rfl ?_
    exact H
set_option maxHeartbeats 4000000 in
set_option maxRecDepth 100000 in
theorem wr_Works_plus {d : Nat} {Q : cm_Q} {z : cm_Z} {I : cm_I} (hz : wz z) {x1 : Int} {x2 : Int} {x3 : Int} {x4 : Int}  (H : (mI d m_Works_isKept [vI x1] z I fun v2 I1 => ((v2 = 0 → Q (some (vI (-1))) (I1, z)) ∧ (¬ v2 = 0 → (mI d m_Works_isKept [vI x2] z I1 fun v4 I3 => ((v4 = 0 → Q (some (vI (-1))) (I3, z)) ∧ (¬ v4 = 0 → (mI d m_Works_isKept [vI x4] z I3 fun v6 I5 => ((¬ v6 = 0 → cw d cd_Works_plus Q 36 [some (vR 11 1), some (vI x1), some (vI x2), some (vI x3), some (vI x4), some (vI (x3 % 2521)), some (vI 0)] [] (I5, z)) ∧ (v6 = 0 → Q (some (vI (-1))) (I5, z))))))))))) : cm_call (d + 1) m_Works_plus [vR 11 1, vI x1, vI x2, vI x3, vI x4] (I, z) Q := by
  refine cm_call_in (C := cd_Works_plus) (ls := [some (vR 11 1), some (vI x1), some (vI x2), some (vI x3), some (vI x4), none, none]) rfl rfl (show 0 < 1 by decide) rfl ?_
  refine w_iload rfl rfl ?_
  refine m_callI rfl (fun _ => rfl) rfl (mI_mono H fun v2 I1 H => ?_)
  refine w_if rfl (And.intro (fun hc => ?_) (fun hc => ?_))
  · replace H := H.1 hc
    refine w_iconst rfl ⟨by decide, by decide⟩ ?_
    exact w_ireturn rfl H
  · replace H := H.2 hc
    refine w_iload rfl rfl ?_
    refine m_callI rfl (fun _ => rfl) rfl (mI_mono H fun v4 I3 H => ?_)
    refine w_if rfl (And.intro (fun hc => ?_) (fun hc => ?_))
    · replace H := H.1 hc
      refine w_iconst rfl ⟨by decide, by decide⟩ ?_
      exact w_ireturn rfl H
    · replace H := H.2 hc
      refine w_iload rfl rfl ?_
      refine m_callI rfl (fun _ => rfl) rfl (mI_mono H fun v6 I5 H => ?_)
      refine w_if rfl (And.intro (fun hc => ?_) (fun hc => ?_))
      · replace H := H.1 hc
        refine w_iload rfl rfl ?_
        refine w_iconst rfl ⟨by decide, by decide⟩ ?_
        refine w_floorMod rfl rfl (by decide) ?_
        refine w_istore rfl rfl ?_
        refine w_iconst rfl ⟨by decide, by decide⟩ ?_
        refine w_istore rfl rfl ?_
        exact H
      · replace H := H.2 hc
        refine w_iconst rfl ⟨by decide, by decide⟩ ?_
        exact w_ireturn rfl H
set_option maxHeartbeats 4000000 in
set_option maxRecDepth 100000 in
theorem wr_Works_product {d : Nat} {Q : cm_Q} {z : cm_Z} {I : cm_I} (hz : wz z) {x1 : Int} {x2 : Int} {x3 : Int} {sh : Nat} (y_1_6 : z.1 1 6 = sh) (H : (mI d m_Works_isKept [vI x1] z I fun v2 I1 => ((v2 = 0 → Q (some (vI (-1))) (I1, z)) ∧ (¬ v2 = 0 → (mI d m_Works_isKept [vI x2] z I1 fun v4 I3 => ((v4 = 0 → Q (some (vI (-1))) (I3, z)) ∧ (¬ v4 = 0 → (mI d m_Works_isKept [vI x3] z I3 fun v6 I5 => ((¬ v6 = 0 → ((0:Int) ≤ x1 ∧ x1 < 6) ∧ (mI d m_Shape_degreeOf [vR 9 sh, vR 20 (4 + Int.toNat x1)] z I5 fun v9 I8 => ((0:Int) ≤ x2 ∧ x2 < 6) ∧ (mI d m_Shape_degreeOf [vR 9 sh, vR 20 (4 + Int.toNat x2)] z I8 fun v12 I11 => (cm_i (v9 + v12) ∧ (((v9 + v12) ≤ 15 → (zcU d m_Shape_multiply [vR 9 sh, vR 20 (4 + Int.toNat x1), vR 20 (4 + Int.toNat x2), vR 20 10] z I11 fun I14 Z15 => (mI d m_Works_keepFresh [vR 11 1, vI x3] Z15 I14 fun v17 I16 => Q (some (vI v17)) (I16, Z15)))) ∧ (15 < (v9 + v12) → Q (some (vI (-2))) (I11, z))))))) ∧ (v6 = 0 → Q (some (vI (-1))) (I5, z))))))))))) : cm_call (d + 1) m_Works_product [vR 11 1, vI x1, vI x2, vI x3] (I, z) Q := by
  refine cm_call_in (C := cd_Works_product) (ls := [some (vR 11 1), some (vI x1), some (vI x2), some (vI x3)]) rfl rfl (show 0 < 1 by decide) rfl ?_
  refine w_iload rfl rfl ?_
  refine m_callI rfl (fun _ => rfl) rfl (mI_mono H fun v2 I1 H => ?_)
  refine w_if rfl (And.intro (fun hc => ?_) (fun hc => ?_))
  · replace H := H.1 hc
    refine w_iconst rfl ⟨by decide, by decide⟩ ?_
    exact w_ireturn rfl H
  · replace H := H.2 hc
    refine w_iload rfl rfl ?_
    refine m_callI rfl (fun _ => rfl) rfl (mI_mono H fun v4 I3 H => ?_)
    refine w_if rfl (And.intro (fun hc => ?_) (fun hc => ?_))
    · replace H := H.1 hc
      refine w_iconst rfl ⟨by decide, by decide⟩ ?_
      exact w_ireturn rfl H
    · replace H := H.2 hc
      refine w_iload rfl rfl ?_
      refine m_callI rfl (fun _ => rfl) rfl (mI_mono H fun v6 I5 H => ?_)
      refine w_if rfl (And.intro (fun hc => ?_) (fun hc => ?_))
      · replace H := H.1 hc
        refine w_aload rfl rfl ?_
        refine n_getR 6 9 rfl rfl rfl rfl (by decide) y_1_6 ?_
        refine w_aload rfl rfl ?_
        refine n_getR 2 23 rfl rfl rfl rfl (by decide) (wz_R hz 1 2 3 rfl (by decide)) ?_
        refine w_iload rfl rfl ?_
        have o7 := H.1
        replace H := H.2
        refine n_aaload rfl rfl rfl (by decide) (wz_L hz 3 6 rfl (by decide)) o7 (wz_kept hz o7) ?_
        refine m_callI rfl (fun _ => rfl) rfl (mI_mono H fun v9 I8 H => ?_)
        refine w_aload rfl rfl ?_
        refine n_getR 6 9 rfl rfl rfl rfl (by decide) y_1_6 ?_
        refine w_aload rfl rfl ?_
        refine n_getR 2 23 rfl rfl rfl rfl (by decide) (wz_R hz 1 2 3 rfl (by decide)) ?_
        refine w_iload rfl rfl ?_
        have o10 := H.1
        replace H := H.2
        refine n_aaload rfl rfl rfl (by decide) (wz_L hz 3 6 rfl (by decide)) o10 (wz_kept hz o10) ?_
        refine m_callI rfl (fun _ => rfl) rfl (mI_mono H fun v12 I11 H => ?_)
        have o13 := H.1
        replace H := H.2
        refine w_iadd rfl o13 ?_
        refine w_iconst rfl ⟨by decide, by decide⟩ ?_
        refine w_icmp rfl (And.intro (fun hc => ?_) (fun hc => ?_))
        · replace H := H.1 hc
          refine w_aload rfl rfl ?_
          refine n_getR 6 9 rfl rfl rfl rfl (by decide) y_1_6 ?_
          refine w_aload rfl rfl ?_
          refine n_getR 2 23 rfl rfl rfl rfl (by decide) (wz_R hz 1 2 3 rfl (by decide)) ?_
          refine w_iload rfl rfl ?_
          refine n_aaload rfl rfl rfl (by decide) (wz_L hz 3 6 rfl (by decide)) o7 (wz_kept hz o7) ?_
          refine w_aload rfl rfl ?_
          refine n_getR 2 23 rfl rfl rfl rfl (by decide) (wz_R hz 1 2 3 rfl (by decide)) ?_
          refine w_iload rfl rfl ?_
          refine n_aaload rfl rfl rfl (by decide) (wz_L hz 3 6 rfl (by decide)) o10 (wz_kept hz o10) ?_
          refine w_aload rfl rfl ?_
          refine n_getR 3 20 rfl rfl rfl rfl (by decide) (wz_R hz 1 3 10 rfl (by decide)) ?_
          refine n_callU rfl (fun _ => rfl) rfl (zcU_mono H fun I14 Z15 H => ?_)
          refine w_aload rfl rfl ?_
          refine w_iload rfl rfl ?_
          refine m_callI rfl (fun _ => rfl) rfl (mI_mono H fun v17 I16 H => ?_)
          exact w_ireturn rfl H
        · replace H := H.2 hc
          refine w_iconst rfl ⟨by decide, by decide⟩ ?_
          exact w_ireturn rfl H
      · replace H := H.2 hc
        refine w_iconst rfl ⟨by decide, by decide⟩ ?_
        exact w_ireturn rfl H
set_option maxHeartbeats 4000000 in
set_option maxRecDepth 100000 in
theorem wr_Works_series {d : Nat} {Q : cm_Q} {z : cm_Z} {I : cm_I} (hz : wz z) {x1 : Int}  (H : (mI d m_Works_isPower [vI x1] z I fun v2 I1 => ((v2 = 0 → Q (some (vI (-1))) (I1, z)) ∧ (¬ v2 = 0 → ((0:Int) ≤ x1 ∧ x1 < 16) ∧ Q (some (vI (I1 67 x1))) (I1, z))))) : cm_call (d + 1) m_Works_series [vR 11 1, vI x1] (I, z) Q := by
  refine cm_call_in (C := cd_Works_series) (ls := [some (vR 11 1), some (vI x1)]) rfl rfl (show 0 < 1 by decide) rfl ?_
  refine w_iload rfl rfl ?_
  refine m_callI rfl (fun _ => rfl) rfl (mI_mono H fun v2 I1 H => ?_)
  refine w_if rfl (And.intro (fun hc => ?_) (fun hc => ?_))
  · replace H := H.1 hc
    refine w_iconst rfl ⟨by decide, by decide⟩ ?_
    exact w_ireturn rfl H
  · replace H := H.2 hc
    refine w_aload rfl rfl ?_
    refine n_getR 13 0 rfl rfl rfl rfl (by decide) (wz_R hz 1 13 66 rfl (by decide)) ?_
    refine n_getR 4 20 rfl rfl rfl rfl (by decide) (wz_R hz 66 4 67 rfl (by decide)) ?_
    refine w_iload rfl rfl ?_
    have o3 := H.1
    replace H := H.2
    refine n_iaload rfl (by decide) (wz_L hz 67 16 rfl (by decide)) o3 ?_
    refine w_goto rfl ?_
    exact w_ireturn rfl H
set_option maxHeartbeats 4000000 in
set_option maxRecDepth 100000 in
theorem wr_Works_base {d : Nat} {Q : cm_Q} {z : cm_Z} {I : cm_I} (hz : wz z) {x1 : Int} {x2 : Int} {x3 : Int} {sh : Nat} (p_sh : isSh sh) (H : (mI d m_Works_isPower [vI x1] z I fun v2 I1 => ((v2 = 0 → Q (some (vI (-1))) (I1, z)) ∧ (¬ v2 = 0 → (mI d m_Works_isKept [vI x3] z I1 fun v4 I3 => ((v4 = 0 → Q (some (vI (-1))) (I3, z)) ∧ (¬ v4 = 0 → ((x2 < 0 → Q (some (vI (-1))) (I3, z)) ∧ (0 ≤ x2 → ((0:Int) ≤ x1 ∧ x1 < 16) ∧ ((x2 < (I3 67 x1) → (zcA d m_Bases_grade [vR 0 66, vI x1] z I3 2 fun v8 I6 Z7 => (wz Z7 ∧ (mU d m_Arr_fill [vR 20 10, vI 0] Z7 I6 fun I10 => (0 < v8 ∧ (cm_i ((I10 v8 2) * x2) ∧ (Z7.1 1 6 = sh ∧ ((0:Int) ≤ x1 ∧ x1 < 17) ∧ (0 < ((Z7.1 v8 4)) ∧ ((0:Int) ≤ ((I10 v8 2) * x2) ∧ (0:Int) ≤ (I10 (sh + 2) x1) ∧ (0:Int) ≤ (I10 v8 2) ∧ (((I10 v8 2) * x2) : Int) + (I10 v8 2) ≤ Z7.2.1 ((Z7.1 v8 4)) ∧ ((I10 (sh + 2) x1) : Int) + (I10 v8 2) ≤ 816) ∧ (∀ I17 : cm_I, I17 = iw I10 10 (cpyF (I10 ((Z7.1 v8 4))) ((I10 v8 2) * x2) (I10 10) (I10 (sh + 2) x1) (I10 v8 2)) → (mI d m_Works_keepFresh [vR 11 1, vI x3] Z7 I17 fun v19 I18 => Q (some (vI v19)) (I18, Z7))))))))))) ∧ ((I3 67 x1) ≤ x2 → Q (some (vI (-1))) (I3, z)))))))))))) : cm_call (d + 1) m_Works_base [vR 11 1, vI x1, vI x2, vI x3] (I, z) Q := by
  refine cm_call_in (C := cd_Works_base) (ls := [some (vR 11 1), some (vI x1), some (vI x2), some (vI x3), none]) rfl rfl (show 0 < 1 by decide) rfl ?_
  refine w_iload rfl rfl ?_
  refine m_callI rfl (fun _ => rfl) rfl (mI_mono H fun v2 I1 H => ?_)
  refine w_if rfl (And.intro (fun hc => ?_) (fun hc => ?_))
  · replace H := H.1 hc
    refine w_iconst rfl ⟨by decide, by decide⟩ ?_
    exact w_ireturn rfl H
  · replace H := H.2 hc
    refine w_iload rfl rfl ?_
    refine m_callI rfl (fun _ => rfl) rfl (mI_mono H fun v4 I3 H => ?_)
    refine w_if rfl (And.intro (fun hc => ?_) (fun hc => ?_))
    · replace H := H.1 hc
      refine w_iconst rfl ⟨by decide, by decide⟩ ?_
      exact w_ireturn rfl H
    · replace H := H.2 hc
      refine w_iload rfl rfl ?_
      refine w_if rfl (And.intro (fun hc => ?_) (fun hc => ?_))
      · replace H := H.1 hc
        refine w_iconst rfl ⟨by decide, by decide⟩ ?_
        exact w_ireturn rfl H
      · replace H := H.2 hc
        refine w_iload rfl rfl ?_
        refine w_aload rfl rfl ?_
        refine n_getR 13 0 rfl rfl rfl rfl (by decide) (wz_R hz 1 13 66 rfl (by decide)) ?_
        refine n_getR 4 20 rfl rfl rfl rfl (by decide) (wz_R hz 66 4 67 rfl (by decide)) ?_
        refine w_iload rfl rfl ?_
        have o5 := H.1
        replace H := H.2
        refine n_iaload rfl (by decide) (wz_L hz 67 16 rfl (by decide)) o5 ?_
        refine w_icmp rfl (And.intro (fun hc => ?_) (fun hc => ?_))
        · replace H := H.1 hc
          refine w_aload rfl rfl ?_
          refine n_getR 13 0 rfl rfl rfl rfl (by decide) (wz_R hz 1 13 66 rfl (by decide)) ?_
          refine w_iload rfl rfl ?_
          refine n_callA rfl (fun _ => rfl) rfl (zcA_mono H fun v8 I6 Z7 H => ?_)
          refine w_astore rfl rfl ?_
          refine w_aload rfl rfl ?_
          have o9 := H.1
          replace H := H.2
          refine n_getR 3 20 rfl rfl rfl rfl (by decide) (wz_R o9 1 3 10 rfl (by decide)) ?_
          refine w_iconst rfl ⟨by decide, by decide⟩ ?_
          refine m_callU rfl (fun _ => rfl) rfl (mU_mono H fun I10 H => ?_)
          refine w_aload rfl rfl ?_
          have o11 := H.1
          replace H := H.2
          refine n_getR 4 20 rfl rfl rfl rfl o11 rfl ?_
          refine w_aload rfl rfl ?_
          refine m_getI 2 rfl rfl rfl o11 ?_
          refine w_iload rfl rfl ?_
          have o12 := H.1
          replace H := H.2
          refine w_imul rfl o12 ?_
          refine w_aload rfl rfl ?_
          refine n_getR 3 20 rfl rfl rfl rfl (by decide) (wz_R o9 1 3 10 rfl (by decide)) ?_
          refine w_aload rfl rfl ?_
          have o13 := H.1
          replace H := H.2
          refine n_getR 6 9 rfl rfl rfl rfl (by decide) o13 ?_
          refine n_getR 3 20 rfl rfl rfl rfl (isSh_pos p_sh) (wz_sh3 o9 p_sh) ?_
          refine w_iload rfl rfl ?_
          have o14 := H.1
          replace H := H.2
          refine n_iaload rfl (Nat.add_pos_right _ (by decide)) (wz_shL2 o9 p_sh) o14 ?_
          refine w_aload rfl rfl ?_
          refine m_getI 2 rfl rfl rfl o11 ?_
          have o15 := H.1
          replace H := H.2
          have o16 := H.1
          replace H := H.2
          refine n_copy rfl rfl o15 (by decide) rfl (wz_L o9 10 816 rfl (by decide)) o16 (fun I17 eI17 => ?_)
          replace H := H I17 eI17
          refine w_aload rfl rfl ?_
          refine w_iload rfl rfl ?_
          refine m_callI rfl (fun _ => rfl) rfl (mI_mono H fun v19 I18 H => ?_)
          exact w_ireturn rfl H
        · replace H := H.2 hc
          refine w_iconst rfl ⟨by decide, by decide⟩ ?_
          exact w_ireturn rfl H
set_option maxHeartbeats 4000000 in
set_option maxRecDepth 100000 in
theorem wr_Works_isSystem_16 {d : Nat} {Q : cm_Q} {z : cm_Z} {I : cm_I} (hz : wz z) {x1 : Int} {x2 : Int} {x3 : Int} {z4 : Option cm_V} {z5 : Option cm_V} {s0 : Int}  (H : (mI d m_Works_isKept [vI x1] z I fun v2 I1 => ((v2 = 0 → Q (some (vI (-1))) (I1, z)) ∧ (¬ v2 = 0 → (mI d m_Works_isKept [vI x2] z I1 fun v4 I3 => ((v4 = 0 → Q (some (vI (-1))) (I3, z)) ∧ (¬ v4 = 0 → ((s0 = 0 → cw d cd_Works_isSystem Q 46 [some (vR 11 1), some (vI x1), some (vI x2), some (vI x3), some (vI s0), z5] [] (I3, z)) ∧ (¬ s0 = 0 → (mI d m_Works_isKept [vI x3] z I3 fun v6 I5 => ((¬ v6 = 0 → cw d cd_Works_isSystem Q 46 [some (vR 11 1), some (vI x1), some (vI x2), some (vI x3), some (vI s0), z5] [] (I5, z)) ∧ (v6 = 0 → Q (some (vI (-1))) (I5, z))))))))))))) : cw d cd_Works_isSystem Q 16 [some (vR 11 1), some (vI x1), some (vI x2), some (vI x3), z4, z5] [vI s0] (I, z) := by
  refine w_istore rfl rfl ?_
  refine w_iload rfl rfl ?_
  refine m_callI rfl (fun _ => rfl) rfl (mI_mono H fun v2 I1 H => ?_)
  refine w_if rfl (And.intro (fun hc => ?_) (fun hc => ?_))
  · replace H := H.1 hc
    refine w_iconst rfl ⟨by decide, by decide⟩ ?_
    exact w_ireturn rfl H
  · replace H := H.2 hc
    refine w_iload rfl rfl ?_
    refine m_callI rfl (fun _ => rfl) rfl (mI_mono H fun v4 I3 H => ?_)
    refine w_if rfl (And.intro (fun hc => ?_) (fun hc => ?_))
    · replace H := H.1 hc
      refine w_iconst rfl ⟨by decide, by decide⟩ ?_
      exact w_ireturn rfl H
    · replace H := H.2 hc
      refine w_iload rfl rfl ?_
      refine w_if rfl (And.intro (fun hc => ?_) (fun hc => ?_))
      · replace H := H.1 hc
        exact H
      · replace H := H.2 hc
        refine w_iload rfl rfl ?_
        refine m_callI rfl (fun _ => rfl) rfl (mI_mono H fun v6 I5 H => ?_)
        refine w_if rfl (And.intro (fun hc => ?_) (fun hc => ?_))
        · replace H := H.1 hc
          exact H
        · replace H := H.2 hc
          refine w_iconst rfl ⟨by decide, by decide⟩ ?_
          exact w_ireturn rfl H
set_option maxHeartbeats 4000000 in
set_option maxRecDepth 100000 in
theorem wr_Works_isSystem_46 {d : Nat} {Q : cm_Q} {z : cm_Z} {I : cm_I} (hz : wz z) {x1 : Int} {x2 : Int} {x3 : Int} {x4 : Int} {z5 : Option cm_V} {sh : Nat} (y_1_6 : z.1 1 6 = sh) (H : ((x4 = 0 → cw d cd_Works_isSystem Q 68 [some (vR 11 1), some (vI x1), some (vI x2), some (vI x3), some (vI x4), z5] [vI 0] (I, z)) ∧ (¬ x4 = 0 → ((0:Int) ≤ x3 ∧ x3 < 6) ∧ (mI d m_Shape_degreeOf [vR 9 sh, vR 20 (4 + Int.toNat x3)] z I fun v3 I2 => cw d cd_Works_isSystem Q 68 [some (vR 11 1), some (vI x1), some (vI x2), some (vI x3), some (vI x4), z5] [vI v3] (I2, z))))) : cw d cd_Works_isSystem Q 46 [some (vR 11 1), some (vI x1), some (vI x2), some (vI x3), some (vI x4), z5] [] (I, z) := by
  refine w_iload rfl rfl ?_
  refine w_if rfl (And.intro (fun hc => ?_) (fun hc => ?_))
  · replace H := H.1 hc
    refine w_iconst rfl ⟨by decide, by decide⟩ ?_
    exact H
  · replace H := H.2 hc
    refine w_aload rfl rfl ?_
    refine n_getR 6 9 rfl rfl rfl rfl (by decide) y_1_6 ?_
    refine w_aload rfl rfl ?_
    refine n_getR 2 23 rfl rfl rfl rfl (by decide) (wz_R hz 1 2 3 rfl (by decide)) ?_
    refine w_iload rfl rfl ?_
    have o1 := H.1
    replace H := H.2
    refine n_aaload rfl rfl rfl (by decide) (wz_L hz 3 6 rfl (by decide)) o1 (wz_kept hz o1) ?_
    refine m_callI rfl (fun _ => rfl) rfl (mI_mono H fun v3 I2 H => ?_)
    refine w_goto rfl ?_
    exact H
set_option maxHeartbeats 4000000 in
set_option maxRecDepth 100000 in
theorem wr_Works_isSystem_68 {d : Nat} {Q : cm_Q} {z : cm_Z} {I : cm_I} (hz : wz z) {x1 : Int} {x2 : Int} {x3 : Int} {x4 : Int} {z5 : Option cm_V} {s0 : Int} {sh : Nat} (y_1_6 : z.1 1 6 = sh) (H : ((0:Int) ≤ x1 ∧ x1 < 6) ∧ (mI d m_Shape_degreeOf [vR 9 sh, vR 20 (4 + Int.toNat x1)] z I fun v3 I2 => ((0:Int) ≤ x2 ∧ x2 < 6) ∧ (mI d m_Shape_degreeOf [vR 9 sh, vR 20 (4 + Int.toNat x2)] z I2 fun v6 I5 => (cm_i (v3 + v6) ∧ (cm_i ((v3 + v6) + s0) ∧ ((((v3 + v6) + s0) ≤ 18 → (zcI d m_Works_canBeOfSystem [vR 11 1, vI x1] z I5 fun v11 I9 Z10 => ((v11 = 0 → Q (some (vI 0)) (I9, Z10)) ∧ (¬ v11 = 0 → (zcI d m_Works_canBeOfSystem [vR 11 1, vI x2] Z10 I9 fun v14 I12 Z13 => ((v14 = 0 → Q (some (vI 0)) (I12, Z13)) ∧ (¬ v14 = 0 → ((x4 = 0 → cw d cd_Works_isSystem Q 138 [some (vR 11 1), some (vI x1), some (vI x2), some (vI x3), some (vI x4), some (vI s0)] [] (I12, Z13)) ∧ (¬ x4 = 0 → (zcI d m_Works_canBeOfSystem [vR 11 1, vI x3] Z13 I12 fun v17 I15 Z16 => ((¬ v17 = 0 → cw d cd_Works_isSystem Q 138 [some (vR 11 1), some (vI x1), some (vI x2), some (vI x3), some (vI x4), some (vI s0)] [] (I15, Z16)) ∧ (v17 = 0 → Q (some (vI 0)) (I15, Z16))))))))))))) ∧ (18 < ((v3 + v6) + s0) → Q (some (vI (-1))) (I5, z)))))))) : cw d cd_Works_isSystem Q 68 [some (vR 11 1), some (vI x1), some (vI x2), some (vI x3), some (vI x4), z5] [vI s0] (I, z) := by
  refine w_istore rfl rfl ?_
  refine w_aload rfl rfl ?_
  refine n_getR 6 9 rfl rfl rfl rfl (by decide) y_1_6 ?_
  refine w_aload rfl rfl ?_
  refine n_getR 2 23 rfl rfl rfl rfl (by decide) (wz_R hz 1 2 3 rfl (by decide)) ?_
  refine w_iload rfl rfl ?_
  have o1 := H.1
  replace H := H.2
  refine n_aaload rfl rfl rfl (by decide) (wz_L hz 3 6 rfl (by decide)) o1 (wz_kept hz o1) ?_
  refine m_callI rfl (fun _ => rfl) rfl (mI_mono H fun v3 I2 H => ?_)
  refine w_aload rfl rfl ?_
  refine n_getR 6 9 rfl rfl rfl rfl (by decide) y_1_6 ?_
  refine w_aload rfl rfl ?_
  refine n_getR 2 23 rfl rfl rfl rfl (by decide) (wz_R hz 1 2 3 rfl (by decide)) ?_
  refine w_iload rfl rfl ?_
  have o4 := H.1
  replace H := H.2
  refine n_aaload rfl rfl rfl (by decide) (wz_L hz 3 6 rfl (by decide)) o4 (wz_kept hz o4) ?_
  refine m_callI rfl (fun _ => rfl) rfl (mI_mono H fun v6 I5 H => ?_)
  have o7 := H.1
  replace H := H.2
  refine w_iadd rfl o7 ?_
  refine w_iload rfl rfl ?_
  have o8 := H.1
  replace H := H.2
  refine w_iadd rfl o8 ?_
  refine w_iconst rfl ⟨by decide, by decide⟩ ?_
  refine w_icmp rfl (And.intro (fun hc => ?_) (fun hc => ?_))
  · replace H := H.1 hc
    refine w_aload rfl rfl ?_
    refine w_iload rfl rfl ?_
    refine n_callI rfl (fun _ => rfl) rfl (zcI_mono H fun v11 I9 Z10 H => ?_)
    refine w_if rfl (And.intro (fun hc => ?_) (fun hc => ?_))
    · replace H := H.1 hc
      refine w_iconst rfl ⟨by decide, by decide⟩ ?_
      exact w_ireturn rfl H
    · replace H := H.2 hc
      refine w_aload rfl rfl ?_
      refine w_iload rfl rfl ?_
      refine n_callI rfl (fun _ => rfl) rfl (zcI_mono H fun v14 I12 Z13 H => ?_)
      refine w_if rfl (And.intro (fun hc => ?_) (fun hc => ?_))
      · replace H := H.1 hc
        refine w_iconst rfl ⟨by decide, by decide⟩ ?_
        exact w_ireturn rfl H
      · replace H := H.2 hc
        refine w_iload rfl rfl ?_
        refine w_if rfl (And.intro (fun hc => ?_) (fun hc => ?_))
        · replace H := H.1 hc
          exact H
        · replace H := H.2 hc
          refine w_aload rfl rfl ?_
          refine w_iload rfl rfl ?_
          refine n_callI rfl (fun _ => rfl) rfl (zcI_mono H fun v17 I15 Z16 H => ?_)
          refine w_if rfl (And.intro (fun hc => ?_) (fun hc => ?_))
          · replace H := H.1 hc
            exact H
          · replace H := H.2 hc
            refine w_iconst rfl ⟨by decide, by decide⟩ ?_
            exact w_ireturn rfl H
  · replace H := H.2 hc
    refine w_iconst rfl ⟨by decide, by decide⟩ ?_
    exact w_ireturn rfl H
set_option maxHeartbeats 4000000 in
set_option maxRecDepth 100000 in
theorem wr_Works_isSystem_138 {d : Nat} {Q : cm_Q} {z : cm_Z} {I : cm_I} (hz : wz z) {x1 : Int} {x2 : Int} {x3 : Int} {x4 : Int} {z5 : Option cm_V}  (H : (zcU d m_Works_putForSystem [vR 11 1, vI 0, vI x1] z I fun I1 Z2 => (zcU d m_Works_putForSystem [vR 11 1, vI 1, vI x2] Z2 I1 fun I3 Z4 => ((x4 = 0 → cw d cd_Works_isSystem Q 161 [some (vR 11 1), some (vI x1), some (vI x2), some (vI x3), some (vI x4), z5] [] (I3, Z4)) ∧ (¬ x4 = 0 → (zcU d m_Works_putForSystem [vR 11 1, vI 2, vI x3] Z4 I3 fun I5 Z6 => cw d cd_Works_isSystem Q 161 [some (vR 11 1), some (vI x1), some (vI x2), some (vI x3), some (vI x4), z5] [] (I5, Z6))))))) : cw d cd_Works_isSystem Q 138 [some (vR 11 1), some (vI x1), some (vI x2), some (vI x3), some (vI x4), z5] [] (I, z) := by
  refine w_aload rfl rfl ?_
  refine w_iconst rfl ⟨by decide, by decide⟩ ?_
  refine w_iload rfl rfl ?_
  refine n_callU rfl (fun _ => rfl) rfl (zcU_mono H fun I1 Z2 H => ?_)
  refine w_aload rfl rfl ?_
  refine w_iconst rfl ⟨by decide, by decide⟩ ?_
  refine w_iload rfl rfl ?_
  refine n_callU rfl (fun _ => rfl) rfl (zcU_mono H fun I3 Z4 H => ?_)
  refine w_iload rfl rfl ?_
  refine w_if rfl (And.intro (fun hc => ?_) (fun hc => ?_))
  · replace H := H.1 hc
    exact H
  · replace H := H.2 hc
    refine w_aload rfl rfl ?_
    refine w_iconst rfl ⟨by decide, by decide⟩ ?_
    refine w_iload rfl rfl ?_
    refine n_callU rfl (fun _ => rfl) rfl (zcU_mono H fun I5 Z6 H => ?_)
    exact H
set_option maxHeartbeats 4000000 in
set_option maxRecDepth 100000 in
theorem wr_Works_isSystem_161 {d : Nat} {Q : cm_Q} {z : cm_Z} {I : cm_I} (hz : wz z) {z1 : Option cm_V} {z2 : Option cm_V} {z3 : Option cm_V} {z4 : Option cm_V} {z5 : Option cm_V}  (H : (zcI d m_Search_isSpanning [vR 6 185] z I fun v3 I1 Z2 => ((v3 = 0 → Q (some (vI 0)) (I1, Z2)) ∧ (¬ v3 = 0 → Q (some (vI 1)) (I1, Z2))))) : cw d cd_Works_isSystem Q 161 [some (vR 11 1), z1, z2, z3, z4, z5] [] (I, z) := by
  refine w_aload rfl rfl ?_
  refine n_getR 14 6 rfl rfl rfl rfl (by decide) (wz_R hz 1 14 185 rfl (by decide)) ?_
  refine n_callI rfl (fun _ => rfl) rfl (zcI_mono H fun v3 I1 Z2 H => ?_)
  refine w_if rfl (And.intro (fun hc => ?_) (fun hc => ?_))
  · replace H := H.1 hc
    refine w_iconst rfl ⟨by decide, by decide⟩ ?_
    exact w_ireturn rfl H
  · replace H := H.2 hc
    refine w_iconst rfl ⟨by decide, by decide⟩ ?_
    refine w_goto rfl ?_
    exact w_ireturn rfl H
set_option maxHeartbeats 4000000 in
set_option maxRecDepth 100000 in
theorem wr_Works_isSystem {d : Nat} {Q : cm_Q} {z : cm_Z} {I : cm_I} (hz : wz z) {x1 : Int} {x2 : Int} {x3 : Int} {sh : Nat} (y_1_6 : z.1 1 6 = sh) (p_sh : isSh sh) (H : ((¬ (I sh 0) = 3 → cw d cd_Works_isSystem Q 16 [some (vR 11 1), some (vI x1), some (vI x2), some (vI x3), none, none] [vI 0] (I, z)) ∧ ((I sh 0) = 3 → cw d cd_Works_isSystem Q 16 [some (vR 11 1), some (vI x1), some (vI x2), some (vI x3), none, none] [vI 1] (I, z)))) : cm_call (d + 1) m_Works_isSystem [vR 11 1, vI x1, vI x2, vI x3] (I, z) Q := by
  refine cm_call_in (C := cd_Works_isSystem) (ls := [some (vR 11 1), some (vI x1), some (vI x2), some (vI x3), none, none]) rfl rfl (show 0 < 1 by decide) rfl ?_
  refine w_aload rfl rfl ?_
  refine n_getR 6 9 rfl rfl rfl rfl (by decide) y_1_6 ?_
  refine m_getI 0 rfl rfl rfl (isSh_pos p_sh) ?_
  refine w_iconst rfl ⟨by decide, by decide⟩ ?_
  refine w_icmp rfl (And.intro (fun hc => ?_) (fun hc => ?_))
  · replace H := H.1 hc
    refine w_iconst rfl ⟨by decide, by decide⟩ ?_
    exact H
  · replace H := H.2 hc
    refine w_iconst rfl ⟨by decide, by decide⟩ ?_
    refine w_goto rfl ?_
    exact H
set_option maxHeartbeats 4000000 in
set_option maxRecDepth 100000 in
theorem wr_Works_primary {d : Nat} {Q : cm_Q} {z : cm_Z} {I : cm_I} (hz : wz z) {x1 : Int} {x2 : Int} {sh : Nat} (y_1_6 : z.1 1 6 = sh) (p_sh : isSh sh) (H : ((x1 < 0 → Q (some (vI (-1))) (I, z)) ∧ (0 ≤ x1 → (((I sh 0) ≤ x1 → Q (some (vI (-1))) (I, z)) ∧ (x1 < (I sh 0) → ((x2 < 0 → Q (some (vI (-1))) (I, z)) ∧ (0 ≤ x2 → ((1 < x2 → Q (some (vI (-1))) (I, z)) ∧ (x2 ≤ 1 → (zcI d m_Search_find [vR 6 185] z I fun v3 I1 Z2 => ((¬ v3 = 0 → ((¬ x2 = 0 → (wz Z2 ∧ ((0:Int) ≤ x1 ∧ x1 < 3) ∧ Q (some (vI (I1 191 x1))) (I1, Z2))) ∧ (x2 = 0 → (wz Z2 ∧ ((0:Int) ≤ x1 ∧ x1 < 3) ∧ Q (some (vI (I1 190 x1))) (I1, Z2))))) ∧ (v3 = 0 → Q (some (vI (-1))) (I1, Z2))))))))))))) : cm_call (d + 1) m_Works_primary [vR 11 1, vI x1, vI x2] (I, z) Q := by
  refine cm_call_in (C := cd_Works_primary) (ls := [some (vR 11 1), some (vI x1), some (vI x2)]) rfl rfl (show 0 < 1 by decide) rfl ?_
  refine w_iload rfl rfl ?_
  refine w_if rfl (And.intro (fun hc => ?_) (fun hc => ?_))
  · replace H := H.1 hc
    refine w_iconst rfl ⟨by decide, by decide⟩ ?_
    exact w_ireturn rfl H
  · replace H := H.2 hc
    refine w_iload rfl rfl ?_
    refine w_aload rfl rfl ?_
    refine n_getR 6 9 rfl rfl rfl rfl (by decide) y_1_6 ?_
    refine m_getI 0 rfl rfl rfl (isSh_pos p_sh) ?_
    refine w_icmp rfl (And.intro (fun hc => ?_) (fun hc => ?_))
    · replace H := H.1 hc
      refine w_iconst rfl ⟨by decide, by decide⟩ ?_
      exact w_ireturn rfl H
    · replace H := H.2 hc
      refine w_iload rfl rfl ?_
      refine w_if rfl (And.intro (fun hc => ?_) (fun hc => ?_))
      · replace H := H.1 hc
        refine w_iconst rfl ⟨by decide, by decide⟩ ?_
        exact w_ireturn rfl H
      · replace H := H.2 hc
        refine w_iload rfl rfl ?_
        refine w_iconst rfl ⟨by decide, by decide⟩ ?_
        refine w_icmp rfl (And.intro (fun hc => ?_) (fun hc => ?_))
        · replace H := H.1 hc
          refine w_iconst rfl ⟨by decide, by decide⟩ ?_
          exact w_ireturn rfl H
        · replace H := H.2 hc
          refine w_aload rfl rfl ?_
          refine n_getR 14 6 rfl rfl rfl rfl (by decide) (wz_R hz 1 14 185 rfl (by decide)) ?_
          refine n_callI rfl (fun _ => rfl) rfl (zcI_mono H fun v3 I1 Z2 H => ?_)
          refine w_if rfl (And.intro (fun hc => ?_) (fun hc => ?_))
          · replace H := H.1 hc
            refine w_iload rfl rfl ?_
            refine w_if rfl (And.intro (fun hc => ?_) (fun hc => ?_))
            · replace H := H.1 hc
              refine w_aload rfl rfl ?_
              have o4 := H.1
              replace H := H.2
              refine n_getR 14 6 rfl rfl rfl rfl (by decide) (wz_R o4 1 14 185 rfl (by decide)) ?_
              refine n_getR 13 20 rfl rfl rfl rfl (by decide) (wz_R o4 185 13 191 rfl (by decide)) ?_
              refine w_iload rfl rfl ?_
              have o5 := H.1
              replace H := H.2
              refine n_iaload rfl (by decide) (wz_L o4 191 3 rfl (by decide)) o5 ?_
              exact w_ireturn rfl H
            · replace H := H.2 hc
              refine w_aload rfl rfl ?_
              have o6 := H.1
              replace H := H.2
              refine n_getR 14 6 rfl rfl rfl rfl (by decide) (wz_R o6 1 14 185 rfl (by decide)) ?_
              refine n_getR 12 20 rfl rfl rfl rfl (by decide) (wz_R o6 185 12 190 rfl (by decide)) ?_
              refine w_iload rfl rfl ?_
              have o7 := H.1
              replace H := H.2
              refine n_iaload rfl (by decide) (wz_L o6 190 3 rfl (by decide)) o7 ?_
              refine w_goto rfl ?_
              exact w_ireturn rfl H
          · replace H := H.2 hc
            refine w_iconst rfl ⟨by decide, by decide⟩ ?_
            exact w_ireturn rfl H
set_option maxHeartbeats 4000000 in
set_option maxRecDepth 100000 in
theorem wr_Works_secondaries {d : Nat} {Q : cm_Q} {z : cm_Z} {I : cm_I} (hz : wz z)   (H : (zcI d m_Works_findSecondaries [vR 11 1] z I fun v3 I1 Z2 => ((v3 = 0 → Q (some (vI (-1))) (I1, Z2)) ∧ (¬ v3 = 0 → (wz Z2 ∧ Q (some (vI (I1 198 3))) (I1, Z2)))))) : cm_call (d + 1) m_Works_secondaries [vR 11 1] (I, z) Q := by
  refine cm_call_in (C := cd_Works_secondaries) (ls := [some (vR 11 1)]) rfl rfl (show 0 < 1 by decide) rfl ?_
  refine w_aload rfl rfl ?_
  refine n_callI rfl (fun _ => rfl) rfl (zcI_mono H fun v3 I1 Z2 H => ?_)
  refine w_if rfl (And.intro (fun hc => ?_) (fun hc => ?_))
  · replace H := H.1 hc
    refine w_iconst rfl ⟨by decide, by decide⟩ ?_
    exact w_ireturn rfl H
  · replace H := H.2 hc
    refine w_aload rfl rfl ?_
    have o4 := H.1
    replace H := H.2
    refine n_getR 15 8 rfl rfl rfl rfl (by decide) (wz_R o4 1 15 198 rfl (by decide)) ?_
    refine m_getI 3 rfl rfl rfl (by decide) ?_
    refine w_goto rfl ?_
    exact w_ireturn rfl H
set_option maxHeartbeats 4000000 in
set_option maxRecDepth 100000 in
theorem wr_Works_secondary {d : Nat} {Q : cm_Q} {z : cm_Z} {I : cm_I} (hz : wz z) {x1 : Int} {x2 : Int}  (H : ((x1 < 0 → Q (some (vI (-1))) (I, z)) ∧ (0 ≤ x1 → ((x2 < 0 → Q (some (vI (-1))) (I, z)) ∧ (0 ≤ x2 → ((1 < x2 → Q (some (vI (-1))) (I, z)) ∧ (x2 ≤ 1 → (zcI d m_Works_findSecondaries [vR 11 1] z I fun v3 I1 Z2 => ((v3 = 0 → Q (some (vI (-1))) (I1, Z2)) ∧ (¬ v3 = 0 → (wz Z2 ∧ ((x1 < (I1 198 3) → ((¬ x2 = 0 → ((0:Int) ≤ x1 ∧ x1 < 216) ∧ Q (some (vI (I1 200 x1))) (I1, Z2)) ∧ (x2 = 0 → ((0:Int) ≤ x1 ∧ x1 < 216) ∧ Q (some (vI (I1 199 x1))) (I1, Z2)))) ∧ ((I1 198 3) ≤ x1 → Q (some (vI (-1))) (I1, Z2)))))))))))))) : cm_call (d + 1) m_Works_secondary [vR 11 1, vI x1, vI x2] (I, z) Q := by
  refine cm_call_in (C := cd_Works_secondary) (ls := [some (vR 11 1), some (vI x1), some (vI x2)]) rfl rfl (show 0 < 1 by decide) rfl ?_
  refine w_iload rfl rfl ?_
  refine w_if rfl (And.intro (fun hc => ?_) (fun hc => ?_))
  · replace H := H.1 hc
    refine w_iconst rfl ⟨by decide, by decide⟩ ?_
    exact w_ireturn rfl H
  · replace H := H.2 hc
    refine w_iload rfl rfl ?_
    refine w_if rfl (And.intro (fun hc => ?_) (fun hc => ?_))
    · replace H := H.1 hc
      refine w_iconst rfl ⟨by decide, by decide⟩ ?_
      exact w_ireturn rfl H
    · replace H := H.2 hc
      refine w_iload rfl rfl ?_
      refine w_iconst rfl ⟨by decide, by decide⟩ ?_
      refine w_icmp rfl (And.intro (fun hc => ?_) (fun hc => ?_))
      · replace H := H.1 hc
        refine w_iconst rfl ⟨by decide, by decide⟩ ?_
        exact w_ireturn rfl H
      · replace H := H.2 hc
        refine w_aload rfl rfl ?_
        refine n_callI rfl (fun _ => rfl) rfl (zcI_mono H fun v3 I1 Z2 H => ?_)
        refine w_if rfl (And.intro (fun hc => ?_) (fun hc => ?_))
        · replace H := H.1 hc
          refine w_iconst rfl ⟨by decide, by decide⟩ ?_
          exact w_ireturn rfl H
        · replace H := H.2 hc
          refine w_iload rfl rfl ?_
          refine w_aload rfl rfl ?_
          have o4 := H.1
          replace H := H.2
          refine n_getR 15 8 rfl rfl rfl rfl (by decide) (wz_R o4 1 15 198 rfl (by decide)) ?_
          refine m_getI 3 rfl rfl rfl (by decide) ?_
          refine w_icmp rfl (And.intro (fun hc => ?_) (fun hc => ?_))
          · replace H := H.1 hc
            refine w_iload rfl rfl ?_
            refine w_if rfl (And.intro (fun hc => ?_) (fun hc => ?_))
            · replace H := H.1 hc
              refine w_aload rfl rfl ?_
              refine n_getR 15 8 rfl rfl rfl rfl (by decide) (wz_R o4 1 15 198 rfl (by decide)) ?_
              refine n_getR 6 20 rfl rfl rfl rfl (by decide) (wz_R o4 198 6 200 rfl (by decide)) ?_
              refine w_iload rfl rfl ?_
              have o5 := H.1
              replace H := H.2
              refine n_iaload rfl (by decide) (wz_L o4 200 216 rfl (by decide)) o5 ?_
              exact w_ireturn rfl H
            · replace H := H.2 hc
              refine w_aload rfl rfl ?_
              refine n_getR 15 8 rfl rfl rfl rfl (by decide) (wz_R o4 1 15 198 rfl (by decide)) ?_
              refine n_getR 5 20 rfl rfl rfl rfl (by decide) (wz_R o4 198 5 199 rfl (by decide)) ?_
              refine w_iload rfl rfl ?_
              have o6 := H.1
              replace H := H.2
              refine n_iaload rfl (by decide) (wz_L o4 199 216 rfl (by decide)) o6 ?_
              refine w_goto rfl ?_
              exact w_ireturn rfl H
          · replace H := H.2 hc
            refine w_iconst rfl ⟨by decide, by decide⟩ ?_
            exact w_ireturn rfl H
set_option maxHeartbeats 4000000 in
set_option maxRecDepth 100000 in
theorem wr_Works_numerator_20 {d : Nat} {Q : cm_Q} {z : cm_Z} {I : cm_I} (hz : wz z) {x1 : Int} {x2 : Int} {x3 : Int}  (H : (((I 198 3) ≤ x3 → Q (some (vI x2)) (I, z)) ∧ (x3 < (I 198 3) → ((0:Int) ≤ x3 ∧ x3 < 216) ∧ ((¬ (I 199 x3) = x1 → (cm_i (x3 + 1) ∧ cw d cd_Works_numerator Q 20 [some (vR 11 1), some (vI x1), some (vI x2), some (vI (x3 + 1))] [] (I, z))) ∧ ((I 199 x3) = x1 → (cm_i (x2 + 1) ∧ (cm_i (x3 + 1) ∧ cw d cd_Works_numerator Q 20 [some (vR 11 1), some (vI x1), some (vI (x2 + 1)), some (vI (x3 + 1))] [] (I, z)))))))) : cw d cd_Works_numerator Q 20 [some (vR 11 1), some (vI x1), some (vI x2), some (vI x3)] [] (I, z) := by
  refine w_iload rfl rfl ?_
  refine w_aload rfl rfl ?_
  refine n_getR 15 8 rfl rfl rfl rfl (by decide) (wz_R hz 1 15 198 rfl (by decide)) ?_
  refine m_getI 3 rfl rfl rfl (by decide) ?_
  refine w_icmp rfl (And.intro (fun hc => ?_) (fun hc => ?_))
  · replace H := H.1 hc
    refine w_iload rfl rfl ?_
    exact w_ireturn rfl H
  · replace H := H.2 hc
    refine w_aload rfl rfl ?_
    refine n_getR 15 8 rfl rfl rfl rfl (by decide) (wz_R hz 1 15 198 rfl (by decide)) ?_
    refine n_getR 5 20 rfl rfl rfl rfl (by decide) (wz_R hz 198 5 199 rfl (by decide)) ?_
    refine w_iload rfl rfl ?_
    have o1 := H.1
    replace H := H.2
    refine n_iaload rfl (by decide) (wz_L hz 199 216 rfl (by decide)) o1 ?_
    refine w_iload rfl rfl ?_
    refine w_icmp rfl (And.intro (fun hc => ?_) (fun hc => ?_))
    · replace H := H.1 hc
      have o2 := H.1
      replace H := H.2
      refine w_iinc rfl rfl rfl o2 ?_
      refine w_goto rfl ?_
      exact H
    · replace H := H.2 hc
      have o3 := H.1
      replace H := H.2
      refine w_iinc rfl rfl rfl o3 ?_
      have o4 := H.1
      replace H := H.2
      refine w_iinc rfl rfl rfl o4 ?_
      refine w_goto rfl ?_
      exact H
set_option maxHeartbeats 4000000 in
set_option maxRecDepth 100000 in
theorem wr_Works_numerator {d : Nat} {Q : cm_Q} {z : cm_Z} {I : cm_I} (hz : wz z) {x1 : Int}  (H : (mI d m_Works_isPower [vI x1] z I fun v2 I1 => ((v2 = 0 → Q (some (vI (-1))) (I1, z)) ∧ (¬ v2 = 0 → (zcI d m_Works_findSecondaries [vR 11 1] z I1 fun v5 I3 Z4 => ((¬ v5 = 0 → cw d cd_Works_numerator Q 20 [some (vR 11 1), some (vI x1), some (vI 0), some (vI 0)] [] (I3, Z4)) ∧ (v5 = 0 → Q (some (vI (-1))) (I3, Z4)))))))) : cm_call (d + 1) m_Works_numerator [vR 11 1, vI x1] (I, z) Q := by
  refine cm_call_in (C := cd_Works_numerator) (ls := [some (vR 11 1), some (vI x1), none, none]) rfl rfl (show 0 < 1 by decide) rfl ?_
  refine w_iload rfl rfl ?_
  refine m_callI rfl (fun _ => rfl) rfl (mI_mono H fun v2 I1 H => ?_)
  refine w_if rfl (And.intro (fun hc => ?_) (fun hc => ?_))
  · replace H := H.1 hc
    refine w_iconst rfl ⟨by decide, by decide⟩ ?_
    exact w_ireturn rfl H
  · replace H := H.2 hc
    refine w_aload rfl rfl ?_
    refine n_callI rfl (fun _ => rfl) rfl (zcI_mono H fun v5 I3 Z4 H => ?_)
    refine w_if rfl (And.intro (fun hc => ?_) (fun hc => ?_))
    · replace H := H.1 hc
      refine w_iconst rfl ⟨by decide, by decide⟩ ?_
      refine w_istore rfl rfl ?_
      refine w_iconst rfl ⟨by decide, by decide⟩ ?_
      refine w_istore rfl rfl ?_
      exact H
    · replace H := H.2 hc
      refine w_iconst rfl ⟨by decide, by decide⟩ ?_
      exact w_ireturn rfl H
set_option maxHeartbeats 4000000 in
set_option maxRecDepth 100000 in
theorem wr_Works_rewrite {d : Nat} {Q : cm_Q} {z : cm_Z} {I : cm_I} (hz : wz z) {x1 : Int} {sh : Nat}  (H : (mI d m_Works_isKept [vI x1] z I fun v2 I1 => ((v2 = 0 → Q (some (vI (-1))) (I1, z)) ∧ (¬ v2 = 0 → (zcI d m_Works_findSecondaries [vR 11 1] z I1 fun v5 I3 Z4 => ((¬ v5 = 0 → (wz Z4 ∧ ((0:Int) ≤ x1 ∧ x1 < 6) ∧ (zcI d m_Works_isLeftAlone [vR 11 1, vR 20 (4 + Int.toNat x1)] Z4 I3 fun v10 I8 Z9 => ((¬ v10 = 0 → (wz Z9 ∧ (Z9.1 1 6 = sh ∧ (mI d m_Shape_degreeOf [vR 9 sh, vR 20 (4 + Int.toNat x1)] Z9 I8 fun v14 I13 => (zcU d m_Rewriter_extend [vR 8 198, vI v14] Z9 I13 fun I15 Z16 => (wz Z16 ∧ (mU d m_Rewriter_tell [vR 8 198, vR 20 (4 + Int.toNat x1)] Z16 I15 fun I18 => Q (some (vI (I18 198 7))) (I18, Z16)))))))) ∧ (v10 = 0 → Q (some (vI (-2))) (I8, Z9)))))) ∧ (v5 = 0 → Q (some (vI (-1))) (I3, Z4)))))))) : cm_call (d + 1) m_Works_rewrite [vR 11 1, vI x1] (I, z) Q := by
  refine cm_call_in (C := cd_Works_rewrite) (ls := [some (vR 11 1), some (vI x1)]) rfl rfl (show 0 < 1 by decide) rfl ?_
  refine w_iload rfl rfl ?_
  refine m_callI rfl (fun _ => rfl) rfl (mI_mono H fun v2 I1 H => ?_)
  refine w_if rfl (And.intro (fun hc => ?_) (fun hc => ?_))
  · replace H := H.1 hc
    refine w_iconst rfl ⟨by decide, by decide⟩ ?_
    exact w_ireturn rfl H
  · replace H := H.2 hc
    refine w_aload rfl rfl ?_
    refine n_callI rfl (fun _ => rfl) rfl (zcI_mono H fun v5 I3 Z4 H => ?_)
    refine w_if rfl (And.intro (fun hc => ?_) (fun hc => ?_))
    · replace H := H.1 hc
      refine w_aload rfl rfl ?_
      refine w_aload rfl rfl ?_
      have o6 := H.1
      replace H := H.2
      refine n_getR 2 23 rfl rfl rfl rfl (by decide) (wz_R o6 1 2 3 rfl (by decide)) ?_
      refine w_iload rfl rfl ?_
      have o7 := H.1
      replace H := H.2
      refine n_aaload rfl rfl rfl (by decide) (wz_L o6 3 6 rfl (by decide)) o7 (wz_kept o6 o7) ?_
      refine n_callI rfl (fun _ => rfl) rfl (zcI_mono H fun v10 I8 Z9 H => ?_)
      refine w_if rfl (And.intro (fun hc => ?_) (fun hc => ?_))
      · replace H := H.1 hc
        refine w_aload rfl rfl ?_
        have o11 := H.1
        replace H := H.2
        refine n_getR 15 8 rfl rfl rfl rfl (by decide) (wz_R o11 1 15 198 rfl (by decide)) ?_
        refine w_aload rfl rfl ?_
        have o12 := H.1
        replace H := H.2
        refine n_getR 6 9 rfl rfl rfl rfl (by decide) o12 ?_
        refine w_aload rfl rfl ?_
        refine n_getR 2 23 rfl rfl rfl rfl (by decide) (wz_R o11 1 2 3 rfl (by decide)) ?_
        refine w_iload rfl rfl ?_
        refine n_aaload rfl rfl rfl (by decide) (wz_L o11 3 6 rfl (by decide)) o7 (wz_kept o11 o7) ?_
        refine m_callI rfl (fun _ => rfl) rfl (mI_mono H fun v14 I13 H => ?_)
        refine n_callU rfl (fun _ => rfl) rfl (zcU_mono H fun I15 Z16 H => ?_)
        refine w_aload rfl rfl ?_
        have o17 := H.1
        replace H := H.2
        refine n_getR 15 8 rfl rfl rfl rfl (by decide) (wz_R o17 1 15 198 rfl (by decide)) ?_
        refine w_aload rfl rfl ?_
        refine n_getR 2 23 rfl rfl rfl rfl (by decide) (wz_R o17 1 2 3 rfl (by decide)) ?_
        refine w_iload rfl rfl ?_
        refine n_aaload rfl rfl rfl (by decide) (wz_L o17 3 6 rfl (by decide)) o7 (wz_kept o17 o7) ?_
        refine m_callU rfl (fun _ => rfl) rfl (mU_mono H fun I18 H => ?_)
        refine w_aload rfl rfl ?_
        refine n_getR 15 8 rfl rfl rfl rfl (by decide) (wz_R o17 1 15 198 rfl (by decide)) ?_
        refine m_getI 7 rfl rfl rfl (by decide) ?_
        exact w_ireturn rfl H
      · replace H := H.2 hc
        refine w_iconst rfl ⟨by decide, by decide⟩ ?_
        exact w_ireturn rfl H
    · replace H := H.2 hc
      refine w_iconst rfl ⟨by decide, by decide⟩ ?_
      exact w_ireturn rfl H
set_option maxHeartbeats 4000000 in
set_option maxRecDepth 100000 in
theorem wr_Works_rewritten {d : Nat} {Q : cm_Q} {z : cm_Z} {I : cm_I} (hz : wz z) {x1 : Int} {x2 : Int} {x3 : Int} {x4 : Int}  (H : (((I 198 7) < 0 → Q (some (vI (-1))) (I, z)) ∧ (0 ≤ (I 198 7) → (mI d m_Works_isProduct [vR 11 1, vI x1, vI x2, vI x3, vI x4] z I fun v2 I1 => ((¬ v2 = 0 → (mI d m_Rewriter_placeOf [vR 8 198, vI x1, vI x2, vI x3, vI x4] z I1 fun v4 I3 => ((0 ≤ v4 → ((0:Int) ≤ v4 ∧ v4 < 816) ∧ Q (some (vI (I3 201 v4))) (I3, z)) ∧ (v4 < 0 → Q (some (vI 0)) (I3, z))))) ∧ (v2 = 0 → Q (some (vI (-1))) (I1, z))))))) : cm_call (d + 1) m_Works_rewritten [vR 11 1, vI x1, vI x2, vI x3, vI x4] (I, z) Q := by
  refine cm_call_in (C := cd_Works_rewritten) (ls := [some (vR 11 1), some (vI x1), some (vI x2), some (vI x3), some (vI x4), none]) rfl rfl (show 0 < 1 by decide) rfl ?_
  refine w_aload rfl rfl ?_
  refine n_getR 15 8 rfl rfl rfl rfl (by decide) (wz_R hz 1 15 198 rfl (by decide)) ?_
  refine m_getI 7 rfl rfl rfl (by decide) ?_
  refine w_if rfl (And.intro (fun hc => ?_) (fun hc => ?_))
  · replace H := H.1 hc
    refine w_iconst rfl ⟨by decide, by decide⟩ ?_
    exact w_ireturn rfl H
  · replace H := H.2 hc
    refine w_aload rfl rfl ?_
    refine w_iload rfl rfl ?_
    refine w_iload rfl rfl ?_
    refine w_iload rfl rfl ?_
    refine w_iload rfl rfl ?_
    refine m_callI rfl (fun _ => rfl) rfl (mI_mono H fun v2 I1 H => ?_)
    refine w_if rfl (And.intro (fun hc => ?_) (fun hc => ?_))
    · replace H := H.1 hc
      refine w_aload rfl rfl ?_
      refine n_getR 15 8 rfl rfl rfl rfl (by decide) (wz_R hz 1 15 198 rfl (by decide)) ?_
      refine w_iload rfl rfl ?_
      refine w_iload rfl rfl ?_
      refine w_iload rfl rfl ?_
      refine w_iload rfl rfl ?_
      refine m_callI rfl (fun _ => rfl) rfl (mI_mono H fun v4 I3 H => ?_)
      refine w_istore rfl rfl ?_
      refine w_iload rfl rfl ?_
      refine w_if rfl (And.intro (fun hc => ?_) (fun hc => ?_))
      · replace H := H.1 hc
        refine w_aload rfl rfl ?_
        refine n_getR 15 8 rfl rfl rfl rfl (by decide) (wz_R hz 1 15 198 rfl (by decide)) ?_
        refine n_getR 8 20 rfl rfl rfl rfl (by decide) (wz_R hz 198 8 201 rfl (by decide)) ?_
        refine w_iload rfl rfl ?_
        have o5 := H.1
        replace H := H.2
        refine n_iaload rfl (by decide) (wz_L hz 201 816 rfl (by decide)) o5 ?_
        exact w_ireturn rfl H
      · replace H := H.2 hc
        refine w_iconst rfl ⟨by decide, by decide⟩ ?_
        refine w_goto rfl ?_
        exact w_ireturn rfl H
    · replace H := H.2 hc
      refine w_iconst rfl ⟨by decide, by decide⟩ ?_
      exact w_ireturn rfl H
set_option maxHeartbeats 4000000 in
set_option maxRecDepth 100000 in
theorem wr_Works_relation {d : Nat} {Q : cm_Q} {z : cm_Z} {I : cm_I} (hz : wz z) {x1 : Int} {x2 : Int} {x3 : Int} {x4 : Int} {x5 : Int} {x6 : Int} {sh : Nat} (p_sh : isSh sh) (H : (zcI d m_Works_findSecondaries [vR 11 1] z I fun v3 I1 Z2 => ((v3 = 0 → Q (some (vI (-1))) (I1, Z2)) ∧ (¬ v3 = 0 → (mI d m_Works_isSecondary [vR 11 1, vI x1] Z2 I1 fun v5 I4 => ((v5 = 0 → Q (some (vI (-1))) (I4, Z2)) ∧ (¬ v5 = 0 → (mI d m_Works_isSecondary [vR 11 1, vI x2] Z2 I4 fun v7 I6 => ((v7 = 0 → Q (some (vI (-1))) (I6, Z2)) ∧ (¬ v7 = 0 → (mI d m_Works_isProduct [vR 11 1, vI x3, vI x4, vI x5, vI x6] Z2 I6 fun v9 I8 => ((¬ v9 = 0 → (wz Z2 ∧ ((0:Int) ≤ x1 ∧ x1 < 216) ∧ ((0:Int) ≤ x2 ∧ x2 < 216) ∧ (cm_i ((I8 199 x1) + (I8 199 x2)) ∧ ((((I8 199 x1) + (I8 199 x2)) ≤ 15 → (zcU d m_Rewriter_extend [vR 8 198, vI ((I8 199 x1) + (I8 199 x2))] Z2 I8 fun I14 Z15 => (wz Z15 ∧ (zcU d m_Rewriter_relate [vR 8 198, vI x1, vI x2] Z15 I14 fun I17 Z18 => (wz Z18 ∧ (mI d m_Rewriter_placeOf [vR 8 198, vI x3, vI x4, vI x5, vI x6] Z18 I17 fun v21 I20 => (Z18.1 1 6 = sh ∧ ((0:Int) ≤ ((I8 199 x1) + (I8 199 x2)) ∧ ((I8 199 x1) + (I8 199 x2)) < 17) ∧ (cm_i (v21 - (I20 (sh + 2) ((I8 199 x1) + (I8 199 x2)))) ∧ (((v21 - (I20 (sh + 2) ((I8 199 x1) + (I8 199 x2)))) < 0 → Q (some (vI 0)) (I20, Z18)) ∧ (0 ≤ (v21 - (I20 (sh + 2) ((I8 199 x1) + (I8 199 x2)))) → (cm_i (((I8 199 x1) + (I8 199 x2)) + 1) ∧ ((0:Int) ≤ (((I8 199 x1) + (I8 199 x2)) + 1) ∧ (((I8 199 x1) + (I8 199 x2)) + 1) < 19) ∧ (((v21 - (I20 (sh + 2) ((I8 199 x1) + (I8 199 x2)))) < (I20 (sh + 1) (((I8 199 x1) + (I8 199 x2)) + 1)) → ((0:Int) ≤ (v21 - (I20 (sh + 2) ((I8 199 x1) + (I8 199 x2)))) ∧ (v21 - (I20 (sh + 2) ((I8 199 x1) + (I8 199 x2)))) < 136) ∧ Q (some (vI (I20 202 (v21 - (I20 (sh + 2) ((I8 199 x1) + (I8 199 x2))))))) (I20, Z18)) ∧ ((I20 (sh + 1) (((I8 199 x1) + (I8 199 x2)) + 1)) ≤ (v21 - (I20 (sh + 2) ((I8 199 x1) + (I8 199 x2)))) → Q (some (vI 0)) (I20, Z18)))))))))))))) ∧ (15 < ((I8 199 x1) + (I8 199 x2)) → Q (some (vI (-2))) (I8, Z2)))))) ∧ (v9 = 0 → Q (some (vI (-1))) (I8, Z2)))))))))))))) : cm_call (d + 1) m_Works_relation [vR 11 1, vI x1, vI x2, vI x3, vI x4, vI x5, vI x6] (I, z) Q := by
  refine cm_call_in (C := cd_Works_relation) (ls := [some (vR 11 1), some (vI x1), some (vI x2), some (vI x3), some (vI x4), some (vI x5), some (vI x6), none, none]) rfl rfl (show 0 < 1 by decide) rfl ?_
  refine w_aload rfl rfl ?_
  refine n_callI rfl (fun _ => rfl) rfl (zcI_mono H fun v3 I1 Z2 H => ?_)
  refine w_if rfl (And.intro (fun hc => ?_) (fun hc => ?_))
  · replace H := H.1 hc
    refine w_iconst rfl ⟨by decide, by decide⟩ ?_
    exact w_ireturn rfl H
  · replace H := H.2 hc
    refine w_aload rfl rfl ?_
    refine w_iload rfl rfl ?_
    refine m_callI rfl (fun _ => rfl) rfl (mI_mono H fun v5 I4 H => ?_)
    refine w_if rfl (And.intro (fun hc => ?_) (fun hc => ?_))
    · replace H := H.1 hc
      refine w_iconst rfl ⟨by decide, by decide⟩ ?_
      exact w_ireturn rfl H
    · replace H := H.2 hc
      refine w_aload rfl rfl ?_
      refine w_iload rfl rfl ?_
      refine m_callI rfl (fun _ => rfl) rfl (mI_mono H fun v7 I6 H => ?_)
      refine w_if rfl (And.intro (fun hc => ?_) (fun hc => ?_))
      · replace H := H.1 hc
        refine w_iconst rfl ⟨by decide, by decide⟩ ?_
        exact w_ireturn rfl H
      · replace H := H.2 hc
        refine w_aload rfl rfl ?_
        refine w_iload rfl rfl ?_
        refine w_iload rfl rfl ?_
        refine w_iload rfl rfl ?_
        refine w_iload rfl rfl ?_
        refine m_callI rfl (fun _ => rfl) rfl (mI_mono H fun v9 I8 H => ?_)
        refine w_if rfl (And.intro (fun hc => ?_) (fun hc => ?_))
        · replace H := H.1 hc
          refine w_aload rfl rfl ?_
          have o10 := H.1
          replace H := H.2
          refine n_getR 15 8 rfl rfl rfl rfl (by decide) (wz_R o10 1 15 198 rfl (by decide)) ?_
          refine n_getR 5 20 rfl rfl rfl rfl (by decide) (wz_R o10 198 5 199 rfl (by decide)) ?_
          refine w_iload rfl rfl ?_
          have o11 := H.1
          replace H := H.2
          refine n_iaload rfl (by decide) (wz_L o10 199 216 rfl (by decide)) o11 ?_
          refine w_aload rfl rfl ?_
          refine n_getR 15 8 rfl rfl rfl rfl (by decide) (wz_R o10 1 15 198 rfl (by decide)) ?_
          refine n_getR 5 20 rfl rfl rfl rfl (by decide) (wz_R o10 198 5 199 rfl (by decide)) ?_
          refine w_iload rfl rfl ?_
          have o12 := H.1
          replace H := H.2
          refine n_iaload rfl (by decide) (wz_L o10 199 216 rfl (by decide)) o12 ?_
          have o13 := H.1
          replace H := H.2
          refine w_iadd rfl o13 ?_
          refine w_istore rfl rfl ?_
          refine w_iload rfl rfl ?_
          refine w_iconst rfl ⟨by decide, by decide⟩ ?_
          refine w_icmp rfl (And.intro (fun hc => ?_) (fun hc => ?_))
          · replace H := H.1 hc
            refine w_aload rfl rfl ?_
            refine n_getR 15 8 rfl rfl rfl rfl (by decide) (wz_R o10 1 15 198 rfl (by decide)) ?_
            refine w_iload rfl rfl ?_
            refine n_callU rfl (fun _ => rfl) rfl (zcU_mono H fun I14 Z15 H => ?_)
            refine w_aload rfl rfl ?_
            have o16 := H.1
            replace H := H.2
            refine n_getR 15 8 rfl rfl rfl rfl (by decide) (wz_R o16 1 15 198 rfl (by decide)) ?_
            refine w_iload rfl rfl ?_
            refine w_iload rfl rfl ?_
            refine n_callU rfl (fun _ => rfl) rfl (zcU_mono H fun I17 Z18 H => ?_)
            refine w_aload rfl rfl ?_
            have o19 := H.1
            replace H := H.2
            refine n_getR 15 8 rfl rfl rfl rfl (by decide) (wz_R o19 1 15 198 rfl (by decide)) ?_
            refine w_iload rfl rfl ?_
            refine w_iload rfl rfl ?_
            refine w_iload rfl rfl ?_
            refine w_iload rfl rfl ?_
            refine m_callI rfl (fun _ => rfl) rfl (mI_mono H fun v21 I20 H => ?_)
            refine w_aload rfl rfl ?_
            have o22 := H.1
            replace H := H.2
            refine n_getR 6 9 rfl rfl rfl rfl (by decide) o22 ?_
            refine n_getR 3 20 rfl rfl rfl rfl (isSh_pos p_sh) (wz_sh3 o19 p_sh) ?_
            refine w_iload rfl rfl ?_
            have o23 := H.1
            replace H := H.2
            refine n_iaload rfl (Nat.add_pos_right _ (by decide)) (wz_shL2 o19 p_sh) o23 ?_
            have o24 := H.1
            replace H := H.2
            refine w_isub rfl o24 ?_
            refine w_istore rfl rfl ?_
            refine w_iload rfl rfl ?_
            refine w_if rfl (And.intro (fun hc => ?_) (fun hc => ?_))
            · replace H := H.1 hc
              refine w_iconst rfl ⟨by decide, by decide⟩ ?_
              refine w_goto rfl ?_
              exact w_ireturn rfl H
            · replace H := H.2 hc
              refine w_iload rfl rfl ?_
              refine w_aload rfl rfl ?_
              refine n_getR 6 9 rfl rfl rfl rfl (by decide) o22 ?_
              refine n_getR 2 20 rfl rfl rfl rfl (isSh_pos p_sh) (wz_sh2 o19 p_sh) ?_
              refine w_iload rfl rfl ?_
              refine w_iconst rfl ⟨by decide, by decide⟩ ?_
              have o25 := H.1
              replace H := H.2
              refine w_iadd rfl o25 ?_
              have o26 := H.1
              replace H := H.2
              refine n_iaload rfl (Nat.add_pos_right _ (by decide)) (wz_shL1 o19 p_sh) o26 ?_
              refine w_icmp rfl (And.intro (fun hc => ?_) (fun hc => ?_))
              · replace H := H.1 hc
                refine w_aload rfl rfl ?_
                refine n_getR 15 8 rfl rfl rfl rfl (by decide) (wz_R o19 1 15 198 rfl (by decide)) ?_
                refine n_getR 11 20 rfl rfl rfl rfl (by decide) (wz_R o19 198 11 202 rfl (by decide)) ?_
                refine w_iload rfl rfl ?_
                have o27 := H.1
                replace H := H.2
                refine n_iaload rfl (by decide) (wz_L o19 202 136 rfl (by decide)) o27 ?_
                exact w_ireturn rfl H
              · replace H := H.2 hc
                refine w_iconst rfl ⟨by decide, by decide⟩ ?_
                refine w_goto rfl ?_
                exact w_ireturn rfl H
          · replace H := H.2 hc
            refine w_iconst rfl ⟨by decide, by decide⟩ ?_
            exact w_ireturn rfl H
        · replace H := H.2 hc
          refine w_iconst rfl ⟨by decide, by decide⟩ ?_
          exact w_ireturn rfl H
set_option maxHeartbeats 4000000 in
set_option maxRecDepth 100000 in
theorem wr_Works_count {d : Nat} {Q : cm_Q} {z : cm_Z} {I : cm_I} (hz : wz z) {x1 : Int}  (H : ((¬ x1 = 0 → ((¬ x1 = 1 → Q (some (vI (-1))) (I, z)) ∧ (x1 = 1 → (((I 198 7) < 0 → Q (some (vI (-1))) (I, z)) ∧ (0 ≤ (I 198 7) → Q (some (vI (I 198 7))) (I, z)))))) ∧ (x1 = 0 → Q (some (vI (I 1 1))) (I, z)))) : cm_call (d + 1) m_Works_count [vR 11 1, vI x1] (I, z) Q := by
  refine cm_call_in (C := cd_Works_count) (ls := [some (vR 11 1), some (vI x1)]) rfl rfl (show 0 < 1 by decide) rfl ?_
  refine w_iload rfl rfl ?_
  refine w_if rfl (And.intro (fun hc => ?_) (fun hc => ?_))
  · replace H := H.1 hc
    refine w_iload rfl rfl ?_
    refine w_iconst rfl ⟨by decide, by decide⟩ ?_
    refine w_icmp rfl (And.intro (fun hc => ?_) (fun hc => ?_))
    · replace H := H.1 hc
      refine w_iconst rfl ⟨by decide, by decide⟩ ?_
      exact w_ireturn rfl H
    · replace H := H.2 hc
      refine w_aload rfl rfl ?_
      refine n_getR 15 8 rfl rfl rfl rfl (by decide) (wz_R hz 1 15 198 rfl (by decide)) ?_
      refine m_getI 7 rfl rfl rfl (by decide) ?_
      refine w_if rfl (And.intro (fun hc => ?_) (fun hc => ?_))
      · replace H := H.1 hc
        refine w_iconst rfl ⟨by decide, by decide⟩ ?_
        exact w_ireturn rfl H
      · replace H := H.2 hc
        refine w_aload rfl rfl ?_
        refine n_getR 15 8 rfl rfl rfl rfl (by decide) (wz_R hz 1 15 198 rfl (by decide)) ?_
        refine m_getI 7 rfl rfl rfl (by decide) ?_
        refine w_goto rfl ?_
        exact w_ireturn rfl H
  · replace H := H.2 hc
    refine w_aload rfl rfl ?_
    refine m_getI 1 rfl rfl rfl (by decide) ?_
    exact w_ireturn rfl H
set_option maxHeartbeats 4000000 in
set_option maxRecDepth 100000 in
theorem wr_Works_startAgain {d : Nat} {Q : cm_Q} {z : cm_Z} {I : cm_I} (hz : wz z) {sh : Nat} {mb : Nat} (y_1_6 : z.1 1 6 = sh) (y_1_7 : z.1 1 7 = mb) (H : (zcU d m_Mover_begin [vR 4 53, vR 9 sh, vR 3 mb] z I fun I1 Z2 => (wz Z2 ∧ (Z2.1 1 6 = sh ∧ (Z2.1 1 7 = mb ∧ (zcU d m_Bases_begin [vR 0 66, vR 9 sh, vR 3 mb] Z2 I1 fun I6 Z7 => (wz Z7 ∧ (Z7.1 1 6 = sh ∧ (Z7.1 1 7 = mb ∧ (zcU d m_Search_begin [vR 6 185, vR 9 sh, vR 3 mb] Z7 I6 fun I11 Z12 => (wz Z12 ∧ (Z12.1 1 6 = sh ∧ (zcU d m_Rewriter_begin [vR 8 198, vR 9 sh] Z12 I11 fun I15 Z16 => Q none (I15, Z16)))))))))))))) : cm_call (d + 1) m_Works_startAgain [vR 11 1] (I, z) Q := by
  refine cm_call_in (C := cd_Works_startAgain) (ls := [some (vR 11 1)]) rfl rfl (show 0 < 1 by decide) rfl ?_
  refine w_aload rfl rfl ?_
  refine n_getR 11 4 rfl rfl rfl rfl (by decide) (wz_R hz 1 11 53 rfl (by decide)) ?_
  refine w_aload rfl rfl ?_
  refine n_getR 6 9 rfl rfl rfl rfl (by decide) y_1_6 ?_
  refine w_aload rfl rfl ?_
  refine n_getR 7 3 rfl rfl rfl rfl (by decide) y_1_7 ?_
  refine n_callU rfl (fun _ => rfl) rfl (zcU_mono H fun I1 Z2 H => ?_)
  refine w_aload rfl rfl ?_
  have o3 := H.1
  replace H := H.2
  refine n_getR 13 0 rfl rfl rfl rfl (by decide) (wz_R o3 1 13 66 rfl (by decide)) ?_
  refine w_aload rfl rfl ?_
  have o4 := H.1
  replace H := H.2
  refine n_getR 6 9 rfl rfl rfl rfl (by decide) o4 ?_
  refine w_aload rfl rfl ?_
  have o5 := H.1
  replace H := H.2
  refine n_getR 7 3 rfl rfl rfl rfl (by decide) o5 ?_
  refine n_callU rfl (fun _ => rfl) rfl (zcU_mono H fun I6 Z7 H => ?_)
  refine w_aload rfl rfl ?_
  have o8 := H.1
  replace H := H.2
  refine n_getR 14 6 rfl rfl rfl rfl (by decide) (wz_R o8 1 14 185 rfl (by decide)) ?_
  refine w_aload rfl rfl ?_
  have o9 := H.1
  replace H := H.2
  refine n_getR 6 9 rfl rfl rfl rfl (by decide) o9 ?_
  refine w_aload rfl rfl ?_
  have o10 := H.1
  replace H := H.2
  refine n_getR 7 3 rfl rfl rfl rfl (by decide) o10 ?_
  refine n_callU rfl (fun _ => rfl) rfl (zcU_mono H fun I11 Z12 H => ?_)
  refine w_aload rfl rfl ?_
  have o13 := H.1
  replace H := H.2
  refine n_getR 15 8 rfl rfl rfl rfl (by decide) (wz_R o13 1 15 198 rfl (by decide)) ?_
  refine w_aload rfl rfl ?_
  have o14 := H.1
  replace H := H.2
  refine n_getR 6 9 rfl rfl rfl rfl (by decide) o14 ?_
  refine n_callU rfl (fun _ => rfl) rfl (zcU_mono H fun I15 Z16 H => ?_)
  exact w_return rfl H
set_option maxHeartbeats 4000000 in
set_option maxRecDepth 100000 in
theorem wr_Works_putBytes_3 {d : Nat} {Q : cm_Q} {z : cm_Z} {I : cm_I} (hz : wz z) {x1 : Int} {x2 : Int}  (H : ((x2 < 0 → Q none (I, z)) ∧ (0 ≤ x2 → ((0:Int) ≤ x2 ∧ x2 < 32) ∧ ((0:Int) ≤ (I 1 1) ∧ (I 1 1) < 400) ∧ (-128 ≤ (((x1 / 2 ^ (Int.toNat x2)) + 128) % 256 - 128) ∧ (((x1 / 2 ^ (Int.toNat x2)) + 128) % 256 - 128) ≤ 127) ∧ (∀ I4 : cm_I, I4 = iu I 2 (I 1 1) (((x1 / 2 ^ (Int.toNat x2)) + 128) % 256 - 128) → (cm_i ((I4 1 1) + 1) ∧ (∀ I6 : cm_I, I6 = iu I4 1 1 ((I4 1 1) + 1) → (cm_i (x2 + (-8)) ∧ cw d cd_Works_putBytes Q 3 [some (vR 11 1), some (vI x1), some (vI (x2 + (-8)))] [] (I6, z)))))))) : cw d cd_Works_putBytes Q 3 [some (vR 11 1), some (vI x1), some (vI x2)] [] (I, z) := by
  refine w_iload rfl rfl ?_
  refine w_if rfl (And.intro (fun hc => ?_) (fun hc => ?_))
  · replace H := H.1 hc
    exact w_return rfl H
  · replace H := H.2 hc
    refine w_aload rfl rfl ?_
    refine n_getR 0 21 rfl rfl rfl rfl (by decide) (wz_R hz 1 0 2 rfl (by decide)) ?_
    refine w_aload rfl rfl ?_
    refine m_getI 1 rfl rfl rfl (by decide) ?_
    refine w_iload rfl rfl ?_
    refine w_iload rfl rfl ?_
    have o1 := H.1
    replace H := H.2
    refine w_ishr rfl o1 ?_
    refine w_i2b rfl ?_
    have o2 := H.1
    replace H := H.2
    have o3 := H.1
    replace H := H.2
    refine n_bastore rfl rfl (Or.inl ⟨rfl, o3⟩) (by decide) (wz_L hz 2 400 rfl (by decide)) o2 (fun I4 eI4 => ?_)
    replace H := H I4 eI4
    refine w_aload rfl rfl ?_
    refine w_dup rfl rfl ?_
    refine m_getI 1 rfl rfl rfl (by decide) ?_
    refine w_iconst rfl ⟨by decide, by decide⟩ ?_
    have o5 := H.1
    replace H := H.2
    refine w_iadd rfl o5 ?_
    refine m_putI 1 rfl rfl rfl (by decide) (fun I6 eI6 => ?_)
    replace H := H I6 eI6
    have o7 := H.1
    replace H := H.2
    refine w_iinc rfl rfl rfl o7 ?_
    refine w_goto rfl ?_
    exact H
set_option maxHeartbeats 4000000 in
set_option maxRecDepth 100000 in
theorem wr_Works_putBytes {d : Nat} {Q : cm_Q} {z : cm_Z} {I : cm_I} (hz : wz z) {x1 : Int}  (H : cw d cd_Works_putBytes Q 3 [some (vR 11 1), some (vI x1), some (vI 24)] [] (I, z)) : cm_call (d + 1) m_Works_putBytes [vR 11 1, vI x1] (I, z) Q := by
  refine cm_call_in (C := cd_Works_putBytes) (ls := [some (vR 11 1), some (vI x1), none]) rfl rfl (show 0 < 1 by decide) rfl ?_
  refine w_iconst rfl ⟨by decide, by decide⟩ ?_
  refine w_istore rfl rfl ?_
  exact H
set_option maxHeartbeats 4000000 in
set_option maxRecDepth 100000 in
theorem wr_Works_isKept {d : Nat} {Q : cm_Q} {z : cm_Z} {I : cm_I} (hz : wz z) {x0 : Int}  (H : ((x0 < 0 → Q (some (vI 0)) (I, z)) ∧ (0 ≤ x0 → ((6 ≤ x0 → Q (some (vI 0)) (I, z)) ∧ (x0 < 6 → Q (some (vI 1)) (I, z)))))) : cm_call (d + 1) m_Works_isKept [vI x0] (I, z) Q := by
  refine cm_call_in (C := cd_Works_isKept) (ls := [some (vI x0)]) rfl rfl trivial rfl ?_
  refine w_iload rfl rfl ?_
  refine w_if rfl (And.intro (fun hc => ?_) (fun hc => ?_))
  · replace H := H.1 hc
    refine w_iconst rfl ⟨by decide, by decide⟩ ?_
    exact w_zreturn rfl (by decide) H
  · replace H := H.2 hc
    refine w_iload rfl rfl ?_
    refine w_iconst rfl ⟨by decide, by decide⟩ ?_
    refine w_icmp rfl (And.intro (fun hc => ?_) (fun hc => ?_))
    · replace H := H.1 hc
      refine w_iconst rfl ⟨by decide, by decide⟩ ?_
      exact w_zreturn rfl (by decide) H
    · replace H := H.2 hc
      refine w_iconst rfl ⟨by decide, by decide⟩ ?_
      refine w_goto rfl ?_
      exact w_zreturn rfl (by decide) H
set_option maxHeartbeats 4000000 in
set_option maxRecDepth 100000 in
theorem wr_Works_isPower {d : Nat} {Q : cm_Q} {z : cm_Z} {I : cm_I} (hz : wz z) {x0 : Int}  (H : ((x0 < 0 → Q (some (vI 0)) (I, z)) ∧ (0 ≤ x0 → ((15 < x0 → Q (some (vI 0)) (I, z)) ∧ (x0 ≤ 15 → Q (some (vI 1)) (I, z)))))) : cm_call (d + 1) m_Works_isPower [vI x0] (I, z) Q := by
  refine cm_call_in (C := cd_Works_isPower) (ls := [some (vI x0)]) rfl rfl trivial rfl ?_
  refine w_iload rfl rfl ?_
  refine w_if rfl (And.intro (fun hc => ?_) (fun hc => ?_))
  · replace H := H.1 hc
    refine w_iconst rfl ⟨by decide, by decide⟩ ?_
    exact w_zreturn rfl (by decide) H
  · replace H := H.2 hc
    refine w_iload rfl rfl ?_
    refine w_iconst rfl ⟨by decide, by decide⟩ ?_
    refine w_icmp rfl (And.intro (fun hc => ?_) (fun hc => ?_))
    · replace H := H.1 hc
      refine w_iconst rfl ⟨by decide, by decide⟩ ?_
      exact w_zreturn rfl (by decide) H
    · replace H := H.2 hc
      refine w_iconst rfl ⟨by decide, by decide⟩ ?_
      refine w_goto rfl ?_
      exact w_zreturn rfl (by decide) H
set_option maxHeartbeats 4000000 in
set_option maxRecDepth 100000 in
theorem wr_Works_isMember {d : Nat} {Q : cm_Q} {z : cm_Z} {I : cm_I} (hz : wz z) {x1 : Int} {mb : Nat} (y_1_7 : z.1 1 7 = mb) (p_mb : isMb mb) (H : ((x1 < 0 → Q (some (vI 0)) (I, z)) ∧ (0 ≤ x1 → (((I mb 2) ≤ x1 → Q (some (vI 0)) (I, z)) ∧ (x1 < (I mb 2) → Q (some (vI 1)) (I, z)))))) : cm_call (d + 1) m_Works_isMember [vR 11 1, vI x1] (I, z) Q := by
  refine cm_call_in (C := cd_Works_isMember) (ls := [some (vR 11 1), some (vI x1)]) rfl rfl (show 0 < 1 by decide) rfl ?_
  refine w_iload rfl rfl ?_
  refine w_if rfl (And.intro (fun hc => ?_) (fun hc => ?_))
  · replace H := H.1 hc
    refine w_iconst rfl ⟨by decide, by decide⟩ ?_
    exact w_zreturn rfl (by decide) H
  · replace H := H.2 hc
    refine w_iload rfl rfl ?_
    refine w_aload rfl rfl ?_
    refine n_getR 7 3 rfl rfl rfl rfl (by decide) y_1_7 ?_
    refine m_getI 2 rfl rfl rfl (isMb_pos p_mb) ?_
    refine w_icmp rfl (And.intro (fun hc => ?_) (fun hc => ?_))
    · replace H := H.1 hc
      refine w_iconst rfl ⟨by decide, by decide⟩ ?_
      exact w_zreturn rfl (by decide) H
    · replace H := H.2 hc
      refine w_iconst rfl ⟨by decide, by decide⟩ ?_
      refine w_goto rfl ?_
      exact w_zreturn rfl (by decide) H
set_option maxHeartbeats 4000000 in
set_option maxRecDepth 100000 in
theorem wr_Works_isSecondary {d : Nat} {Q : cm_Q} {z : cm_Z} {I : cm_I} (hz : wz z) {x1 : Int}  (H : ((x1 < 0 → Q (some (vI 0)) (I, z)) ∧ (0 ≤ x1 → (((I 198 3) ≤ x1 → Q (some (vI 0)) (I, z)) ∧ (x1 < (I 198 3) → Q (some (vI 1)) (I, z)))))) : cm_call (d + 1) m_Works_isSecondary [vR 11 1, vI x1] (I, z) Q := by
  refine cm_call_in (C := cd_Works_isSecondary) (ls := [some (vR 11 1), some (vI x1)]) rfl rfl (show 0 < 1 by decide) rfl ?_
  refine w_iload rfl rfl ?_
  refine w_if rfl (And.intro (fun hc => ?_) (fun hc => ?_))
  · replace H := H.1 hc
    refine w_iconst rfl ⟨by decide, by decide⟩ ?_
    exact w_zreturn rfl (by decide) H
  · replace H := H.2 hc
    refine w_iload rfl rfl ?_
    refine w_aload rfl rfl ?_
    refine n_getR 15 8 rfl rfl rfl rfl (by decide) (wz_R hz 1 15 198 rfl (by decide)) ?_
    refine m_getI 3 rfl rfl rfl (by decide) ?_
    refine w_icmp rfl (And.intro (fun hc => ?_) (fun hc => ?_))
    · replace H := H.1 hc
      refine w_iconst rfl ⟨by decide, by decide⟩ ?_
      exact w_zreturn rfl (by decide) H
    · replace H := H.2 hc
      refine w_iconst rfl ⟨by decide, by decide⟩ ?_
      refine w_goto rfl ?_
      exact w_zreturn rfl (by decide) H
set_option maxHeartbeats 4000000 in
set_option maxRecDepth 100000 in
theorem wr_Works_isProduct {d : Nat} {Q : cm_Q} {z : cm_Z} {I : cm_I} (hz : wz z) {x1 : Int} {x2 : Int} {x3 : Int} {x4 : Int} {sh : Nat} (y_1_6 : z.1 1 6 = sh) (p_sh : isSh sh) (H : (mI d m_Works_isSecondary [vR 11 1, vI x1] z I fun v2 I1 => ((v2 = 0 → Q (some (vI 0)) (I1, z)) ∧ (¬ v2 = 0 → ((x2 < 0 → Q (some (vI 0)) (I1, z)) ∧ (0 ≤ x2 → ((x3 < 0 → Q (some (vI 0)) (I1, z)) ∧ (0 ≤ x3 → ((0 ≤ x4 → ((x4 = 0 → Q (some (vI 1)) (I1, z)) ∧ (¬ x4 = 0 → ((¬ (I1 sh 0) = 3 → Q (some (vI 0)) (I1, z)) ∧ ((I1 sh 0) = 3 → Q (some (vI 1)) (I1, z)))))) ∧ (x4 < 0 → Q (some (vI 0)) (I1, z))))))))))) : cm_call (d + 1) m_Works_isProduct [vR 11 1, vI x1, vI x2, vI x3, vI x4] (I, z) Q := by
  refine cm_call_in (C := cd_Works_isProduct) (ls := [some (vR 11 1), some (vI x1), some (vI x2), some (vI x3), some (vI x4)]) rfl rfl (show 0 < 1 by decide) rfl ?_
  refine w_aload rfl rfl ?_
  refine w_iload rfl rfl ?_
  refine m_callI rfl (fun _ => rfl) rfl (mI_mono H fun v2 I1 H => ?_)
  refine w_if rfl (And.intro (fun hc => ?_) (fun hc => ?_))
  · replace H := H.1 hc
    refine w_iconst rfl ⟨by decide, by decide⟩ ?_
    exact w_zreturn rfl (by decide) H
  · replace H := H.2 hc
    refine w_iload rfl rfl ?_
    refine w_if rfl (And.intro (fun hc => ?_) (fun hc => ?_))
    · replace H := H.1 hc
      refine w_iconst rfl ⟨by decide, by decide⟩ ?_
      exact w_zreturn rfl (by decide) H
    · replace H := H.2 hc
      refine w_iload rfl rfl ?_
      refine w_if rfl (And.intro (fun hc => ?_) (fun hc => ?_))
      · replace H := H.1 hc
        refine w_iconst rfl ⟨by decide, by decide⟩ ?_
        exact w_zreturn rfl (by decide) H
      · replace H := H.2 hc
        refine w_iload rfl rfl ?_
        refine w_if rfl (And.intro (fun hc => ?_) (fun hc => ?_))
        · replace H := H.1 hc
          refine w_iload rfl rfl ?_
          refine w_if rfl (And.intro (fun hc => ?_) (fun hc => ?_))
          · replace H := H.1 hc
            refine w_iconst rfl ⟨by decide, by decide⟩ ?_
            refine w_goto rfl ?_
            exact w_zreturn rfl (by decide) H
          · replace H := H.2 hc
            refine w_aload rfl rfl ?_
            refine n_getR 6 9 rfl rfl rfl rfl (by decide) y_1_6 ?_
            refine m_getI 0 rfl rfl rfl (isSh_pos p_sh) ?_
            refine w_iconst rfl ⟨by decide, by decide⟩ ?_
            refine w_icmp rfl (And.intro (fun hc => ?_) (fun hc => ?_))
            · replace H := H.1 hc
              refine w_iconst rfl ⟨by decide, by decide⟩ ?_
              exact w_zreturn rfl (by decide) H
            · replace H := H.2 hc
              refine w_iconst rfl ⟨by decide, by decide⟩ ?_
              refine w_goto rfl ?_
              exact w_zreturn rfl (by decide) H
        · replace H := H.2 hc
          refine w_iconst rfl ⟨by decide, by decide⟩ ?_
          exact w_zreturn rfl (by decide) H
set_option maxHeartbeats 4000000 in
set_option maxRecDepth 100000 in
theorem wr_Works_keepFresh {d : Nat} {Q : cm_Q} {z : cm_Z} {I : cm_I} (hz : wz z) {x1 : Int} {sh : Nat} (y_1_6 : z.1 1 6 = sh) (p_sh : isSh sh) (H : ((0:Int) ≤ x1 ∧ x1 < 6) ∧ ((0:Int) ≤ 0 ∧ (0:Int) ≤ 0 ∧ (0:Int) ≤ (I sh 1) ∧ (0 : Int) + (I sh 1) ≤ 816 ∧ (0 : Int) + (I sh 1) ≤ 816) ∧ (∀ I3 : cm_I, I3 = iw I ((4 + Int.toNat x1)) (cpyF (I 10) 0 (I ((4 + Int.toNat x1))) 0 (I sh 1)) → (mI d m_Shape_termsOf [vR 9 sh, vR 20 10] z I3 fun v5 I4 => Q (some (vI v5)) (I4, z)))) : cm_call (d + 1) m_Works_keepFresh [vR 11 1, vI x1] (I, z) Q := by
  refine cm_call_in (C := cd_Works_keepFresh) (ls := [some (vR 11 1), some (vI x1)]) rfl rfl (show 0 < 1 by decide) rfl ?_
  refine w_aload rfl rfl ?_
  refine n_getR 3 20 rfl rfl rfl rfl (by decide) (wz_R hz 1 3 10 rfl (by decide)) ?_
  refine w_iconst rfl ⟨by decide, by decide⟩ ?_
  refine w_aload rfl rfl ?_
  refine n_getR 2 23 rfl rfl rfl rfl (by decide) (wz_R hz 1 2 3 rfl (by decide)) ?_
  refine w_iload rfl rfl ?_
  have o1 := H.1
  replace H := H.2
  refine n_aaload rfl rfl rfl (by decide) (wz_L hz 3 6 rfl (by decide)) o1 (wz_kept hz o1) ?_
  refine w_iconst rfl ⟨by decide, by decide⟩ ?_
  refine w_aload rfl rfl ?_
  refine n_getR 6 9 rfl rfl rfl rfl (by decide) y_1_6 ?_
  refine m_getI 1 rfl rfl rfl (isSh_pos p_sh) ?_
  have o2 := H.1
  replace H := H.2
  refine n_copy rfl rfl (by decide) (by omega) (wz_L hz 10 816 rfl (by decide)) (wz_keptL hz o1) o2 (fun I3 eI3 => ?_)
  replace H := H I3 eI3
  refine w_aload rfl rfl ?_
  refine n_getR 6 9 rfl rfl rfl rfl (by decide) y_1_6 ?_
  refine w_aload rfl rfl ?_
  refine n_getR 3 20 rfl rfl rfl rfl (by decide) (wz_R hz 1 3 10 rfl (by decide)) ?_
  refine m_callI rfl (fun _ => rfl) rfl (mI_mono H fun v5 I4 H => ?_)
  exact w_ireturn rfl H
set_option maxHeartbeats 4000000 in
set_option maxRecDepth 100000 in
theorem wr_Works_isMovedToItself_30 {d : Nat} {Q : cm_Q} {z : cm_Z} {I : cm_I} (hz : wz z) {a1 : Nat} {z2 : Option cm_V} {x3 : Int} {sh : Nat} (y_1_6 : z.1 1 6 = sh) (p_sh : isSh sh) (p_a1 : 0 < a1) (H : (((I sh 1) ≤ x3 → Q (some (vI 1)) (I, z)) ∧ (x3 < (I sh 1) → ((0:Int) ≤ x3 ∧ x3 < 816) ∧ ((0:Int) ≤ x3 ∧ x3 < z.2.1 a1) ∧ (((I 10 x3) = (I a1 x3) → (cm_i (x3 + 1) ∧ cw d cd_Works_isMovedToItself Q 30 [some (vR 11 1), some (vR 20 a1), z2, some (vI (x3 + 1))] [] (I, z))) ∧ (¬ (I 10 x3) = (I a1 x3) → Q (some (vI 0)) (I, z)))))) : cw d cd_Works_isMovedToItself Q 30 [some (vR 11 1), some (vR 20 a1), z2, some (vI x3)] [] (I, z) := by
  refine w_iload rfl rfl ?_
  refine w_aload rfl rfl ?_
  refine n_getR 6 9 rfl rfl rfl rfl (by decide) y_1_6 ?_
  refine m_getI 1 rfl rfl rfl (isSh_pos p_sh) ?_
  refine w_icmp rfl (And.intro (fun hc => ?_) (fun hc => ?_))
  · replace H := H.1 hc
    refine w_iconst rfl ⟨by decide, by decide⟩ ?_
    exact w_zreturn rfl (by decide) H
  · replace H := H.2 hc
    refine w_aload rfl rfl ?_
    refine n_getR 3 20 rfl rfl rfl rfl (by decide) (wz_R hz 1 3 10 rfl (by decide)) ?_
    refine w_iload rfl rfl ?_
    have o1 := H.1
    replace H := H.2
    refine n_iaload rfl (by decide) (wz_L hz 10 816 rfl (by decide)) o1 ?_
    refine w_aload rfl rfl ?_
    refine w_iload rfl rfl ?_
    have o2 := H.1
    replace H := H.2
    refine n_iaload rfl p_a1 rfl o2 ?_
    refine w_icmp rfl (And.intro (fun hc => ?_) (fun hc => ?_))
    · replace H := H.1 hc
      have o3 := H.1
      replace H := H.2
      refine w_iinc rfl rfl rfl o3 ?_
      refine w_goto rfl ?_
      exact H
    · replace H := H.2 hc
      refine w_iconst rfl ⟨by decide, by decide⟩ ?_
      exact w_zreturn rfl (by decide) H
set_option maxHeartbeats 4000000 in
set_option maxRecDepth 100000 in
theorem wr_Works_isMovedToItself {d : Nat} {Q : cm_Q} {z : cm_Z} {I : cm_I} (hz : wz z) {a1 : Nat} {x2 : Int}  (H : (mU d m_Arr_fill [vR 20 10, vI 0] z I fun I1 => (mU d m_Mover_use [vR 4 53, vI x2] z I1 fun I2 => (zcU d m_Mover_addAllMoved [vR 4 53, vR 20 a1, vR 20 10] z I2 fun I3 Z4 => cw d cd_Works_isMovedToItself Q 30 [some (vR 11 1), some (vR 20 a1), some (vI x2), some (vI 0)] [] (I3, Z4))))) : cm_call (d + 1) m_Works_isMovedToItself [vR 11 1, vR 20 a1, vI x2] (I, z) Q := by
  refine cm_call_in (C := cd_Works_isMovedToItself) (ls := [some (vR 11 1), some (vR 20 a1), some (vI x2), none]) rfl rfl (show 0 < 1 by decide) rfl ?_
  refine w_aload rfl rfl ?_
  refine n_getR 3 20 rfl rfl rfl rfl (by decide) (wz_R hz 1 3 10 rfl (by decide)) ?_
  refine w_iconst rfl ⟨by decide, by decide⟩ ?_
  refine m_callU rfl (fun _ => rfl) rfl (mU_mono H fun I1 H => ?_)
  refine w_aload rfl rfl ?_
  refine n_getR 11 4 rfl rfl rfl rfl (by decide) (wz_R hz 1 11 53 rfl (by decide)) ?_
  refine w_iload rfl rfl ?_
  refine m_callU rfl (fun _ => rfl) rfl (mU_mono H fun I2 H => ?_)
  refine w_aload rfl rfl ?_
  refine n_getR 11 4 rfl rfl rfl rfl (by decide) (wz_R hz 1 11 53 rfl (by decide)) ?_
  refine w_aload rfl rfl ?_
  refine w_aload rfl rfl ?_
  refine n_getR 3 20 rfl rfl rfl rfl (by decide) (wz_R hz 1 3 10 rfl (by decide)) ?_
  refine n_callU rfl (fun _ => rfl) rfl (zcU_mono H fun I3 Z4 H => ?_)
  refine w_iconst rfl ⟨by decide, by decide⟩ ?_
  refine w_istore rfl rfl ?_
  exact H
set_option maxHeartbeats 4000000 in
set_option maxRecDepth 100000 in
theorem wr_Works_isLeftAlone_2 {d : Nat} {Q : cm_Q} {z : cm_Z} {I : cm_I} (hz : wz z) {a1 : Nat} {x2 : Int} {mb : Nat} (y_1_7 : z.1 1 7 = mb) (p_mb : isMb mb) (H : (((I mb 1) ≤ x2 → Q (some (vI 1)) (I, z)) ∧ (x2 < (I mb 1) → ((0:Int) ≤ x2 ∧ x2 < 192) ∧ (zcI d m_Works_isMovedToItself [vR 11 1, vR 20 a1, vI (I (mb + 3) x2)] z I fun v4 I2 Z3 => ((¬ v4 = 0 → (cm_i (x2 + 1) ∧ cw d cd_Works_isLeftAlone Q 2 [some (vR 11 1), some (vR 20 a1), some (vI (x2 + 1))] [] (I2, Z3))) ∧ (v4 = 0 → Q (some (vI 0)) (I2, Z3))))))) : cw d cd_Works_isLeftAlone Q 2 [some (vR 11 1), some (vR 20 a1), some (vI x2)] [] (I, z) := by
  refine w_iload rfl rfl ?_
  refine w_aload rfl rfl ?_
  refine n_getR 7 3 rfl rfl rfl rfl (by decide) y_1_7 ?_
  refine m_getI 1 rfl rfl rfl (isMb_pos p_mb) ?_
  refine w_icmp rfl (And.intro (fun hc => ?_) (fun hc => ?_))
  · replace H := H.1 hc
    refine w_iconst rfl ⟨by decide, by decide⟩ ?_
    exact w_zreturn rfl (by decide) H
  · replace H := H.2 hc
    refine w_aload rfl rfl ?_
    refine w_aload rfl rfl ?_
    refine w_aload rfl rfl ?_
    refine n_getR 7 3 rfl rfl rfl rfl (by decide) y_1_7 ?_
    refine n_getR 5 20 rfl rfl rfl rfl (isMb_pos p_mb) (wz_mb5 hz p_mb) ?_
    refine w_iload rfl rfl ?_
    have o1 := H.1
    replace H := H.2
    refine n_iaload rfl (Nat.add_pos_right _ (by decide)) (wz_mbL3 hz p_mb) o1 ?_
    refine n_callI rfl (fun _ => rfl) rfl (zcI_mono H fun v4 I2 Z3 H => ?_)
    refine w_if rfl (And.intro (fun hc => ?_) (fun hc => ?_))
    · replace H := H.1 hc
      have o5 := H.1
      replace H := H.2
      refine w_iinc rfl rfl rfl o5 ?_
      refine w_goto rfl ?_
      exact H
    · replace H := H.2 hc
      refine w_iconst rfl ⟨by decide, by decide⟩ ?_
      exact w_zreturn rfl (by decide) H
set_option maxHeartbeats 4000000 in
set_option maxRecDepth 100000 in
theorem wr_Works_isLeftAlone {d : Nat} {Q : cm_Q} {z : cm_Z} {I : cm_I} (hz : wz z) {a1 : Nat}  (H : cw d cd_Works_isLeftAlone Q 2 [some (vR 11 1), some (vR 20 a1), some (vI 0)] [] (I, z)) : cm_call (d + 1) m_Works_isLeftAlone [vR 11 1, vR 20 a1] (I, z) Q := by
  refine cm_call_in (C := cd_Works_isLeftAlone) (ls := [some (vR 11 1), some (vR 20 a1), none]) rfl rfl (show 0 < 1 by decide) rfl ?_
  refine w_iconst rfl ⟨by decide, by decide⟩ ?_
  refine w_istore rfl rfl ?_
  exact H
set_option maxHeartbeats 4000000 in
set_option maxRecDepth 100000 in
theorem wr_Works_unlikeMoved_4 {d : Nat} {Q : cm_Q} {z : cm_Z} {I : cm_I} (hz : wz z) {a1 : Nat} {x2 : Int} {x3 : Int} {mb : Nat} (y_1_7 : z.1 1 7 = mb) (p_mb : isMb mb) (H : (((I mb 2) ≤ x3 → ((¬ x2 = 0 → (0 < x2 ∧ Q (some (vI (Int.tdiv (I mb 2) x2))) (I, z))) ∧ (x2 = 0 → Q (some (vI (I mb 2))) (I, z)))) ∧ (x3 < (I mb 2) → (zcI d m_Works_isMovedToItself [vR 11 1, vR 20 a1, vI x3] z I fun v4 I2 Z3 => ((v4 = 0 → (cm_i (x3 + 1) ∧ cw d cd_Works_unlikeMoved Q 4 [some (vR 11 1), some (vR 20 a1), some (vI x2), some (vI (x3 + 1))] [] (I2, Z3))) ∧ (¬ v4 = 0 → (cm_i (x2 + 1) ∧ (cm_i (x3 + 1) ∧ cw d cd_Works_unlikeMoved Q 4 [some (vR 11 1), some (vR 20 a1), some (vI (x2 + 1)), some (vI (x3 + 1))] [] (I2, Z3))))))))) : cw d cd_Works_unlikeMoved Q 4 [some (vR 11 1), some (vR 20 a1), some (vI x2), some (vI x3)] [] (I, z) := by
  refine w_iload rfl rfl ?_
  refine w_aload rfl rfl ?_
  refine n_getR 7 3 rfl rfl rfl rfl (by decide) y_1_7 ?_
  refine m_getI 2 rfl rfl rfl (isMb_pos p_mb) ?_
  refine w_icmp rfl (And.intro (fun hc => ?_) (fun hc => ?_))
  · replace H := H.1 hc
    refine w_iload rfl rfl ?_
    refine w_if rfl (And.intro (fun hc => ?_) (fun hc => ?_))
    · replace H := H.1 hc
      refine w_aload rfl rfl ?_
      refine n_getR 7 3 rfl rfl rfl rfl (by decide) y_1_7 ?_
      refine m_getI 2 rfl rfl rfl (isMb_pos p_mb) ?_
      refine w_iload rfl rfl ?_
      have o1 := H.1
      replace H := H.2
      refine w_idiv rfl o1 ?_
      exact w_ireturn rfl H
    · replace H := H.2 hc
      refine w_aload rfl rfl ?_
      refine n_getR 7 3 rfl rfl rfl rfl (by decide) y_1_7 ?_
      refine m_getI 2 rfl rfl rfl (isMb_pos p_mb) ?_
      refine w_goto rfl ?_
      exact w_ireturn rfl H
  · replace H := H.2 hc
    refine w_aload rfl rfl ?_
    refine w_aload rfl rfl ?_
    refine w_iload rfl rfl ?_
    refine n_callI rfl (fun _ => rfl) rfl (zcI_mono H fun v4 I2 Z3 H => ?_)
    refine w_if rfl (And.intro (fun hc => ?_) (fun hc => ?_))
    · replace H := H.1 hc
      have o5 := H.1
      replace H := H.2
      refine w_iinc rfl rfl rfl o5 ?_
      refine w_goto rfl ?_
      exact H
    · replace H := H.2 hc
      have o6 := H.1
      replace H := H.2
      refine w_iinc rfl rfl rfl o6 ?_
      have o7 := H.1
      replace H := H.2
      refine w_iinc rfl rfl rfl o7 ?_
      refine w_goto rfl ?_
      exact H
set_option maxHeartbeats 4000000 in
set_option maxRecDepth 100000 in
theorem wr_Works_unlikeMoved {d : Nat} {Q : cm_Q} {z : cm_Z} {I : cm_I} (hz : wz z) {a1 : Nat}  (H : cw d cd_Works_unlikeMoved Q 4 [some (vR 11 1), some (vR 20 a1), some (vI 0), some (vI 0)] [] (I, z)) : cm_call (d + 1) m_Works_unlikeMoved [vR 11 1, vR 20 a1] (I, z) Q := by
  refine cm_call_in (C := cd_Works_unlikeMoved) (ls := [some (vR 11 1), some (vR 20 a1), none, none]) rfl rfl (show 0 < 1 by decide) rfl ?_
  refine w_iconst rfl ⟨by decide, by decide⟩ ?_
  refine w_istore rfl rfl ?_
  refine w_iconst rfl ⟨by decide, by decide⟩ ?_
  refine w_istore rfl rfl ?_
  exact H
set_option maxHeartbeats 4000000 in
set_option maxRecDepth 100000 in
theorem wr_Works_canBeOfSystem {d : Nat} {Q : cm_Q} {z : cm_Z} {I : cm_I} (hz : wz z) {x1 : Int} {sh : Nat} (y_1_6 : z.1 1 6 = sh) (H : ((0:Int) ≤ x1 ∧ x1 < 6) ∧ (mI d m_Shape_degreeOf [vR 9 sh, vR 20 (4 + Int.toNat x1)] z I fun v3 I2 => ((v3 ≤ 0 → Q (some (vI 0)) (I2, z)) ∧ (0 < v3 → (mI d m_Shape_isOneDegree [vR 9 sh, vR 20 (4 + Int.toNat x1)] z I2 fun v5 I4 => ((v5 = 0 → Q (some (vI 0)) (I4, z)) ∧ (¬ v5 = 0 → (zcI d m_Works_isLeftAlone [vR 11 1, vR 20 (4 + Int.toNat x1)] z I4 fun v8 I6 Z7 => ((v8 = 0 → Q (some (vI 0)) (I6, Z7)) ∧ (¬ v8 = 0 → Q (some (vI 1)) (I6, Z7))))))))))) : cm_call (d + 1) m_Works_canBeOfSystem [vR 11 1, vI x1] (I, z) Q := by
  refine cm_call_in (C := cd_Works_canBeOfSystem) (ls := [some (vR 11 1), some (vI x1), none]) rfl rfl (show 0 < 1 by decide) rfl ?_
  refine w_aload rfl rfl ?_
  refine n_getR 2 23 rfl rfl rfl rfl (by decide) (wz_R hz 1 2 3 rfl (by decide)) ?_
  refine w_iload rfl rfl ?_
  have o1 := H.1
  replace H := H.2
  refine n_aaload rfl rfl rfl (by decide) (wz_L hz 3 6 rfl (by decide)) o1 (wz_kept hz o1) ?_
  refine w_astore rfl rfl ?_
  refine w_aload rfl rfl ?_
  refine n_getR 6 9 rfl rfl rfl rfl (by decide) y_1_6 ?_
  refine w_aload rfl rfl ?_
  refine m_callI rfl (fun _ => rfl) rfl (mI_mono H fun v3 I2 H => ?_)
  refine w_if rfl (And.intro (fun hc => ?_) (fun hc => ?_))
  · replace H := H.1 hc
    refine w_iconst rfl ⟨by decide, by decide⟩ ?_
    exact w_zreturn rfl (by decide) H
  · replace H := H.2 hc
    refine w_aload rfl rfl ?_
    refine n_getR 6 9 rfl rfl rfl rfl (by decide) y_1_6 ?_
    refine w_aload rfl rfl ?_
    refine m_callI rfl (fun _ => rfl) rfl (mI_mono H fun v5 I4 H => ?_)
    refine w_if rfl (And.intro (fun hc => ?_) (fun hc => ?_))
    · replace H := H.1 hc
      refine w_iconst rfl ⟨by decide, by decide⟩ ?_
      exact w_zreturn rfl (by decide) H
    · replace H := H.2 hc
      refine w_aload rfl rfl ?_
      refine w_aload rfl rfl ?_
      refine n_callI rfl (fun _ => rfl) rfl (zcI_mono H fun v8 I6 Z7 H => ?_)
      refine w_if rfl (And.intro (fun hc => ?_) (fun hc => ?_))
      · replace H := H.1 hc
        refine w_iconst rfl ⟨by decide, by decide⟩ ?_
        exact w_zreturn rfl (by decide) H
      · replace H := H.2 hc
        refine w_iconst rfl ⟨by decide, by decide⟩ ?_
        refine w_goto rfl ?_
        exact w_zreturn rfl (by decide) H
set_option maxHeartbeats 4000000 in
set_option maxRecDepth 100000 in
theorem wr_Works_putForSystem {d : Nat} {Q : cm_Q} {z : cm_Z} {I : cm_I} (hz : wz z) {x1 : Int} {x2 : Int} {sh : Nat} (y_1_6 : z.1 1 6 = sh) (p_sh : isSh sh) (H : ((0:Int) ≤ x2 ∧ x2 < 6) ∧ (mI d m_Shape_degreeOf [vR 9 sh, vR 20 (4 + Int.toNat x2)] z I fun v3 I2 => ((0:Int) ≤ x1 ∧ x1 < 3) ∧ ((0:Int) ≤ v3 ∧ v3 < 17) ∧ (zcU d m_Piece_put [vR 5 (192 + 2 * Int.toNat x1), vR 20 (4 + Int.toNat x2), vI (I2 (sh + 2) v3), vI v3] z I2 fun I6 Z7 => Q none (I6, Z7)))) : cm_call (d + 1) m_Works_putForSystem [vR 11 1, vI x1, vI x2] (I, z) Q := by
  refine cm_call_in (C := cd_Works_putForSystem) (ls := [some (vR 11 1), some (vI x1), some (vI x2), none]) rfl rfl (show 0 < 1 by decide) rfl ?_
  refine w_aload rfl rfl ?_
  refine n_getR 6 9 rfl rfl rfl rfl (by decide) y_1_6 ?_
  refine w_aload rfl rfl ?_
  refine n_getR 2 23 rfl rfl rfl rfl (by decide) (wz_R hz 1 2 3 rfl (by decide)) ?_
  refine w_iload rfl rfl ?_
  have o1 := H.1
  replace H := H.2
  refine n_aaload rfl rfl rfl (by decide) (wz_L hz 3 6 rfl (by decide)) o1 (wz_kept hz o1) ?_
  refine m_callI rfl (fun _ => rfl) rfl (mI_mono H fun v3 I2 H => ?_)
  refine w_istore rfl rfl ?_
  refine w_aload rfl rfl ?_
  refine n_getR 14 6 rfl rfl rfl rfl (by decide) (wz_R hz 1 14 185 rfl (by decide)) ?_
  refine n_getR 11 25 rfl rfl rfl rfl (by decide) (wz_R hz 185 11 189 rfl (by decide)) ?_
  refine w_iload rfl rfl ?_
  have o4 := H.1
  replace H := H.2
  refine n_aaload rfl rfl rfl (by decide) (wz_L hz 189 3 rfl (by decide)) o4 (wz_pieces hz o4) ?_
  refine w_aload rfl rfl ?_
  refine n_getR 2 23 rfl rfl rfl rfl (by decide) (wz_R hz 1 2 3 rfl (by decide)) ?_
  refine w_iload rfl rfl ?_
  refine n_aaload rfl rfl rfl (by decide) (wz_L hz 3 6 rfl (by decide)) o1 (wz_kept hz o1) ?_
  refine w_aload rfl rfl ?_
  refine n_getR 6 9 rfl rfl rfl rfl (by decide) y_1_6 ?_
  refine n_getR 3 20 rfl rfl rfl rfl (isSh_pos p_sh) (wz_sh3 hz p_sh) ?_
  refine w_iload rfl rfl ?_
  have o5 := H.1
  replace H := H.2
  refine n_iaload rfl (Nat.add_pos_right _ (by decide)) (wz_shL2 hz p_sh) o5 ?_
  refine w_iload rfl rfl ?_
  refine n_callU rfl (fun _ => rfl) rfl (zcU_mono H fun I6 Z7 H => ?_)
  exact w_return rfl H
set_option maxHeartbeats 4000000 in
set_option maxRecDepth 100000 in
theorem wr_Works_findSecondaries {d : Nat} {Q : cm_Q} {z : cm_Z} {I : cm_I} (hz : wz z)   (H : (zcI d m_Search_find [vR 6 185] z I fun v3 I1 Z2 => ((¬ v3 = 0 → (wz Z2 ∧ (zcU d m_Rewriter_extendToAll [vR 8 198] Z2 I1 fun I5 Z6 => Q (some (vI 1)) (I5, Z6)))) ∧ (v3 = 0 → Q (some (vI 0)) (I1, Z2))))) : cm_call (d + 1) m_Works_findSecondaries [vR 11 1] (I, z) Q := by
  refine cm_call_in (C := cd_Works_findSecondaries) (ls := [some (vR 11 1)]) rfl rfl (show 0 < 1 by decide) rfl ?_
  refine w_aload rfl rfl ?_
  refine n_getR 14 6 rfl rfl rfl rfl (by decide) (wz_R hz 1 14 185 rfl (by decide)) ?_
  refine n_callI rfl (fun _ => rfl) rfl (zcI_mono H fun v3 I1 Z2 H => ?_)
  refine w_if rfl (And.intro (fun hc => ?_) (fun hc => ?_))
  · replace H := H.1 hc
    refine w_aload rfl rfl ?_
    have o4 := H.1
    replace H := H.2
    refine n_getR 15 8 rfl rfl rfl rfl (by decide) (wz_R o4 1 15 198 rfl (by decide)) ?_
    refine n_callU rfl (fun _ => rfl) rfl (zcU_mono H fun I5 Z6 H => ?_)
    refine w_iconst rfl ⟨by decide, by decide⟩ ?_
    exact w_zreturn rfl (by decide) H
  · replace H := H.2 hc
    refine w_iconst rfl ⟨by decide, by decide⟩ ?_
    exact w_zreturn rfl (by decide) H
set_option maxHeartbeats 4000000 in
set_option maxRecDepth 100000 in
theorem wr_Works_raise_7 {d : Nat} {Q : cm_Q} {z : cm_Z} {I : cm_I} (hz : wz z) {z0 : Option cm_V} {z1 : Option cm_V} {x2 : Int} {x3 : Int} {x4 : Int}  (H : ((x4 ≤ 0 → Q (some (vI x2)) (I, z)) ∧ (0 < x4 → ((¬ (x4 % (1 + 1)) = 1 → cw d cd_Works_raise Q 28 [z0, z1, some (vI x2), some (vI x3), some (vI x4)] [] (I, z)) ∧ ((x4 % (1 + 1)) = 1 → (cm_i (x2 * x3) ∧ cw d cd_Works_raise Q 28 [z0, z1, some (vI (Int.tmod (x2 * x3) 2521)), some (vI x3), some (vI x4)] [] (I, z))))))) : cw d cd_Works_raise Q 7 [z0, z1, some (vI x2), some (vI x3), some (vI x4)] [] (I, z) := by
  refine w_iload rfl rfl ?_
  refine w_if rfl (And.intro (fun hc => ?_) (fun hc => ?_))
  · replace H := H.1 hc
    refine w_iload rfl rfl ?_
    exact w_ireturn rfl H
  · replace H := H.2 hc
    refine w_iload rfl rfl ?_
    refine w_iconst rfl ⟨by decide, by decide⟩ ?_
    refine w_iand rfl (by decide) ?_
    refine w_iconst rfl ⟨by decide, by decide⟩ ?_
    refine w_icmp rfl (And.intro (fun hc => ?_) (fun hc => ?_))
    · replace H := H.1 hc
      exact H
    · replace H := H.2 hc
      refine w_iload rfl rfl ?_
      refine w_iload rfl rfl ?_
      have o1 := H.1
      replace H := H.2
      refine w_imul rfl o1 ?_
      refine w_iconst rfl ⟨by decide, by decide⟩ ?_
      refine w_irem rfl (by decide) ?_
      refine w_istore rfl rfl ?_
      exact H
set_option maxHeartbeats 4000000 in
set_option maxRecDepth 100000 in
theorem wr_Works_raise_28 {d : Nat} {Q : cm_Q} {z : cm_Z} {I : cm_I} (hz : wz z) {z0 : Option cm_V} {z1 : Option cm_V} {x2 : Int} {x3 : Int} {x4 : Int}  (H : (cm_i (x3 * x3) ∧ cw d cd_Works_raise Q 7 [z0, z1, some (vI x2), some (vI (Int.tmod (x3 * x3) 2521)), some (vI (x4 / 2 ^ (Int.toNat 1)))] [] (I, z))) : cw d cd_Works_raise Q 28 [z0, z1, some (vI x2), some (vI x3), some (vI x4)] [] (I, z) := by
  refine w_iload rfl rfl ?_
  refine w_iload rfl rfl ?_
  have o1 := H.1
  replace H := H.2
  refine w_imul rfl o1 ?_
  refine w_iconst rfl ⟨by decide, by decide⟩ ?_
  refine w_irem rfl (by decide) ?_
  refine w_istore rfl rfl ?_
  refine w_iload rfl rfl ?_
  refine w_iconst rfl ⟨by decide, by decide⟩ ?_
  refine w_ishr rfl (by decide) ?_
  refine w_istore rfl rfl ?_
  refine w_goto rfl ?_
  exact H
set_option maxHeartbeats 4000000 in
set_option maxRecDepth 100000 in
theorem wr_Works_raise {d : Nat} {Q : cm_Q} {z : cm_Z} {I : cm_I} (hz : wz z) {x0 : Int} {x1 : Int}  (H : cw d cd_Works_raise Q 7 [some (vI x0), some (vI x1), some (vI 1), some (vI x0), some (vI x1)] [] (I, z)) : cm_call (d + 1) m_Works_raise [vI x0, vI x1] (I, z) Q := by
  refine cm_call_in (C := cd_Works_raise) (ls := [some (vI x0), some (vI x1), none, none, none]) rfl rfl trivial rfl ?_
  refine w_iconst rfl ⟨by decide, by decide⟩ ?_
  refine w_istore rfl rfl ?_
  refine w_iload rfl rfl ?_
  refine w_istore rfl rfl ?_
  refine w_iload rfl rfl ?_
  refine w_istore rfl rfl ?_
  exact H
set_option maxHeartbeats 4000000 in
set_option maxRecDepth 100000 in
theorem wr_Works_divides {d : Nat} {Q : cm_Q} {z : cm_Z} {I : cm_I} (hz : wz z) {x0 : Int} {x1 : Int}  (H : ((x0 ≤ 0 → Q (some (vI 0)) (I, z)) ∧ (0 < x0 → (0 < x0 ∧ ((¬ (Int.tmod x1 x0) = 0 → Q (some (vI 0)) (I, z)) ∧ ((Int.tmod x1 x0) = 0 → Q (some (vI 1)) (I, z))))))) : cm_call (d + 1) m_Works_divides [vI x0, vI x1] (I, z) Q := by
  refine cm_call_in (C := cd_Works_divides) (ls := [some (vI x0), some (vI x1)]) rfl rfl trivial rfl ?_
  refine w_iload rfl rfl ?_
  refine w_if rfl (And.intro (fun hc => ?_) (fun hc => ?_))
  · replace H := H.1 hc
    refine w_iconst rfl ⟨by decide, by decide⟩ ?_
    exact w_zreturn rfl (by decide) H
  · replace H := H.2 hc
    refine w_iload rfl rfl ?_
    refine w_iload rfl rfl ?_
    have o1 := H.1
    replace H := H.2
    refine w_irem rfl o1 ?_
    refine w_if rfl (And.intro (fun hc => ?_) (fun hc => ?_))
    · replace H := H.1 hc
      refine w_iconst rfl ⟨by decide, by decide⟩ ?_
      exact w_zreturn rfl (by decide) H
    · replace H := H.2 hc
      refine w_iconst rfl ⟨by decide, by decide⟩ ?_
      refine w_goto rfl ?_
      exact w_zreturn rfl (by decide) H
set_option maxHeartbeats 4000000 in
set_option maxRecDepth 100000 in
theorem wr_Works_minor {d : Nat} {Q : cm_Q} {z : cm_Z} {I : cm_I} (hz : wz z) {x0 : Int} {x1 : Int} {x2 : Int} {x3 : Int}  (H : (cm_i (x0 * x3) ∧ (cm_i (x1 * x2) ∧ (cm_i ((x0 * x3) - (x1 * x2)) ∧ Q (some (vI (((x0 * x3) - (x1 * x2)) % 2521))) (I, z))))) : cm_call (d + 1) m_Works_minor [vI x0, vI x1, vI x2, vI x3] (I, z) Q := by
  refine cm_call_in (C := cd_Works_minor) (ls := [some (vI x0), some (vI x1), some (vI x2), some (vI x3)]) rfl rfl trivial rfl ?_
  refine w_iload rfl rfl ?_
  refine w_iload rfl rfl ?_
  have o1 := H.1
  replace H := H.2
  refine w_imul rfl o1 ?_
  refine w_iload rfl rfl ?_
  refine w_iload rfl rfl ?_
  have o2 := H.1
  replace H := H.2
  refine w_imul rfl o2 ?_
  have o3 := H.1
  replace H := H.2
  refine w_isub rfl o3 ?_
  refine w_iconst rfl ⟨by decide, by decide⟩ ?_
  refine w_floorMod rfl rfl (by decide) ?_
  exact w_ireturn rfl H
set_option maxHeartbeats 4000000 in
set_option maxRecDepth 100000 in
theorem wr_Works_determinant {d : Nat} {Q : cm_Q} {z : cm_Z} {I : cm_I} (hz : wz z) {a0 : Nat} {x1 : Int} {x2 : Int} (p_a0 : 0 < a0) (H : ((¬ x2 = 2 → ((0:Int) ≤ x1 ∧ x1 < z.2.1 a0) ∧ (cm_i (x1 + 4) ∧ ((0:Int) ≤ (x1 + 4) ∧ (x1 + 4) < z.2.1 a0) ∧ (cm_i (x1 + 5) ∧ ((0:Int) ≤ (x1 + 5) ∧ (x1 + 5) < z.2.1 a0) ∧ (cm_i (x1 + 7) ∧ ((0:Int) ≤ (x1 + 7) ∧ (x1 + 7) < z.2.1 a0) ∧ (cm_i (x1 + 8) ∧ ((0:Int) ≤ (x1 + 8) ∧ (x1 + 8) < z.2.1 a0) ∧ (mI d m_Works_minor [vI (I a0 (x1 + 4)), vI (I a0 (x1 + 5)), vI (I a0 (x1 + 7)), vI (I a0 (x1 + 8))] z I fun v11 I10 => (cm_i ((I a0 x1) * v11) ∧ (cm_i (x1 + 1) ∧ ((0:Int) ≤ (x1 + 1) ∧ (x1 + 1) < z.2.1 a0) ∧ (cm_i (x1 + 3) ∧ ((0:Int) ≤ (x1 + 3) ∧ (x1 + 3) < z.2.1 a0) ∧ (cm_i (x1 + 6) ∧ ((0:Int) ≤ (x1 + 6) ∧ (x1 + 6) < z.2.1 a0) ∧ (mI d m_Works_minor [vI (I10 a0 (x1 + 3)), vI (I10 a0 (x1 + 5)), vI (I10 a0 (x1 + 6)), vI (I10 a0 (x1 + 8))] z I10 fun v20 I19 => (cm_i ((I10 a0 (x1 + 1)) * v20) ∧ (cm_i (x1 + 2) ∧ ((0:Int) ≤ (x1 + 2) ∧ (x1 + 2) < z.2.1 a0) ∧ (mI d m_Works_minor [vI (I19 a0 (x1 + 3)), vI (I19 a0 (x1 + 4)), vI (I19 a0 (x1 + 6)), vI (I19 a0 (x1 + 7))] z I19 fun v25 I24 => (cm_i ((I19 a0 (x1 + 2)) * v25) ∧ (cm_i (((I a0 x1) * v11) - ((I10 a0 (x1 + 1)) * v20)) ∧ (cm_i ((((I a0 x1) * v11) - ((I10 a0 (x1 + 1)) * v20)) + ((I19 a0 (x1 + 2)) * v25)) ∧ Q (some (vI (((((I a0 x1) * v11) - ((I10 a0 (x1 + 1)) * v20)) + ((I19 a0 (x1 + 2)) * v25)) % 2521))) (I24, z)))))))))))))))))) ∧ (x2 = 2 → ((0:Int) ≤ x1 ∧ x1 < z.2.1 a0) ∧ (cm_i (x1 + 1) ∧ ((0:Int) ≤ (x1 + 1) ∧ (x1 + 1) < z.2.1 a0) ∧ (cm_i (x1 + 2) ∧ ((0:Int) ≤ (x1 + 2) ∧ (x1 + 2) < z.2.1 a0) ∧ (cm_i (x1 + 3) ∧ ((0:Int) ≤ (x1 + 3) ∧ (x1 + 3) < z.2.1 a0) ∧ (mI d m_Works_minor [vI (I a0 x1), vI (I a0 (x1 + 1)), vI (I a0 (x1 + 2)), vI (I a0 (x1 + 3))] z I fun v37 I36 => Q (some (vI v37)) (I36, z)))))))) : cm_call (d + 1) m_Works_determinant [vR 20 a0, vI x1, vI x2] (I, z) Q := by
  refine cm_call_in (C := cd_Works_determinant) (ls := [some (vR 20 a0), some (vI x1), some (vI x2), none, none, none]) rfl rfl trivial rfl ?_
  refine w_iload rfl rfl ?_
  refine w_iconst rfl ⟨by decide, by decide⟩ ?_
  refine w_icmp rfl (And.intro (fun hc => ?_) (fun hc => ?_))
  · replace H := H.1 hc
    refine w_aload rfl rfl ?_
    refine w_iload rfl rfl ?_
    have o1 := H.1
    replace H := H.2
    refine n_iaload rfl p_a0 rfl o1 ?_
    refine w_aload rfl rfl ?_
    refine w_iload rfl rfl ?_
    refine w_iconst rfl ⟨by decide, by decide⟩ ?_
    have o2 := H.1
    replace H := H.2
    refine w_iadd rfl o2 ?_
    have o3 := H.1
    replace H := H.2
    refine n_iaload rfl p_a0 rfl o3 ?_
    refine w_aload rfl rfl ?_
    refine w_iload rfl rfl ?_
    refine w_iconst rfl ⟨by decide, by decide⟩ ?_
    have o4 := H.1
    replace H := H.2
    refine w_iadd rfl o4 ?_
    have o5 := H.1
    replace H := H.2
    refine n_iaload rfl p_a0 rfl o5 ?_
    refine w_aload rfl rfl ?_
    refine w_iload rfl rfl ?_
    refine w_iconst rfl ⟨by decide, by decide⟩ ?_
    have o6 := H.1
    replace H := H.2
    refine w_iadd rfl o6 ?_
    have o7 := H.1
    replace H := H.2
    refine n_iaload rfl p_a0 rfl o7 ?_
    refine w_aload rfl rfl ?_
    refine w_iload rfl rfl ?_
    refine w_iconst rfl ⟨by decide, by decide⟩ ?_
    have o8 := H.1
    replace H := H.2
    refine w_iadd rfl o8 ?_
    have o9 := H.1
    replace H := H.2
    refine n_iaload rfl p_a0 rfl o9 ?_
    refine m_callI rfl (fun _ => rfl) rfl (mI_mono H fun v11 I10 H => ?_)
    have o12 := H.1
    replace H := H.2
    refine w_imul rfl o12 ?_
    refine w_istore rfl rfl ?_
    refine w_aload rfl rfl ?_
    refine w_iload rfl rfl ?_
    refine w_iconst rfl ⟨by decide, by decide⟩ ?_
    have o13 := H.1
    replace H := H.2
    refine w_iadd rfl o13 ?_
    have o14 := H.1
    replace H := H.2
    refine n_iaload rfl p_a0 rfl o14 ?_
    refine w_aload rfl rfl ?_
    refine w_iload rfl rfl ?_
    refine w_iconst rfl ⟨by decide, by decide⟩ ?_
    have o15 := H.1
    replace H := H.2
    refine w_iadd rfl o15 ?_
    have o16 := H.1
    replace H := H.2
    refine n_iaload rfl p_a0 rfl o16 ?_
    refine w_aload rfl rfl ?_
    refine w_iload rfl rfl ?_
    refine w_iconst rfl ⟨by decide, by decide⟩ ?_
    refine w_iadd rfl o4 ?_
    refine n_iaload rfl p_a0 rfl o5 ?_
    refine w_aload rfl rfl ?_
    refine w_iload rfl rfl ?_
    refine w_iconst rfl ⟨by decide, by decide⟩ ?_
    have o17 := H.1
    replace H := H.2
    refine w_iadd rfl o17 ?_
    have o18 := H.1
    replace H := H.2
    refine n_iaload rfl p_a0 rfl o18 ?_
    refine w_aload rfl rfl ?_
    refine w_iload rfl rfl ?_
    refine w_iconst rfl ⟨by decide, by decide⟩ ?_
    refine w_iadd rfl o8 ?_
    refine n_iaload rfl p_a0 rfl o9 ?_
    refine m_callI rfl (fun _ => rfl) rfl (mI_mono H fun v20 I19 H => ?_)
    have o21 := H.1
    replace H := H.2
    refine w_imul rfl o21 ?_
    refine w_istore rfl rfl ?_
    refine w_aload rfl rfl ?_
    refine w_iload rfl rfl ?_
    refine w_iconst rfl ⟨by decide, by decide⟩ ?_
    have o22 := H.1
    replace H := H.2
    refine w_iadd rfl o22 ?_
    have o23 := H.1
    replace H := H.2
    refine n_iaload rfl p_a0 rfl o23 ?_
    refine w_aload rfl rfl ?_
    refine w_iload rfl rfl ?_
    refine w_iconst rfl ⟨by decide, by decide⟩ ?_
    refine w_iadd rfl o15 ?_
    refine n_iaload rfl p_a0 rfl o16 ?_
    refine w_aload rfl rfl ?_
    refine w_iload rfl rfl ?_
    refine w_iconst rfl ⟨by decide, by decide⟩ ?_
    refine w_iadd rfl o2 ?_
    refine n_iaload rfl p_a0 rfl o3 ?_
    refine w_aload rfl rfl ?_
    refine w_iload rfl rfl ?_
    refine w_iconst rfl ⟨by decide, by decide⟩ ?_
    refine w_iadd rfl o17 ?_
    refine n_iaload rfl p_a0 rfl o18 ?_
    refine w_aload rfl rfl ?_
    refine w_iload rfl rfl ?_
    refine w_iconst rfl ⟨by decide, by decide⟩ ?_
    refine w_iadd rfl o6 ?_
    refine n_iaload rfl p_a0 rfl o7 ?_
    refine m_callI rfl (fun _ => rfl) rfl (mI_mono H fun v25 I24 H => ?_)
    have o26 := H.1
    replace H := H.2
    refine w_imul rfl o26 ?_
    refine w_istore rfl rfl ?_
    refine w_iload rfl rfl ?_
    refine w_iload rfl rfl ?_
    have o27 := H.1
    replace H := H.2
    refine w_isub rfl o27 ?_
    refine w_iload rfl rfl ?_
    have o28 := H.1
    replace H := H.2
    refine w_iadd rfl o28 ?_
    refine w_iconst rfl ⟨by decide, by decide⟩ ?_
    refine w_floorMod rfl rfl (by decide) ?_
    exact w_ireturn rfl H
  · replace H := H.2 hc
    refine w_aload rfl rfl ?_
    refine w_iload rfl rfl ?_
    have o29 := H.1
    replace H := H.2
    refine n_iaload rfl p_a0 rfl o29 ?_
    refine w_aload rfl rfl ?_
    refine w_iload rfl rfl ?_
    refine w_iconst rfl ⟨by decide, by decide⟩ ?_
    have o30 := H.1
    replace H := H.2
    refine w_iadd rfl o30 ?_
    have o31 := H.1
    replace H := H.2
    refine n_iaload rfl p_a0 rfl o31 ?_
    refine w_aload rfl rfl ?_
    refine w_iload rfl rfl ?_
    refine w_iconst rfl ⟨by decide, by decide⟩ ?_
    have o32 := H.1
    replace H := H.2
    refine w_iadd rfl o32 ?_
    have o33 := H.1
    replace H := H.2
    refine n_iaload rfl p_a0 rfl o33 ?_
    refine w_aload rfl rfl ?_
    refine w_iload rfl rfl ?_
    refine w_iconst rfl ⟨by decide, by decide⟩ ?_
    have o34 := H.1
    replace H := H.2
    refine w_iadd rfl o34 ?_
    have o35 := H.1
    replace H := H.2
    refine n_iaload rfl p_a0 rfl o35 ?_
    refine m_callI rfl (fun _ => rfl) rfl (mI_mono H fun v37 I36 H => ?_)
    exact w_ireturn rfl H
set_option maxHeartbeats 4000000 in
set_option maxRecDepth 100000 in
theorem wr_Works_withRoom {d : Nat} {Q : cm_Q} {z : cm_Z} {I : cm_I} (hz : wz z) {a0 : Nat} {x1 : Int} {x2 : Int} (p_a0 : 0 < a0) (H : (((z.2.1 a0) < x1 → (cm_i (2 * (z.2.1 a0)) ∧ ((0:Int) ≤ (max x1 (min x2 (2 * (z.2.1 a0)))) ∧ (max x1 (min x2 (2 * (z.2.1 a0)))) ≤ 1000000) ∧ (∀ (I3 : cm_I) (Z4 : cm_Z), I3 = iw I (zN z) (fun _ => 0) → Z4 = zNew z 20 (max x1 (min x2 (2 * (z.2.1 a0)))) (Int.toNat (max x1 (min x2 (2 * (z.2.1 a0))))) → (0 < ((zN z)) ∧ Q (some (vR 20 (zN z))) (I3, Z4))))) ∧ (x1 ≤ (z.2.1 a0) → Q (some (vR 20 a0)) (I, z)))) : cm_call (d + 1) m_Works_withRoom [vR 20 a0, vI x1, vI x2] (I, z) Q := by
  refine cm_call_in (C := cd_Works_withRoom) (ls := [some (vR 20 a0), some (vI x1), some (vI x2)]) rfl rfl trivial rfl ?_
  refine w_aload rfl rfl ?_
  refine n_alen rfl rfl p_a0 rfl ?_
  refine w_iload rfl rfl ?_
  refine w_icmp rfl (And.intro (fun hc => ?_) (fun hc => ?_))
  · replace H := H.1 hc
    refine w_iload rfl rfl ?_
    refine w_iload rfl rfl ?_
    refine w_iconst rfl ⟨by decide, by decide⟩ ?_
    refine w_aload rfl rfl ?_
    refine n_alen rfl rfl p_a0 rfl ?_
    have o1 := H.1
    replace H := H.2
    refine w_imul rfl o1 ?_
    refine w_min rfl rfl ?_
    refine w_max rfl rfl ?_
    have o2 := H.1
    replace H := H.2
    refine n_newI rfl o2 (fun I3 Z4 eI3 eZ4 => ?_)
    replace H := H I3 Z4 eI3 eZ4
    have o5 := H.1
    replace H := H.2
    exact w_areturn rfl o5 H
  · replace H := H.2 hc
    refine w_aload rfl rfl ?_
    exact w_areturn rfl p_a0 H
