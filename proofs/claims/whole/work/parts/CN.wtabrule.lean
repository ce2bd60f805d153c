/-! Works.tables: its rule, with the members changed for the spare ones -/
set_option maxHeartbeats 4000000 in
set_option maxRecDepth 100000 in
theorem wr2_Works_tables {d : Nat} {Q : cm_Q} {z : cm_Z} {I : cm_I} (hz : wz z) {x1 : Int} {sp : Nat} {mb : Nat} (y_1_8 : z.1 1 8 = sp) (y_1_7 : z.1 1 7 = mb) (p_mb : isMb mb) (p_sp : isMb sp) (H : ((x1 < 0 → Q (some (vI (-1))) (I, z)) ∧ (0 ≤ x1 → ((x1 ≤ (I 1 1) → (∀ I1 : cm_I, I1 = iu I 1 1 0 → (mU d m_Reader_open [vR 7 49, vI x1] z I1 fun I2 => (mI d m_Reader_readTables [vR 7 49, vR 3 sp] z I2 fun v4 I3 => ((¬ v4 = 0 → (mI d m_Members_grow [vR 3 sp] z I3 fun v6 I5 => ((¬ v6 = 0 → (∀ Z7 : cm_Z, Z7 = zr z 1 7 sp → (∀ Z8 : cm_Z, Z8 = zr Z7 1 8 mb → (Z8.1 1 7 = sp ∧ (((I5 sp 0) = (I5 mb 0) → (zcU d m_Works_startAgain [vR 11 1] Z8 I5 fun I10 Z11 => (Z11.1 1 7 = sp ∧ Q (some (vI (I10 sp 2))) (I10, Z11)))) ∧ (¬ (I5 sp 0) = (I5 mb 0) → ((¬ (I5 sp 0) = 3 → (wz Z8 ∧ (∀ Z14 : cm_Z, Z14 = zr Z8 1 6 11 → cw d cd_Works_tables Q 125 [some (vR 11 1), some (vI x1), some (vR 3 mb), some (vI 0)] [] (I5, Z14)))) ∧ ((I5 sp 0) = 3 → (wz Z8 ∧ (∀ Z16 : cm_Z, Z16 = zr Z8 1 6 20 → cw d cd_Works_tables Q 125 [some (vR 11 1), some (vI x1), some (vR 3 mb), some (vI 0)] [] (I5, Z16))))))))))) ∧ (v6 = 0 → Q (some (vI (-6))) (I5, z))))) ∧ (v4 = 0 → (cm_i ((-2) - (I3 49 8)) ∧ Q (some (vI ((-2) - (I3 49 8)))) (I3, z)))))))) ∧ ((I 1 1) < x1 → Q (some (vI (-1))) (I, z)))))) : cm_call (d + 1) m_Works_tables [vR 11 1, vI x1] (I, z) Q := by
  refine cm_call_in (C := cd_Works_tables) (ls := [some (vR 11 1), some (vI x1), none, none]) rfl rfl (show 0 < 1 by decide) rfl ?_
  refine w_iload rfl rfl ?_
  refine w_if rfl (And.intro (fun hc => ?_) (fun hc => ?_))
  · replace H := H.1 hc
    refine w_iconst rfl ⟨by decide, by decide⟩ ?_
    exact w_ireturn rfl H
  · replace H := H.2 hc
    refine w_iload rfl rfl ?_
    refine w_aload rfl rfl ?_
    refine m_getI 1 rfl rfl rfl (by decide) ?_
    refine w_icmp rfl (And.intro (fun hc => ?_) (fun hc => ?_))
    · replace H := H.1 hc
      refine w_aload rfl rfl ?_
      refine w_iconst rfl ⟨by decide, by decide⟩ ?_
      refine m_putI 1 rfl rfl rfl (by decide) (fun I1 eI1 => ?_)
      replace H := H I1 eI1
      refine w_aload rfl rfl ?_
      refine n_getR 9 7 rfl rfl rfl rfl (by decide) (wz_R hz 1 9 49 rfl (by decide)) ?_
      refine w_iload rfl rfl ?_
      refine m_callU rfl (fun _ => rfl) rfl (mU_mono H fun I2 H => ?_)
      refine w_aload rfl rfl ?_
      refine n_getR 9 7 rfl rfl rfl rfl (by decide) (wz_R hz 1 9 49 rfl (by decide)) ?_
      refine w_aload rfl rfl ?_
      refine n_getR 8 3 rfl rfl rfl rfl (by decide) y_1_8 ?_
      refine m_callI rfl (fun _ => rfl) rfl (mI_mono H fun v4 I3 H => ?_)
      refine w_if rfl (And.intro (fun hc => ?_) (fun hc => ?_))
      · replace H := H.1 hc
        refine w_aload rfl rfl ?_
        refine n_getR 8 3 rfl rfl rfl rfl (by decide) y_1_8 ?_
        refine m_callI rfl (fun _ => rfl) rfl (mI_mono H fun v6 I5 H => ?_)
        refine w_if rfl (And.intro (fun hc => ?_) (fun hc => ?_))
        · replace H := H.1 hc
          refine w_aload rfl rfl ?_
          refine n_getR 7 3 rfl rfl rfl rfl (by decide) y_1_7 ?_
          refine w_astore rfl rfl ?_
          refine w_aload rfl rfl ?_
          refine w_aload rfl rfl ?_
          refine n_getR 8 3 rfl rfl rfl rfl (by decide) y_1_8 ?_
          refine n_putR 7 rfl rfl rfl rfl (by decide) (fun Z7 eZ7 => ?_)
          replace H := H Z7 eZ7
          refine w_aload rfl rfl ?_
          refine w_aload rfl rfl ?_
          refine n_putR 8 rfl rfl rfl rfl (by decide) (fun Z8 eZ8 => ?_)
          replace H := H Z8 eZ8
          refine w_aload rfl rfl ?_
          have o9 := H.1
          replace H := H.2
          refine n_getR 7 3 rfl rfl rfl rfl (by decide) o9 ?_
          refine m_getI 0 rfl rfl rfl (isMb_pos p_sp) ?_
          refine w_aload rfl rfl ?_
          refine m_getI 0 rfl rfl rfl (isMb_pos p_mb) ?_
          refine w_icmp rfl (And.intro (fun hc => ?_) (fun hc => ?_))
          · replace H := H.1 hc
            refine w_aload rfl rfl ?_
            refine n_callU rfl (fun _ => rfl) rfl (zcU_mono H fun I10 Z11 H => ?_)
            refine w_aload rfl rfl ?_
            have o12 := H.1
            replace H := H.2
            refine n_getR 7 3 rfl rfl rfl rfl (by decide) o12 ?_
            refine m_getI 2 rfl rfl rfl (isMb_pos p_sp) ?_
            exact w_ireturn rfl H
          · replace H := H.2 hc
            refine w_aload rfl rfl ?_
            refine w_aload rfl rfl ?_
            refine n_getR 7 3 rfl rfl rfl rfl (by decide) o9 ?_
            refine m_getI 0 rfl rfl rfl (isMb_pos p_sp) ?_
            refine w_iconst rfl ⟨by decide, by decide⟩ ?_
            refine w_icmp rfl (And.intro (fun hc => ?_) (fun hc => ?_))
            · replace H := H.1 hc
              refine w_aload rfl rfl ?_
              have o13 := H.1
              replace H := H.2
              refine n_getR 4 9 rfl rfl rfl rfl (by decide) (wz_R o13 1 4 11 rfl (by decide)) ?_
              refine n_putR 6 rfl rfl rfl rfl (by decide) (fun Z14 eZ14 => ?_)
              replace H := H Z14 eZ14
              refine w_iconst rfl ⟨by decide, by decide⟩ ?_
              refine w_istore rfl rfl ?_
              exact H
            · replace H := H.2 hc
              refine w_aload rfl rfl ?_
              have o15 := H.1
              replace H := H.2
              refine n_getR 5 9 rfl rfl rfl rfl (by decide) (wz_R o15 1 5 20 rfl (by decide)) ?_
              refine w_goto rfl ?_
              refine n_putR 6 rfl rfl rfl rfl (by decide) (fun Z16 eZ16 => ?_)
              replace H := H Z16 eZ16
              refine w_iconst rfl ⟨by decide, by decide⟩ ?_
              refine w_istore rfl rfl ?_
              exact H
        · replace H := H.2 hc
          refine w_iconst rfl ⟨by decide, by decide⟩ ?_
          exact w_ireturn rfl H
      · replace H := H.2 hc
        refine w_iconst rfl ⟨by decide, by decide⟩ ?_
        refine w_aload rfl rfl ?_
        refine n_getR 9 7 rfl rfl rfl rfl (by decide) (wz_R hz 1 9 49 rfl (by decide)) ?_
        refine m_getI 8 rfl rfl rfl (by decide) ?_
        have o17 := H.1
        replace H := H.2
        refine w_isub rfl o17 ?_
        exact w_ireturn rfl H
    · replace H := H.2 hc
      refine w_iconst rfl ⟨by decide, by decide⟩ ?_
      exact w_ireturn rfl H
