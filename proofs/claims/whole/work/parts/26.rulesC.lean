/-! RULES: what must hold at an entry or a cut place (printed by wip/whole/genrules.py) -/
set_option maxHeartbeats 4000000 in
set_option maxRecDepth 100000 in
theorem r_Search_init_63 {d : Nat} {Q : cm_Q} {h : cm_H} {a0 : Nat} {z1 : Option cm_V} {z2 : Option cm_V} {x3 : Int} (p_a0 : 0 < a0) (H : ((3 ≤ x3 → Q none h) ∧ (x3 < 3 → (∀ h1 : cm_H, h1 = ch_new h 5 0 3 → (cU d m_Piece_init [vR 5 (ch_n h)] h1 fun h2 => (0 < ((ch_n h)) ∧ 0 < ((ch_R h a0 11)) ∧ ((0:Int) ≤ x3 ∧ x3 < ch_L h2 (ch_R h a0 11)) ∧ (∀ h6 : cm_H, h6 = ch_r h2 (ch_R h a0 11) x3 (ch_n h) → (cm_i (x3 + 1) ∧ cw d cd_Search_init Q 63 [some (vR 6 a0), z1, z2, some (vI (x3 + 1))] [] h6)))))))) : cw d cd_Search_init Q 63 [some (vR 6 a0), z1, z2, some (vI x3)] [] h := by
  refine w_iload rfl rfl ?_
  refine w_iconst rfl ⟨by decide, by decide⟩ ?_
  refine w_icmp rfl (And.intro (fun hc => ?_) (fun hc => ?_))
  · replace H := H.1 hc
    exact w_return rfl H
  · replace H := H.2 hc
    refine w_aload rfl rfl ?_
    refine w_getR 11 25 rfl rfl rfl rfl p_a0 ?_
    refine w_iload rfl rfl ?_
    refine w_new 5 3 rfl rfl rfl (fun h1 eh1 => ?_)
    replace H := H h1 eh1
    refine w_dup rfl rfl ?_
    refine w_callU rfl (fun _ => rfl) rfl (cU_mono H fun h2 H => ?_)
    have o3 := H.1
    replace H := H.2
    have o4 := H.1
    replace H := H.2
    have o5 := H.1
    replace H := H.2
    refine w_aastore rfl rfl rfl o3 o4 o5 (fun h6 eh6 => ?_)
    replace H := H h6 eh6
    have o7 := H.1
    replace H := H.2
    refine w_iinc rfl rfl rfl o7 ?_
    refine w_goto rfl ?_
    exact H
set_option maxHeartbeats 4000000 in
set_option maxRecDepth 100000 in
theorem r_Search_init {d : Nat} {Q : cm_Q} {h : cm_H} {a0 : Nat} {a1 : Nat} {a2 : Nat} (p_a0 : 0 < a0) (H : (∀ h1 : cm_H, h1 = ch_new h 20 83 (Int.toNat 83) → (∀ h2 : cm_H, h2 = ch_r h1 a0 8 (ch_n h) → (∀ h3 : cm_H, h3 = ch_new h2 20 83 (Int.toNat 83) → (∀ h4 : cm_H, h4 = ch_r h3 a0 9 (ch_n h2) → (∀ h5 : cm_H, h5 = ch_new h4 20 153 (Int.toNat 153) → (∀ h6 : cm_H, h6 = ch_r h5 a0 10 (ch_n h4) → (∀ h7 : cm_H, h7 = ch_new h6 25 3 (Int.toNat 3) → (∀ h8 : cm_H, h8 = ch_r h7 a0 11 (ch_n h6) → (∀ h9 : cm_H, h9 = ch_new h8 20 3 (Int.toNat 3) → (∀ h10 : cm_H, h10 = ch_r h9 a0 12 (ch_n h8) → (∀ h11 : cm_H, h11 = ch_new h10 20 3 (Int.toNat 3) → (∀ h12 : cm_H, h12 = ch_r h11 a0 13 (ch_n h10) → (∀ h13 : cm_H, h13 = ch_r h12 a0 0 a1 → (∀ h14 : cm_H, h14 = ch_r h13 a0 1 a2 → cw d cd_Search_init Q 63 [some (vR 6 a0), some (vR 0 a1), some (vR 1 a2), some (vI 0)] [] h14))))))))))))))) : cm_call (d + 1) m_Search_init [vR 6 a0, vR 0 a1, vR 1 a2] h Q := by
  refine cm_call_in (C := cd_Search_init) (ls := [some (vR 6 a0), some (vR 0 a1), some (vR 1 a2), none]) rfl rfl p_a0 rfl ?_
  refine w_aload rfl rfl ?_
  refine w_objInit rfl rfl p_a0 ?_
  refine w_aload rfl rfl ?_
  refine w_iconst rfl ⟨by decide, by decide⟩ ?_
  refine w_newI rfl (by decide) (fun h1 eh1 => ?_)
  replace H := H h1 eh1
  refine w_putR 8 rfl rfl rfl rfl p_a0 (fun h2 eh2 => ?_)
  replace H := H h2 eh2
  refine w_aload rfl rfl ?_
  refine w_iconst rfl ⟨by decide, by decide⟩ ?_
  refine w_newI rfl (by decide) (fun h3 eh3 => ?_)
  replace H := H h3 eh3
  refine w_putR 9 rfl rfl rfl rfl p_a0 (fun h4 eh4 => ?_)
  replace H := H h4 eh4
  refine w_aload rfl rfl ?_
  refine w_iconst rfl ⟨by decide, by decide⟩ ?_
  refine w_newI rfl (by decide) (fun h5 eh5 => ?_)
  replace H := H h5 eh5
  refine w_putR 10 rfl rfl rfl rfl p_a0 (fun h6 eh6 => ?_)
  replace H := H h6 eh6
  refine w_aload rfl rfl ?_
  refine w_iconst rfl ⟨by decide, by decide⟩ ?_
  refine w_newA rfl (by decide) (fun h7 eh7 => ?_)
  replace H := H h7 eh7
  refine w_putR 11 rfl rfl rfl rfl p_a0 (fun h8 eh8 => ?_)
  replace H := H h8 eh8
  refine w_aload rfl rfl ?_
  refine w_iconst rfl ⟨by decide, by decide⟩ ?_
  refine w_newI rfl (by decide) (fun h9 eh9 => ?_)
  replace H := H h9 eh9
  refine w_putR 12 rfl rfl rfl rfl p_a0 (fun h10 eh10 => ?_)
  replace H := H h10 eh10
  refine w_aload rfl rfl ?_
  refine w_iconst rfl ⟨by decide, by decide⟩ ?_
  refine w_newI rfl (by decide) (fun h11 eh11 => ?_)
  replace H := H h11 eh11
  refine w_putR 13 rfl rfl rfl rfl p_a0 (fun h12 eh12 => ?_)
  replace H := H h12 eh12
  refine w_aload rfl rfl ?_
  refine w_aload rfl rfl ?_
  refine w_putR 0 rfl rfl rfl rfl p_a0 (fun h13 eh13 => ?_)
  replace H := H h13 eh13
  refine w_aload rfl rfl ?_
  refine w_aload rfl rfl ?_
  refine w_putR 1 rfl rfl rfl rfl p_a0 (fun h14 eh14 => ?_)
  replace H := H h14 eh14
  refine w_iconst rfl ⟨by decide, by decide⟩ ?_
  refine w_istore rfl rfl ?_
  exact H
set_option maxHeartbeats 4000000 in
set_option maxRecDepth 100000 in
theorem r_Search_begin {d : Nat} {Q : cm_Q} {h : cm_H} {a0 : Nat} {a1 : Nat} {a2 : Nat} (p_a0 : 0 < a0) (p_a2 : 0 < a2) (H : (∀ h1 : cm_H, h1 = ch_r h a0 2 a1 → (∀ h2 : cm_H, h2 = ch_u h1 a0 3 (ch_I h1 a2 2) → (∀ h3 : cm_H, h3 = ch_u h2 a0 4 0 → (∀ h4 : cm_H, h4 = ch_u h3 a0 5 0 → Q none h4))))) : cm_call (d + 1) m_Search_begin [vR 6 a0, vR 9 a1, vR 3 a2] h Q := by
  refine cm_call_in (C := cd_Search_begin) (ls := [some (vR 6 a0), some (vR 9 a1), some (vR 3 a2)]) rfl rfl p_a0 rfl ?_
  refine w_aload rfl rfl ?_
  refine w_aload rfl rfl ?_
  refine w_putR 2 rfl rfl rfl rfl p_a0 (fun h1 eh1 => ?_)
  replace H := H h1 eh1
  refine w_aload rfl rfl ?_
  refine w_aload rfl rfl ?_
  refine w_getI 2 rfl rfl rfl p_a2 ?_
  refine w_putI 3 rfl rfl rfl p_a0 (fun h2 eh2 => ?_)
  replace H := H h2 eh2
  refine w_aload rfl rfl ?_
  refine w_iconst rfl ⟨by decide, by decide⟩ ?_
  refine w_putZ 4 rfl rfl rfl (by decide) p_a0 (fun h3 eh3 => ?_)
  replace H := H h3 eh3
  refine w_aload rfl rfl ?_
  refine w_iconst rfl ⟨by decide, by decide⟩ ?_
  refine w_putZ 5 rfl rfl rfl (by decide) p_a0 (fun h4 eh4 => ?_)
  replace H := H h4 eh4
  exact w_return rfl H
set_option maxHeartbeats 4000000 in
set_option maxRecDepth 100000 in
theorem r_Search_find_29 {d : Nat} {Q : cm_Q} {h : cm_H} {a0 : Nat} {x1 : Int} (p_a0 : 0 < a0) (H : ((6 < x1 → cw d cd_Search_find Q 55 [some (vR 6 a0), some (vI 1)] [] h) ∧ (x1 ≤ 6 → (cA d m_Bases_grade [vR 0 (ch_R h a0 0), vI x1] h 2 fun v2 h1 => (cU d m_Search_addCandidates [vR 6 a0, vR 2 v2] h1 fun h3 => (cm_i (x1 + 1) ∧ cw d cd_Search_find Q 29 [some (vR 6 a0), some (vI (x1 + 1))] [] h3)))))) : cw d cd_Search_find Q 29 [some (vR 6 a0), some (vI x1)] [] h := by
  refine w_iload rfl rfl ?_
  refine w_iconst rfl ⟨by decide, by decide⟩ ?_
  refine w_icmp rfl (And.intro (fun hc => ?_) (fun hc => ?_))
  · replace H := H.1 hc
    refine w_iconst rfl ⟨by decide, by decide⟩ ?_
    refine w_istore rfl rfl ?_
    exact H
  · replace H := H.2 hc
    refine w_aload rfl rfl ?_
    refine w_aload rfl rfl ?_
    refine w_getR 0 0 rfl rfl rfl rfl p_a0 ?_
    refine w_iload rfl rfl ?_
    refine w_callA rfl (fun _ => rfl) rfl (cA_mono H fun v2 h1 H => ?_)
    refine w_callU rfl (fun _ => rfl) rfl (cU_mono H fun h3 H => ?_)
    have o4 := H.1
    replace H := H.2
    refine w_iinc rfl rfl rfl o4 ?_
    refine w_goto rfl ?_
    exact H
set_option maxHeartbeats 4000000 in
set_option maxRecDepth 100000 in
theorem r_Search_find_55 {d : Nat} {Q : cm_Q} {h : cm_H} {a0 : Nat} {x1 : Int} (p_a0 : 0 < a0) (H : ((216 < x1 → (((ch_I h a0 5) = 0 ∨ (ch_I h a0 5) = 1) ∧ Q (some (vI (ch_I h a0 5))) h)) ∧ (x1 ≤ 216 → ((¬ (ch_I h a0 5) = 0 → (((ch_I h a0 5) = 0 ∨ (ch_I h a0 5) = 1) ∧ Q (some (vI (ch_I h a0 5))) h)) ∧ ((ch_I h a0 5) = 0 → ((60 ≤ (ch_I h a0 6) → (((ch_I h a0 5) = 0 ∨ (ch_I h a0 5) = 1) ∧ Q (some (vI (ch_I h a0 5))) h)) ∧ ((ch_I h a0 6) < 60 → (cI d m_Works_divides [vI (ch_I h a0 3), vI x1] h fun v2 h1 => ((v2 = 0 → (cm_i (x1 + 1) ∧ cw d cd_Search_find Q 55 [some (vR 6 a0), some (vI (x1 + 1))] [] h1)) ∧ (¬ v2 = 0 → (0 < ((ch_R h1 a0 2)) ∧ ((¬ (ch_I h1 (ch_R h1 a0 2) 0) = 3 → (cI d m_Search_tryPairs [vR 6 a0, vI 0, vI x1, vI 0] h1 fun v6 h5 => (v6 = 0 ∨ v6 = 1) ∧ (∀ h8 : cm_H, h8 = ch_u h5 a0 5 v6 → (cm_i (x1 + 1) ∧ cw d cd_Search_find Q 55 [some (vR 6 a0), some (vI (x1 + 1))] [] h8)))) ∧ ((ch_I h1 (ch_R h1 a0 2) 0) = 3 → (cI d m_Search_tryTriples [vR 6 a0, vI x1] h1 fun v11 h10 => (v11 = 0 ∨ v11 = 1) ∧ (∀ h13 : cm_H, h13 = ch_u h10 a0 5 v11 → (cm_i (x1 + 1) ∧ cw d cd_Search_find Q 55 [some (vR 6 a0), some (vI (x1 + 1))] [] h13)))))))))))))))) : cw d cd_Search_find Q 55 [some (vR 6 a0), some (vI x1)] [] h := by
  refine w_iload rfl rfl ?_
  refine w_iconst rfl ⟨by decide, by decide⟩ ?_
  refine w_icmp rfl (And.intro (fun hc => ?_) (fun hc => ?_))
  · replace H := H.1 hc
    refine w_aload rfl rfl ?_
    refine w_getI 5 rfl rfl rfl p_a0 ?_
    exact w_zreturn rfl H.1 H.2
  · replace H := H.2 hc
    refine w_aload rfl rfl ?_
    refine w_getI 5 rfl rfl rfl p_a0 ?_
    refine w_if rfl (And.intro (fun hc => ?_) (fun hc => ?_))
    · replace H := H.1 hc
      refine w_aload rfl rfl ?_
      refine w_getI 5 rfl rfl rfl p_a0 ?_
      exact w_zreturn rfl H.1 H.2
    · replace H := H.2 hc
      refine w_aload rfl rfl ?_
      refine w_getI 6 rfl rfl rfl p_a0 ?_
      refine w_iconst rfl ⟨by decide, by decide⟩ ?_
      refine w_icmp rfl (And.intro (fun hc => ?_) (fun hc => ?_))
      · replace H := H.1 hc
        refine w_aload rfl rfl ?_
        refine w_getI 5 rfl rfl rfl p_a0 ?_
        exact w_zreturn rfl H.1 H.2
      · replace H := H.2 hc
        refine w_aload rfl rfl ?_
        refine w_getI 3 rfl rfl rfl p_a0 ?_
        refine w_iload rfl rfl ?_
        refine w_callI rfl (fun _ => rfl) rfl (cI_mono H fun v2 h1 H => ?_)
        refine w_if rfl (And.intro (fun hc => ?_) (fun hc => ?_))
        · replace H := H.1 hc
          have o3 := H.1
          replace H := H.2
          refine w_iinc rfl rfl rfl o3 ?_
          refine w_goto rfl ?_
          exact H
        · replace H := H.2 hc
          refine w_aload rfl rfl ?_
          refine w_aload rfl rfl ?_
          refine w_getR 2 9 rfl rfl rfl rfl p_a0 ?_
          have o4 := H.1
          replace H := H.2
          refine w_getI 0 rfl rfl rfl o4 ?_
          refine w_iconst rfl ⟨by decide, by decide⟩ ?_
          refine w_icmp rfl (And.intro (fun hc => ?_) (fun hc => ?_))
          · replace H := H.1 hc
            refine w_aload rfl rfl ?_
            refine w_iconst rfl ⟨by decide, by decide⟩ ?_
            refine w_iload rfl rfl ?_
            refine w_iconst rfl ⟨by decide, by decide⟩ ?_
            refine w_callI rfl (fun _ => rfl) rfl (cI_mono H fun v6 h5 H => ?_)
            have o7 := H.1
            replace H := H.2
            refine w_putZ 5 rfl rfl rfl o7 p_a0 (fun h8 eh8 => ?_)
            replace H := H h8 eh8
            have o9 := H.1
            replace H := H.2
            refine w_iinc rfl rfl rfl o9 ?_
            refine w_goto rfl ?_
            exact H
          · replace H := H.2 hc
            refine w_aload rfl rfl ?_
            refine w_iload rfl rfl ?_
            refine w_callI rfl (fun _ => rfl) rfl (cI_mono H fun v11 h10 H => ?_)
            refine w_goto rfl ?_
            have o12 := H.1
            replace H := H.2
            refine w_putZ 5 rfl rfl rfl o12 p_a0 (fun h13 eh13 => ?_)
            replace H := H h13 eh13
            have o14 := H.1
            replace H := H.2
            refine w_iinc rfl rfl rfl o14 ?_
            refine w_goto rfl ?_
            exact H
set_option maxHeartbeats 4000000 in
set_option maxRecDepth 100000 in
theorem r_Search_find {d : Nat} {Q : cm_Q} {h : cm_H} {a0 : Nat} (p_a0 : 0 < a0) (H : (((ch_I h a0 4) = 0 → (∀ h1 : cm_H, h1 = ch_u h a0 4 1 → (∀ h2 : cm_H, h2 = ch_u h1 a0 6 0 → (∀ h3 : cm_H, h3 = ch_u h2 a0 7 0 → cw d cd_Search_find Q 29 [some (vR 6 a0), some (vI 1)] [] h3)))) ∧ (¬ (ch_I h a0 4) = 0 → (((ch_I h a0 5) = 0 ∨ (ch_I h a0 5) = 1) ∧ Q (some (vI (ch_I h a0 5))) h)))) : cm_call (d + 1) m_Search_find [vR 6 a0] h Q := by
  refine cm_call_in (C := cd_Search_find) (ls := [some (vR 6 a0), none]) rfl rfl p_a0 rfl ?_
  refine w_aload rfl rfl ?_
  refine w_getI 4 rfl rfl rfl p_a0 ?_
  refine w_if rfl (And.intro (fun hc => ?_) (fun hc => ?_))
  · replace H := H.1 hc
    refine w_aload rfl rfl ?_
    refine w_iconst rfl ⟨by decide, by decide⟩ ?_
    refine w_putZ 4 rfl rfl rfl (by decide) p_a0 (fun h1 eh1 => ?_)
    replace H := H h1 eh1
    refine w_aload rfl rfl ?_
    refine w_iconst rfl ⟨by decide, by decide⟩ ?_
    refine w_putI 6 rfl rfl rfl p_a0 (fun h2 eh2 => ?_)
    replace H := H h2 eh2
    refine w_aload rfl rfl ?_
    refine w_iconst rfl ⟨by decide, by decide⟩ ?_
    refine w_putI 7 rfl rfl rfl p_a0 (fun h3 eh3 => ?_)
    replace H := H h3 eh3
    refine w_iconst rfl ⟨by decide, by decide⟩ ?_
    refine w_istore rfl rfl ?_
    exact H
  · replace H := H.2 hc
    refine w_aload rfl rfl ?_
    refine w_getI 5 rfl rfl rfl p_a0 ?_
    exact w_zreturn rfl H.1 H.2
set_option maxHeartbeats 4000000 in
set_option maxRecDepth 100000 in
theorem r_Search_addCandidates_2 {d : Nat} {Q : cm_Q} {h : cm_H} {a0 : Nat} {a1 : Nat} {x2 : Int} (p_a1 : 0 < a1) (p_a0 : 0 < a0) (H : (((ch_I h a1 3) ≤ x2 → Q none h) ∧ (x2 < (ch_I h a1 3) → ((83 ≤ (ch_I h a0 7) → Q none h) ∧ ((ch_I h a0 7) < 83 → (0 < ((ch_R h a0 8)) ∧ ((0:Int) ≤ (ch_I h a0 7) ∧ (ch_I h a0 7) < ch_L h (ch_R h a0 8)) ∧ (∀ h3 : cm_H, h3 = ch_u h (ch_R h a0 8) (ch_I h a0 7) (ch_I h a1 0) → (0 < ((ch_R h3 a0 9)) ∧ ((0:Int) ≤ (ch_I h3 a0 7) ∧ (ch_I h3 a0 7) < ch_L h3 (ch_R h3 a0 9)) ∧ (∀ h6 : cm_H, h6 = ch_u h3 (ch_R h3 a0 9) (ch_I h3 a0 7) x2 → (cm_i ((ch_I h6 a0 7) + 1) ∧ (∀ h8 : cm_H, h8 = ch_u h6 a0 7 ((ch_I h6 a0 7) + 1) → (cm_i (x2 + 1) ∧ cw d cd_Search_addCandidates Q 2 [some (vR 6 a0), some (vR 2 a1), some (vI (x2 + 1))] [] h8)))))))))))) : cw d cd_Search_addCandidates Q 2 [some (vR 6 a0), some (vR 2 a1), some (vI x2)] [] h := by
  refine w_iload rfl rfl ?_
  refine w_aload rfl rfl ?_
  refine w_getI 3 rfl rfl rfl p_a1 ?_
  refine w_icmp rfl (And.intro (fun hc => ?_) (fun hc => ?_))
  · replace H := H.1 hc
    exact w_return rfl H
  · replace H := H.2 hc
    refine w_aload rfl rfl ?_
    refine w_getI 7 rfl rfl rfl p_a0 ?_
    refine w_iconst rfl ⟨by decide, by decide⟩ ?_
    refine w_icmp rfl (And.intro (fun hc => ?_) (fun hc => ?_))
    · replace H := H.1 hc
      exact w_return rfl H
    · replace H := H.2 hc
      refine w_aload rfl rfl ?_
      refine w_getR 8 20 rfl rfl rfl rfl p_a0 ?_
      refine w_aload rfl rfl ?_
      refine w_getI 7 rfl rfl rfl p_a0 ?_
      refine w_aload rfl rfl ?_
      refine w_getI 0 rfl rfl rfl p_a1 ?_
      have o1 := H.1
      replace H := H.2
      have o2 := H.1
      replace H := H.2
      refine w_iastore rfl o1 o2 (fun h3 eh3 => ?_)
      replace H := H h3 eh3
      refine w_aload rfl rfl ?_
      refine w_getR 9 20 rfl rfl rfl rfl p_a0 ?_
      refine w_aload rfl rfl ?_
      refine w_getI 7 rfl rfl rfl p_a0 ?_
      refine w_iload rfl rfl ?_
      have o4 := H.1
      replace H := H.2
      have o5 := H.1
      replace H := H.2
      refine w_iastore rfl o4 o5 (fun h6 eh6 => ?_)
      replace H := H h6 eh6
      refine w_aload rfl rfl ?_
      refine w_dup rfl rfl ?_
      refine w_getI 7 rfl rfl rfl p_a0 ?_
      refine w_iconst rfl ⟨by decide, by decide⟩ ?_
      have o7 := H.1
      replace H := H.2
      refine w_iadd rfl o7 ?_
      refine w_putI 7 rfl rfl rfl p_a0 (fun h8 eh8 => ?_)
      replace H := H h8 eh8
      have o9 := H.1
      replace H := H.2
      refine w_iinc rfl rfl rfl o9 ?_
      refine w_goto rfl ?_
      exact H
set_option maxHeartbeats 4000000 in
set_option maxRecDepth 100000 in
theorem r_Search_addCandidates {d : Nat} {Q : cm_Q} {h : cm_H} {a0 : Nat} {a1 : Nat} (p_a0 : 0 < a0) (H : cw d cd_Search_addCandidates Q 2 [some (vR 6 a0), some (vR 2 a1), some (vI 0)] [] h) : cm_call (d + 1) m_Search_addCandidates [vR 6 a0, vR 2 a1] h Q := by
  refine cm_call_in (C := cd_Search_addCandidates) (ls := [some (vR 6 a0), some (vR 2 a1), none]) rfl rfl p_a0 rfl ?_
  refine w_iconst rfl ⟨by decide, by decide⟩ ?_
  refine w_istore rfl rfl ?_
  exact H
set_option maxHeartbeats 4000000 in
set_option maxRecDepth 100000 in
theorem r_Search_tryTriples_2 {d : Nat} {Q : cm_Q} {h : cm_H} {a0 : Nat} {x1 : Int} {x2 : Int} (p_a0 : 0 < a0) (H : (((ch_I h a0 7) ≤ x2 → Q (some (vI 0)) h) ∧ (x2 < (ch_I h a0 7) → ((60 ≤ (ch_I h a0 6) → Q (some (vI 0)) h) ∧ ((ch_I h a0 6) < 60 → (0 < ((ch_R h a0 8)) ∧ ((0:Int) ≤ x2 ∧ x2 < ch_L h (ch_R h a0 8)) ∧ (cI d m_Works_divides [vI (ch_I h (ch_R h a0 8) x2), vI x1] h fun v4 h3 => ((v4 = 0 → (cm_i (x2 + 1) ∧ cw d cd_Search_tryTriples Q 2 [some (vR 6 a0), some (vI x1), some (vI (x2 + 1))] [] h3)) ∧ (¬ v4 = 0 → (cU d m_Search_choose [vR 6 a0, vI 0, vI x2] h3 fun h6 => (cm_i (x2 + 1) ∧ (0 < ((ch_R h6 a0 8)) ∧ ((0:Int) ≤ x2 ∧ x2 < ch_L h6 (ch_R h6 a0 8)) ∧ (0 < (ch_I h6 (ch_R h6 a0 8) x2) ∧ (cI d m_Search_tryPairs [vR 6 a0, vI (x2 + 1), vI (Int.tdiv x1 (ch_I h6 (ch_R h6 a0 8) x2)), vI 1] h6 fun v12 h11 => ((v12 = 0 → cw d cd_Search_tryTriples Q 2 [some (vR 6 a0), some (vI x1), some (vI (x2 + 1))] [] h11) ∧ (¬ v12 = 0 → Q (some (vI 1)) h11)))))))))))))))) : cw d cd_Search_tryTriples Q 2 [some (vR 6 a0), some (vI x1), some (vI x2)] [] h := by
  refine w_iload rfl rfl ?_
  refine w_aload rfl rfl ?_
  refine w_getI 7 rfl rfl rfl p_a0 ?_
  refine w_icmp rfl (And.intro (fun hc => ?_) (fun hc => ?_))
  · replace H := H.1 hc
    refine w_iconst rfl ⟨by decide, by decide⟩ ?_
    exact w_zreturn rfl (by decide) H
  · replace H := H.2 hc
    refine w_aload rfl rfl ?_
    refine w_getI 6 rfl rfl rfl p_a0 ?_
    refine w_iconst rfl ⟨by decide, by decide⟩ ?_
    refine w_icmp rfl (And.intro (fun hc => ?_) (fun hc => ?_))
    · replace H := H.1 hc
      refine w_iconst rfl ⟨by decide, by decide⟩ ?_
      exact w_zreturn rfl (by decide) H
    · replace H := H.2 hc
      refine w_aload rfl rfl ?_
      refine w_getR 8 20 rfl rfl rfl rfl p_a0 ?_
      refine w_iload rfl rfl ?_
      have o1 := H.1
      replace H := H.2
      have o2 := H.1
      replace H := H.2
      refine w_iaload rfl o1 o2 ?_
      refine w_iload rfl rfl ?_
      refine w_callI rfl (fun _ => rfl) rfl (cI_mono H fun v4 h3 H => ?_)
      refine w_if rfl (And.intro (fun hc => ?_) (fun hc => ?_))
      · replace H := H.1 hc
        have o5 := H.1
        replace H := H.2
        refine w_iinc rfl rfl rfl o5 ?_
        refine w_goto rfl ?_
        exact H
      · replace H := H.2 hc
        refine w_aload rfl rfl ?_
        refine w_iconst rfl ⟨by decide, by decide⟩ ?_
        refine w_iload rfl rfl ?_
        refine w_callU rfl (fun _ => rfl) rfl (cU_mono H fun h6 H => ?_)
        refine w_aload rfl rfl ?_
        refine w_iload rfl rfl ?_
        refine w_iconst rfl ⟨by decide, by decide⟩ ?_
        have o7 := H.1
        replace H := H.2
        refine w_iadd rfl o7 ?_
        refine w_iload rfl rfl ?_
        refine w_aload rfl rfl ?_
        refine w_getR 8 20 rfl rfl rfl rfl p_a0 ?_
        refine w_iload rfl rfl ?_
        have o8 := H.1
        replace H := H.2
        have o9 := H.1
        replace H := H.2
        refine w_iaload rfl o8 o9 ?_
        have o10 := H.1
        replace H := H.2
        refine w_idiv rfl o10 ?_
        refine w_iconst rfl ⟨by decide, by decide⟩ ?_
        refine w_callI rfl (fun _ => rfl) rfl (cI_mono H fun v12 h11 H => ?_)
        refine w_if rfl (And.intro (fun hc => ?_) (fun hc => ?_))
        · replace H := H.1 hc
          refine w_iinc rfl rfl rfl o7 ?_
          refine w_goto rfl ?_
          exact H
        · replace H := H.2 hc
          refine w_iconst rfl ⟨by decide, by decide⟩ ?_
          exact w_zreturn rfl (by decide) H
set_option maxHeartbeats 4000000 in
set_option maxRecDepth 100000 in
theorem r_Search_tryTriples {d : Nat} {Q : cm_Q} {h : cm_H} {a0 : Nat} {x1 : Int} (p_a0 : 0 < a0) (H : cw d cd_Search_tryTriples Q 2 [some (vR 6 a0), some (vI x1), some (vI 0)] [] h) : cm_call (d + 1) m_Search_tryTriples [vR 6 a0, vI x1] h Q := by
  refine cm_call_in (C := cd_Search_tryTriples) (ls := [some (vR 6 a0), some (vI x1), none]) rfl rfl p_a0 rfl ?_
  refine w_iconst rfl ⟨by decide, by decide⟩ ?_
  refine w_istore rfl rfl ?_
  exact H
set_option maxHeartbeats 4000000 in
set_option maxRecDepth 100000 in
theorem r_Search_tryPairs_3 {d : Nat} {Q : cm_Q} {h : cm_H} {a0 : Nat} {z1 : Option cm_V} {x2 : Int} {x3 : Int} {x4 : Int} {z5 : Option cm_V} {z6 : Option cm_V} (p_a0 : 0 < a0) (H : (((ch_I h a0 7) ≤ x4 → Q (some (vI 0)) h) ∧ (x4 < (ch_I h a0 7) → (0 < ((ch_R h a0 8)) ∧ ((0:Int) ≤ x4 ∧ x4 < ch_L h (ch_R h a0 8)) ∧ (cI d m_Works_divides [vI (ch_I h (ch_R h a0 8) x4), vI x2] h fun v4 h3 => ((¬ v4 = 0 → (0 < ((ch_R h3 a0 8)) ∧ ((0:Int) ≤ x4 ∧ x4 < ch_L h3 (ch_R h3 a0 8)) ∧ (0 < (ch_I h3 (ch_R h3 a0 8) x4) ∧ (cU d m_Search_choose [vR 6 a0, vI x3, vI x4] h3 fun h8 => (cm_i (x4 + 1) ∧ cw d cd_Search_tryPairs Q 53 [some (vR 6 a0), z1, some (vI x2), some (vI x3), some (vI x4), some (vI (Int.tdiv x2 (ch_I h3 (ch_R h3 a0 8) x4))), some (vI (x4 + 1))] [] h8))))) ∧ (v4 = 0 → (cm_i (x4 + 1) ∧ cw d cd_Search_tryPairs Q 3 [some (vR 6 a0), z1, some (vI x2), some (vI x3), some (vI (x4 + 1)), z5, z6] [] h3)))))))) : cw d cd_Search_tryPairs Q 3 [some (vR 6 a0), z1, some (vI x2), some (vI x3), some (vI x4), z5, z6] [] h := by
  refine w_iload rfl rfl ?_
  refine w_aload rfl rfl ?_
  refine w_getI 7 rfl rfl rfl p_a0 ?_
  refine w_icmp rfl (And.intro (fun hc => ?_) (fun hc => ?_))
  · replace H := H.1 hc
    refine w_iconst rfl ⟨by decide, by decide⟩ ?_
    exact w_zreturn rfl (by decide) H
  · replace H := H.2 hc
    refine w_aload rfl rfl ?_
    refine w_getR 8 20 rfl rfl rfl rfl p_a0 ?_
    refine w_iload rfl rfl ?_
    have o1 := H.1
    replace H := H.2
    have o2 := H.1
    replace H := H.2
    refine w_iaload rfl o1 o2 ?_
    refine w_iload rfl rfl ?_
    refine w_callI rfl (fun _ => rfl) rfl (cI_mono H fun v4 h3 H => ?_)
    refine w_if rfl (And.intro (fun hc => ?_) (fun hc => ?_))
    · replace H := H.1 hc
      refine w_iload rfl rfl ?_
      refine w_aload rfl rfl ?_
      refine w_getR 8 20 rfl rfl rfl rfl p_a0 ?_
      refine w_iload rfl rfl ?_
      have o5 := H.1
      replace H := H.2
      have o6 := H.1
      replace H := H.2
      refine w_iaload rfl o5 o6 ?_
      have o7 := H.1
      replace H := H.2
      refine w_idiv rfl o7 ?_
      refine w_istore rfl rfl ?_
      refine w_aload rfl rfl ?_
      refine w_iload rfl rfl ?_
      refine w_iload rfl rfl ?_
      refine w_callU rfl (fun _ => rfl) rfl (cU_mono H fun h8 H => ?_)
      refine w_iload rfl rfl ?_
      refine w_iconst rfl ⟨by decide, by decide⟩ ?_
      have o9 := H.1
      replace H := H.2
      refine w_iadd rfl o9 ?_
      refine w_istore rfl rfl ?_
      exact H
    · replace H := H.2 hc
      refine w_goto rfl ?_
      have o10 := H.1
      replace H := H.2
      refine w_iinc rfl rfl rfl o10 ?_
      refine w_goto rfl ?_
      exact H
set_option maxHeartbeats 4000000 in
set_option maxRecDepth 100000 in
theorem r_Search_tryPairs_53 {d : Nat} {Q : cm_Q} {h : cm_H} {a0 : Nat} {z1 : Option cm_V} {x2 : Int} {x3 : Int} {x4 : Int} {x5 : Int} {x6 : Int} (p_a0 : 0 < a0) (H : (((ch_I h a0 7) ≤ x6 → (cm_i (x4 + 1) ∧ cw d cd_Search_tryPairs Q 3 [some (vR 6 a0), z1, some (vI x2), some (vI x3), some (vI (x4 + 1)), some (vI x5), some (vI x6)] [] h)) ∧ (x6 < (ch_I h a0 7) → (0 < ((ch_R h a0 8)) ∧ ((0:Int) ≤ x6 ∧ x6 < ch_L h (ch_R h a0 8)) ∧ (((ch_I h (ch_R h a0 8) x6) = x5 → ((¬ (ch_I h a0 6) = 60 → (cm_i ((ch_I h a0 6) + 1) ∧ (∀ h5 : cm_H, h5 = ch_u h a0 6 ((ch_I h a0 6) + 1) → (cm_i (x3 + 1) ∧ (cU d m_Search_choose [vR 6 a0, vI (x3 + 1), vI x6] h5 fun h7 => (cI d m_Search_isSpanning [vR 6 a0] h7 fun v9 h8 => ((v9 = 0 → (cm_i (x6 + 1) ∧ cw d cd_Search_tryPairs Q 53 [some (vR 6 a0), z1, some (vI x2), some (vI x3), some (vI x4), some (vI x5), some (vI (x6 + 1))] [] h8)) ∧ (¬ v9 = 0 → Q (some (vI 1)) h8)))))))) ∧ ((ch_I h a0 6) = 60 → Q (some (vI 0)) h))) ∧ (¬ (ch_I h (ch_R h a0 8) x6) = x5 → (cm_i (x6 + 1) ∧ cw d cd_Search_tryPairs Q 53 [some (vR 6 a0), z1, some (vI x2), some (vI x3), some (vI x4), some (vI x5), some (vI (x6 + 1))] [] h))))))) : cw d cd_Search_tryPairs Q 53 [some (vR 6 a0), z1, some (vI x2), some (vI x3), some (vI x4), some (vI x5), some (vI x6)] [] h := by
  refine w_iload rfl rfl ?_
  refine w_aload rfl rfl ?_
  refine w_getI 7 rfl rfl rfl p_a0 ?_
  refine w_icmp rfl (And.intro (fun hc => ?_) (fun hc => ?_))
  · replace H := H.1 hc
    have o1 := H.1
    replace H := H.2
    refine w_iinc rfl rfl rfl o1 ?_
    refine w_goto rfl ?_
    exact H
  · replace H := H.2 hc
    refine w_aload rfl rfl ?_
    refine w_getR 8 20 rfl rfl rfl rfl p_a0 ?_
    refine w_iload rfl rfl ?_
    have o2 := H.1
    replace H := H.2
    have o3 := H.1
    replace H := H.2
    refine w_iaload rfl o2 o3 ?_
    refine w_iload rfl rfl ?_
    refine w_icmp rfl (And.intro (fun hc => ?_) (fun hc => ?_))
    · replace H := H.1 hc
      refine w_aload rfl rfl ?_
      refine w_getI 6 rfl rfl rfl p_a0 ?_
      refine w_iconst rfl ⟨by decide, by decide⟩ ?_
      refine w_icmp rfl (And.intro (fun hc => ?_) (fun hc => ?_))
      · replace H := H.1 hc
        refine w_aload rfl rfl ?_
        refine w_dup rfl rfl ?_
        refine w_getI 6 rfl rfl rfl p_a0 ?_
        refine w_iconst rfl ⟨by decide, by decide⟩ ?_
        have o4 := H.1
        replace H := H.2
        refine w_iadd rfl o4 ?_
        refine w_putI 6 rfl rfl rfl p_a0 (fun h5 eh5 => ?_)
        replace H := H h5 eh5
        refine w_aload rfl rfl ?_
        refine w_iload rfl rfl ?_
        refine w_iconst rfl ⟨by decide, by decide⟩ ?_
        have o6 := H.1
        replace H := H.2
        refine w_iadd rfl o6 ?_
        refine w_iload rfl rfl ?_
        refine w_callU rfl (fun _ => rfl) rfl (cU_mono H fun h7 H => ?_)
        refine w_aload rfl rfl ?_
        refine w_callI rfl (fun _ => rfl) rfl (cI_mono H fun v9 h8 H => ?_)
        refine w_if rfl (And.intro (fun hc => ?_) (fun hc => ?_))
        · replace H := H.1 hc
          have o10 := H.1
          replace H := H.2
          refine w_iinc rfl rfl rfl o10 ?_
          refine w_goto rfl ?_
          exact H
        · replace H := H.2 hc
          refine w_iconst rfl ⟨by decide, by decide⟩ ?_
          exact w_zreturn rfl (by decide) H
      · replace H := H.2 hc
        refine w_iconst rfl ⟨by decide, by decide⟩ ?_
        exact w_zreturn rfl (by decide) H
    · replace H := H.2 hc
      refine w_goto rfl ?_
      have o11 := H.1
      replace H := H.2
      refine w_iinc rfl rfl rfl o11 ?_
      refine w_goto rfl ?_
      exact H
set_option maxHeartbeats 4000000 in
set_option maxRecDepth 100000 in
theorem r_Search_tryPairs {d : Nat} {Q : cm_Q} {h : cm_H} {a0 : Nat} {x1 : Int} {x2 : Int} {x3 : Int} (p_a0 : 0 < a0) (H : cw d cd_Search_tryPairs Q 3 [some (vR 6 a0), some (vI x1), some (vI x2), some (vI x3), some (vI x1), none, none] [] h) : cm_call (d + 1) m_Search_tryPairs [vR 6 a0, vI x1, vI x2, vI x3] h Q := by
  refine cm_call_in (C := cd_Search_tryPairs) (ls := [some (vR 6 a0), some (vI x1), some (vI x2), some (vI x3), none, none, none]) rfl rfl p_a0 rfl ?_
  refine w_iload rfl rfl ?_
  refine w_istore rfl rfl ?_
  exact H
set_option maxHeartbeats 4000000 in
set_option maxRecDepth 100000 in
theorem r_Search_choose {d : Nat} {Q : cm_Q} {h : cm_H} {a0 : Nat} {x1 : Int} {x2 : Int} (p_a0 : 0 < a0) (H : (0 < ((ch_R h a0 8)) ∧ ((0:Int) ≤ x2 ∧ x2 < ch_L h (ch_R h a0 8)) ∧ (0 < ((ch_R h a0 12)) ∧ ((0:Int) ≤ x1 ∧ x1 < ch_L h (ch_R h a0 12)) ∧ (∀ h5 : cm_H, h5 = ch_u h (ch_R h a0 12) x1 (ch_I h (ch_R h a0 8) x2) → (0 < ((ch_R h5 a0 9)) ∧ ((0:Int) ≤ x2 ∧ x2 < ch_L h5 (ch_R h5 a0 9)) ∧ (0 < ((ch_R h5 a0 13)) ∧ ((0:Int) ≤ x1 ∧ x1 < ch_L h5 (ch_R h5 a0 13)) ∧ (∀ h10 : cm_H, h10 = ch_u h5 (ch_R h5 a0 13) x1 (ch_I h5 (ch_R h5 a0 9) x2) → (0 < ((ch_R h10 a0 0)) ∧ (0 < ((ch_R h10 a0 12)) ∧ ((0:Int) ≤ x1 ∧ x1 < ch_L h10 (ch_R h10 a0 12)) ∧ (0 < ((ch_R h10 (ch_R h10 a0 0) 5)) ∧ ((0:Int) ≤ (ch_I h10 (ch_R h10 a0 12) x1) ∧ (ch_I h10 (ch_R h10 a0 12) x1) < ch_L h10 (ch_R h10 (ch_R h10 a0 0) 5)) ∧ (0 < ((ch_R h10 a0 11)) ∧ ((0:Int) ≤ x1 ∧ x1 < ch_L h10 (ch_R h10 a0 11)) ∧ (0 < ((ch_R h10 (ch_R h10 (ch_R h10 a0 0) 5) (ch_I h10 (ch_R h10 a0 12) x1))) ∧ (0 < ((ch_R h10 a0 13)) ∧ ((0:Int) ≤ x1 ∧ x1 < ch_L h10 (ch_R h10 a0 13)) ∧ (cm_i ((ch_I h10 (ch_R h10 (ch_R h10 (ch_R h10 a0 0) 5) (ch_I h10 (ch_R h10 a0 12) x1)) 2) * (ch_I h10 (ch_R h10 a0 13) x1)) ∧ (cU d m_Piece_put [vR 5 (ch_R h10 (ch_R h10 a0 11) x1), vR 20 (ch_R h10 (ch_R h10 (ch_R h10 (ch_R h10 a0 0) 5) (ch_I h10 (ch_R h10 a0 12) x1)) 4), vI ((ch_I h10 (ch_R h10 (ch_R h10 (ch_R h10 a0 0) 5) (ch_I h10 (ch_R h10 a0 12) x1)) 2) * (ch_I h10 (ch_R h10 a0 13) x1)), vI (ch_I h10 (ch_R h10 (ch_R h10 (ch_R h10 a0 0) 5) (ch_I h10 (ch_R h10 a0 12) x1)) 0)] h10 fun h22 => Q none h22))))))))))))))) : cm_call (d + 1) m_Search_choose [vR 6 a0, vI x1, vI x2] h Q := by
  refine cm_call_in (C := cd_Search_choose) (ls := [some (vR 6 a0), some (vI x1), some (vI x2), none]) rfl rfl p_a0 rfl ?_
  refine w_aload rfl rfl ?_
  refine w_getR 12 20 rfl rfl rfl rfl p_a0 ?_
  refine w_iload rfl rfl ?_
  refine w_aload rfl rfl ?_
  refine w_getR 8 20 rfl rfl rfl rfl p_a0 ?_
  refine w_iload rfl rfl ?_
  have o1 := H.1
  replace H := H.2
  have o2 := H.1
  replace H := H.2
  refine w_iaload rfl o1 o2 ?_
  have o3 := H.1
  replace H := H.2
  have o4 := H.1
  replace H := H.2
  refine w_iastore rfl o3 o4 (fun h5 eh5 => ?_)
  replace H := H h5 eh5
  refine w_aload rfl rfl ?_
  refine w_getR 13 20 rfl rfl rfl rfl p_a0 ?_
  refine w_iload rfl rfl ?_
  refine w_aload rfl rfl ?_
  refine w_getR 9 20 rfl rfl rfl rfl p_a0 ?_
  refine w_iload rfl rfl ?_
  have o6 := H.1
  replace H := H.2
  have o7 := H.1
  replace H := H.2
  refine w_iaload rfl o6 o7 ?_
  have o8 := H.1
  replace H := H.2
  have o9 := H.1
  replace H := H.2
  refine w_iastore rfl o8 o9 (fun h10 eh10 => ?_)
  replace H := H h10 eh10
  refine w_aload rfl rfl ?_
  refine w_getR 0 0 rfl rfl rfl rfl p_a0 ?_
  have o11 := H.1
  replace H := H.2
  refine w_getR 5 24 rfl rfl rfl rfl o11 ?_
  refine w_aload rfl rfl ?_
  refine w_getR 12 20 rfl rfl rfl rfl p_a0 ?_
  refine w_iload rfl rfl ?_
  have o12 := H.1
  replace H := H.2
  have o13 := H.1
  replace H := H.2
  refine w_iaload rfl o12 o13 ?_
  have o14 := H.1
  replace H := H.2
  have o15 := H.1
  replace H := H.2
  refine w_aaload rfl rfl rfl o14 o15 ?_
  refine w_astore rfl rfl ?_
  refine w_aload rfl rfl ?_
  refine w_getR 11 25 rfl rfl rfl rfl p_a0 ?_
  refine w_iload rfl rfl ?_
  have o16 := H.1
  replace H := H.2
  have o17 := H.1
  replace H := H.2
  refine w_aaload rfl rfl rfl o16 o17 ?_
  refine w_aload rfl rfl ?_
  have o18 := H.1
  replace H := H.2
  refine w_getR 4 20 rfl rfl rfl rfl o18 ?_
  refine w_aload rfl rfl ?_
  refine w_getI 2 rfl rfl rfl o18 ?_
  refine w_aload rfl rfl ?_
  refine w_getR 13 20 rfl rfl rfl rfl p_a0 ?_
  refine w_iload rfl rfl ?_
  have o19 := H.1
  replace H := H.2
  have o20 := H.1
  replace H := H.2
  refine w_iaload rfl o19 o20 ?_
  have o21 := H.1
  replace H := H.2
  refine w_imul rfl o21 ?_
  refine w_aload rfl rfl ?_
  refine w_getI 0 rfl rfl rfl o18 ?_
  refine w_callU rfl (fun _ => rfl) rfl (cU_mono H fun h22 H => ?_)
  exact w_return rfl H
set_option maxHeartbeats 4000000 in
set_option maxRecDepth 100000 in
theorem r_Search_isSpanning_12 {d : Nat} {Q : cm_Q} {h : cm_H} {a0 : Nat} {x1 : Int} {x2 : Int} {z3 : Option cm_V} {z4 : Option cm_V} {z5 : Option cm_V} {z6 : Option cm_V} (p_a0 : 0 < a0) (H : (0 < ((ch_R h a0 2)) ∧ (((ch_I h (ch_R h a0 2) 0) ≤ x2 → (cI d m_Search_isCornerMissing [vR 6 a0] h fun v3 h2 => ((v3 = 0 → (0 < ((ch_R h2 a0 2)) ∧ (cm_i (x1 + 1) ∧ (0 < ((ch_R h2 (ch_R h2 a0 2) 2)) ∧ ((0:Int) ≤ (x1 + 1) ∧ (x1 + 1) < ch_L h2 (ch_R h2 (ch_R h2 a0 2) 2)) ∧ cw d cd_Search_isSpanning Q 67 [some (vR 6 a0), some (vI x1), some (vI (ch_I h2 (ch_R h2 (ch_R h2 a0 2) 2) (x1 + 1))), some (vI 0), some (vI 0), z5, z6] [] h2)))) ∧ (¬ v3 = 0 → Q (some (vI 0)) h2)))) ∧ (x2 < (ch_I h (ch_R h a0 2) 0) → (0 < ((ch_R h a0 11)) ∧ ((0:Int) ≤ x2 ∧ x2 < ch_L h (ch_R h a0 11)) ∧ (0 < ((ch_R h (ch_R h a0 11) x2)) ∧ (cm_i (x1 + (ch_I h (ch_R h (ch_R h a0 11) x2) 2)) ∧ (cm_i (x2 + 1) ∧ cw d cd_Search_isSpanning Q 12 [some (vR 6 a0), some (vI (x1 + (ch_I h (ch_R h (ch_R h a0 11) x2) 2))), some (vI (x2 + 1)), z3, z4, z5, z6] [] h)))))))) : cw d cd_Search_isSpanning Q 12 [some (vR 6 a0), some (vI x1), some (vI x2), z3, z4, z5, z6] [] h := by
  refine w_iload rfl rfl ?_
  refine w_aload rfl rfl ?_
  refine w_getR 2 9 rfl rfl rfl rfl p_a0 ?_
  have o1 := H.1
  replace H := H.2
  refine w_getI 0 rfl rfl rfl o1 ?_
  refine w_icmp rfl (And.intro (fun hc => ?_) (fun hc => ?_))
  · replace H := H.1 hc
    refine w_aload rfl rfl ?_
    refine w_callI rfl (fun _ => rfl) rfl (cI_mono H fun v3 h2 H => ?_)
    refine w_if rfl (And.intro (fun hc => ?_) (fun hc => ?_))
    · replace H := H.1 hc
      refine w_aload rfl rfl ?_
      refine w_getR 2 9 rfl rfl rfl rfl p_a0 ?_
      have o4 := H.1
      replace H := H.2
      refine w_getR 2 20 rfl rfl rfl rfl o4 ?_
      refine w_iload rfl rfl ?_
      refine w_iconst rfl ⟨by decide, by decide⟩ ?_
      have o5 := H.1
      replace H := H.2
      refine w_iadd rfl o5 ?_
      have o6 := H.1
      replace H := H.2
      have o7 := H.1
      replace H := H.2
      refine w_iaload rfl o6 o7 ?_
      refine w_istore rfl rfl ?_
      refine w_iconst rfl ⟨by decide, by decide⟩ ?_
      refine w_istore rfl rfl ?_
      refine w_iconst rfl ⟨by decide, by decide⟩ ?_
      refine w_istore rfl rfl ?_
      exact H
    · replace H := H.2 hc
      refine w_iconst rfl ⟨by decide, by decide⟩ ?_
      exact w_zreturn rfl (by decide) H
  · replace H := H.2 hc
    refine w_iload rfl rfl ?_
    refine w_aload rfl rfl ?_
    refine w_getR 11 25 rfl rfl rfl rfl p_a0 ?_
    refine w_iload rfl rfl ?_
    have o8 := H.1
    replace H := H.2
    have o9 := H.1
    replace H := H.2
    refine w_aaload rfl rfl rfl o8 o9 ?_
    have o10 := H.1
    replace H := H.2
    refine w_getI 2 rfl rfl rfl o10 ?_
    have o11 := H.1
    replace H := H.2
    refine w_iadd rfl o11 ?_
    refine w_istore rfl rfl ?_
    have o12 := H.1
    replace H := H.2
    refine w_iinc rfl rfl rfl o12 ?_
    refine w_goto rfl ?_
    exact H
set_option maxHeartbeats 4000000 in
set_option maxRecDepth 100000 in
theorem r_Search_isSpanning_67 {d : Nat} {Q : cm_Q} {h : cm_H} {a0 : Nat} {x1 : Int} {x2 : Int} {x3 : Int} {x4 : Int} {z5 : Option cm_V} {z6 : Option cm_V} (p_a0 : 0 < a0) (H : (0 < ((ch_R h a0 2)) ∧ (((ch_I h (ch_R h a0 2) 0) ≤ x4 → ((¬ (ch_I h (ch_R h a0 2) 0) = 2 → (cU d m_Echelon_begin [vR 1 (ch_R h a0 1), vI x2, vI 0] h fun h2 => cw d cd_Search_isSpanning Q 137 [some (vR 6 a0), some (vI x1), some (vI x2), some (vI x3), some (vI 0), z5, z6] [] h2)) ∧ ((ch_I h (ch_R h a0 2) 0) = 2 → (cU d m_Echelon_begin [vR 1 (ch_R h a0 1), vI x2, vI 1] h fun h3 => cw d cd_Search_isSpanning Q 137 [some (vR 6 a0), some (vI x1), some (vI x2), some (vI x3), some (vI 0), z5, z6] [] h3)))) ∧ (x4 < (ch_I h (ch_R h a0 2) 0) → (0 < ((ch_R h a0 11)) ∧ ((0:Int) ≤ x4 ∧ x4 < ch_L h (ch_R h a0 11)) ∧ (0 < ((ch_R h (ch_R h a0 11) x4)) ∧ (cm_i (x1 - (ch_I h (ch_R h (ch_R h a0 11) x4) 2)) ∧ (cm_i ((x1 - (ch_I h (ch_R h (ch_R h a0 11) x4) 2)) + 1) ∧ (0 < ((ch_R h (ch_R h a0 2) 2)) ∧ ((0:Int) ≤ ((x1 - (ch_I h (ch_R h (ch_R h a0 11) x4) 2)) + 1) ∧ ((x1 - (ch_I h (ch_R h (ch_R h a0 11) x4) 2)) + 1) < ch_L h (ch_R h (ch_R h a0 2) 2)) ∧ (cm_i (x3 + (ch_I h (ch_R h (ch_R h a0 2) 2) ((x1 - (ch_I h (ch_R h (ch_R h a0 11) x4) 2)) + 1))) ∧ (cm_i (x4 + 1) ∧ cw d cd_Search_isSpanning Q 67 [some (vR 6 a0), some (vI x1), some (vI x2), some (vI (x3 + (ch_I h (ch_R h (ch_R h a0 2) 2) ((x1 - (ch_I h (ch_R h (ch_R h a0 11) x4) 2)) + 1)))), some (vI (x4 + 1)), z5, z6] [] h))))))))))) : cw d cd_Search_isSpanning Q 67 [some (vR 6 a0), some (vI x1), some (vI x2), some (vI x3), some (vI x4), z5, z6] [] h := by
  refine w_iload rfl rfl ?_
  refine w_aload rfl rfl ?_
  refine w_getR 2 9 rfl rfl rfl rfl p_a0 ?_
  have o1 := H.1
  replace H := H.2
  refine w_getI 0 rfl rfl rfl o1 ?_
  refine w_icmp rfl (And.intro (fun hc => ?_) (fun hc => ?_))
  · replace H := H.1 hc
    refine w_aload rfl rfl ?_
    refine w_getR 1 1 rfl rfl rfl rfl p_a0 ?_
    refine w_iload rfl rfl ?_
    refine w_aload rfl rfl ?_
    refine w_getR 2 9 rfl rfl rfl rfl p_a0 ?_
    refine w_getI 0 rfl rfl rfl o1 ?_
    refine w_iconst rfl ⟨by decide, by decide⟩ ?_
    refine w_icmp rfl (And.intro (fun hc => ?_) (fun hc => ?_))
    · replace H := H.1 hc
      refine w_iconst rfl ⟨by decide, by decide⟩ ?_
      refine w_callU rfl (fun _ => rfl) rfl (cU_mono H fun h2 H => ?_)
      refine w_iconst rfl ⟨by decide, by decide⟩ ?_
      refine w_istore rfl rfl ?_
      exact H
    · replace H := H.2 hc
      refine w_iconst rfl ⟨by decide, by decide⟩ ?_
      refine w_goto rfl ?_
      refine w_callU rfl (fun _ => rfl) rfl (cU_mono H fun h3 H => ?_)
      refine w_iconst rfl ⟨by decide, by decide⟩ ?_
      refine w_istore rfl rfl ?_
      exact H
  · replace H := H.2 hc
    refine w_iload rfl rfl ?_
    refine w_aload rfl rfl ?_
    refine w_getR 2 9 rfl rfl rfl rfl p_a0 ?_
    refine w_getR 2 20 rfl rfl rfl rfl o1 ?_
    refine w_iload rfl rfl ?_
    refine w_aload rfl rfl ?_
    refine w_getR 11 25 rfl rfl rfl rfl p_a0 ?_
    refine w_iload rfl rfl ?_
    have o4 := H.1
    replace H := H.2
    have o5 := H.1
    replace H := H.2
    refine w_aaload rfl rfl rfl o4 o5 ?_
    have o6 := H.1
    replace H := H.2
    refine w_getI 2 rfl rfl rfl o6 ?_
    have o7 := H.1
    replace H := H.2
    refine w_isub rfl o7 ?_
    refine w_iconst rfl ⟨by decide, by decide⟩ ?_
    have o8 := H.1
    replace H := H.2
    refine w_iadd rfl o8 ?_
    have o9 := H.1
    replace H := H.2
    have o10 := H.1
    replace H := H.2
    refine w_iaload rfl o9 o10 ?_
    have o11 := H.1
    replace H := H.2
    refine w_iadd rfl o11 ?_
    refine w_istore rfl rfl ?_
    have o12 := H.1
    replace H := H.2
    refine w_iinc rfl rfl rfl o12 ?_
    refine w_goto rfl ?_
    exact H
set_option maxHeartbeats 4000000 in
set_option maxRecDepth 100000 in
theorem r_Search_isSpanning_137 {d : Nat} {Q : cm_Q} {h : cm_H} {a0 : Nat} {x1 : Int} {x2 : Int} {x3 : Int} {x4 : Int} {z5 : Option cm_V} {z6 : Option cm_V} (p_a0 : 0 < a0) (H : (0 < ((ch_R h a0 2)) ∧ (((ch_I h (ch_R h a0 2) 0) ≤ x4 → (0 < ((ch_R h a0 1)) ∧ ((¬ (ch_I h (ch_R h a0 1) 1) = x2 → Q (some (vI 0)) h) ∧ ((ch_I h (ch_R h a0 1) 1) = x2 → Q (some (vI 1)) h)))) ∧ (x4 < (ch_I h (ch_R h a0 2) 0) → (0 < ((ch_R h a0 11)) ∧ ((0:Int) ≤ x4 ∧ x4 < ch_L h (ch_R h a0 11)) ∧ (0 < ((ch_R h (ch_R h a0 11) x4)) ∧ (cm_i (x1 - (ch_I h (ch_R h (ch_R h a0 11) x4) 2)) ∧ (cm_i ((x1 - (ch_I h (ch_R h (ch_R h a0 11) x4) 2)) + 1) ∧ (0 < ((ch_R h (ch_R h a0 2) 2)) ∧ ((0:Int) ≤ ((x1 - (ch_I h (ch_R h (ch_R h a0 11) x4) 2)) + 1) ∧ ((x1 - (ch_I h (ch_R h (ch_R h a0 11) x4) 2)) + 1) < ch_L h (ch_R h (ch_R h a0 2) 2)) ∧ cw d cd_Search_isSpanning Q 176 [some (vR 6 a0), some (vI x1), some (vI x2), some (vI x3), some (vI x4), some (vI (ch_I h (ch_R h (ch_R h a0 2) 2) ((x1 - (ch_I h (ch_R h (ch_R h a0 11) x4) 2)) + 1))), some (vI 0)] [] h))))))))) : cw d cd_Search_isSpanning Q 137 [some (vR 6 a0), some (vI x1), some (vI x2), some (vI x3), some (vI x4), z5, z6] [] h := by
  refine w_iload rfl rfl ?_
  refine w_aload rfl rfl ?_
  refine w_getR 2 9 rfl rfl rfl rfl p_a0 ?_
  have o1 := H.1
  replace H := H.2
  refine w_getI 0 rfl rfl rfl o1 ?_
  refine w_icmp rfl (And.intro (fun hc => ?_) (fun hc => ?_))
  · replace H := H.1 hc
    refine w_aload rfl rfl ?_
    refine w_getR 1 1 rfl rfl rfl rfl p_a0 ?_
    have o2 := H.1
    replace H := H.2
    refine w_getI 1 rfl rfl rfl o2 ?_
    refine w_iload rfl rfl ?_
    refine w_icmp rfl (And.intro (fun hc => ?_) (fun hc => ?_))
    · replace H := H.1 hc
      refine w_iconst rfl ⟨by decide, by decide⟩ ?_
      exact w_zreturn rfl (by decide) H
    · replace H := H.2 hc
      refine w_iconst rfl ⟨by decide, by decide⟩ ?_
      refine w_goto rfl ?_
      exact w_zreturn rfl (by decide) H
  · replace H := H.2 hc
    refine w_aload rfl rfl ?_
    refine w_getR 2 9 rfl rfl rfl rfl p_a0 ?_
    refine w_getR 2 20 rfl rfl rfl rfl o1 ?_
    refine w_iload rfl rfl ?_
    refine w_aload rfl rfl ?_
    refine w_getR 11 25 rfl rfl rfl rfl p_a0 ?_
    refine w_iload rfl rfl ?_
    have o3 := H.1
    replace H := H.2
    have o4 := H.1
    replace H := H.2
    refine w_aaload rfl rfl rfl o3 o4 ?_
    have o5 := H.1
    replace H := H.2
    refine w_getI 2 rfl rfl rfl o5 ?_
    have o6 := H.1
    replace H := H.2
    refine w_isub rfl o6 ?_
    refine w_iconst rfl ⟨by decide, by decide⟩ ?_
    have o7 := H.1
    replace H := H.2
    refine w_iadd rfl o7 ?_
    have o8 := H.1
    replace H := H.2
    have o9 := H.1
    replace H := H.2
    refine w_iaload rfl o8 o9 ?_
    refine w_istore rfl rfl ?_
    refine w_iconst rfl ⟨by decide, by decide⟩ ?_
    refine w_istore rfl rfl ?_
    exact H
set_option maxHeartbeats 4000000 in
set_option maxRecDepth 100000 in
theorem r_Search_isSpanning_176 {d : Nat} {Q : cm_Q} {h : cm_H} {a0 : Nat} {x1 : Int} {x2 : Int} {x3 : Int} {x4 : Int} {x5 : Int} {x6 : Int} (p_a0 : 0 < a0) (H : ((x5 ≤ x6 → (cm_i (x4 + 1) ∧ cw d cd_Search_isSpanning Q 137 [some (vR 6 a0), some (vI x1), some (vI x2), some (vI x3), some (vI (x4 + 1)), some (vI x5), some (vI x6)] [] h)) ∧ (x6 < x5 → (0 < ((ch_R h a0 1)) ∧ (cm_i ((ch_I h (ch_R h a0 1) 1) + x3) ∧ ((((ch_I h (ch_R h a0 1) 1) + x3) < x2 → (cm_i (x4 + 1) ∧ cw d cd_Search_isSpanning Q 137 [some (vR 6 a0), some (vI x1), some (vI x2), some (vI x3), some (vI (x4 + 1)), some (vI x5), some (vI x6)] [] h)) ∧ (x2 ≤ ((ch_I h (ch_R h a0 1) 1) + x3) → (0 < ((ch_R h a0 11)) ∧ ((0:Int) ≤ x4 ∧ x4 < ch_L h (ch_R h a0 11)) ∧ (cU d m_Search_putSpread [vR 6 a0, vR 5 (ch_R h (ch_R h a0 11) x4), vI x6] h fun h7 => (cU d m_Echelon_insert [vR 1 (ch_R h7 a0 1), vR 20 (ch_R h7 a0 10)] h7 fun h8 => (cm_i (x3 + (-1)) ∧ (cm_i (x6 + 1) ∧ cw d cd_Search_isSpanning Q 176 [some (vR 6 a0), some (vI x1), some (vI x2), some (vI (x3 + (-1))), some (vI x4), some (vI x5), some (vI (x6 + 1))] [] h8)))))))))))) : cw d cd_Search_isSpanning Q 176 [some (vR 6 a0), some (vI x1), some (vI x2), some (vI x3), some (vI x4), some (vI x5), some (vI x6)] [] h := by
  refine w_iload rfl rfl ?_
  refine w_iload rfl rfl ?_
  refine w_icmp rfl (And.intro (fun hc => ?_) (fun hc => ?_))
  · replace H := H.1 hc
    have o1 := H.1
    replace H := H.2
    refine w_iinc rfl rfl rfl o1 ?_
    refine w_goto rfl ?_
    exact H
  · replace H := H.2 hc
    refine w_aload rfl rfl ?_
    refine w_getR 1 1 rfl rfl rfl rfl p_a0 ?_
    have o2 := H.1
    replace H := H.2
    refine w_getI 1 rfl rfl rfl o2 ?_
    refine w_iload rfl rfl ?_
    have o3 := H.1
    replace H := H.2
    refine w_iadd rfl o3 ?_
    refine w_iload rfl rfl ?_
    refine w_icmp rfl (And.intro (fun hc => ?_) (fun hc => ?_))
    · replace H := H.1 hc
      have o4 := H.1
      replace H := H.2
      refine w_iinc rfl rfl rfl o4 ?_
      refine w_goto rfl ?_
      exact H
    · replace H := H.2 hc
      refine w_aload rfl rfl ?_
      refine w_aload rfl rfl ?_
      refine w_getR 11 25 rfl rfl rfl rfl p_a0 ?_
      refine w_iload rfl rfl ?_
      have o5 := H.1
      replace H := H.2
      have o6 := H.1
      replace H := H.2
      refine w_aaload rfl rfl rfl o5 o6 ?_
      refine w_iload rfl rfl ?_
      refine w_callU rfl (fun _ => rfl) rfl (cU_mono H fun h7 H => ?_)
      refine w_aload rfl rfl ?_
      refine w_getR 1 1 rfl rfl rfl rfl p_a0 ?_
      refine w_aload rfl rfl ?_
      refine w_getR 10 20 rfl rfl rfl rfl p_a0 ?_
      refine w_callU rfl (fun _ => rfl) rfl (cU_mono H fun h8 H => ?_)
      have o9 := H.1
      replace H := H.2
      refine w_iinc rfl rfl rfl o9 ?_
      have o10 := H.1
      replace H := H.2
      refine w_iinc rfl rfl rfl o10 ?_
      refine w_goto rfl ?_
      exact H
set_option maxHeartbeats 4000000 in
set_option maxRecDepth 100000 in
theorem r_Search_isSpanning {d : Nat} {Q : cm_Q} {h : cm_H} {a0 : Nat} (p_a0 : 0 < a0) (H : (0 < ((ch_R h a0 2)) ∧ (cm_i (1 - (ch_I h (ch_R h a0 2) 0)) ∧ cw d cd_Search_isSpanning Q 12 [some (vR 6 a0), some (vI (1 - (ch_I h (ch_R h a0 2) 0))), some (vI 0), none, none, none, none] [] h))) : cm_call (d + 1) m_Search_isSpanning [vR 6 a0] h Q := by
  refine cm_call_in (C := cd_Search_isSpanning) (ls := [some (vR 6 a0), none, none, none, none, none, none]) rfl rfl p_a0 rfl ?_
  refine w_iconst rfl ⟨by decide, by decide⟩ ?_
  refine w_aload rfl rfl ?_
  refine w_getR 2 9 rfl rfl rfl rfl p_a0 ?_
  have o1 := H.1
  replace H := H.2
  refine w_getI 0 rfl rfl rfl o1 ?_
  have o2 := H.1
  replace H := H.2
  refine w_isub rfl o2 ?_
  refine w_istore rfl rfl ?_
  refine w_iconst rfl ⟨by decide, by decide⟩ ?_
  refine w_istore rfl rfl ?_
  exact H
set_option maxHeartbeats 4000000 in
set_option maxRecDepth 100000 in
theorem r_Search_isCornerMissing_2 {d : Nat} {Q : cm_Q} {h : cm_H} {a0 : Nat} {x1 : Int} {z2 : Option cm_V} {z3 : Option cm_V} {z4 : Option cm_V} {z5 : Option cm_V} (p_a0 : 0 < a0) (H : (0 < ((ch_R h a0 2)) ∧ (((ch_I h (ch_R h a0 2) 0) ≤ x1 → Q (some (vI 0)) h) ∧ (x1 < (ch_I h (ch_R h a0 2) 0) → cw d cd_Search_isCornerMissing Q 17 [some (vR 6 a0), some (vI x1), some (vI 1), some (vI 0), z4, z5] [] h)))) : cw d cd_Search_isCornerMissing Q 2 [some (vR 6 a0), some (vI x1), z2, z3, z4, z5] [] h := by
  refine w_iload rfl rfl ?_
  refine w_aload rfl rfl ?_
  refine w_getR 2 9 rfl rfl rfl rfl p_a0 ?_
  have o1 := H.1
  replace H := H.2
  refine w_getI 0 rfl rfl rfl o1 ?_
  refine w_icmp rfl (And.intro (fun hc => ?_) (fun hc => ?_))
  · replace H := H.1 hc
    refine w_iconst rfl ⟨by decide, by decide⟩ ?_
    exact w_zreturn rfl (by decide) H
  · replace H := H.2 hc
    refine w_iconst rfl ⟨by decide, by decide⟩ ?_
    refine w_istore rfl rfl ?_
    refine w_iconst rfl ⟨by decide, by decide⟩ ?_
    refine w_istore rfl rfl ?_
    exact H
set_option maxHeartbeats 4000000 in
set_option maxRecDepth 100000 in
theorem r_Search_isCornerMissing_17 {d : Nat} {Q : cm_Q} {h : cm_H} {a0 : Nat} {x1 : Int} {x2 : Int} {x3 : Int} {z4 : Option cm_V} {z5 : Option cm_V} (p_a0 : 0 < a0) (H : (0 < ((ch_R h a0 2)) ∧ (((ch_I h (ch_R h a0 2) 0) ≤ x3 → ((x2 = 0 → (cm_i (x1 + 1) ∧ cw d cd_Search_isCornerMissing Q 2 [some (vR 6 a0), some (vI (x1 + 1)), some (vI x2), some (vI x3), z4, z5] [] h)) ∧ (¬ x2 = 0 → Q (some (vI 1)) h))) ∧ (x3 < (ch_I h (ch_R h a0 2) 0) → (0 < ((ch_R h a0 11)) ∧ ((0:Int) ≤ x3 ∧ x3 < ch_L h (ch_R h a0 11)) ∧ ((¬ x1 = 0 → (0 < ((ch_R h (ch_R h a0 11) x3)) ∧ (0 < ((ch_R h (ch_R h a0 2) 2)) ∧ ((0:Int) ≤ (ch_I h (ch_R h (ch_R h a0 11) x3) 2) ∧ (ch_I h (ch_R h (ch_R h a0 11) x3) 2) < ch_L h (ch_R h (ch_R h a0 2) 2)) ∧ cw d cd_Search_isCornerMissing Q 57 [some (vR 6 a0), some (vI x1), some (vI x2), some (vI x3), some (vR 5 (ch_R h (ch_R h a0 11) x3)), z5] [vI (ch_I h (ch_R h (ch_R h a0 2) 2) (ch_I h (ch_R h (ch_R h a0 11) x3) 2))] h))) ∧ (x1 = 0 → cw d cd_Search_isCornerMissing Q 57 [some (vR 6 a0), some (vI x1), some (vI x2), some (vI x3), some (vR 5 (ch_R h (ch_R h a0 11) x3)), z5] [vI 0] h))))))) : cw d cd_Search_isCornerMissing Q 17 [some (vR 6 a0), some (vI x1), some (vI x2), some (vI x3), z4, z5] [] h := by
  refine w_iload rfl rfl ?_
  refine w_aload rfl rfl ?_
  refine w_getR 2 9 rfl rfl rfl rfl p_a0 ?_
  have o1 := H.1
  replace H := H.2
  refine w_getI 0 rfl rfl rfl o1 ?_
  refine w_icmp rfl (And.intro (fun hc => ?_) (fun hc => ?_))
  · replace H := H.1 hc
    refine w_iload rfl rfl ?_
    refine w_if rfl (And.intro (fun hc => ?_) (fun hc => ?_))
    · replace H := H.1 hc
      have o2 := H.1
      replace H := H.2
      refine w_iinc rfl rfl rfl o2 ?_
      refine w_goto rfl ?_
      exact H
    · replace H := H.2 hc
      refine w_iconst rfl ⟨by decide, by decide⟩ ?_
      exact w_zreturn rfl (by decide) H
  · replace H := H.2 hc
    refine w_aload rfl rfl ?_
    refine w_getR 11 25 rfl rfl rfl rfl p_a0 ?_
    refine w_iload rfl rfl ?_
    have o3 := H.1
    replace H := H.2
    have o4 := H.1
    replace H := H.2
    refine w_aaload rfl rfl rfl o3 o4 ?_
    refine w_astore rfl rfl ?_
    refine w_iload rfl rfl ?_
    refine w_if rfl (And.intro (fun hc => ?_) (fun hc => ?_))
    · replace H := H.1 hc
      refine w_aload rfl rfl ?_
      refine w_getR 2 9 rfl rfl rfl rfl p_a0 ?_
      refine w_getR 2 20 rfl rfl rfl rfl o1 ?_
      refine w_aload rfl rfl ?_
      have o5 := H.1
      replace H := H.2
      refine w_getI 2 rfl rfl rfl o5 ?_
      have o6 := H.1
      replace H := H.2
      have o7 := H.1
      replace H := H.2
      refine w_iaload rfl o6 o7 ?_
      exact H
    · replace H := H.2 hc
      refine w_iconst rfl ⟨by decide, by decide⟩ ?_
      refine w_goto rfl ?_
      exact H
set_option maxHeartbeats 4000000 in
set_option maxRecDepth 100000 in
theorem r_Search_isCornerMissing_57 {d : Nat} {Q : cm_Q} {h : cm_H} {a0 : Nat} {x1 : Int} {x2 : Int} {x3 : Int} {a4 : Nat} {z5 : Option cm_V} {s0 : Int} (p_a4 : 0 < a4) (H : ((¬ x1 = 2 → cw d cd_Search_isCornerMissing Q 75 [some (vR 6 a0), some (vI x1), some (vI x2), some (vI x3), some (vR 5 a4), some (vI s0)] [vI 0, vI s0] h) ∧ (x1 = 2 → cw d cd_Search_isCornerMissing Q 75 [some (vR 6 a0), some (vI x1), some (vI x2), some (vI x3), some (vR 5 a4), some (vI s0)] [vI (ch_I h a4 2), vI s0] h))) : cw d cd_Search_isCornerMissing Q 57 [some (vR 6 a0), some (vI x1), some (vI x2), some (vI x3), some (vR 5 a4), z5] [vI s0] h := by
  refine w_istore rfl rfl ?_
  refine w_iload rfl rfl ?_
  refine w_iload rfl rfl ?_
  refine w_iconst rfl ⟨by decide, by decide⟩ ?_
  refine w_icmp rfl (And.intro (fun hc => ?_) (fun hc => ?_))
  · replace H := H.1 hc
    refine w_iconst rfl ⟨by decide, by decide⟩ ?_
    exact H
  · replace H := H.2 hc
    refine w_aload rfl rfl ?_
    refine w_getI 2 rfl rfl rfl p_a4 ?_
    refine w_goto rfl ?_
    exact H
set_option maxHeartbeats 4000000 in
set_option maxRecDepth 100000 in
theorem r_Search_isCornerMissing_75 {d : Nat} {Q : cm_Q} {h : cm_H} {a0 : Nat} {x1 : Int} {x2 : Int} {x3 : Int} {a4 : Nat} {z5 : Option cm_V} {s0 : Int} {s1 : Int} (p_a4 : 0 < a4) (H : (cm_i (s1 + s0) ∧ ((x2 = 0 → (cm_i (x3 + 1) ∧ cw d cd_Search_isCornerMissing Q 17 [some (vR 6 a0), some (vI x1), some (vI 0), some (vI (x3 + 1)), some (vR 5 a4), some (vI (s1 + s0))] [] h)) ∧ (¬ x2 = 0 → (cm_i ((ch_I h a4 1) + (s1 + s0)) ∧ (0 < ((ch_R h a4 0)) ∧ ((0:Int) ≤ ((ch_I h a4 1) + (s1 + s0)) ∧ ((ch_I h a4 1) + (s1 + s0)) < ch_L h (ch_R h a4 0)) ∧ ((¬ (ch_I h (ch_R h a4 0) ((ch_I h a4 1) + (s1 + s0))) = 0 → (cm_i (x3 + 1) ∧ cw d cd_Search_isCornerMissing Q 17 [some (vR 6 a0), some (vI x1), some (vI 0), some (vI (x3 + 1)), some (vR 5 a4), some (vI (s1 + s0))] [] h)) ∧ ((ch_I h (ch_R h a4 0) ((ch_I h a4 1) + (s1 + s0))) = 0 → (cm_i (x3 + 1) ∧ cw d cd_Search_isCornerMissing Q 17 [some (vR 6 a0), some (vI x1), some (vI 1), some (vI (x3 + 1)), some (vR 5 a4), some (vI (s1 + s0))] [] h))))))))) : cw d cd_Search_isCornerMissing Q 75 [some (vR 6 a0), some (vI x1), some (vI x2), some (vI x3), some (vR 5 a4), z5] [vI s0, vI s1] h := by
  have o1 := H.1
  replace H := H.2
  refine w_iadd rfl o1 ?_
  refine w_istore rfl rfl ?_
  refine w_iload rfl rfl ?_
  refine w_if rfl (And.intro (fun hc => ?_) (fun hc => ?_))
  · replace H := H.1 hc
    refine w_iconst rfl ⟨by decide, by decide⟩ ?_
    refine w_istore rfl rfl ?_
    have o2 := H.1
    replace H := H.2
    refine w_iinc rfl rfl rfl o2 ?_
    refine w_goto rfl ?_
    exact H
  · replace H := H.2 hc
    refine w_aload rfl rfl ?_
    refine w_getR 0 20 rfl rfl rfl rfl p_a4 ?_
    refine w_aload rfl rfl ?_
    refine w_getI 1 rfl rfl rfl p_a4 ?_
    refine w_iload rfl rfl ?_
    have o3 := H.1
    replace H := H.2
    refine w_iadd rfl o3 ?_
    have o4 := H.1
    replace H := H.2
    have o5 := H.1
    replace H := H.2
    refine w_iaload rfl o4 o5 ?_
    refine w_if rfl (And.intro (fun hc => ?_) (fun hc => ?_))
    · replace H := H.1 hc
      refine w_iconst rfl ⟨by decide, by decide⟩ ?_
      refine w_istore rfl rfl ?_
      have o6 := H.1
      replace H := H.2
      refine w_iinc rfl rfl rfl o6 ?_
      refine w_goto rfl ?_
      exact H
    · replace H := H.2 hc
      refine w_iconst rfl ⟨by decide, by decide⟩ ?_
      refine w_goto rfl ?_
      refine w_istore rfl rfl ?_
      have o7 := H.1
      replace H := H.2
      refine w_iinc rfl rfl rfl o7 ?_
      refine w_goto rfl ?_
      exact H
set_option maxHeartbeats 4000000 in
set_option maxRecDepth 100000 in
theorem r_Search_isCornerMissing {d : Nat} {Q : cm_Q} {h : cm_H} {a0 : Nat} (p_a0 : 0 < a0) (H : cw d cd_Search_isCornerMissing Q 2 [some (vR 6 a0), some (vI 0), none, none, none, none] [] h) : cm_call (d + 1) m_Search_isCornerMissing [vR 6 a0] h Q := by
  refine cm_call_in (C := cd_Search_isCornerMissing) (ls := [some (vR 6 a0), none, none, none, none, none]) rfl rfl p_a0 rfl ?_
  refine w_iconst rfl ⟨by decide, by decide⟩ ?_
  refine w_istore rfl rfl ?_
  exact H
set_option maxHeartbeats 4000000 in
set_option maxRecDepth 100000 in
theorem r_Search_putSpread_38 {d : Nat} {Q : cm_Q} {h : cm_H} {a0 : Nat} {a1 : Nat} {z2 : Option cm_V} {a3 : Nat} {x4 : Int} {x5 : Int} {x6 : Int} {z7 : Option cm_V} (p_a1 : 0 < a1) (p_a3 : 0 < a3) (p_a0 : 0 < a0) (H : (cm_i ((ch_I h a1 2) + 1) ∧ ((0:Int) ≤ ((ch_I h a1 2) + 1) ∧ ((ch_I h a1 2) + 1) < ch_L h a3) ∧ (((ch_I h a3 ((ch_I h a1 2) + 1)) ≤ x6 → Q none h) ∧ (x6 < (ch_I h a3 ((ch_I h a1 2) + 1)) → (0 < ((ch_R h a0 2)) ∧ (0 < ((ch_R h (ch_R h a0 2) 4)) ∧ ((0:Int) ≤ x6 ∧ x6 < ch_L h (ch_R h (ch_R h a0 2) 4)) ∧ (cm_i (x4 + (ch_I h (ch_R h (ch_R h a0 2) 4) x6)) ∧ ((0:Int) ≤ (x4 + (ch_I h (ch_R h (ch_R h a0 2) 4) x6)) ∧ (x4 + (ch_I h (ch_R h (ch_R h a0 2) 4) x6)) < ch_L h a3) ∧ (cm_i ((ch_I h a3 (x4 + (ch_I h (ch_R h (ch_R h a0 2) 4) x6))) + x5) ∧ (cm_i (((ch_I h a3 (x4 + (ch_I h (ch_R h (ch_R h a0 2) 4) x6))) + x5) + x6) ∧ ((0:Int) ≤ (ch_I h (ch_R h (ch_R h a0 2) 4) x6) ∧ (ch_I h (ch_R h (ch_R h a0 2) 4) x6) < ch_L h a3) ∧ (cm_i ((((ch_I h a3 (x4 + (ch_I h (ch_R h (ch_R h a0 2) 4) x6))) + x5) + x6) - (ch_I h a3 (ch_I h (ch_R h (ch_R h a0 2) 4) x6))) ∧ (cm_i ((ch_I h a1 1) + x6) ∧ (0 < ((ch_R h a1 0)) ∧ ((0:Int) ≤ ((ch_I h a1 1) + x6) ∧ ((ch_I h a1 1) + x6) < ch_L h (ch_R h a1 0)) ∧ (0 < ((ch_R h a0 10)) ∧ ((0:Int) ≤ ((((ch_I h a3 (x4 + (ch_I h (ch_R h (ch_R h a0 2) 4) x6))) + x5) + x6) - (ch_I h a3 (ch_I h (ch_R h (ch_R h a0 2) 4) x6))) ∧ ((((ch_I h a3 (x4 + (ch_I h (ch_R h (ch_R h a0 2) 4) x6))) + x5) + x6) - (ch_I h a3 (ch_I h (ch_R h (ch_R h a0 2) 4) x6))) < ch_L h (ch_R h a0 10)) ∧ (∀ h17 : cm_H, h17 = ch_u h (ch_R h a0 10) ((((ch_I h a3 (x4 + (ch_I h (ch_R h (ch_R h a0 2) 4) x6))) + x5) + x6) - (ch_I h a3 (ch_I h (ch_R h (ch_R h a0 2) 4) x6))) (ch_I h (ch_R h a1 0) ((ch_I h a1 1) + x6)) → (cm_i (x6 + 1) ∧ cw d cd_Search_putSpread Q 38 [some (vR 6 a0), some (vR 5 a1), z2, some (vR 20 a3), some (vI x4), some (vI x5), some (vI (x6 + 1)), some (vI (ch_I h (ch_R h (ch_R h a0 2) 4) x6))] [] h17))))))))))))))) : cw d cd_Search_putSpread Q 38 [some (vR 6 a0), some (vR 5 a1), z2, some (vR 20 a3), some (vI x4), some (vI x5), some (vI x6), z7] [] h := by
  refine w_iload rfl rfl ?_
  refine w_aload rfl rfl ?_
  refine w_aload rfl rfl ?_
  refine w_getI 2 rfl rfl rfl p_a1 ?_
  refine w_iconst rfl ⟨by decide, by decide⟩ ?_
  have o1 := H.1
  replace H := H.2
  refine w_iadd rfl o1 ?_
  have o2 := H.1
  replace H := H.2
  refine w_iaload rfl p_a3 o2 ?_
  refine w_icmp rfl (And.intro (fun hc => ?_) (fun hc => ?_))
  · replace H := H.1 hc
    exact w_return rfl H
  · replace H := H.2 hc
    refine w_aload rfl rfl ?_
    refine w_getR 2 9 rfl rfl rfl rfl p_a0 ?_
    have o3 := H.1
    replace H := H.2
    refine w_getR 4 20 rfl rfl rfl rfl o3 ?_
    refine w_iload rfl rfl ?_
    have o4 := H.1
    replace H := H.2
    have o5 := H.1
    replace H := H.2
    refine w_iaload rfl o4 o5 ?_
    refine w_istore rfl rfl ?_
    refine w_aload rfl rfl ?_
    refine w_getR 10 20 rfl rfl rfl rfl p_a0 ?_
    refine w_aload rfl rfl ?_
    refine w_iload rfl rfl ?_
    refine w_iload rfl rfl ?_
    have o6 := H.1
    replace H := H.2
    refine w_iadd rfl o6 ?_
    have o7 := H.1
    replace H := H.2
    refine w_iaload rfl p_a3 o7 ?_
    refine w_iload rfl rfl ?_
    have o8 := H.1
    replace H := H.2
    refine w_iadd rfl o8 ?_
    refine w_iload rfl rfl ?_
    have o9 := H.1
    replace H := H.2
    refine w_iadd rfl o9 ?_
    refine w_aload rfl rfl ?_
    refine w_iload rfl rfl ?_
    have o10 := H.1
    replace H := H.2
    refine w_iaload rfl p_a3 o10 ?_
    have o11 := H.1
    replace H := H.2
    refine w_isub rfl o11 ?_
    refine w_aload rfl rfl ?_
    refine w_getR 0 20 rfl rfl rfl rfl p_a1 ?_
    refine w_aload rfl rfl ?_
    refine w_getI 1 rfl rfl rfl p_a1 ?_
    refine w_iload rfl rfl ?_
    have o12 := H.1
    replace H := H.2
    refine w_iadd rfl o12 ?_
    have o13 := H.1
    replace H := H.2
    have o14 := H.1
    replace H := H.2
    refine w_iaload rfl o13 o14 ?_
    have o15 := H.1
    replace H := H.2
    have o16 := H.1
    replace H := H.2
    refine w_iastore rfl o15 o16 (fun h17 eh17 => ?_)
    replace H := H h17 eh17
    have o18 := H.1
    replace H := H.2
    refine w_iinc rfl rfl rfl o18 ?_
    refine w_goto rfl ?_
    exact H
set_option maxHeartbeats 4000000 in
set_option maxRecDepth 100000 in
theorem r_Search_putSpread {d : Nat} {Q : cm_Q} {h : cm_H} {a0 : Nat} {a1 : Nat} {x2 : Int} (p_a0 : 0 < a0) (H : (0 < ((ch_R h a0 2)) ∧ (0 < ((ch_R h (ch_R h a0 2) 4)) ∧ ((0:Int) ≤ x2 ∧ x2 < ch_L h (ch_R h (ch_R h a0 2) 4)) ∧ (0 < ((ch_R h (ch_R h a0 2) 2)) ∧ ((0:Int) ≤ (ch_I h (ch_R h (ch_R h a0 2) 4) x2) ∧ (ch_I h (ch_R h (ch_R h a0 2) 4) x2) < ch_L h (ch_R h (ch_R h a0 2) 2)) ∧ (cm_i (x2 - (ch_I h (ch_R h (ch_R h a0 2) 2) (ch_I h (ch_R h (ch_R h a0 2) 4) x2))) ∧ (cU d m_Arr_fill [vR 20 (ch_R h a0 10), vI 0] h fun h7 => cw d cd_Search_putSpread Q 38 [some (vR 6 a0), some (vR 5 a1), some (vI x2), some (vR 20 (ch_R h (ch_R h a0 2) 2)), some (vI (ch_I h (ch_R h (ch_R h a0 2) 4) x2)), some (vI (x2 - (ch_I h (ch_R h (ch_R h a0 2) 2) (ch_I h (ch_R h (ch_R h a0 2) 4) x2)))), some (vI 0), none] [] h7)))))) : cm_call (d + 1) m_Search_putSpread [vR 6 a0, vR 5 a1, vI x2] h Q := by
  refine cm_call_in (C := cd_Search_putSpread) (ls := [some (vR 6 a0), some (vR 5 a1), some (vI x2), none, none, none, none, none]) rfl rfl p_a0 rfl ?_
  refine w_aload rfl rfl ?_
  refine w_getR 2 9 rfl rfl rfl rfl p_a0 ?_
  have o1 := H.1
  replace H := H.2
  refine w_getR 2 20 rfl rfl rfl rfl o1 ?_
  refine w_astore rfl rfl ?_
  refine w_aload rfl rfl ?_
  refine w_getR 2 9 rfl rfl rfl rfl p_a0 ?_
  refine w_getR 4 20 rfl rfl rfl rfl o1 ?_
  refine w_iload rfl rfl ?_
  have o2 := H.1
  replace H := H.2
  have o3 := H.1
  replace H := H.2
  refine w_iaload rfl o2 o3 ?_
  refine w_istore rfl rfl ?_
  refine w_iload rfl rfl ?_
  refine w_aload rfl rfl ?_
  refine w_iload rfl rfl ?_
  have o4 := H.1
  replace H := H.2
  have o5 := H.1
  replace H := H.2
  refine w_iaload rfl o4 o5 ?_
  have o6 := H.1
  replace H := H.2
  refine w_isub rfl o6 ?_
  refine w_istore rfl rfl ?_
  refine w_aload rfl rfl ?_
  refine w_getR 10 20 rfl rfl rfl rfl p_a0 ?_
  refine w_iconst rfl ⟨by decide, by decide⟩ ?_
  refine w_callU rfl (fun _ => rfl) rfl (cU_mono H fun h7 H => ?_)
  refine w_iconst rfl ⟨by decide, by decide⟩ ?_
  refine w_istore rfl rfl ?_
  exact H
set_option maxHeartbeats 4000000 in
set_option maxRecDepth 100000 in
theorem r_Rewriter_init {d : Nat} {Q : cm_Q} {h : cm_H} {a0 : Nat} {a1 : Nat} {a2 : Nat} (p_a0 : 0 < a0) (H : (∀ h1 : cm_H, h1 = ch_new h 20 216 (Int.toNat 216) → (∀ h2 : cm_H, h2 = ch_r h1 a0 5 (ch_n h) → (∀ h3 : cm_H, h3 = ch_new h2 20 216 (Int.toNat 216) → (∀ h4 : cm_H, h4 = ch_r h3 a0 6 (ch_n h2) → (∀ h5 : cm_H, h5 = ch_new h4 20 816 (Int.toNat 816) → (∀ h6 : cm_H, h6 = ch_r h5 a0 8 (ch_n h4) → (∀ h7 : cm_H, h7 = ch_new h6 20 136 (Int.toNat 136) → (∀ h8 : cm_H, h8 = ch_r h7 a0 11 (ch_n h6) → (∀ h9 : cm_H, h9 = ch_new h8 20 136 (Int.toNat 136) → (∀ h10 : cm_H, h10 = ch_r h9 a0 12 (ch_n h8) → (∀ h11 : cm_H, h11 = ch_new h10 20 136 (Int.toNat 136) → (∀ h12 : cm_H, h12 = ch_r h11 a0 13 (ch_n h10) → (∀ h13 : cm_H, h13 = ch_new h12 5 0 3 → (cU d m_Piece_init [vR 5 (ch_n h12)] h13 fun h14 => (∀ h15 : cm_H, h15 = ch_r h14 a0 14 (ch_n h12) → (∀ h16 : cm_H, h16 = ch_new h15 5 0 3 → (cU d m_Piece_init [vR 5 (ch_n h15)] h16 fun h17 => (∀ h18 : cm_H, h18 = ch_r h17 a0 15 (ch_n h15) → (∀ h19 : cm_H, h19 = ch_r h18 a0 0 a1 → (∀ h20 : cm_H, h20 = ch_r h19 a0 1 a2 → Q none h20))))))))))))))))))))) : cm_call (d + 1) m_Rewriter_init [vR 8 a0, vR 0 a1, vR 6 a2] h Q := by
  refine cm_call_in (C := cd_Rewriter_init) (ls := [some (vR 8 a0), some (vR 0 a1), some (vR 6 a2)]) rfl rfl p_a0 rfl ?_
  refine w_aload rfl rfl ?_
  refine w_objInit rfl rfl p_a0 ?_
  refine w_aload rfl rfl ?_
  refine w_iconst rfl ⟨by decide, by decide⟩ ?_
  refine w_newI rfl (by decide) (fun h1 eh1 => ?_)
  replace H := H h1 eh1
  refine w_putR 5 rfl rfl rfl rfl p_a0 (fun h2 eh2 => ?_)
  replace H := H h2 eh2
  refine w_aload rfl rfl ?_
  refine w_iconst rfl ⟨by decide, by decide⟩ ?_
  refine w_newI rfl (by decide) (fun h3 eh3 => ?_)
  replace H := H h3 eh3
  refine w_putR 6 rfl rfl rfl rfl p_a0 (fun h4 eh4 => ?_)
  replace H := H h4 eh4
  refine w_aload rfl rfl ?_
  refine w_iconst rfl ⟨by decide, by decide⟩ ?_
  refine w_newI rfl (by decide) (fun h5 eh5 => ?_)
  replace H := H h5 eh5
  refine w_putR 8 rfl rfl rfl rfl p_a0 (fun h6 eh6 => ?_)
  replace H := H h6 eh6
  refine w_aload rfl rfl ?_
  refine w_iconst rfl ⟨by decide, by decide⟩ ?_
  refine w_newI rfl (by decide) (fun h7 eh7 => ?_)
  replace H := H h7 eh7
  refine w_putR 11 rfl rfl rfl rfl p_a0 (fun h8 eh8 => ?_)
  replace H := H h8 eh8
  refine w_aload rfl rfl ?_
  refine w_iconst rfl ⟨by decide, by decide⟩ ?_
  refine w_newI rfl (by decide) (fun h9 eh9 => ?_)
  replace H := H h9 eh9
  refine w_putR 12 rfl rfl rfl rfl p_a0 (fun h10 eh10 => ?_)
  replace H := H h10 eh10
  refine w_aload rfl rfl ?_
  refine w_iconst rfl ⟨by decide, by decide⟩ ?_
  refine w_newI rfl (by decide) (fun h11 eh11 => ?_)
  replace H := H h11 eh11
  refine w_putR 13 rfl rfl rfl rfl p_a0 (fun h12 eh12 => ?_)
  replace H := H h12 eh12
  refine w_aload rfl rfl ?_
  refine w_new 5 3 rfl rfl rfl (fun h13 eh13 => ?_)
  replace H := H h13 eh13
  refine w_dup rfl rfl ?_
  refine w_callU rfl (fun _ => rfl) rfl (cU_mono H fun h14 H => ?_)
  refine w_putR 14 rfl rfl rfl rfl p_a0 (fun h15 eh15 => ?_)
  replace H := H h15 eh15
  refine w_aload rfl rfl ?_
  refine w_new 5 3 rfl rfl rfl (fun h16 eh16 => ?_)
  replace H := H h16 eh16
  refine w_dup rfl rfl ?_
  refine w_callU rfl (fun _ => rfl) rfl (cU_mono H fun h17 H => ?_)
  refine w_putR 15 rfl rfl rfl rfl p_a0 (fun h18 eh18 => ?_)
  replace H := H h18 eh18
  refine w_aload rfl rfl ?_
  refine w_aload rfl rfl ?_
  refine w_putR 0 rfl rfl rfl rfl p_a0 (fun h19 eh19 => ?_)
  replace H := H h19 eh19
  refine w_aload rfl rfl ?_
  refine w_aload rfl rfl ?_
  refine w_putR 1 rfl rfl rfl rfl p_a0 (fun h20 eh20 => ?_)
  replace H := H h20 eh20
  exact w_return rfl H
set_option maxHeartbeats 4000000 in
set_option maxRecDepth 100000 in
theorem r_Rewriter_begin {d : Nat} {Q : cm_Q} {h : cm_H} {a0 : Nat} {a1 : Nat} (p_a0 : 0 < a0) (H : (∀ h1 : cm_H, h1 = ch_r h a0 2 a1 → (∀ h2 : cm_H, h2 = ch_u h1 a0 3 0 → (∀ h3 : cm_H, h3 = ch_u h2 a0 4 (-1) → (∀ h4 : cm_H, h4 = ch_u h3 a0 7 (-1) → (∀ h5 : cm_H, h5 = ch_u h4 a0 9 (-1) → (∀ h6 : cm_H, h6 = ch_u h5 a0 10 (-1) → Q none h6))))))) : cm_call (d + 1) m_Rewriter_begin [vR 8 a0, vR 9 a1] h Q := by
  refine cm_call_in (C := cd_Rewriter_begin) (ls := [some (vR 8 a0), some (vR 9 a1)]) rfl rfl p_a0 rfl ?_
  refine w_aload rfl rfl ?_
  refine w_aload rfl rfl ?_
  refine w_putR 2 rfl rfl rfl rfl p_a0 (fun h1 eh1 => ?_)
  replace H := H h1 eh1
  refine w_aload rfl rfl ?_
  refine w_iconst rfl ⟨by decide, by decide⟩ ?_
  refine w_putI 3 rfl rfl rfl p_a0 (fun h2 eh2 => ?_)
  replace H := H h2 eh2
  refine w_aload rfl rfl ?_
  refine w_iconst rfl ⟨by decide, by decide⟩ ?_
  refine w_putI 4 rfl rfl rfl p_a0 (fun h3 eh3 => ?_)
  replace H := H h3 eh3
  refine w_aload rfl rfl ?_
  refine w_iconst rfl ⟨by decide, by decide⟩ ?_
  refine w_putI 7 rfl rfl rfl p_a0 (fun h4 eh4 => ?_)
  replace H := H h4 eh4
  refine w_aload rfl rfl ?_
  refine w_iconst rfl ⟨by decide, by decide⟩ ?_
  refine w_putI 9 rfl rfl rfl p_a0 (fun h5 eh5 => ?_)
  replace H := H h5 eh5
  refine w_aload rfl rfl ?_
  refine w_iconst rfl ⟨by decide, by decide⟩ ?_
  refine w_putI 10 rfl rfl rfl p_a0 (fun h6 eh6 => ?_)
  replace H := H h6 eh6
  exact w_return rfl H
set_option maxHeartbeats 4000000 in
set_option maxRecDepth 100000 in
theorem r_Rewriter_extendToAll_4 {d : Nat} {Q : cm_Q} {h : cm_H} {a0 : Nat} {x1 : Int} {x2 : Int} {z3 : Option cm_V} (p_a0 : 0 < a0) (H : (0 < ((ch_R h a0 2)) ∧ (((ch_I h (ch_R h a0 2) 0) ≤ x2 → (0 < ((ch_R h a0 1)) ∧ ((¬ (ch_I h (ch_R h a0 1) 3) = 0 → (0 < (ch_I h (ch_R h a0 1) 3) ∧ (cm_i ((ch_I h a0 4) + 1) ∧ cw d cd_Rewriter_extendToAll Q 64 [some (vR 8 a0), some (vI x1), some (vI (Int.tdiv x1 (ch_I h (ch_R h a0 1) 3))), some (vI ((ch_I h a0 4) + 1))] [] h))) ∧ ((ch_I h (ch_R h a0 1) 3) = 0 → (cm_i ((ch_I h a0 4) + 1) ∧ cw d cd_Rewriter_extendToAll Q 64 [some (vR 8 a0), some (vI x1), some (vI 0), some (vI ((ch_I h a0 4) + 1))] [] h))))) ∧ (x2 < (ch_I h (ch_R h a0 2) 0) → (0 < ((ch_R h a0 1)) ∧ (0 < ((ch_R h (ch_R h a0 1) 12)) ∧ ((0:Int) ≤ x2 ∧ x2 < ch_L h (ch_R h (ch_R h a0 1) 12)) ∧ (cm_i (x1 * (ch_I h (ch_R h (ch_R h a0 1) 12) x2)) ∧ (cm_i (x2 + 1) ∧ cw d cd_Rewriter_extendToAll Q 4 [some (vR 8 a0), some (vI (x1 * (ch_I h (ch_R h (ch_R h a0 1) 12) x2))), some (vI (x2 + 1)), z3] [] h)))))))) : cw d cd_Rewriter_extendToAll Q 4 [some (vR 8 a0), some (vI x1), some (vI x2), z3] [] h := by
  refine w_iload rfl rfl ?_
  refine w_aload rfl rfl ?_
  refine w_getR 2 9 rfl rfl rfl rfl p_a0 ?_
  have o1 := H.1
  replace H := H.2
  refine w_getI 0 rfl rfl rfl o1 ?_
  refine w_icmp rfl (And.intro (fun hc => ?_) (fun hc => ?_))
  · replace H := H.1 hc
    refine w_aload rfl rfl ?_
    refine w_getR 1 6 rfl rfl rfl rfl p_a0 ?_
    have o2 := H.1
    replace H := H.2
    refine w_getI 3 rfl rfl rfl o2 ?_
    refine w_if rfl (And.intro (fun hc => ?_) (fun hc => ?_))
    · replace H := H.1 hc
      refine w_iload rfl rfl ?_
      refine w_aload rfl rfl ?_
      refine w_getR 1 6 rfl rfl rfl rfl p_a0 ?_
      refine w_getI 3 rfl rfl rfl o2 ?_
      have o3 := H.1
      replace H := H.2
      refine w_idiv rfl o3 ?_
      refine w_istore rfl rfl ?_
      refine w_aload rfl rfl ?_
      refine w_getI 4 rfl rfl rfl p_a0 ?_
      refine w_iconst rfl ⟨by decide, by decide⟩ ?_
      have o4 := H.1
      replace H := H.2
      refine w_iadd rfl o4 ?_
      refine w_istore rfl rfl ?_
      exact H
    · replace H := H.2 hc
      refine w_iconst rfl ⟨by decide, by decide⟩ ?_
      refine w_goto rfl ?_
      refine w_istore rfl rfl ?_
      refine w_aload rfl rfl ?_
      refine w_getI 4 rfl rfl rfl p_a0 ?_
      refine w_iconst rfl ⟨by decide, by decide⟩ ?_
      have o5 := H.1
      replace H := H.2
      refine w_iadd rfl o5 ?_
      refine w_istore rfl rfl ?_
      exact H
  · replace H := H.2 hc
    refine w_iload rfl rfl ?_
    refine w_aload rfl rfl ?_
    refine w_getR 1 6 rfl rfl rfl rfl p_a0 ?_
    have o6 := H.1
    replace H := H.2
    refine w_getR 12 20 rfl rfl rfl rfl o6 ?_
    refine w_iload rfl rfl ?_
    have o7 := H.1
    replace H := H.2
    have o8 := H.1
    replace H := H.2
    refine w_iaload rfl o7 o8 ?_
    have o9 := H.1
    replace H := H.2
    refine w_imul rfl o9 ?_
    refine w_istore rfl rfl ?_
    have o10 := H.1
    replace H := H.2
    refine w_iinc rfl rfl rfl o10 ?_
    refine w_goto rfl ?_
    exact H
set_option maxHeartbeats 4000000 in
set_option maxRecDepth 100000 in
theorem r_Rewriter_extendToAll_64 {d : Nat} {Q : cm_Q} {h : cm_H} {a0 : Nat} {z1 : Option cm_V} {x2 : Int} {x3 : Int} (p_a0 : 0 < a0) (H : ((15 < x3 → Q none h) ∧ (x3 ≤ 15 → ((x2 ≤ (ch_I h a0 3) → Q none h) ∧ ((ch_I h a0 3) < x2 → (cA d m_Bases_grade [vR 0 (ch_R h a0 0), vI x3] h 2 fun v2 h1 => (cU d m_Rewriter_fillGrade [vR 8 a0, vR 2 v2] h1 fun h3 => (cm_i (x3 + 1) ∧ cw d cd_Rewriter_extendToAll Q 64 [some (vR 8 a0), z1, some (vI x2), some (vI (x3 + 1))] [] h3)))))))) : cw d cd_Rewriter_extendToAll Q 64 [some (vR 8 a0), z1, some (vI x2), some (vI x3)] [] h := by
  refine w_iload rfl rfl ?_
  refine w_iconst rfl ⟨by decide, by decide⟩ ?_
  refine w_icmp rfl (And.intro (fun hc => ?_) (fun hc => ?_))
  · replace H := H.1 hc
    exact w_return rfl H
  · replace H := H.2 hc
    refine w_aload rfl rfl ?_
    refine w_getI 3 rfl rfl rfl p_a0 ?_
    refine w_iload rfl rfl ?_
    refine w_icmp rfl (And.intro (fun hc => ?_) (fun hc => ?_))
    · replace H := H.1 hc
      exact w_return rfl H
    · replace H := H.2 hc
      refine w_aload rfl rfl ?_
      refine w_aload rfl rfl ?_
      refine w_getR 0 0 rfl rfl rfl rfl p_a0 ?_
      refine w_iload rfl rfl ?_
      refine w_callA rfl (fun _ => rfl) rfl (cA_mono H fun v2 h1 H => ?_)
      refine w_callU rfl (fun _ => rfl) rfl (cU_mono H fun h3 H => ?_)
      have o4 := H.1
      replace H := H.2
      refine w_iinc rfl rfl rfl o4 ?_
      refine w_goto rfl ?_
      exact H
set_option maxHeartbeats 4000000 in
set_option maxRecDepth 100000 in
theorem r_Rewriter_extendToAll {d : Nat} {Q : cm_Q} {h : cm_H} {a0 : Nat} (p_a0 : 0 < a0) (H : cw d cd_Rewriter_extendToAll Q 4 [some (vR 8 a0), some (vI 1), some (vI 0), none] [] h) : cm_call (d + 1) m_Rewriter_extendToAll [vR 8 a0] h Q := by
  refine cm_call_in (C := cd_Rewriter_extendToAll) (ls := [some (vR 8 a0), none, none, none]) rfl rfl p_a0 rfl ?_
  refine w_iconst rfl ⟨by decide, by decide⟩ ?_
  refine w_istore rfl rfl ?_
  refine w_iconst rfl ⟨by decide, by decide⟩ ?_
  refine w_istore rfl rfl ?_
  exact H
set_option maxHeartbeats 4000000 in
set_option maxRecDepth 100000 in
theorem r_Rewriter_extend_7 {d : Nat} {Q : cm_Q} {h : cm_H} {a0 : Nat} {x1 : Int} {x2 : Int} (p_a0 : 0 < a0) (H : ((15 < x2 → Q none h) ∧ (x2 ≤ 15 → ((x1 < x2 → Q none h) ∧ (x2 ≤ x1 → (cA d m_Bases_grade [vR 0 (ch_R h a0 0), vI x2] h 2 fun v2 h1 => (cU d m_Rewriter_fillGrade [vR 8 a0, vR 2 v2] h1 fun h3 => (cm_i (x2 + 1) ∧ cw d cd_Rewriter_extend Q 7 [some (vR 8 a0), some (vI x1), some (vI (x2 + 1))] [] h3)))))))) : cw d cd_Rewriter_extend Q 7 [some (vR 8 a0), some (vI x1), some (vI x2)] [] h := by
  refine w_iload rfl rfl ?_
  refine w_iconst rfl ⟨by decide, by decide⟩ ?_
  refine w_icmp rfl (And.intro (fun hc => ?_) (fun hc => ?_))
  · replace H := H.1 hc
    exact w_return rfl H
  · replace H := H.2 hc
    refine w_iload rfl rfl ?_
    refine w_iload rfl rfl ?_
    refine w_icmp rfl (And.intro (fun hc => ?_) (fun hc => ?_))
    · replace H := H.1 hc
      exact w_return rfl H
    · replace H := H.2 hc
      refine w_aload rfl rfl ?_
      refine w_aload rfl rfl ?_
      refine w_getR 0 0 rfl rfl rfl rfl p_a0 ?_
      refine w_iload rfl rfl ?_
      refine w_callA rfl (fun _ => rfl) rfl (cA_mono H fun v2 h1 H => ?_)
      refine w_callU rfl (fun _ => rfl) rfl (cU_mono H fun h3 H => ?_)
      have o4 := H.1
      replace H := H.2
      refine w_iinc rfl rfl rfl o4 ?_
      refine w_goto rfl ?_
      exact H
set_option maxHeartbeats 4000000 in
set_option maxRecDepth 100000 in
theorem r_Rewriter_extend {d : Nat} {Q : cm_Q} {h : cm_H} {a0 : Nat} {x1 : Int} (p_a0 : 0 < a0) (H : (cm_i ((ch_I h a0 4) + 1) ∧ cw d cd_Rewriter_extend Q 7 [some (vR 8 a0), some (vI x1), some (vI ((ch_I h a0 4) + 1))] [] h)) : cm_call (d + 1) m_Rewriter_extend [vR 8 a0, vI x1] h Q := by
  refine cm_call_in (C := cd_Rewriter_extend) (ls := [some (vR 8 a0), some (vI x1), none]) rfl rfl p_a0 rfl ?_
  refine w_aload rfl rfl ?_
  refine w_getI 4 rfl rfl rfl p_a0 ?_
  refine w_iconst rfl ⟨by decide, by decide⟩ ?_
  have o1 := H.1
  replace H := H.2
  refine w_iadd rfl o1 ?_
  refine w_istore rfl rfl ?_
  exact H
set_option maxHeartbeats 4000000 in
set_option maxRecDepth 100000 in
theorem r_Rewriter_fillGrade_6 {d : Nat} {Q : cm_Q} {h : cm_H} {a0 : Nat} {a1 : Nat} {x2 : Int} (p_a0 : 0 < a0) (p_a1 : 0 < a1) (H : (0 < ((ch_R h a0 2)) ∧ (((ch_I h (ch_R h a0 2) 0) ≤ x2 → (cU d m_Rewriter_addSecondaries [vR 8 a0, vR 2 a1] h fun h2 => (∀ h3 : cm_H, h3 = ch_u h2 a0 4 (ch_I h2 a1 0) → Q none h3))) ∧ (x2 < (ch_I h (ch_R h a0 2) 0) → (0 < ((ch_R h a0 1)) ∧ (0 < ((ch_R h (ch_R h a0 1) 12)) ∧ ((0:Int) ≤ x2 ∧ x2 < ch_L h (ch_R h (ch_R h a0 1) 12)) ∧ (((ch_I h a1 0) < (ch_I h (ch_R h (ch_R h a0 1) 12) x2) → (cm_i (x2 + 1) ∧ cw d cd_Rewriter_fillGrade Q 6 [some (vR 8 a0), some (vR 2 a1), some (vI (x2 + 1))] [] h)) ∧ ((ch_I h (ch_R h (ch_R h a0 1) 12) x2) ≤ (ch_I h a1 0) → (cU d m_Rewriter_addProducts [vR 8 a0, vR 2 a1, vI x2] h fun h8 => (cm_i (x2 + 1) ∧ cw d cd_Rewriter_fillGrade Q 6 [some (vR 8 a0), some (vR 2 a1), some (vI (x2 + 1))] [] h8)))))))))) : cw d cd_Rewriter_fillGrade Q 6 [some (vR 8 a0), some (vR 2 a1), some (vI x2)] [] h := by
  refine w_iload rfl rfl ?_
  refine w_aload rfl rfl ?_
  refine w_getR 2 9 rfl rfl rfl rfl p_a0 ?_
  have o1 := H.1
  replace H := H.2
  refine w_getI 0 rfl rfl rfl o1 ?_
  refine w_icmp rfl (And.intro (fun hc => ?_) (fun hc => ?_))
  · replace H := H.1 hc
    refine w_aload rfl rfl ?_
    refine w_aload rfl rfl ?_
    refine w_callU rfl (fun _ => rfl) rfl (cU_mono H fun h2 H => ?_)
    refine w_aload rfl rfl ?_
    refine w_aload rfl rfl ?_
    refine w_getI 0 rfl rfl rfl p_a1 ?_
    refine w_putI 4 rfl rfl rfl p_a0 (fun h3 eh3 => ?_)
    replace H := H h3 eh3
    exact w_return rfl H
  · replace H := H.2 hc
    refine w_aload rfl rfl ?_
    refine w_getR 1 6 rfl rfl rfl rfl p_a0 ?_
    have o4 := H.1
    replace H := H.2
    refine w_getR 12 20 rfl rfl rfl rfl o4 ?_
    refine w_iload rfl rfl ?_
    have o5 := H.1
    replace H := H.2
    have o6 := H.1
    replace H := H.2
    refine w_iaload rfl o5 o6 ?_
    refine w_aload rfl rfl ?_
    refine w_getI 0 rfl rfl rfl p_a1 ?_
    refine w_icmp rfl (And.intro (fun hc => ?_) (fun hc => ?_))
    · replace H := H.1 hc
      have o7 := H.1
      replace H := H.2
      refine w_iinc rfl rfl rfl o7 ?_
      refine w_goto rfl ?_
      exact H
    · replace H := H.2 hc
      refine w_aload rfl rfl ?_
      refine w_aload rfl rfl ?_
      refine w_iload rfl rfl ?_
      refine w_callU rfl (fun _ => rfl) rfl (cU_mono H fun h8 H => ?_)
      have o9 := H.1
      replace H := H.2
      refine w_iinc rfl rfl rfl o9 ?_
      refine w_goto rfl ?_
      exact H
set_option maxHeartbeats 4000000 in
set_option maxRecDepth 100000 in
theorem r_Rewriter_fillGrade {d : Nat} {Q : cm_Q} {h : cm_H} {a0 : Nat} {a1 : Nat} (p_a0 : 0 < a0) (H : (cU d m_Grade_beginProducts [vR 2 a1] h fun h1 => cw d cd_Rewriter_fillGrade Q 6 [some (vR 8 a0), some (vR 2 a1), some (vI 0)] [] h1)) : cm_call (d + 1) m_Rewriter_fillGrade [vR 8 a0, vR 2 a1] h Q := by
  refine cm_call_in (C := cd_Rewriter_fillGrade) (ls := [some (vR 8 a0), some (vR 2 a1), none]) rfl rfl p_a0 rfl ?_
  refine w_aload rfl rfl ?_
  refine w_callU rfl (fun _ => rfl) rfl (cU_mono H fun h1 H => ?_)
  refine w_iconst rfl ⟨by decide, by decide⟩ ?_
  refine w_istore rfl rfl ?_
  exact H
set_option maxHeartbeats 4000000 in
set_option maxRecDepth 100000 in
theorem r_Rewriter_addProducts_77 {d : Nat} {Q : cm_Q} {h : cm_H} {a0 : Nat} {a1 : Nat} {x2 : Int} {a3 : Nat} {z4 : Option cm_V} {x5 : Int} {z6 : Option cm_V} {z7 : Option cm_V} {z8 : Option cm_V} {z9 : Option cm_V} {z10 : Option cm_V} (p_a3 : 0 < a3) (p_a1 : 0 < a1) (H : (((ch_I h a3 6) ≤ x5 → Q none h) ∧ (x5 < (ch_I h a3 6) → (((ch_I h a1 3) ≤ (ch_I h a1 6) → Q none h) ∧ ((ch_I h a1 6) < (ch_I h a1 3) → (cm_i (4 * x5) ∧ (cm_i ((4 * x5) + 2) ∧ (0 < ((ch_R h a3 8)) ∧ ((0:Int) ≤ ((4 * x5) + 2) ∧ ((4 * x5) + 2) < ch_L h (ch_R h a3 8)) ∧ (cm_i ((4 * x5) + 3) ∧ ((0:Int) ≤ ((4 * x5) + 3) ∧ ((4 * x5) + 3) < ch_L h (ch_R h a3 8)) ∧ ((1 ≤ x2 → cw d cd_Rewriter_addProducts Q 135 [some (vR 8 a0), some (vR 2 a1), some (vI x2), some (vR 2 a3), z4, some (vI x5), some (vI (4 * x5)), some (vI (ch_I h (ch_R h a3 8) ((4 * x5) + 2))), some (vI (ch_I h (ch_R h a3 8) ((4 * x5) + 3))), z9, z10] [] h) ∧ (x2 < 1 → ((0 < (ch_I h (ch_R h a3 8) ((4 * x5) + 2)) → (cm_i (x5 + 1) ∧ cw d cd_Rewriter_addProducts Q 77 [some (vR 8 a0), some (vR 2 a1), some (vI x2), some (vR 2 a3), z4, some (vI (x5 + 1)), some (vI (4 * x5)), some (vI (ch_I h (ch_R h a3 8) ((4 * x5) + 2))), some (vI (ch_I h (ch_R h a3 8) ((4 * x5) + 3))), z9, z10] [] h)) ∧ ((ch_I h (ch_R h a3 8) ((4 * x5) + 2)) ≤ 0 → cw d cd_Rewriter_addProducts Q 135 [some (vR 8 a0), some (vR 2 a1), some (vI x2), some (vR 2 a3), z4, some (vI x5), some (vI (4 * x5)), some (vI (ch_I h (ch_R h a3 8) ((4 * x5) + 2))), some (vI (ch_I h (ch_R h a3 8) ((4 * x5) + 3))), z9, z10] [] h))))))))))))) : cw d cd_Rewriter_addProducts Q 77 [some (vR 8 a0), some (vR 2 a1), some (vI x2), some (vR 2 a3), z4, some (vI x5), z6, z7, z8, z9, z10] [] h := by
  refine w_iload rfl rfl ?_
  refine w_aload rfl rfl ?_
  refine w_getI 6 rfl rfl rfl p_a3 ?_
  refine w_icmp rfl (And.intro (fun hc => ?_) (fun hc => ?_))
  · replace H := H.1 hc
    exact w_return rfl H
  · replace H := H.2 hc
    refine w_aload rfl rfl ?_
    refine w_getI 6 rfl rfl rfl p_a1 ?_
    refine w_aload rfl rfl ?_
    refine w_getI 3 rfl rfl rfl p_a1 ?_
    refine w_icmp rfl (And.intro (fun hc => ?_) (fun hc => ?_))
    · replace H := H.1 hc
      exact w_return rfl H
    · replace H := H.2 hc
      refine w_iconst rfl ⟨by decide, by decide⟩ ?_
      refine w_iload rfl rfl ?_
      have o1 := H.1
      replace H := H.2
      refine w_imul rfl o1 ?_
      refine w_istore rfl rfl ?_
      refine w_aload rfl rfl ?_
      refine w_getR 8 20 rfl rfl rfl rfl p_a3 ?_
      refine w_iload rfl rfl ?_
      refine w_iconst rfl ⟨by decide, by decide⟩ ?_
      have o2 := H.1
      replace H := H.2
      refine w_iadd rfl o2 ?_
      have o3 := H.1
      replace H := H.2
      have o4 := H.1
      replace H := H.2
      refine w_iaload rfl o3 o4 ?_
      refine w_istore rfl rfl ?_
      refine w_aload rfl rfl ?_
      refine w_getR 8 20 rfl rfl rfl rfl p_a3 ?_
      refine w_iload rfl rfl ?_
      refine w_iconst rfl ⟨by decide, by decide⟩ ?_
      have o5 := H.1
      replace H := H.2
      refine w_iadd rfl o5 ?_
      have o6 := H.1
      replace H := H.2
      refine w_iaload rfl o3 o6 ?_
      refine w_istore rfl rfl ?_
      refine w_iload rfl rfl ?_
      refine w_iconst rfl ⟨by decide, by decide⟩ ?_
      refine w_icmp rfl (And.intro (fun hc => ?_) (fun hc => ?_))
      · replace H := H.1 hc
        exact H
      · replace H := H.2 hc
        refine w_iload rfl rfl ?_
        refine w_if rfl (And.intro (fun hc => ?_) (fun hc => ?_))
        · replace H := H.1 hc
          have o7 := H.1
          replace H := H.2
          refine w_iinc rfl rfl rfl o7 ?_
          refine w_goto rfl ?_
          exact H
        · replace H := H.2 hc
          exact H
set_option maxHeartbeats 4000000 in
set_option maxRecDepth 100000 in
theorem r_Rewriter_addProducts_135 {d : Nat} {Q : cm_Q} {h : cm_H} {a0 : Nat} {a1 : Nat} {x2 : Int} {a3 : Nat} {z4 : Option cm_V} {x5 : Int} {x6 : Int} {x7 : Int} {x8 : Int} {z9 : Option cm_V} {z10 : Option cm_V}  (H : ((2 ≤ x2 → cw d cd_Rewriter_addProducts Q 148 [some (vR 8 a0), some (vR 2 a1), some (vI x2), some (vR 2 a3), z4, some (vI x5), some (vI x6), some (vI x7), some (vI x8), z9, z10] [] h) ∧ (x2 < 2 → ((x8 ≤ 0 → cw d cd_Rewriter_addProducts Q 148 [some (vR 8 a0), some (vR 2 a1), some (vI x2), some (vR 2 a3), z4, some (vI x5), some (vI x6), some (vI x7), some (vI x8), z9, z10] [] h) ∧ (0 < x8 → (cm_i (x5 + 1) ∧ cw d cd_Rewriter_addProducts Q 77 [some (vR 8 a0), some (vR 2 a1), some (vI x2), some (vR 2 a3), z4, some (vI (x5 + 1)), some (vI x6), some (vI x7), some (vI x8), z9, z10] [] h)))))) : cw d cd_Rewriter_addProducts Q 135 [some (vR 8 a0), some (vR 2 a1), some (vI x2), some (vR 2 a3), z4, some (vI x5), some (vI x6), some (vI x7), some (vI x8), z9, z10] [] h := by
  refine w_iload rfl rfl ?_
  refine w_iconst rfl ⟨by decide, by decide⟩ ?_
  refine w_icmp rfl (And.intro (fun hc => ?_) (fun hc => ?_))
  · replace H := H.1 hc
    exact H
  · replace H := H.2 hc
    refine w_iload rfl rfl ?_
    refine w_if rfl (And.intro (fun hc => ?_) (fun hc => ?_))
    · replace H := H.1 hc
      exact H
    · replace H := H.2 hc
      refine w_goto rfl ?_
      have o1 := H.1
      replace H := H.2
      refine w_iinc rfl rfl rfl o1 ?_
      refine w_goto rfl ?_
      exact H
set_option maxHeartbeats 4000000 in
set_option maxRecDepth 100000 in
theorem r_Rewriter_addProducts_148 {d : Nat} {Q : cm_Q} {h : cm_H} {a0 : Nat} {a1 : Nat} {x2 : Int} {a3 : Nat} {z4 : Option cm_V} {x5 : Int} {x6 : Int} {x7 : Int} {x8 : Int} {z9 : Option cm_V} {z10 : Option cm_V} (p_a0 : 0 < a0) (p_a3 : 0 < a3) (p_a1 : 0 < a1) (H : (cm_i ((ch_I h a3 2) * x5) ∧ (cU d m_Piece_put [vR 5 (ch_R h a0 15), vR 20 (ch_R h a3 7), vI ((ch_I h a3 2) * x5), vI (ch_I h a3 0)] h fun h2 => (cU d m_Rewriter_putSum [vR 8 a0, vR 2 a1] h2 fun h3 => (cU d m_Grade_takeParts [vR 2 a1, vR 20 (ch_R h3 a0 13), vI 0, vR 20 (ch_R h3 a0 12)] h3 fun h4 => (cI d m_Grade_insert [vR 2 a1, vR 20 (ch_R h4 a0 12)] h4 fun v6 h5 => ((v6 = 0 → (cm_i (x5 + 1) ∧ cw d cd_Rewriter_addProducts Q 77 [some (vR 8 a0), some (vR 2 a1), some (vI x2), some (vR 2 a3), z4, some (vI (x5 + 1)), some (vI x6), some (vI x7), some (vI x8), z9, z10] [] h5)) ∧ (¬ v6 = 0 → (cm_i ((ch_I h5 a1 6) - 1) ∧ (cm_i (x6 + 1) ∧ (0 < ((ch_R h5 a3 8)) ∧ ((0:Int) ≤ (x6 + 1) ∧ (x6 + 1) < ch_L h5 (ch_R h5 a3 8)) ∧ ((¬ x2 = 0 → cw d cd_Rewriter_addProducts Q 225 [some (vR 8 a0), some (vR 2 a1), some (vI x2), some (vR 2 a3), z4, some (vI x5), some (vI x6), some (vI x7), some (vI x8), some (vI ((ch_I h5 a1 6) - 1)), z10] [vI 0, vI (ch_I h5 (ch_R h5 a3 8) (x6 + 1))] h5) ∧ (x2 = 0 → cw d cd_Rewriter_addProducts Q 225 [some (vR 8 a0), some (vR 2 a1), some (vI x2), some (vR 2 a3), z4, some (vI x5), some (vI x6), some (vI x7), some (vI x8), some (vI ((ch_I h5 a1 6) - 1)), z10] [vI 1, vI (ch_I h5 (ch_R h5 a3 8) (x6 + 1))] h5))))))))))))) : cw d cd_Rewriter_addProducts Q 148 [some (vR 8 a0), some (vR 2 a1), some (vI x2), some (vR 2 a3), z4, some (vI x5), some (vI x6), some (vI x7), some (vI x8), z9, z10] [] h := by
  refine w_aload rfl rfl ?_
  refine w_getR 15 5 rfl rfl rfl rfl p_a0 ?_
  refine w_aload rfl rfl ?_
  refine w_getR 7 20 rfl rfl rfl rfl p_a3 ?_
  refine w_aload rfl rfl ?_
  refine w_getI 2 rfl rfl rfl p_a3 ?_
  refine w_iload rfl rfl ?_
  have o1 := H.1
  replace H := H.2
  refine w_imul rfl o1 ?_
  refine w_aload rfl rfl ?_
  refine w_getI 0 rfl rfl rfl p_a3 ?_
  refine w_callU rfl (fun _ => rfl) rfl (cU_mono H fun h2 H => ?_)
  refine w_aload rfl rfl ?_
  refine w_aload rfl rfl ?_
  refine w_callU rfl (fun _ => rfl) rfl (cU_mono H fun h3 H => ?_)
  refine w_aload rfl rfl ?_
  refine w_aload rfl rfl ?_
  refine w_getR 13 20 rfl rfl rfl rfl p_a0 ?_
  refine w_iconst rfl ⟨by decide, by decide⟩ ?_
  refine w_aload rfl rfl ?_
  refine w_getR 12 20 rfl rfl rfl rfl p_a0 ?_
  refine w_callU rfl (fun _ => rfl) rfl (cU_mono H fun h4 H => ?_)
  refine w_aload rfl rfl ?_
  refine w_aload rfl rfl ?_
  refine w_getR 12 20 rfl rfl rfl rfl p_a0 ?_
  refine w_callI rfl (fun _ => rfl) rfl (cI_mono H fun v6 h5 H => ?_)
  refine w_if rfl (And.intro (fun hc => ?_) (fun hc => ?_))
  · replace H := H.1 hc
    have o7 := H.1
    replace H := H.2
    refine w_iinc rfl rfl rfl o7 ?_
    refine w_goto rfl ?_
    exact H
  · replace H := H.2 hc
    refine w_aload rfl rfl ?_
    refine w_getI 6 rfl rfl rfl p_a1 ?_
    refine w_iconst rfl ⟨by decide, by decide⟩ ?_
    have o8 := H.1
    replace H := H.2
    refine w_isub rfl o8 ?_
    refine w_istore rfl rfl ?_
    refine w_aload rfl rfl ?_
    refine w_getR 8 20 rfl rfl rfl rfl p_a3 ?_
    refine w_iload rfl rfl ?_
    refine w_iconst rfl ⟨by decide, by decide⟩ ?_
    have o9 := H.1
    replace H := H.2
    refine w_iadd rfl o9 ?_
    have o10 := H.1
    replace H := H.2
    have o11 := H.1
    replace H := H.2
    refine w_iaload rfl o10 o11 ?_
    refine w_iload rfl rfl ?_
    refine w_if rfl (And.intro (fun hc => ?_) (fun hc => ?_))
    · replace H := H.1 hc
      refine w_iconst rfl ⟨by decide, by decide⟩ ?_
      exact H
    · replace H := H.2 hc
      refine w_iconst rfl ⟨by decide, by decide⟩ ?_
      refine w_goto rfl ?_
      exact H
set_option maxHeartbeats 4000000 in
set_option maxRecDepth 100000 in
theorem r_Rewriter_addProducts_225 {d : Nat} {Q : cm_Q} {h : cm_H} {a0 : Nat} {a1 : Nat} {x2 : Int} {a3 : Nat} {z4 : Option cm_V} {x5 : Int} {x6 : Int} {x7 : Int} {x8 : Int} {x9 : Int} {z10 : Option cm_V} {s0 : Int} {s1 : Int} (p_a3 : 0 < a3) (H : (cm_i (s1 + s0) ∧ (0 < ((ch_R h a3 8)) ∧ ((0:Int) ≤ x6 ∧ x6 < ch_L h (ch_R h a3 8)) ∧ ((¬ x2 = 1 → cw d cd_Rewriter_addProducts Q 252 [some (vR 8 a0), some (vR 2 a1), some (vI x2), some (vR 2 a3), z4, some (vI x5), some (vI x6), some (vI x7), some (vI x8), some (vI x9), some (vI (s1 + s0))] [vI 0, vI x7, vI (s1 + s0), vI (ch_I h (ch_R h a3 8) x6), vI x9, vR 2 a1] h) ∧ (x2 = 1 → cw d cd_Rewriter_addProducts Q 252 [some (vR 8 a0), some (vR 2 a1), some (vI x2), some (vR 2 a3), z4, some (vI x5), some (vI x6), some (vI x7), some (vI x8), some (vI x9), some (vI (s1 + s0))] [vI 1, vI x7, vI (s1 + s0), vI (ch_I h (ch_R h a3 8) x6), vI x9, vR 2 a1] h))))) : cw d cd_Rewriter_addProducts Q 225 [some (vR 8 a0), some (vR 2 a1), some (vI x2), some (vR 2 a3), z4, some (vI x5), some (vI x6), some (vI x7), some (vI x8), some (vI x9), z10] [vI s0, vI s1] h := by
  have o1 := H.1
  replace H := H.2
  refine w_iadd rfl o1 ?_
  refine w_istore rfl rfl ?_
  refine w_aload rfl rfl ?_
  refine w_iload rfl rfl ?_
  refine w_aload rfl rfl ?_
  refine w_getR 8 20 rfl rfl rfl rfl p_a3 ?_
  refine w_iload rfl rfl ?_
  have o2 := H.1
  replace H := H.2
  have o3 := H.1
  replace H := H.2
  refine w_iaload rfl o2 o3 ?_
  refine w_iload rfl rfl ?_
  refine w_iload rfl rfl ?_
  refine w_iload rfl rfl ?_
  refine w_iconst rfl ⟨by decide, by decide⟩ ?_
  refine w_icmp rfl (And.intro (fun hc => ?_) (fun hc => ?_))
  · replace H := H.1 hc
    refine w_iconst rfl ⟨by decide, by decide⟩ ?_
    exact H
  · replace H := H.2 hc
    refine w_iconst rfl ⟨by decide, by decide⟩ ?_
    refine w_goto rfl ?_
    exact H
set_option maxHeartbeats 4000000 in
set_option maxRecDepth 100000 in
theorem r_Rewriter_addProducts_252 {d : Nat} {Q : cm_Q} {h : cm_H} {a0 : Nat} {a1 : Nat} {x2 : Int} {a3 : Nat} {z4 : Option cm_V} {x5 : Int} {z6 : Option cm_V} {z7 : Option cm_V} {x8 : Int} {x9 : Int} {z10 : Option cm_V} {s0 : Int} {s1 : Int} {s2 : Int} {s3 : Int} {s4 : Int} {b5 : Nat}  (H : (cm_i (s1 + s0) ∧ ((¬ x2 = 2 → cw d cd_Rewriter_addProducts Q 265 [some (vR 8 a0), some (vR 2 a1), some (vI x2), some (vR 2 a3), z4, some (vI x5), z6, z7, some (vI x8), some (vI x9), z10] [vI 0, vI x8, vI (s1 + s0), vI s2, vI s3, vI s4, vR 2 b5] h) ∧ (x2 = 2 → cw d cd_Rewriter_addProducts Q 265 [some (vR 8 a0), some (vR 2 a1), some (vI x2), some (vR 2 a3), z4, some (vI x5), z6, z7, some (vI x8), some (vI x9), z10] [vI 1, vI x8, vI (s1 + s0), vI s2, vI s3, vI s4, vR 2 b5] h)))) : cw d cd_Rewriter_addProducts Q 252 [some (vR 8 a0), some (vR 2 a1), some (vI x2), some (vR 2 a3), z4, some (vI x5), z6, z7, some (vI x8), some (vI x9), z10] [vI s0, vI s1, vI s2, vI s3, vI s4, vR 2 b5] h := by
  have o1 := H.1
  replace H := H.2
  refine w_iadd rfl o1 ?_
  refine w_iload rfl rfl ?_
  refine w_iload rfl rfl ?_
  refine w_iconst rfl ⟨by decide, by decide⟩ ?_
  refine w_icmp rfl (And.intro (fun hc => ?_) (fun hc => ?_))
  · replace H := H.1 hc
    refine w_iconst rfl ⟨by decide, by decide⟩ ?_
    exact H
  · replace H := H.2 hc
    refine w_iconst rfl ⟨by decide, by decide⟩ ?_
    refine w_goto rfl ?_
    exact H
set_option maxHeartbeats 4000000 in
set_option maxRecDepth 100000 in
theorem r_Rewriter_addProducts_265 {d : Nat} {Q : cm_Q} {h : cm_H} {a0 : Nat} {a1 : Nat} {x2 : Int} {a3 : Nat} {z4 : Option cm_V} {x5 : Int} {z6 : Option cm_V} {z7 : Option cm_V} {z8 : Option cm_V} {x9 : Int} {z10 : Option cm_V} {s0 : Int} {s1 : Int} {s2 : Int} {s3 : Int} {s4 : Int} {s5 : Int} {b6 : Nat} (p_a0 : 0 < a0) (p_a1 : 0 < a1) (H : (cm_i (s1 + s0) ∧ (cU d m_Grade_label [vR 2 b6, vI s5, vI s4, vI s3, vI s2, vI (s1 + s0)] h fun h2 => (cm_i ((ch_I h2 a1 2) * x9) ∧ (0 < ((ch_R h2 a0 13)) ∧ 0 < ((ch_R h2 a1 7)) ∧ ((0:Int) ≤ 0 ∧ (0:Int) ≤ ((ch_I h2 a1 2) * x9) ∧ (0:Int) ≤ (ch_I h2 a1 2) ∧ 0 + (ch_I h2 a1 2) ≤ ch_L h2 (ch_R h2 a0 13) ∧ ((ch_I h2 a1 2) * x9) + (ch_I h2 a1 2) ≤ ch_L h2 (ch_R h2 a1 7)) ∧ (∀ h7 : cm_H, h7 = ch_cp h2 (ch_R h2 a0 13) 0 (ch_R h2 a1 7) ((ch_I h2 a1 2) * x9) (ch_I h2 a1 2) → (cm_i (x5 + 1) ∧ cw d cd_Rewriter_addProducts Q 77 [some (vR 8 a0), some (vR 2 a1), some (vI x2), some (vR 2 a3), z4, some (vI (x5 + 1)), z6, z7, z8, some (vI x9), z10] [] h7))))))) : cw d cd_Rewriter_addProducts Q 265 [some (vR 8 a0), some (vR 2 a1), some (vI x2), some (vR 2 a3), z4, some (vI x5), z6, z7, z8, some (vI x9), z10] [vI s0, vI s1, vI s2, vI s3, vI s4, vI s5, vR 2 b6] h := by
  have o1 := H.1
  replace H := H.2
  refine w_iadd rfl o1 ?_
  refine w_callU rfl (fun _ => rfl) rfl (cU_mono H fun h2 H => ?_)
  refine w_aload rfl rfl ?_
  refine w_getR 13 20 rfl rfl rfl rfl p_a0 ?_
  refine w_iconst rfl ⟨by decide, by decide⟩ ?_
  refine w_aload rfl rfl ?_
  refine w_getR 7 20 rfl rfl rfl rfl p_a1 ?_
  refine w_aload rfl rfl ?_
  refine w_getI 2 rfl rfl rfl p_a1 ?_
  refine w_iload rfl rfl ?_
  have o3 := H.1
  replace H := H.2
  refine w_imul rfl o3 ?_
  refine w_aload rfl rfl ?_
  refine w_getI 2 rfl rfl rfl p_a1 ?_
  have o4 := H.1
  replace H := H.2
  have o5 := H.1
  replace H := H.2
  have o6 := H.1
  replace H := H.2
  refine w_copy rfl rfl o4 o5 o6 (fun h7 eh7 => ?_)
  replace H := H h7 eh7
  have o8 := H.1
  replace H := H.2
  refine w_iinc rfl rfl rfl o8 ?_
  refine w_goto rfl ?_
  exact H
set_option maxHeartbeats 4000000 in
set_option maxRecDepth 100000 in
theorem r_Rewriter_addProducts {d : Nat} {Q : cm_Q} {h : cm_H} {a0 : Nat} {a1 : Nat} {x2 : Int} (p_a0 : 0 < a0) (p_a1 : 0 < a1) (H : (0 < ((ch_R h a0 0)) ∧ (0 < ((ch_R h a0 1)) ∧ (0 < ((ch_R h (ch_R h a0 1) 12)) ∧ ((0:Int) ≤ x2 ∧ x2 < ch_L h (ch_R h (ch_R h a0 1) 12)) ∧ (cm_i ((ch_I h a1 0) - (ch_I h (ch_R h (ch_R h a0 1) 12) x2)) ∧ (0 < ((ch_R h (ch_R h a0 0) 5)) ∧ ((0:Int) ≤ ((ch_I h a1 0) - (ch_I h (ch_R h (ch_R h a0 1) 12) x2)) ∧ ((ch_I h a1 0) - (ch_I h (ch_R h (ch_R h a0 1) 12) x2)) < ch_L h (ch_R h (ch_R h a0 0) 5)) ∧ ((0:Int) ≤ (ch_I h (ch_R h (ch_R h a0 1) 12) x2) ∧ (ch_I h (ch_R h (ch_R h a0 1) 12) x2) < ch_L h (ch_R h (ch_R h a0 0) 5)) ∧ (0 < ((ch_R h (ch_R h (ch_R h a0 0) 5) (ch_I h (ch_R h (ch_R h a0 1) 12) x2))) ∧ (0 < ((ch_R h (ch_R h a0 1) 13)) ∧ ((0:Int) ≤ x2 ∧ x2 < ch_L h (ch_R h (ch_R h a0 1) 13)) ∧ (cm_i ((ch_I h (ch_R h (ch_R h (ch_R h a0 0) 5) (ch_I h (ch_R h (ch_R h a0 1) 12) x2)) 2) * (ch_I h (ch_R h (ch_R h a0 1) 13) x2)) ∧ (cU d m_Piece_put [vR 5 (ch_R h a0 14), vR 20 (ch_R h (ch_R h (ch_R h (ch_R h a0 0) 5) (ch_I h (ch_R h (ch_R h a0 1) 12) x2)) 4), vI ((ch_I h (ch_R h (ch_R h (ch_R h a0 0) 5) (ch_I h (ch_R h (ch_R h a0 1) 12) x2)) 2) * (ch_I h (ch_R h (ch_R h a0 1) 13) x2)), vI (ch_I h (ch_R h (ch_R h (ch_R h a0 0) 5) (ch_I h (ch_R h (ch_R h a0 1) 12) x2)) 0)] h fun h13 => cw d cd_Rewriter_addProducts Q 77 [some (vR 8 a0), some (vR 2 a1), some (vI x2), some (vR 2 (ch_R h (ch_R h (ch_R h a0 0) 5) ((ch_I h a1 0) - (ch_I h (ch_R h (ch_R h a0 1) 12) x2)))), some (vR 2 (ch_R h (ch_R h (ch_R h a0 0) 5) (ch_I h (ch_R h (ch_R h a0 1) 12) x2))), some (vI 0), none, none, none, none, none] [] h13)))))))))) : cm_call (d + 1) m_Rewriter_addProducts [vR 8 a0, vR 2 a1, vI x2] h Q := by
  refine cm_call_in (C := cd_Rewriter_addProducts) (ls := [some (vR 8 a0), some (vR 2 a1), some (vI x2), none, none, none, none, none, none, none, none]) rfl rfl p_a0 rfl ?_
  refine w_aload rfl rfl ?_
  refine w_getR 0 0 rfl rfl rfl rfl p_a0 ?_
  have o1 := H.1
  replace H := H.2
  refine w_getR 5 24 rfl rfl rfl rfl o1 ?_
  refine w_aload rfl rfl ?_
  refine w_getI 0 rfl rfl rfl p_a1 ?_
  refine w_aload rfl rfl ?_
  refine w_getR 1 6 rfl rfl rfl rfl p_a0 ?_
  have o2 := H.1
  replace H := H.2
  refine w_getR 12 20 rfl rfl rfl rfl o2 ?_
  refine w_iload rfl rfl ?_
  have o3 := H.1
  replace H := H.2
  have o4 := H.1
  replace H := H.2
  refine w_iaload rfl o3 o4 ?_
  have o5 := H.1
  replace H := H.2
  refine w_isub rfl o5 ?_
  have o6 := H.1
  replace H := H.2
  have o7 := H.1
  replace H := H.2
  refine w_aaload rfl rfl rfl o6 o7 ?_
  refine w_astore rfl rfl ?_
  refine w_aload rfl rfl ?_
  refine w_getR 0 0 rfl rfl rfl rfl p_a0 ?_
  refine w_getR 5 24 rfl rfl rfl rfl o1 ?_
  refine w_aload rfl rfl ?_
  refine w_getR 1 6 rfl rfl rfl rfl p_a0 ?_
  refine w_getR 12 20 rfl rfl rfl rfl o2 ?_
  refine w_iload rfl rfl ?_
  refine w_iaload rfl o3 o4 ?_
  have o8 := H.1
  replace H := H.2
  refine w_aaload rfl rfl rfl o6 o8 ?_
  refine w_astore rfl rfl ?_
  refine w_aload rfl rfl ?_
  refine w_getR 14 5 rfl rfl rfl rfl p_a0 ?_
  refine w_aload rfl rfl ?_
  have o9 := H.1
  replace H := H.2
  refine w_getR 4 20 rfl rfl rfl rfl o9 ?_
  refine w_aload rfl rfl ?_
  refine w_getI 2 rfl rfl rfl o9 ?_
  refine w_aload rfl rfl ?_
  refine w_getR 1 6 rfl rfl rfl rfl p_a0 ?_
  refine w_getR 13 20 rfl rfl rfl rfl o2 ?_
  refine w_iload rfl rfl ?_
  have o10 := H.1
  replace H := H.2
  have o11 := H.1
  replace H := H.2
  refine w_iaload rfl o10 o11 ?_
  have o12 := H.1
  replace H := H.2
  refine w_imul rfl o12 ?_
  refine w_aload rfl rfl ?_
  refine w_getI 0 rfl rfl rfl o9 ?_
  refine w_callU rfl (fun _ => rfl) rfl (cU_mono H fun h13 H => ?_)
  refine w_iconst rfl ⟨by decide, by decide⟩ ?_
  refine w_istore rfl rfl ?_
  exact H
set_option maxHeartbeats 4000000 in
set_option maxRecDepth 100000 in
theorem r_Rewriter_putSum_30 {d : Nat} {Q : cm_Q} {h : cm_H} {a0 : Nat} {a1 : Nat} {x2 : Int} (p_a1 : 0 < a1) (p_a0 : 0 < a0) (H : (((ch_I h a1 2) ≤ x2 → Q none h) ∧ (x2 < (ch_I h a1 2) → (0 < ((ch_R h a0 13)) ∧ ((0:Int) ≤ x2 ∧ x2 < ch_L h (ch_R h a0 13)) ∧ (∀ h3 : cm_H, h3 = ch_u h (ch_R h a0 13) x2 (Int.tmod (ch_I h (ch_R h a0 13) x2) 2521) → (cm_i (x2 + 1) ∧ cw d cd_Rewriter_putSum Q 30 [some (vR 8 a0), some (vR 2 a1), some (vI (x2 + 1))] [] h3)))))) : cw d cd_Rewriter_putSum Q 30 [some (vR 8 a0), some (vR 2 a1), some (vI x2)] [] h := by
  refine w_iload rfl rfl ?_
  refine w_aload rfl rfl ?_
  refine w_getI 2 rfl rfl rfl p_a1 ?_
  refine w_icmp rfl (And.intro (fun hc => ?_) (fun hc => ?_))
  · replace H := H.1 hc
    exact w_return rfl H
  · replace H := H.2 hc
    refine w_aload rfl rfl ?_
    refine w_getR 13 20 rfl rfl rfl rfl p_a0 ?_
    refine w_iload rfl rfl ?_
    refine w_dup2 rfl rfl ?_
    have o1 := H.1
    replace H := H.2
    have o2 := H.1
    replace H := H.2
    refine w_iaload rfl o1 o2 ?_
    refine w_iconst rfl ⟨by decide, by decide⟩ ?_
    refine w_irem rfl (by decide) ?_
    refine w_iastore rfl o1 o2 (fun h3 eh3 => ?_)
    replace H := H h3 eh3
    have o4 := H.1
    replace H := H.2
    refine w_iinc rfl rfl rfl o4 ?_
    refine w_goto rfl ?_
    exact H
set_option maxHeartbeats 4000000 in
set_option maxRecDepth 100000 in
theorem r_Rewriter_putSum {d : Nat} {Q : cm_Q} {h : cm_H} {a0 : Nat} {a1 : Nat} (p_a0 : 0 < a0) (H : (cU d m_Arr_fill [vR 20 (ch_R h a0 13), vI 0] h fun h1 => (cU d m_Shape_addProduct [vR 9 (ch_R h1 a0 2), vR 5 (ch_R h1 a0 14), vR 5 (ch_R h1 a0 15), vR 20 (ch_R h1 a0 13), vI 0] h1 fun h2 => cw d cd_Rewriter_putSum Q 30 [some (vR 8 a0), some (vR 2 a1), some (vI 0)] [] h2))) : cm_call (d + 1) m_Rewriter_putSum [vR 8 a0, vR 2 a1] h Q := by
  refine cm_call_in (C := cd_Rewriter_putSum) (ls := [some (vR 8 a0), some (vR 2 a1), none]) rfl rfl p_a0 rfl ?_
  refine w_aload rfl rfl ?_
  refine w_getR 13 20 rfl rfl rfl rfl p_a0 ?_
  refine w_iconst rfl ⟨by decide, by decide⟩ ?_
  refine w_callU rfl (fun _ => rfl) rfl (cU_mono H fun h1 H => ?_)
  refine w_aload rfl rfl ?_
  refine w_getR 2 9 rfl rfl rfl rfl p_a0 ?_
  refine w_aload rfl rfl ?_
  refine w_getR 14 5 rfl rfl rfl rfl p_a0 ?_
  refine w_aload rfl rfl ?_
  refine w_getR 15 5 rfl rfl rfl rfl p_a0 ?_
  refine w_aload rfl rfl ?_
  refine w_getR 13 20 rfl rfl rfl rfl p_a0 ?_
  refine w_iconst rfl ⟨by decide, by decide⟩ ?_
  refine w_callU rfl (fun _ => rfl) rfl (cU_mono H fun h2 H => ?_)
  refine w_iconst rfl ⟨by decide, by decide⟩ ?_
  refine w_istore rfl rfl ?_
  exact H
set_option maxHeartbeats 4000000 in
set_option maxRecDepth 100000 in
theorem r_Rewriter_addSecondaries_2 {d : Nat} {Q : cm_Q} {h : cm_H} {a0 : Nat} {a1 : Nat} {x2 : Int} {z3 : Option cm_V} {z4 : Option cm_V} (p_a1 : 0 < a1) (p_a0 : 0 < a0) (H : (((ch_I h a1 3) ≤ x2 → Q none h) ∧ (x2 < (ch_I h a1 3) → (((ch_I h a1 3) ≤ (ch_I h a1 6) → Q none h) ∧ ((ch_I h a1 6) < (ch_I h a1 3) → (cm_i ((ch_I h a1 2) * x2) ∧ (cU d m_Grade_takeParts [vR 2 a1, vR 20 (ch_R h a1 4), vI ((ch_I h a1 2) * x2), vR 20 (ch_R h a0 12)] h fun h2 => ((216 ≤ (ch_I h2 a0 3) → (cm_i (x2 + 1) ∧ cw d cd_Rewriter_addSecondaries Q 2 [some (vR 8 a0), some (vR 2 a1), some (vI (x2 + 1)), some (vI ((ch_I h a1 2) * x2)), z4] [] h2)) ∧ ((ch_I h2 a0 3) < 216 → (cI d m_Grade_insert [vR 2 a1, vR 20 (ch_R h2 a0 12)] h2 fun v5 h4 => ((v5 = 0 → (cm_i (x2 + 1) ∧ cw d cd_Rewriter_addSecondaries Q 2 [some (vR 8 a0), some (vR 2 a1), some (vI (x2 + 1)), some (vI ((ch_I h a1 2) * x2)), z4] [] h4)) ∧ (¬ v5 = 0 → (cm_i ((ch_I h4 a1 6) - 1) ∧ (cU d m_Grade_label [vR 2 a1, vI ((ch_I h4 a1 6) - 1), vI (ch_I h4 a0 3), vI 0, vI 0, vI 0] h4 fun h8 => (cm_i ((ch_I h8 a1 2) * ((ch_I h4 a1 6) - 1)) ∧ (0 < ((ch_R h8 a1 4)) ∧ 0 < ((ch_R h8 a1 7)) ∧ ((0:Int) ≤ ((ch_I h a1 2) * x2) ∧ (0:Int) ≤ ((ch_I h8 a1 2) * ((ch_I h4 a1 6) - 1)) ∧ (0:Int) ≤ (ch_I h8 a1 2) ∧ ((ch_I h a1 2) * x2) + (ch_I h8 a1 2) ≤ ch_L h8 (ch_R h8 a1 4) ∧ ((ch_I h8 a1 2) * ((ch_I h4 a1 6) - 1)) + (ch_I h8 a1 2) ≤ ch_L h8 (ch_R h8 a1 7)) ∧ (∀ h13 : cm_H, h13 = ch_cp h8 (ch_R h8 a1 4) ((ch_I h a1 2) * x2) (ch_R h8 a1 7) ((ch_I h8 a1 2) * ((ch_I h4 a1 6) - 1)) (ch_I h8 a1 2) → (0 < ((ch_R h13 a0 5)) ∧ ((0:Int) ≤ (ch_I h13 a0 3) ∧ (ch_I h13 a0 3) < ch_L h13 (ch_R h13 a0 5)) ∧ (∀ h16 : cm_H, h16 = ch_u h13 (ch_R h13 a0 5) (ch_I h13 a0 3) (ch_I h13 a1 0) → (0 < ((ch_R h16 a0 6)) ∧ ((0:Int) ≤ (ch_I h16 a0 3) ∧ (ch_I h16 a0 3) < ch_L h16 (ch_R h16 a0 6)) ∧ (∀ h19 : cm_H, h19 = ch_u h16 (ch_R h16 a0 6) (ch_I h16 a0 3) x2 → (cm_i ((ch_I h19 a0 3) + 1) ∧ (∀ h21 : cm_H, h21 = ch_u h19 a0 3 ((ch_I h19 a0 3) + 1) → (cm_i (x2 + 1) ∧ cw d cd_Rewriter_addSecondaries Q 2 [some (vR 8 a0), some (vR 2 a1), some (vI (x2 + 1)), some (vI ((ch_I h a1 2) * x2)), some (vI ((ch_I h4 a1 6) - 1))] [] h21)))))))))))))))))))))))) : cw d cd_Rewriter_addSecondaries Q 2 [some (vR 8 a0), some (vR 2 a1), some (vI x2), z3, z4] [] h := by
  refine w_iload rfl rfl ?_
  refine w_aload rfl rfl ?_
  refine w_getI 3 rfl rfl rfl p_a1 ?_
  refine w_icmp rfl (And.intro (fun hc => ?_) (fun hc => ?_))
  · replace H := H.1 hc
    exact w_return rfl H
  · replace H := H.2 hc
    refine w_aload rfl rfl ?_
    refine w_getI 6 rfl rfl rfl p_a1 ?_
    refine w_aload rfl rfl ?_
    refine w_getI 3 rfl rfl rfl p_a1 ?_
    refine w_icmp rfl (And.intro (fun hc => ?_) (fun hc => ?_))
    · replace H := H.1 hc
      exact w_return rfl H
    · replace H := H.2 hc
      refine w_aload rfl rfl ?_
      refine w_getI 2 rfl rfl rfl p_a1 ?_
      refine w_iload rfl rfl ?_
      have o1 := H.1
      replace H := H.2
      refine w_imul rfl o1 ?_
      refine w_istore rfl rfl ?_
      refine w_aload rfl rfl ?_
      refine w_aload rfl rfl ?_
      refine w_getR 4 20 rfl rfl rfl rfl p_a1 ?_
      refine w_iload rfl rfl ?_
      refine w_aload rfl rfl ?_
      refine w_getR 12 20 rfl rfl rfl rfl p_a0 ?_
      refine w_callU rfl (fun _ => rfl) rfl (cU_mono H fun h2 H => ?_)
      refine w_aload rfl rfl ?_
      refine w_getI 3 rfl rfl rfl p_a0 ?_
      refine w_iconst rfl ⟨by decide, by decide⟩ ?_
      refine w_icmp rfl (And.intro (fun hc => ?_) (fun hc => ?_))
      · replace H := H.1 hc
        have o3 := H.1
        replace H := H.2
        refine w_iinc rfl rfl rfl o3 ?_
        refine w_goto rfl ?_
        exact H
      · replace H := H.2 hc
        refine w_aload rfl rfl ?_
        refine w_aload rfl rfl ?_
        refine w_getR 12 20 rfl rfl rfl rfl p_a0 ?_
        refine w_callI rfl (fun _ => rfl) rfl (cI_mono H fun v5 h4 H => ?_)
        refine w_if rfl (And.intro (fun hc => ?_) (fun hc => ?_))
        · replace H := H.1 hc
          have o6 := H.1
          replace H := H.2
          refine w_iinc rfl rfl rfl o6 ?_
          refine w_goto rfl ?_
          exact H
        · replace H := H.2 hc
          refine w_aload rfl rfl ?_
          refine w_getI 6 rfl rfl rfl p_a1 ?_
          refine w_iconst rfl ⟨by decide, by decide⟩ ?_
          have o7 := H.1
          replace H := H.2
          refine w_isub rfl o7 ?_
          refine w_istore rfl rfl ?_
          refine w_aload rfl rfl ?_
          refine w_iload rfl rfl ?_
          refine w_aload rfl rfl ?_
          refine w_getI 3 rfl rfl rfl p_a0 ?_
          refine w_iconst rfl ⟨by decide, by decide⟩ ?_
          refine w_iconst rfl ⟨by decide, by decide⟩ ?_
          refine w_iconst rfl ⟨by decide, by decide⟩ ?_
          refine w_callU rfl (fun _ => rfl) rfl (cU_mono H fun h8 H => ?_)
          refine w_aload rfl rfl ?_
          refine w_getR 4 20 rfl rfl rfl rfl p_a1 ?_
          refine w_iload rfl rfl ?_
          refine w_aload rfl rfl ?_
          refine w_getR 7 20 rfl rfl rfl rfl p_a1 ?_
          refine w_aload rfl rfl ?_
          refine w_getI 2 rfl rfl rfl p_a1 ?_
          refine w_iload rfl rfl ?_
          have o9 := H.1
          replace H := H.2
          refine w_imul rfl o9 ?_
          refine w_aload rfl rfl ?_
          refine w_getI 2 rfl rfl rfl p_a1 ?_
          have o10 := H.1
          replace H := H.2
          have o11 := H.1
          replace H := H.2
          have o12 := H.1
          replace H := H.2
          refine w_copy rfl rfl o10 o11 o12 (fun h13 eh13 => ?_)
          replace H := H h13 eh13
          refine w_aload rfl rfl ?_
          refine w_getR 5 20 rfl rfl rfl rfl p_a0 ?_
          refine w_aload rfl rfl ?_
          refine w_getI 3 rfl rfl rfl p_a0 ?_
          refine w_aload rfl rfl ?_
          refine w_getI 0 rfl rfl rfl p_a1 ?_
          have o14 := H.1
          replace H := H.2
          have o15 := H.1
          replace H := H.2
          refine w_iastore rfl o14 o15 (fun h16 eh16 => ?_)
          replace H := H h16 eh16
          refine w_aload rfl rfl ?_
          refine w_getR 6 20 rfl rfl rfl rfl p_a0 ?_
          refine w_aload rfl rfl ?_
          refine w_getI 3 rfl rfl rfl p_a0 ?_
          refine w_iload rfl rfl ?_
          have o17 := H.1
          replace H := H.2
          have o18 := H.1
          replace H := H.2
          refine w_iastore rfl o17 o18 (fun h19 eh19 => ?_)
          replace H := H h19 eh19
          refine w_aload rfl rfl ?_
          refine w_dup rfl rfl ?_
          refine w_getI 3 rfl rfl rfl p_a0 ?_
          refine w_iconst rfl ⟨by decide, by decide⟩ ?_
          have o20 := H.1
          replace H := H.2
          refine w_iadd rfl o20 ?_
          refine w_putI 3 rfl rfl rfl p_a0 (fun h21 eh21 => ?_)
          replace H := H h21 eh21
          have o22 := H.1
          replace H := H.2
          refine w_iinc rfl rfl rfl o22 ?_
          refine w_goto rfl ?_
          exact H
set_option maxHeartbeats 4000000 in
set_option maxRecDepth 100000 in
theorem r_Rewriter_addSecondaries {d : Nat} {Q : cm_Q} {h : cm_H} {a0 : Nat} {a1 : Nat} (p_a0 : 0 < a0) (H : cw d cd_Rewriter_addSecondaries Q 2 [some (vR 8 a0), some (vR 2 a1), some (vI 0), none, none] [] h) : cm_call (d + 1) m_Rewriter_addSecondaries [vR 8 a0, vR 2 a1] h Q := by
  refine cm_call_in (C := cd_Rewriter_addSecondaries) (ls := [some (vR 8 a0), some (vR 2 a1), none, none, none]) rfl rfl p_a0 rfl ?_
  refine w_iconst rfl ⟨by decide, by decide⟩ ?_
  refine w_istore rfl rfl ?_
  exact H
set_option maxHeartbeats 4000000 in
set_option maxRecDepth 100000 in
theorem r_Rewriter_tell_10 {d : Nat} {Q : cm_Q} {h : cm_H} {a0 : Nat} {a1 : Nat} {x2 : Int} {z3 : Option cm_V} (p_a0 : 0 < a0) (H : (((ch_I h a0 4) < x2 → (cI d m_Shape_termsOf [vR 9 (ch_R h a0 2), vR 20 (ch_R h a0 8)] h fun v2 h1 => (∀ h3 : cm_H, h3 = ch_u h1 a0 7 v2 → Q none h3))) ∧ (x2 ≤ (ch_I h a0 4) → (cI d m_Shape_isZero [vR 9 (ch_R h a0 2), vR 20 a1, vI x2] h fun v5 h4 => ((¬ v5 = 0 → (cm_i (x2 + 1) ∧ cw d cd_Rewriter_tell Q 10 [some (vR 8 a0), some (vR 20 a1), some (vI (x2 + 1)), z3] [] h4)) ∧ (v5 = 0 → (0 < ((ch_R h4 a0 0)) ∧ (0 < ((ch_R h4 (ch_R h4 a0 0) 5)) ∧ ((0:Int) ≤ x2 ∧ x2 < ch_L h4 (ch_R h4 (ch_R h4 a0 0) 5)) ∧ (0 < ((ch_R h4 a0 2)) ∧ (0 < ((ch_R h4 (ch_R h4 a0 2) 3)) ∧ ((0:Int) ≤ x2 ∧ x2 < ch_L h4 (ch_R h4 (ch_R h4 a0 2) 3)) ∧ (cU d m_Grade_takeParts [vR 2 (ch_R h4 (ch_R h4 (ch_R h4 a0 0) 5) x2), vR 20 a1, vI (ch_I h4 (ch_R h4 (ch_R h4 a0 2) 3) x2), vR 20 (ch_R h4 a0 12)] h4 fun h13 => (cU d m_Grade_solve [vR 2 (ch_R h4 (ch_R h4 (ch_R h4 a0 0) 5) x2), vR 20 (ch_R h13 a0 12)] h13 fun h14 => (0 < ((ch_R h14 a0 2)) ∧ (0 < ((ch_R h14 (ch_R h14 a0 2) 3)) ∧ ((0:Int) ≤ x2 ∧ x2 < ch_L h14 (ch_R h14 (ch_R h14 a0 2) 3)) ∧ (0 < ((ch_R h4 (ch_R h4 (ch_R h4 a0 0) 5) x2)) ∧ (0 < ((ch_R h14 a0 12)) ∧ 0 < ((ch_R h14 a0 8)) ∧ ((0:Int) ≤ 0 ∧ (0:Int) ≤ (ch_I h14 (ch_R h14 (ch_R h14 a0 2) 3) x2) ∧ (0:Int) ≤ (ch_I h14 (ch_R h4 (ch_R h4 (ch_R h4 a0 0) 5) x2) 3) ∧ 0 + (ch_I h14 (ch_R h4 (ch_R h4 (ch_R h4 a0 0) 5) x2) 3) ≤ ch_L h14 (ch_R h14 a0 12) ∧ (ch_I h14 (ch_R h14 (ch_R h14 a0 2) 3) x2) + (ch_I h14 (ch_R h4 (ch_R h4 (ch_R h4 a0 0) 5) x2) 3) ≤ ch_L h14 (ch_R h14 a0 8)) ∧ (∀ h22 : cm_H, h22 = ch_cp h14 (ch_R h14 a0 12) 0 (ch_R h14 a0 8) (ch_I h14 (ch_R h14 (ch_R h14 a0 2) 3) x2) (ch_I h14 (ch_R h4 (ch_R h4 (ch_R h4 a0 0) 5) x2) 3) → (cm_i (x2 + 1) ∧ cw d cd_Rewriter_tell Q 10 [some (vR 8 a0), some (vR 20 a1), some (vI (x2 + 1)), some (vR 2 (ch_R h4 (ch_R h4 (ch_R h4 a0 0) 5) x2))] [] h22)))))))))))))))))) : cw d cd_Rewriter_tell Q 10 [some (vR 8 a0), some (vR 20 a1), some (vI x2), z3] [] h := by
  refine w_iload rfl rfl ?_
  refine w_aload rfl rfl ?_
  refine w_getI 4 rfl rfl rfl p_a0 ?_
  refine w_icmp rfl (And.intro (fun hc => ?_) (fun hc => ?_))
  · replace H := H.1 hc
    refine w_aload rfl rfl ?_
    refine w_aload rfl rfl ?_
    refine w_getR 2 9 rfl rfl rfl rfl p_a0 ?_
    refine w_aload rfl rfl ?_
    refine w_getR 8 20 rfl rfl rfl rfl p_a0 ?_
    refine w_callI rfl (fun _ => rfl) rfl (cI_mono H fun v2 h1 H => ?_)
    refine w_putI 7 rfl rfl rfl p_a0 (fun h3 eh3 => ?_)
    replace H := H h3 eh3
    exact w_return rfl H
  · replace H := H.2 hc
    refine w_aload rfl rfl ?_
    refine w_getR 2 9 rfl rfl rfl rfl p_a0 ?_
    refine w_aload rfl rfl ?_
    refine w_iload rfl rfl ?_
    refine w_callI rfl (fun _ => rfl) rfl (cI_mono H fun v5 h4 H => ?_)
    refine w_if rfl (And.intro (fun hc => ?_) (fun hc => ?_))
    · replace H := H.1 hc
      have o6 := H.1
      replace H := H.2
      refine w_iinc rfl rfl rfl o6 ?_
      refine w_goto rfl ?_
      exact H
    · replace H := H.2 hc
      refine w_aload rfl rfl ?_
      refine w_getR 0 0 rfl rfl rfl rfl p_a0 ?_
      have o7 := H.1
      replace H := H.2
      refine w_getR 5 24 rfl rfl rfl rfl o7 ?_
      refine w_iload rfl rfl ?_
      have o8 := H.1
      replace H := H.2
      have o9 := H.1
      replace H := H.2
      refine w_aaload rfl rfl rfl o8 o9 ?_
      refine w_astore rfl rfl ?_
      refine w_aload rfl rfl ?_
      refine w_aload rfl rfl ?_
      refine w_aload rfl rfl ?_
      refine w_getR 2 9 rfl rfl rfl rfl p_a0 ?_
      have o10 := H.1
      replace H := H.2
      refine w_getR 3 20 rfl rfl rfl rfl o10 ?_
      refine w_iload rfl rfl ?_
      have o11 := H.1
      replace H := H.2
      have o12 := H.1
      replace H := H.2
      refine w_iaload rfl o11 o12 ?_
      refine w_aload rfl rfl ?_
      refine w_getR 12 20 rfl rfl rfl rfl p_a0 ?_
      refine w_callU rfl (fun _ => rfl) rfl (cU_mono H fun h13 H => ?_)
      refine w_aload rfl rfl ?_
      refine w_aload rfl rfl ?_
      refine w_getR 12 20 rfl rfl rfl rfl p_a0 ?_
      refine w_callU rfl (fun _ => rfl) rfl (cU_mono H fun h14 H => ?_)
      refine w_aload rfl rfl ?_
      refine w_getR 12 20 rfl rfl rfl rfl p_a0 ?_
      refine w_iconst rfl ⟨by decide, by decide⟩ ?_
      refine w_aload rfl rfl ?_
      refine w_getR 8 20 rfl rfl rfl rfl p_a0 ?_
      refine w_aload rfl rfl ?_
      refine w_getR 2 9 rfl rfl rfl rfl p_a0 ?_
      have o15 := H.1
      replace H := H.2
      refine w_getR 3 20 rfl rfl rfl rfl o15 ?_
      refine w_iload rfl rfl ?_
      have o16 := H.1
      replace H := H.2
      have o17 := H.1
      replace H := H.2
      refine w_iaload rfl o16 o17 ?_
      refine w_aload rfl rfl ?_
      have o18 := H.1
      replace H := H.2
      refine w_getI 3 rfl rfl rfl o18 ?_
      have o19 := H.1
      replace H := H.2
      have o20 := H.1
      replace H := H.2
      have o21 := H.1
      replace H := H.2
      refine w_copy rfl rfl o19 o20 o21 (fun h22 eh22 => ?_)
      replace H := H h22 eh22
      have o23 := H.1
      replace H := H.2
      refine w_iinc rfl rfl rfl o23 ?_
      refine w_goto rfl ?_
      exact H
set_option maxHeartbeats 4000000 in
set_option maxRecDepth 100000 in
theorem r_Rewriter_tell {d : Nat} {Q : cm_Q} {h : cm_H} {a0 : Nat} {a1 : Nat} (p_a0 : 0 < a0) (H : (cU d m_Arr_fill [vR 20 (ch_R h a0 8), vI 0] h fun h1 => cw d cd_Rewriter_tell Q 10 [some (vR 8 a0), some (vR 20 a1), some (vI 0), none] [] h1)) : cm_call (d + 1) m_Rewriter_tell [vR 8 a0, vR 20 a1] h Q := by
  refine cm_call_in (C := cd_Rewriter_tell) (ls := [some (vR 8 a0), some (vR 20 a1), none, none]) rfl rfl p_a0 rfl ?_
  refine w_aload rfl rfl ?_
  refine w_getR 8 20 rfl rfl rfl rfl p_a0 ?_
  refine w_iconst rfl ⟨by decide, by decide⟩ ?_
  refine w_callU rfl (fun _ => rfl) rfl (cU_mono H fun h1 H => ?_)
  refine w_iconst rfl ⟨by decide, by decide⟩ ?_
  refine w_istore rfl rfl ?_
  exact H
set_option maxHeartbeats 4000000 in
set_option maxRecDepth 100000 in
theorem r_Rewriter_relate_17 {d : Nat} {Q : cm_Q} {h : cm_H} {a0 : Nat} {x1 : Int} {x2 : Int} {z3 : Option cm_V} {z4 : Option cm_V} {z5 : Option cm_V} (p_a0 : 0 < a0) (H : (0 < ((ch_R h a0 0)) ∧ (0 < ((ch_R h a0 5)) ∧ ((0:Int) ≤ x1 ∧ x1 < ch_L h (ch_R h a0 5)) ∧ (0 < ((ch_R h (ch_R h a0 0) 5)) ∧ ((0:Int) ≤ (ch_I h (ch_R h a0 5) x1) ∧ (ch_I h (ch_R h a0 5) x1) < ch_L h (ch_R h (ch_R h a0 0) 5)) ∧ ((0:Int) ≤ x2 ∧ x2 < ch_L h (ch_R h a0 5)) ∧ ((0:Int) ≤ (ch_I h (ch_R h a0 5) x2) ∧ (ch_I h (ch_R h a0 5) x2) < ch_L h (ch_R h (ch_R h a0 0) 5)) ∧ (cm_i ((ch_I h (ch_R h a0 5) x1) + (ch_I h (ch_R h a0 5) x2)) ∧ ((0:Int) ≤ ((ch_I h (ch_R h a0 5) x1) + (ch_I h (ch_R h a0 5) x2)) ∧ ((ch_I h (ch_R h a0 5) x1) + (ch_I h (ch_R h a0 5) x2)) < ch_L h (ch_R h (ch_R h a0 0) 5)) ∧ (0 < ((ch_R h (ch_R h (ch_R h a0 0) 5) (ch_I h (ch_R h a0 5) x1))) ∧ (0 < ((ch_R h a0 6)) ∧ ((0:Int) ≤ x1 ∧ x1 < ch_L h (ch_R h a0 6)) ∧ (cm_i ((ch_I h (ch_R h (ch_R h (ch_R h a0 0) 5) (ch_I h (ch_R h a0 5) x1)) 2) * (ch_I h (ch_R h a0 6) x1)) ∧ (cU d m_Piece_put [vR 5 (ch_R h a0 14), vR 20 (ch_R h (ch_R h (ch_R h (ch_R h a0 0) 5) (ch_I h (ch_R h a0 5) x1)) 4), vI ((ch_I h (ch_R h (ch_R h (ch_R h a0 0) 5) (ch_I h (ch_R h a0 5) x1)) 2) * (ch_I h (ch_R h a0 6) x1)), vI (ch_I h (ch_R h (ch_R h (ch_R h a0 0) 5) (ch_I h (ch_R h a0 5) x1)) 0)] h fun h14 => (0 < ((ch_R h (ch_R h (ch_R h a0 0) 5) (ch_I h (ch_R h a0 5) x2))) ∧ (0 < ((ch_R h14 a0 6)) ∧ ((0:Int) ≤ x2 ∧ x2 < ch_L h14 (ch_R h14 a0 6)) ∧ (cm_i ((ch_I h14 (ch_R h (ch_R h (ch_R h a0 0) 5) (ch_I h (ch_R h a0 5) x2)) 2) * (ch_I h14 (ch_R h14 a0 6) x2)) ∧ (cU d m_Piece_put [vR 5 (ch_R h14 a0 15), vR 20 (ch_R h14 (ch_R h (ch_R h (ch_R h a0 0) 5) (ch_I h (ch_R h a0 5) x2)) 4), vI ((ch_I h14 (ch_R h (ch_R h (ch_R h a0 0) 5) (ch_I h (ch_R h a0 5) x2)) 2) * (ch_I h14 (ch_R h14 a0 6) x2)), vI (ch_I h14 (ch_R h (ch_R h (ch_R h a0 0) 5) (ch_I h (ch_R h a0 5) x2)) 0)] h14 fun h19 => (cU d m_Rewriter_putSum [vR 8 a0, vR 2 (ch_R h (ch_R h (ch_R h a0 0) 5) ((ch_I h (ch_R h a0 5) x1) + (ch_I h (ch_R h a0 5) x2)))] h19 fun h20 => (cU d m_Grade_takeParts [vR 2 (ch_R h (ch_R h (ch_R h a0 0) 5) ((ch_I h (ch_R h a0 5) x1) + (ch_I h (ch_R h a0 5) x2))), vR 20 (ch_R h20 a0 13), vI 0, vR 20 (ch_R h20 a0 12)] h20 fun h21 => (cU d m_Grade_solve [vR 2 (ch_R h (ch_R h (ch_R h a0 0) 5) ((ch_I h (ch_R h a0 5) x1) + (ch_I h (ch_R h a0 5) x2))), vR 20 (ch_R h21 a0 12)] h21 fun h22 => (cU d m_Arr_fill [vR 20 (ch_R h22 a0 11), vI 0] h22 fun h23 => (0 < ((ch_R h (ch_R h (ch_R h a0 0) 5) ((ch_I h (ch_R h a0 5) x1) + (ch_I h (ch_R h a0 5) x2)))) ∧ (0 < ((ch_R h23 a0 12)) ∧ 0 < ((ch_R h23 a0 11)) ∧ ((0:Int) ≤ 0 ∧ (0:Int) ≤ 0 ∧ (0:Int) ≤ (ch_I h23 (ch_R h (ch_R h (ch_R h a0 0) 5) ((ch_I h (ch_R h a0 5) x1) + (ch_I h (ch_R h a0 5) x2))) 3) ∧ 0 + (ch_I h23 (ch_R h (ch_R h (ch_R h a0 0) 5) ((ch_I h (ch_R h a0 5) x1) + (ch_I h (ch_R h a0 5) x2))) 3) ≤ ch_L h23 (ch_R h23 a0 12) ∧ 0 + (ch_I h23 (ch_R h (ch_R h (ch_R h a0 0) 5) ((ch_I h (ch_R h a0 5) x1) + (ch_I h (ch_R h a0 5) x2))) 3) ≤ ch_L h23 (ch_R h23 a0 11)) ∧ (∀ h28 : cm_H, h28 = ch_cp h23 (ch_R h23 a0 12) 0 (ch_R h23 a0 11) 0 (ch_I h23 (ch_R h (ch_R h (ch_R h a0 0) 5) ((ch_I h (ch_R h a0 5) x1) + (ch_I h (ch_R h a0 5) x2))) 3) → (∀ h29 : cm_H, h29 = ch_u h28 a0 9 x1 → (∀ h30 : cm_H, h30 = ch_u h29 a0 10 x2 → Q none h30)))))))))))))))))))))) : cw d cd_Rewriter_relate Q 17 [some (vR 8 a0), some (vI x1), some (vI x2), z3, z4, z5] [] h := by
  refine w_aload rfl rfl ?_
  refine w_getR 0 0 rfl rfl rfl rfl p_a0 ?_
  have o1 := H.1
  replace H := H.2
  refine w_getR 5 24 rfl rfl rfl rfl o1 ?_
  refine w_aload rfl rfl ?_
  refine w_getR 5 20 rfl rfl rfl rfl p_a0 ?_
  refine w_iload rfl rfl ?_
  have o2 := H.1
  replace H := H.2
  have o3 := H.1
  replace H := H.2
  refine w_iaload rfl o2 o3 ?_
  have o4 := H.1
  replace H := H.2
  have o5 := H.1
  replace H := H.2
  refine w_aaload rfl rfl rfl o4 o5 ?_
  refine w_astore rfl rfl ?_
  refine w_aload rfl rfl ?_
  refine w_getR 0 0 rfl rfl rfl rfl p_a0 ?_
  refine w_getR 5 24 rfl rfl rfl rfl o1 ?_
  refine w_aload rfl rfl ?_
  refine w_getR 5 20 rfl rfl rfl rfl p_a0 ?_
  refine w_iload rfl rfl ?_
  have o6 := H.1
  replace H := H.2
  refine w_iaload rfl o2 o6 ?_
  have o7 := H.1
  replace H := H.2
  refine w_aaload rfl rfl rfl o4 o7 ?_
  refine w_astore rfl rfl ?_
  refine w_aload rfl rfl ?_
  refine w_getR 0 0 rfl rfl rfl rfl p_a0 ?_
  refine w_getR 5 24 rfl rfl rfl rfl o1 ?_
  refine w_aload rfl rfl ?_
  refine w_getR 5 20 rfl rfl rfl rfl p_a0 ?_
  refine w_iload rfl rfl ?_
  refine w_iaload rfl o2 o3 ?_
  refine w_aload rfl rfl ?_
  refine w_getR 5 20 rfl rfl rfl rfl p_a0 ?_
  refine w_iload rfl rfl ?_
  refine w_iaload rfl o2 o6 ?_
  have o8 := H.1
  replace H := H.2
  refine w_iadd rfl o8 ?_
  have o9 := H.1
  replace H := H.2
  refine w_aaload rfl rfl rfl o4 o9 ?_
  refine w_astore rfl rfl ?_
  refine w_aload rfl rfl ?_
  refine w_getR 14 5 rfl rfl rfl rfl p_a0 ?_
  refine w_aload rfl rfl ?_
  have o10 := H.1
  replace H := H.2
  refine w_getR 4 20 rfl rfl rfl rfl o10 ?_
  refine w_aload rfl rfl ?_
  refine w_getI 2 rfl rfl rfl o10 ?_
  refine w_aload rfl rfl ?_
  refine w_getR 6 20 rfl rfl rfl rfl p_a0 ?_
  refine w_iload rfl rfl ?_
  have o11 := H.1
  replace H := H.2
  have o12 := H.1
  replace H := H.2
  refine w_iaload rfl o11 o12 ?_
  have o13 := H.1
  replace H := H.2
  refine w_imul rfl o13 ?_
  refine w_aload rfl rfl ?_
  refine w_getI 0 rfl rfl rfl o10 ?_
  refine w_callU rfl (fun _ => rfl) rfl (cU_mono H fun h14 H => ?_)
  refine w_aload rfl rfl ?_
  refine w_getR 15 5 rfl rfl rfl rfl p_a0 ?_
  refine w_aload rfl rfl ?_
  have o15 := H.1
  replace H := H.2
  refine w_getR 4 20 rfl rfl rfl rfl o15 ?_
  refine w_aload rfl rfl ?_
  refine w_getI 2 rfl rfl rfl o15 ?_
  refine w_aload rfl rfl ?_
  refine w_getR 6 20 rfl rfl rfl rfl p_a0 ?_
  refine w_iload rfl rfl ?_
  have o16 := H.1
  replace H := H.2
  have o17 := H.1
  replace H := H.2
  refine w_iaload rfl o16 o17 ?_
  have o18 := H.1
  replace H := H.2
  refine w_imul rfl o18 ?_
  refine w_aload rfl rfl ?_
  refine w_getI 0 rfl rfl rfl o15 ?_
  refine w_callU rfl (fun _ => rfl) rfl (cU_mono H fun h19 H => ?_)
  refine w_aload rfl rfl ?_
  refine w_aload rfl rfl ?_
  refine w_callU rfl (fun _ => rfl) rfl (cU_mono H fun h20 H => ?_)
  refine w_aload rfl rfl ?_
  refine w_aload rfl rfl ?_
  refine w_getR 13 20 rfl rfl rfl rfl p_a0 ?_
  refine w_iconst rfl ⟨by decide, by decide⟩ ?_
  refine w_aload rfl rfl ?_
  refine w_getR 12 20 rfl rfl rfl rfl p_a0 ?_
  refine w_callU rfl (fun _ => rfl) rfl (cU_mono H fun h21 H => ?_)
  refine w_aload rfl rfl ?_
  refine w_aload rfl rfl ?_
  refine w_getR 12 20 rfl rfl rfl rfl p_a0 ?_
  refine w_callU rfl (fun _ => rfl) rfl (cU_mono H fun h22 H => ?_)
  refine w_aload rfl rfl ?_
  refine w_getR 11 20 rfl rfl rfl rfl p_a0 ?_
  refine w_iconst rfl ⟨by decide, by decide⟩ ?_
  refine w_callU rfl (fun _ => rfl) rfl (cU_mono H fun h23 H => ?_)
  refine w_aload rfl rfl ?_
  refine w_getR 12 20 rfl rfl rfl rfl p_a0 ?_
  refine w_iconst rfl ⟨by decide, by decide⟩ ?_
  refine w_aload rfl rfl ?_
  refine w_getR 11 20 rfl rfl rfl rfl p_a0 ?_
  refine w_iconst rfl ⟨by decide, by decide⟩ ?_
  refine w_aload rfl rfl ?_
  have o24 := H.1
  replace H := H.2
  refine w_getI 3 rfl rfl rfl o24 ?_
  have o25 := H.1
  replace H := H.2
  have o26 := H.1
  replace H := H.2
  have o27 := H.1
  replace H := H.2
  refine w_copy rfl rfl o25 o26 o27 (fun h28 eh28 => ?_)
  replace H := H h28 eh28
  refine w_aload rfl rfl ?_
  refine w_iload rfl rfl ?_
  refine w_putI 9 rfl rfl rfl p_a0 (fun h29 eh29 => ?_)
  replace H := H h29 eh29
  refine w_aload rfl rfl ?_
  refine w_iload rfl rfl ?_
  refine w_putI 10 rfl rfl rfl p_a0 (fun h30 eh30 => ?_)
  replace H := H h30 eh30
  exact w_return rfl H
set_option maxHeartbeats 4000000 in
set_option maxRecDepth 100000 in
theorem r_Rewriter_relate {d : Nat} {Q : cm_Q} {h : cm_H} {a0 : Nat} {x1 : Int} {x2 : Int} (p_a0 : 0 < a0) (H : ((¬ (ch_I h a0 9) = x1 → cw d cd_Rewriter_relate Q 17 [some (vR 8 a0), some (vI x1), some (vI x2), none, none, none] [] h) ∧ ((ch_I h a0 9) = x1 → ((¬ (ch_I h a0 10) = x2 → cw d cd_Rewriter_relate Q 17 [some (vR 8 a0), some (vI x1), some (vI x2), none, none, none] [] h) ∧ ((ch_I h a0 10) = x2 → Q none h))))) : cm_call (d + 1) m_Rewriter_relate [vR 8 a0, vI x1, vI x2] h Q := by
  refine cm_call_in (C := cd_Rewriter_relate) (ls := [some (vR 8 a0), some (vI x1), some (vI x2), none, none, none]) rfl rfl p_a0 rfl ?_
  refine w_aload rfl rfl ?_
  refine w_getI 9 rfl rfl rfl p_a0 ?_
  refine w_iload rfl rfl ?_
  refine w_icmp rfl (And.intro (fun hc => ?_) (fun hc => ?_))
  · replace H := H.1 hc
    exact H
  · replace H := H.2 hc
    refine w_aload rfl rfl ?_
    refine w_getI 10 rfl rfl rfl p_a0 ?_
    refine w_iload rfl rfl ?_
    refine w_icmp rfl (And.intro (fun hc => ?_) (fun hc => ?_))
    · replace H := H.1 hc
      exact H
    · replace H := H.2 hc
      exact w_return rfl H
set_option maxHeartbeats 4000000 in
set_option maxRecDepth 100000 in
theorem r_Rewriter_placeOf_68 {d : Nat} {Q : cm_Q} {h : cm_H} {a0 : Nat} {x1 : Int} {x2 : Int} {x3 : Int} {x4 : Int} {z5 : Option cm_V} {z6 : Option cm_V} {z7 : Option cm_V} {w0 : Int} {w1 : Int} (p_a0 : 0 < a0) (H : (cm_l (w1 + w0) ∧ (((if (w1 + w0) < (ch_I h a0 4) then -1 else if (w1 + w0) = (ch_I h a0 4) then 0 else 1) ≤ 0 → (0 < ((ch_R h a0 0)) ∧ (cm_i (w1 + w0) ∧ (0 < ((ch_R h (ch_R h a0 0) 5)) ∧ ((0:Int) ≤ (w1 + w0) ∧ (w1 + w0) < ch_L h (ch_R h (ch_R h a0 0) 5)) ∧ (cI d m_Grade_productOf [vR 2 (ch_R h (ch_R h (ch_R h a0 0) 5) (w1 + w0)), vI x1, vI x2, vI x3, vI x4] h fun v7 h6 => ((0 ≤ v7 → (0 < ((ch_R h6 a0 2)) ∧ (0 < ((ch_R h6 (ch_R h6 a0 2) 3)) ∧ ((0:Int) ≤ (w1 + w0) ∧ (w1 + w0) < ch_L h6 (ch_R h6 (ch_R h6 a0 2) 3)) ∧ (cm_i ((ch_I h6 (ch_R h6 (ch_R h6 a0 2) 3) (w1 + w0)) + v7) ∧ Q (some (vI ((ch_I h6 (ch_R h6 (ch_R h6 a0 2) 3) (w1 + w0)) + v7))) h6)))) ∧ (v7 < 0 → Q (some (vI (-1))) h6))))))) ∧ (0 < (if (w1 + w0) < (ch_I h a0 4) then -1 else if (w1 + w0) = (ch_I h a0 4) then 0 else 1) → Q (some (vI (-1))) h)))) : cw d cd_Rewriter_placeOf Q 68 [some (vR 8 a0), some (vI x1), some (vI x2), some (vI x3), some (vI x4), z5, z6, z7] [vL w0, vL w1] h := by
  have o1 := H.1
  replace H := H.2
  refine w_ladd rfl o1 ?_
  refine w_lstore rfl rfl ?_
  refine w_lload rfl rfl ?_
  refine w_aload rfl rfl ?_
  refine w_getI 4 rfl rfl rfl p_a0 ?_
  refine w_i2l rfl ?_
  refine w_lcmp rfl ?_
  refine w_if rfl (And.intro (fun hc => ?_) (fun hc => ?_))
  · replace H := H.1 hc
    refine w_aload rfl rfl ?_
    refine w_getR 0 0 rfl rfl rfl rfl p_a0 ?_
    have o2 := H.1
    replace H := H.2
    refine w_getR 5 24 rfl rfl rfl rfl o2 ?_
    refine w_lload rfl rfl ?_
    have o3 := H.1
    replace H := H.2
    refine w_l2i rfl o3 ?_
    have o4 := H.1
    replace H := H.2
    have o5 := H.1
    replace H := H.2
    refine w_aaload rfl rfl rfl o4 o5 ?_
    refine w_iload rfl rfl ?_
    refine w_iload rfl rfl ?_
    refine w_iload rfl rfl ?_
    refine w_iload rfl rfl ?_
    refine w_callI rfl (fun _ => rfl) rfl (cI_mono H fun v7 h6 H => ?_)
    refine w_istore rfl rfl ?_
    refine w_iload rfl rfl ?_
    refine w_if rfl (And.intro (fun hc => ?_) (fun hc => ?_))
    · replace H := H.1 hc
      refine w_aload rfl rfl ?_
      refine w_getR 2 9 rfl rfl rfl rfl p_a0 ?_
      have o8 := H.1
      replace H := H.2
      refine w_getR 3 20 rfl rfl rfl rfl o8 ?_
      refine w_lload rfl rfl ?_
      refine w_l2i rfl o3 ?_
      have o9 := H.1
      replace H := H.2
      have o10 := H.1
      replace H := H.2
      refine w_iaload rfl o9 o10 ?_
      refine w_iload rfl rfl ?_
      have o11 := H.1
      replace H := H.2
      refine w_iadd rfl o11 ?_
      exact w_ireturn rfl H
    · replace H := H.2 hc
      refine w_iconst rfl ⟨by decide, by decide⟩ ?_
      refine w_goto rfl ?_
      exact w_ireturn rfl H
  · replace H := H.2 hc
    refine w_iconst rfl ⟨by decide, by decide⟩ ?_
    exact w_ireturn rfl H
set_option maxHeartbeats 4000000 in
set_option maxRecDepth 100000 in
theorem r_Rewriter_placeOf {d : Nat} {Q : cm_Q} {h : cm_H} {a0 : Nat} {x1 : Int} {x2 : Int} {x3 : Int} {x4 : Int} (p_a0 : 0 < a0) (H : (0 < ((ch_R h a0 5)) ∧ ((0:Int) ≤ x1 ∧ x1 < ch_L h (ch_R h a0 5)) ∧ (0 < ((ch_R h a0 1)) ∧ (0 < ((ch_R h (ch_R h a0 1) 12)) ∧ ((0:Int) ≤ 0 ∧ 0 < ch_L h (ch_R h (ch_R h a0 1) 12)) ∧ (cm_l (x2 * (ch_I h (ch_R h (ch_R h a0 1) 12) 0)) ∧ (cm_l ((ch_I h (ch_R h a0 5) x1) + (x2 * (ch_I h (ch_R h (ch_R h a0 1) 12) 0))) ∧ ((0:Int) ≤ 1 ∧ 1 < ch_L h (ch_R h (ch_R h a0 1) 12)) ∧ (cm_l (x3 * (ch_I h (ch_R h (ch_R h a0 1) 12) 1)) ∧ (cm_l (((ch_I h (ch_R h a0 5) x1) + (x2 * (ch_I h (ch_R h (ch_R h a0 1) 12) 0))) + (x3 * (ch_I h (ch_R h (ch_R h a0 1) 12) 1))) ∧ (0 < ((ch_R h a0 2)) ∧ ((¬ (ch_I h (ch_R h a0 2) 0) = 3 → cw d cd_Rewriter_placeOf Q 68 [some (vR 8 a0), some (vI x1), some (vI x2), some (vI x3), some (vI x4), some (vL (((ch_I h (ch_R h a0 5) x1) + (x2 * (ch_I h (ch_R h (ch_R h a0 1) 12) 0))) + (x3 * (ch_I h (ch_R h (ch_R h a0 1) 12) 1)))), none, none] [vL 0, vL (((ch_I h (ch_R h a0 5) x1) + (x2 * (ch_I h (ch_R h (ch_R h a0 1) 12) 0))) + (x3 * (ch_I h (ch_R h (ch_R h a0 1) 12) 1)))] h) ∧ ((ch_I h (ch_R h a0 2) 0) = 3 → ((0:Int) ≤ 2 ∧ 2 < ch_L h (ch_R h (ch_R h a0 1) 12)) ∧ (cm_l (x4 * (ch_I h (ch_R h (ch_R h a0 1) 12) 2)) ∧ cw d cd_Rewriter_placeOf Q 68 [some (vR 8 a0), some (vI x1), some (vI x2), some (vI x3), some (vI x4), some (vL (((ch_I h (ch_R h a0 5) x1) + (x2 * (ch_I h (ch_R h (ch_R h a0 1) 12) 0))) + (x3 * (ch_I h (ch_R h (ch_R h a0 1) 12) 1)))), none, none] [vL (x4 * (ch_I h (ch_R h (ch_R h a0 1) 12) 2)), vL (((ch_I h (ch_R h a0 5) x1) + (x2 * (ch_I h (ch_R h (ch_R h a0 1) 12) 0))) + (x3 * (ch_I h (ch_R h (ch_R h a0 1) 12) 1)))] h)))))))))))) : cm_call (d + 1) m_Rewriter_placeOf [vR 8 a0, vI x1, vI x2, vI x3, vI x4] h Q := by
  refine cm_call_in (C := cd_Rewriter_placeOf) (ls := [some (vR 8 a0), some (vI x1), some (vI x2), some (vI x3), some (vI x4), none, none, none]) rfl rfl p_a0 rfl ?_
  refine w_aload rfl rfl ?_
  refine w_getR 5 20 rfl rfl rfl rfl p_a0 ?_
  refine w_iload rfl rfl ?_
  have o1 := H.1
  replace H := H.2
  have o2 := H.1
  replace H := H.2
  refine w_iaload rfl o1 o2 ?_
  refine w_i2l rfl ?_
  refine w_iload rfl rfl ?_
  refine w_i2l rfl ?_
  refine w_aload rfl rfl ?_
  refine w_getR 1 6 rfl rfl rfl rfl p_a0 ?_
  have o3 := H.1
  replace H := H.2
  refine w_getR 12 20 rfl rfl rfl rfl o3 ?_
  refine w_iconst rfl ⟨by decide, by decide⟩ ?_
  have o4 := H.1
  replace H := H.2
  have o5 := H.1
  replace H := H.2
  refine w_iaload rfl o4 o5 ?_
  refine w_i2l rfl ?_
  have o6 := H.1
  replace H := H.2
  refine w_lmul rfl o6 ?_
  have o7 := H.1
  replace H := H.2
  refine w_ladd rfl o7 ?_
  refine w_iload rfl rfl ?_
  refine w_i2l rfl ?_
  refine w_aload rfl rfl ?_
  refine w_getR 1 6 rfl rfl rfl rfl p_a0 ?_
  refine w_getR 12 20 rfl rfl rfl rfl o3 ?_
  refine w_iconst rfl ⟨by decide, by decide⟩ ?_
  have o8 := H.1
  replace H := H.2
  refine w_iaload rfl o4 o8 ?_
  refine w_i2l rfl ?_
  have o9 := H.1
  replace H := H.2
  refine w_lmul rfl o9 ?_
  have o10 := H.1
  replace H := H.2
  refine w_ladd rfl o10 ?_
  refine w_lstore rfl rfl ?_
  refine w_lload rfl rfl ?_
  refine w_aload rfl rfl ?_
  refine w_getR 2 9 rfl rfl rfl rfl p_a0 ?_
  have o11 := H.1
  replace H := H.2
  refine w_getI 0 rfl rfl rfl o11 ?_
  refine w_iconst rfl ⟨by decide, by decide⟩ ?_
  refine w_icmp rfl (And.intro (fun hc => ?_) (fun hc => ?_))
  · replace H := H.1 hc
    refine w_lconst rfl ⟨by decide, by decide⟩ ?_
    exact H
  · replace H := H.2 hc
    refine w_iload rfl rfl ?_
    refine w_i2l rfl ?_
    refine w_aload rfl rfl ?_
    refine w_getR 1 6 rfl rfl rfl rfl p_a0 ?_
    refine w_getR 12 20 rfl rfl rfl rfl o3 ?_
    refine w_iconst rfl ⟨by decide, by decide⟩ ?_
    have o12 := H.1
    replace H := H.2
    refine w_iaload rfl o4 o12 ?_
    refine w_i2l rfl ?_
    have o13 := H.1
    replace H := H.2
    refine w_lmul rfl o13 ?_
    refine w_goto rfl ?_
    exact H
set_option maxHeartbeats 4000000 in
set_option maxRecDepth 100000 in
theorem r_Works_init {d : Nat} {Q : cm_Q} {h : cm_H} {a0 : Nat} (p_a0 : 0 < a0) (H : (∀ h1 : cm_H, h1 = ch_new h 21 400 (Int.toNat 400) → (∀ h2 : cm_H, h2 = ch_r h1 a0 0 (ch_n h) → ((0:Int) ≤ 6 ∧ 6 ≤ (1000:Int) ∧ (0:Int) ≤ 816 ∧ 816 ≤ (1000:Int)) ∧ (∀ h4 : cm_H, h4 = ch_x (ch_news (ch_new h2 23 6 (Int.toNat 6)) 816 (Int.toNat 816) (Int.toNat 6)) (ch_n h2) (fun j => if 0 ≤ j ∧ j < 6 then ch_n h2 + 1 + j.toNat else 0) → (∀ h5 : cm_H, h5 = ch_r h4 a0 2 (ch_n h2) → (∀ h6 : cm_H, h6 = ch_new h5 20 816 (Int.toNat 816) → (∀ h7 : cm_H, h7 = ch_r h6 a0 3 (ch_n h5) → (∀ h8 : cm_H, h8 = ch_new h7 9 0 8 → (cU d m_Shape_init [vR 9 (ch_n h7), vI 2] h8 fun h9 => (∀ h10 : cm_H, h10 = ch_r h9 a0 4 (ch_n h7) → (∀ h11 : cm_H, h11 = ch_new h10 9 0 8 → (cU d m_Shape_init [vR 9 (ch_n h10), vI 3] h11 fun h12 => (∀ h13 : cm_H, h13 = ch_r h12 a0 5 (ch_n h10) → (∀ h14 : cm_H, h14 = ch_r h13 a0 6 (ch_R h13 a0 4) → (∀ h15 : cm_H, h15 = ch_new h14 3 0 12 → (cU d m_Members_init [vR 3 (ch_n h14)] h15 fun h16 => (∀ h17 : cm_H, h17 = ch_r h16 a0 7 (ch_n h14) → (∀ h18 : cm_H, h18 = ch_new h17 3 0 12 → (cU d m_Members_init [vR 3 (ch_n h17)] h18 fun h19 => (∀ h20 : cm_H, h20 = ch_r h19 a0 8 (ch_n h17) → (∀ h21 : cm_H, h21 = ch_new h20 7 0 9 → (cU d m_Reader_init [vR 7 (ch_n h20), vR 21 (ch_R h21 a0 0)] h21 fun h22 => (∀ h23 : cm_H, h23 = ch_r h22 a0 9 (ch_n h20) → (∀ h24 : cm_H, h24 = ch_new h23 10 0 7 → (cU d m_Sum_init [vR 10 (ch_n h23), vR 7 (ch_R h24 a0 9)] h24 fun h25 => (∀ h26 : cm_H, h26 = ch_r h25 a0 10 (ch_n h23) → (∀ h27 : cm_H, h27 = ch_new h26 4 0 12 → (cU d m_Mover_init [vR 4 (ch_n h26)] h27 fun h28 => (∀ h29 : cm_H, h29 = ch_r h28 a0 11 (ch_n h26) → (∀ h30 : cm_H, h30 = ch_new h29 1 0 4 → (cU d m_Echelon_init [vR 1 (ch_n h29)] h30 fun h31 => (∀ h32 : cm_H, h32 = ch_r h31 a0 12 (ch_n h29) → (∀ h33 : cm_H, h33 = ch_new h32 0 0 9 → (cU d m_Bases_init [vR 0 (ch_n h32), vR 4 (ch_R h33 a0 11), vR 1 (ch_R h33 a0 12)] h33 fun h34 => (∀ h35 : cm_H, h35 = ch_r h34 a0 13 (ch_n h32) → (∀ h36 : cm_H, h36 = ch_new h35 6 0 14 → (cU d m_Search_init [vR 6 (ch_n h35), vR 0 (ch_R h36 a0 13), vR 1 (ch_R h36 a0 12)] h36 fun h37 => (∀ h38 : cm_H, h38 = ch_r h37 a0 14 (ch_n h35) → (∀ h39 : cm_H, h39 = ch_new h38 8 0 16 → (cU d m_Rewriter_init [vR 8 (ch_n h38), vR 0 (ch_R h39 a0 13), vR 6 (ch_R h39 a0 14)] h39 fun h40 => (∀ h41 : cm_H, h41 = ch_r h40 a0 15 (ch_n h38) → (cI d m_Members_grow [vR 3 (ch_R h41 a0 7)] h41 fun v43 h42 => (cU d m_Works_startAgain [vR 11 a0] h42 fun h44 => Q none h44))))))))))))))))))))))))))))))))))))))))))) : cm_call (d + 1) m_Works_init [vR 11 a0] h Q := by
  refine cm_call_in (C := cd_Works_init) (ls := [some (vR 11 a0)]) rfl rfl p_a0 rfl ?_
  refine w_aload rfl rfl ?_
  refine w_objInit rfl rfl p_a0 ?_
  refine w_aload rfl rfl ?_
  refine w_iconst rfl ⟨by decide, by decide⟩ ?_
  refine w_newB rfl (by decide) (fun h1 eh1 => ?_)
  replace H := H h1 eh1
  refine w_putR 0 rfl rfl rfl rfl p_a0 (fun h2 eh2 => ?_)
  replace H := H h2 eh2
  refine w_aload rfl rfl ?_
  refine w_iconst rfl ⟨by decide, by decide⟩ ?_
  refine w_iconst rfl ⟨by decide, by decide⟩ ?_
  have o3 := H.1
  replace H := H.2
  refine w_newM rfl o3 (fun h4 eh4 => ?_)
  replace H := H h4 eh4
  refine w_putR 2 rfl rfl rfl rfl p_a0 (fun h5 eh5 => ?_)
  replace H := H h5 eh5
  refine w_aload rfl rfl ?_
  refine w_iconst rfl ⟨by decide, by decide⟩ ?_
  refine w_newI rfl (by decide) (fun h6 eh6 => ?_)
  replace H := H h6 eh6
  refine w_putR 3 rfl rfl rfl rfl p_a0 (fun h7 eh7 => ?_)
  replace H := H h7 eh7
  refine w_aload rfl rfl ?_
  refine w_new 9 8 rfl rfl rfl (fun h8 eh8 => ?_)
  replace H := H h8 eh8
  refine w_dup rfl rfl ?_
  refine w_iconst rfl ⟨by decide, by decide⟩ ?_
  refine w_callU rfl (fun _ => rfl) rfl (cU_mono H fun h9 H => ?_)
  refine w_putR 4 rfl rfl rfl rfl p_a0 (fun h10 eh10 => ?_)
  replace H := H h10 eh10
  refine w_aload rfl rfl ?_
  refine w_new 9 8 rfl rfl rfl (fun h11 eh11 => ?_)
  replace H := H h11 eh11
  refine w_dup rfl rfl ?_
  refine w_iconst rfl ⟨by decide, by decide⟩ ?_
  refine w_callU rfl (fun _ => rfl) rfl (cU_mono H fun h12 H => ?_)
  refine w_putR 5 rfl rfl rfl rfl p_a0 (fun h13 eh13 => ?_)
  replace H := H h13 eh13
  refine w_aload rfl rfl ?_
  refine w_aload rfl rfl ?_
  refine w_getR 4 9 rfl rfl rfl rfl p_a0 ?_
  refine w_putR 6 rfl rfl rfl rfl p_a0 (fun h14 eh14 => ?_)
  replace H := H h14 eh14
  refine w_aload rfl rfl ?_
  refine w_new 3 12 rfl rfl rfl (fun h15 eh15 => ?_)
  replace H := H h15 eh15
  refine w_dup rfl rfl ?_
  refine w_callU rfl (fun _ => rfl) rfl (cU_mono H fun h16 H => ?_)
  refine w_putR 7 rfl rfl rfl rfl p_a0 (fun h17 eh17 => ?_)
  replace H := H h17 eh17
  refine w_aload rfl rfl ?_
  refine w_new 3 12 rfl rfl rfl (fun h18 eh18 => ?_)
  replace H := H h18 eh18
  refine w_dup rfl rfl ?_
  refine w_callU rfl (fun _ => rfl) rfl (cU_mono H fun h19 H => ?_)
  refine w_putR 8 rfl rfl rfl rfl p_a0 (fun h20 eh20 => ?_)
  replace H := H h20 eh20
  refine w_aload rfl rfl ?_
  refine w_new 7 9 rfl rfl rfl (fun h21 eh21 => ?_)
  replace H := H h21 eh21
  refine w_dup rfl rfl ?_
  refine w_aload rfl rfl ?_
  refine w_getR 0 21 rfl rfl rfl rfl p_a0 ?_
  refine w_callU rfl (fun _ => rfl) rfl (cU_mono H fun h22 H => ?_)
  refine w_putR 9 rfl rfl rfl rfl p_a0 (fun h23 eh23 => ?_)
  replace H := H h23 eh23
  refine w_aload rfl rfl ?_
  refine w_new 10 7 rfl rfl rfl (fun h24 eh24 => ?_)
  replace H := H h24 eh24
  refine w_dup rfl rfl ?_
  refine w_aload rfl rfl ?_
  refine w_getR 9 7 rfl rfl rfl rfl p_a0 ?_
  refine w_callU rfl (fun _ => rfl) rfl (cU_mono H fun h25 H => ?_)
  refine w_putR 10 rfl rfl rfl rfl p_a0 (fun h26 eh26 => ?_)
  replace H := H h26 eh26
  refine w_aload rfl rfl ?_
  refine w_new 4 12 rfl rfl rfl (fun h27 eh27 => ?_)
  replace H := H h27 eh27
  refine w_dup rfl rfl ?_
  refine w_callU rfl (fun _ => rfl) rfl (cU_mono H fun h28 H => ?_)
  refine w_putR 11 rfl rfl rfl rfl p_a0 (fun h29 eh29 => ?_)
  replace H := H h29 eh29
  refine w_aload rfl rfl ?_
  refine w_new 1 4 rfl rfl rfl (fun h30 eh30 => ?_)
  replace H := H h30 eh30
  refine w_dup rfl rfl ?_
  refine w_callU rfl (fun _ => rfl) rfl (cU_mono H fun h31 H => ?_)
  refine w_putR 12 rfl rfl rfl rfl p_a0 (fun h32 eh32 => ?_)
  replace H := H h32 eh32
  refine w_aload rfl rfl ?_
  refine w_new 0 9 rfl rfl rfl (fun h33 eh33 => ?_)
  replace H := H h33 eh33
  refine w_dup rfl rfl ?_
  refine w_aload rfl rfl ?_
  refine w_getR 11 4 rfl rfl rfl rfl p_a0 ?_
  refine w_aload rfl rfl ?_
  refine w_getR 12 1 rfl rfl rfl rfl p_a0 ?_
  refine w_callU rfl (fun _ => rfl) rfl (cU_mono H fun h34 H => ?_)
  refine w_putR 13 rfl rfl rfl rfl p_a0 (fun h35 eh35 => ?_)
  replace H := H h35 eh35
  refine w_aload rfl rfl ?_
  refine w_new 6 14 rfl rfl rfl (fun h36 eh36 => ?_)
  replace H := H h36 eh36
  refine w_dup rfl rfl ?_
  refine w_aload rfl rfl ?_
  refine w_getR 13 0 rfl rfl rfl rfl p_a0 ?_
  refine w_aload rfl rfl ?_
  refine w_getR 12 1 rfl rfl rfl rfl p_a0 ?_
  refine w_callU rfl (fun _ => rfl) rfl (cU_mono H fun h37 H => ?_)
  refine w_putR 14 rfl rfl rfl rfl p_a0 (fun h38 eh38 => ?_)
  replace H := H h38 eh38
  refine w_aload rfl rfl ?_
  refine w_new 8 16 rfl rfl rfl (fun h39 eh39 => ?_)
  replace H := H h39 eh39
  refine w_dup rfl rfl ?_
  refine w_aload rfl rfl ?_
  refine w_getR 13 0 rfl rfl rfl rfl p_a0 ?_
  refine w_aload rfl rfl ?_
  refine w_getR 14 6 rfl rfl rfl rfl p_a0 ?_
  refine w_callU rfl (fun _ => rfl) rfl (cU_mono H fun h40 H => ?_)
  refine w_putR 15 rfl rfl rfl rfl p_a0 (fun h41 eh41 => ?_)
  replace H := H h41 eh41
  refine w_aload rfl rfl ?_
  refine w_getR 7 3 rfl rfl rfl rfl p_a0 ?_
  refine w_callI rfl (fun _ => rfl) rfl (cI_mono H fun v43 h42 H => ?_)
  refine w_pop rfl rfl ?_
  refine w_aload rfl rfl ?_
  refine w_callU rfl (fun _ => rfl) rfl (cU_mono H fun h44 H => ?_)
  exact w_return rfl H
set_option maxHeartbeats 4000000 in
set_option maxRecDepth 100000 in
theorem r_Works_feed {d : Nat} {Q : cm_Q} {h : cm_H} {a0 : Nat} {x1 : Int} {x2 : Int} {x3 : Int} {x4 : Int} {x5 : Int} (p_a0 : 0 < a0) (H : (cm_i ((ch_I h a0 1) + 20) ∧ ((((ch_I h a0 1) + 20) ≤ 400 → (cU d m_Works_putBytes [vR 11 a0, vI x1] h fun h2 => (cU d m_Works_putBytes [vR 11 a0, vI x2] h2 fun h3 => (cU d m_Works_putBytes [vR 11 a0, vI x3] h3 fun h4 => (cU d m_Works_putBytes [vR 11 a0, vI x4] h4 fun h5 => (cU d m_Works_putBytes [vR 11 a0, vI x5] h5 fun h6 => Q (some (vI (ch_I h6 a0 1))) h6)))))) ∧ (400 < ((ch_I h a0 1) + 20) → Q (some (vI (-1))) h)))) : cm_call (d + 1) m_Works_feed [vR 11 a0, vI x1, vI x2, vI x3, vI x4, vI x5] h Q := by
  refine cm_call_in (C := cd_Works_feed) (ls := [some (vR 11 a0), some (vI x1), some (vI x2), some (vI x3), some (vI x4), some (vI x5)]) rfl rfl p_a0 rfl ?_
  refine w_aload rfl rfl ?_
  refine w_getI 1 rfl rfl rfl p_a0 ?_
  refine w_iconst rfl ⟨by decide, by decide⟩ ?_
  have o1 := H.1
  replace H := H.2
  refine w_iadd rfl o1 ?_
  refine w_iconst rfl ⟨by decide, by decide⟩ ?_
  refine w_icmp rfl (And.intro (fun hc => ?_) (fun hc => ?_))
  · replace H := H.1 hc
    refine w_aload rfl rfl ?_
    refine w_iload rfl rfl ?_
    refine w_callU rfl (fun _ => rfl) rfl (cU_mono H fun h2 H => ?_)
    refine w_aload rfl rfl ?_
    refine w_iload rfl rfl ?_
    refine w_callU rfl (fun _ => rfl) rfl (cU_mono H fun h3 H => ?_)
    refine w_aload rfl rfl ?_
    refine w_iload rfl rfl ?_
    refine w_callU rfl (fun _ => rfl) rfl (cU_mono H fun h4 H => ?_)
    refine w_aload rfl rfl ?_
    refine w_iload rfl rfl ?_
    refine w_callU rfl (fun _ => rfl) rfl (cU_mono H fun h5 H => ?_)
    refine w_aload rfl rfl ?_
    refine w_iload rfl rfl ?_
    refine w_callU rfl (fun _ => rfl) rfl (cU_mono H fun h6 H => ?_)
    refine w_aload rfl rfl ?_
    refine w_getI 1 rfl rfl rfl p_a0 ?_
    exact w_ireturn rfl H
  · replace H := H.2 hc
    refine w_iconst rfl ⟨by decide, by decide⟩ ?_
    exact w_ireturn rfl H
set_option maxHeartbeats 4000000 in
set_option maxRecDepth 100000 in
theorem r_Works_tables_125 {d : Nat} {Q : cm_Q} {h : cm_H} {a0 : Nat} {z1 : Option cm_V} {z2 : Option cm_V} {x3 : Int} (p_a0 : 0 < a0) (H : ((6 ≤ x3 → (cU d m_Works_startAgain [vR 11 a0] h fun h1 => (0 < ((ch_R h1 a0 7)) ∧ Q (some (vI (ch_I h1 (ch_R h1 a0 7) 2))) h1))) ∧ (x3 < 6 → (0 < ((ch_R h a0 2)) ∧ ((0:Int) ≤ x3 ∧ x3 < ch_L h (ch_R h a0 2)) ∧ (cU d m_Arr_fill [vR 20 (ch_R h (ch_R h a0 2) x3), vI 0] h fun h5 => (cm_i (x3 + 1) ∧ cw d cd_Works_tables Q 125 [some (vR 11 a0), z1, z2, some (vI (x3 + 1))] [] h5)))))) : cw d cd_Works_tables Q 125 [some (vR 11 a0), z1, z2, some (vI x3)] [] h := by
  refine w_iload rfl rfl ?_
  refine w_iconst rfl ⟨by decide, by decide⟩ ?_
  refine w_icmp rfl (And.intro (fun hc => ?_) (fun hc => ?_))
  · replace H := H.1 hc
    refine w_aload rfl rfl ?_
    refine w_callU rfl (fun _ => rfl) rfl (cU_mono H fun h1 H => ?_)
    refine w_aload rfl rfl ?_
    refine w_getR 7 3 rfl rfl rfl rfl p_a0 ?_
    have o2 := H.1
    replace H := H.2
    refine w_getI 2 rfl rfl rfl o2 ?_
    exact w_ireturn rfl H
  · replace H := H.2 hc
    refine w_aload rfl rfl ?_
    refine w_getR 2 23 rfl rfl rfl rfl p_a0 ?_
    refine w_iload rfl rfl ?_
    have o3 := H.1
    replace H := H.2
    have o4 := H.1
    replace H := H.2
    refine w_aaload rfl rfl rfl o3 o4 ?_
    refine w_iconst rfl ⟨by decide, by decide⟩ ?_
    refine w_callU rfl (fun _ => rfl) rfl (cU_mono H fun h5 H => ?_)
    have o6 := H.1
    replace H := H.2
    refine w_iinc rfl rfl rfl o6 ?_
    refine w_goto rfl ?_
    exact H
set_option maxHeartbeats 4000000 in
set_option maxRecDepth 100000 in
theorem r_Works_tables {d : Nat} {Q : cm_Q} {h : cm_H} {a0 : Nat} {x1 : Int} (p_a0 : 0 < a0) (H : ((x1 < 0 → Q (some (vI (-1))) h) ∧ (0 ≤ x1 → ((x1 ≤ (ch_I h a0 1) → (∀ h1 : cm_H, h1 = ch_u h a0 1 0 → (cU d m_Reader_open [vR 7 (ch_R h1 a0 9), vI x1] h1 fun h2 => (cI d m_Reader_readTables [vR 7 (ch_R h2 a0 9), vR 3 (ch_R h2 a0 8)] h2 fun v4 h3 => ((¬ v4 = 0 → (cI d m_Members_grow [vR 3 (ch_R h3 a0 8)] h3 fun v6 h5 => ((¬ v6 = 0 → (∀ h7 : cm_H, h7 = ch_r h5 a0 7 (ch_R h5 a0 8) → (∀ h8 : cm_H, h8 = ch_r h7 a0 8 (ch_R h5 a0 7) → (0 < ((ch_R h8 a0 7)) ∧ (0 < ((ch_R h5 a0 7)) ∧ (((ch_I h8 (ch_R h8 a0 7) 0) = (ch_I h8 (ch_R h5 a0 7) 0) → (cU d m_Works_startAgain [vR 11 a0] h8 fun h11 => (0 < ((ch_R h11 a0 7)) ∧ Q (some (vI (ch_I h11 (ch_R h11 a0 7) 2))) h11))) ∧ (¬ (ch_I h8 (ch_R h8 a0 7) 0) = (ch_I h8 (ch_R h5 a0 7) 0) → ((¬ (ch_I h8 (ch_R h8 a0 7) 0) = 3 → (∀ h13 : cm_H, h13 = ch_r h8 a0 6 (ch_R h8 a0 4) → cw d cd_Works_tables Q 125 [some (vR 11 a0), some (vI x1), some (vR 3 (ch_R h5 a0 7)), some (vI 0)] [] h13)) ∧ ((ch_I h8 (ch_R h8 a0 7) 0) = 3 → (∀ h14 : cm_H, h14 = ch_r h8 a0 6 (ch_R h8 a0 5) → cw d cd_Works_tables Q 125 [some (vR 11 a0), some (vI x1), some (vR 3 (ch_R h5 a0 7)), some (vI 0)] [] h14)))))))))) ∧ (v6 = 0 → Q (some (vI (-6))) h5)))) ∧ (v4 = 0 → (0 < ((ch_R h3 a0 9)) ∧ (cm_i ((-2) - (ch_I h3 (ch_R h3 a0 9) 8)) ∧ Q (some (vI ((-2) - (ch_I h3 (ch_R h3 a0 9) 8)))) h3)))))))) ∧ ((ch_I h a0 1) < x1 → Q (some (vI (-1))) h))))) : cm_call (d + 1) m_Works_tables [vR 11 a0, vI x1] h Q := by
  refine cm_call_in (C := cd_Works_tables) (ls := [some (vR 11 a0), some (vI x1), none, none]) rfl rfl p_a0 rfl ?_
  refine w_iload rfl rfl ?_
  refine w_if rfl (And.intro (fun hc => ?_) (fun hc => ?_))
  · replace H := H.1 hc
    refine w_iconst rfl ⟨by decide, by decide⟩ ?_
    exact w_ireturn rfl H
  · replace H := H.2 hc
    refine w_iload rfl rfl ?_
    refine w_aload rfl rfl ?_
    refine w_getI 1 rfl rfl rfl p_a0 ?_
    refine w_icmp rfl (And.intro (fun hc => ?_) (fun hc => ?_))
    · replace H := H.1 hc
      refine w_aload rfl rfl ?_
      refine w_iconst rfl ⟨by decide, by decide⟩ ?_
      refine w_putI 1 rfl rfl rfl p_a0 (fun h1 eh1 => ?_)
      replace H := H h1 eh1
      refine w_aload rfl rfl ?_
      refine w_getR 9 7 rfl rfl rfl rfl p_a0 ?_
      refine w_iload rfl rfl ?_
      refine w_callU rfl (fun _ => rfl) rfl (cU_mono H fun h2 H => ?_)
      refine w_aload rfl rfl ?_
      refine w_getR 9 7 rfl rfl rfl rfl p_a0 ?_
      refine w_aload rfl rfl ?_
      refine w_getR 8 3 rfl rfl rfl rfl p_a0 ?_
      refine w_callI rfl (fun _ => rfl) rfl (cI_mono H fun v4 h3 H => ?_)
      refine w_if rfl (And.intro (fun hc => ?_) (fun hc => ?_))
      · replace H := H.1 hc
        refine w_aload rfl rfl ?_
        refine w_getR 8 3 rfl rfl rfl rfl p_a0 ?_
        refine w_callI rfl (fun _ => rfl) rfl (cI_mono H fun v6 h5 H => ?_)
        refine w_if rfl (And.intro (fun hc => ?_) (fun hc => ?_))
        · replace H := H.1 hc
          refine w_aload rfl rfl ?_
          refine w_getR 7 3 rfl rfl rfl rfl p_a0 ?_
          refine w_astore rfl rfl ?_
          refine w_aload rfl rfl ?_
          refine w_aload rfl rfl ?_
          refine w_getR 8 3 rfl rfl rfl rfl p_a0 ?_
          refine w_putR 7 rfl rfl rfl rfl p_a0 (fun h7 eh7 => ?_)
          replace H := H h7 eh7
          refine w_aload rfl rfl ?_
          refine w_aload rfl rfl ?_
          refine w_putR 8 rfl rfl rfl rfl p_a0 (fun h8 eh8 => ?_)
          replace H := H h8 eh8
          refine w_aload rfl rfl ?_
          refine w_getR 7 3 rfl rfl rfl rfl p_a0 ?_
          have o9 := H.1
          replace H := H.2
          refine w_getI 0 rfl rfl rfl o9 ?_
          refine w_aload rfl rfl ?_
          have o10 := H.1
          replace H := H.2
          refine w_getI 0 rfl rfl rfl o10 ?_
          refine w_icmp rfl (And.intro (fun hc => ?_) (fun hc => ?_))
          · replace H := H.1 hc
            refine w_aload rfl rfl ?_
            refine w_callU rfl (fun _ => rfl) rfl (cU_mono H fun h11 H => ?_)
            refine w_aload rfl rfl ?_
            refine w_getR 7 3 rfl rfl rfl rfl p_a0 ?_
            have o12 := H.1
            replace H := H.2
            refine w_getI 2 rfl rfl rfl o12 ?_
            exact w_ireturn rfl H
          · replace H := H.2 hc
            refine w_aload rfl rfl ?_
            refine w_aload rfl rfl ?_
            refine w_getR 7 3 rfl rfl rfl rfl p_a0 ?_
            refine w_getI 0 rfl rfl rfl o9 ?_
            refine w_iconst rfl ⟨by decide, by decide⟩ ?_
            refine w_icmp rfl (And.intro (fun hc => ?_) (fun hc => ?_))
            · replace H := H.1 hc
              refine w_aload rfl rfl ?_
              refine w_getR 4 9 rfl rfl rfl rfl p_a0 ?_
              refine w_putR 6 rfl rfl rfl rfl p_a0 (fun h13 eh13 => ?_)
              replace H := H h13 eh13
              refine w_iconst rfl ⟨by decide, by decide⟩ ?_
              refine w_istore rfl rfl ?_
              exact H
            · replace H := H.2 hc
              refine w_aload rfl rfl ?_
              refine w_getR 5 9 rfl rfl rfl rfl p_a0 ?_
              refine w_goto rfl ?_
              refine w_putR 6 rfl rfl rfl rfl p_a0 (fun h14 eh14 => ?_)
              replace H := H h14 eh14
              refine w_iconst rfl ⟨by decide, by decide⟩ ?_
              refine w_istore rfl rfl ?_
              exact H
        · replace H := H.2 hc
          refine w_iconst rfl ⟨by decide, by decide⟩ ?_
          exact w_ireturn rfl H
      · replace H := H.2 hc
        refine w_iconst rfl ⟨by decide, by decide⟩ ?_
        refine w_aload rfl rfl ?_
        refine w_getR 9 7 rfl rfl rfl rfl p_a0 ?_
        have o15 := H.1
        replace H := H.2
        refine w_getI 8 rfl rfl rfl o15 ?_
        have o16 := H.1
        replace H := H.2
        refine w_isub rfl o16 ?_
        exact w_ireturn rfl H
    · replace H := H.2 hc
      refine w_iconst rfl ⟨by decide, by decide⟩ ?_
      exact w_ireturn rfl H
set_option maxHeartbeats 4000000 in
set_option maxRecDepth 100000 in
theorem r_Works_polynomial {d : Nat} {Q : cm_Q} {h : cm_H} {a0 : Nat} {x1 : Int} {x2 : Int} (p_a0 : 0 < a0) (H : (cI d m_Works_isKept [vI x1] h fun v2 h1 => ((v2 = 0 → Q (some (vI (-1))) h1) ∧ (¬ v2 = 0 → ((x2 < 0 → Q (some (vI (-1))) h1) ∧ (0 ≤ x2 → ((x2 ≤ (ch_I h1 a0 1) → (∀ h3 : cm_H, h3 = ch_u h1 a0 1 0 → (cU d m_Reader_open [vR 7 (ch_R h3 a0 9), vI x2] h3 fun h4 => (cA d m_Sum_readAll [vR 10 (ch_R h4 a0 10), vR 9 (ch_R h4 a0 6)] h4 20 fun v6 h5 => (0 < ((ch_R h5 a0 9)) ∧ (((ch_I h5 (ch_R h5 a0 9) 8) = 0 → (0 < ((ch_R h5 a0 2)) ∧ ((0:Int) ≤ x1 ∧ x1 < ch_L h5 (ch_R h5 a0 2)) ∧ (0 < ((ch_R h5 a0 6)) ∧ (0 < v6 ∧ 0 < ((ch_R h5 (ch_R h5 a0 2) x1)) ∧ ((0:Int) ≤ 0 ∧ (0:Int) ≤ 0 ∧ (0:Int) ≤ (ch_I h5 (ch_R h5 a0 6) 1) ∧ 0 + (ch_I h5 (ch_R h5 a0 6) 1) ≤ ch_L h5 v6 ∧ 0 + (ch_I h5 (ch_R h5 a0 6) 1) ≤ ch_L h5 (ch_R h5 (ch_R h5 a0 2) x1)) ∧ (∀ h14 : cm_H, h14 = ch_cp h5 v6 0 (ch_R h5 (ch_R h5 a0 2) x1) 0 (ch_I h5 (ch_R h5 a0 6) 1) → (0 < ((ch_R h14 a0 2)) ∧ ((0:Int) ≤ x1 ∧ x1 < ch_L h14 (ch_R h14 a0 2)) ∧ (cI d m_Shape_degreeOf [vR 9 (ch_R h14 a0 6), vR 20 (ch_R h14 (ch_R h14 a0 2) x1)] h14 fun v18 h17 => Q (some (vI v18)) h17))))))) ∧ (¬ (ch_I h5 (ch_R h5 a0 9) 8) = 0 → (cm_i ((-2) - (ch_I h5 (ch_R h5 a0 9) 8)) ∧ Q (some (vI ((-2) - (ch_I h5 (ch_R h5 a0 9) 8)))) h5)))))))) ∧ ((ch_I h1 a0 1) < x2 → Q (some (vI (-1))) h1)))))))) : cm_call (d + 1) m_Works_polynomial [vR 11 a0, vI x1, vI x2] h Q := by
  refine cm_call_in (C := cd_Works_polynomial) (ls := [some (vR 11 a0), some (vI x1), some (vI x2), none]) rfl rfl p_a0 rfl ?_
  refine w_iload rfl rfl ?_
  refine w_callI rfl (fun _ => rfl) rfl (cI_mono H fun v2 h1 H => ?_)
  refine w_if rfl (And.intro (fun hc => ?_) (fun hc => ?_))
  · replace H := H.1 hc
    refine w_iconst rfl ⟨by decide, by decide⟩ ?_
    exact w_ireturn rfl H
  · replace H := H.2 hc
    refine w_iload rfl rfl ?_
    refine w_if rfl (And.intro (fun hc => ?_) (fun hc => ?_))
    · replace H := H.1 hc
      refine w_iconst rfl ⟨by decide, by decide⟩ ?_
      exact w_ireturn rfl H
    · replace H := H.2 hc
      refine w_iload rfl rfl ?_
      refine w_aload rfl rfl ?_
      refine w_getI 1 rfl rfl rfl p_a0 ?_
      refine w_icmp rfl (And.intro (fun hc => ?_) (fun hc => ?_))
      · replace H := H.1 hc
        refine w_aload rfl rfl ?_
        refine w_iconst rfl ⟨by decide, by decide⟩ ?_
        refine w_putI 1 rfl rfl rfl p_a0 (fun h3 eh3 => ?_)
        replace H := H h3 eh3
        refine w_aload rfl rfl ?_
        refine w_getR 9 7 rfl rfl rfl rfl p_a0 ?_
        refine w_iload rfl rfl ?_
        refine w_callU rfl (fun _ => rfl) rfl (cU_mono H fun h4 H => ?_)
        refine w_aload rfl rfl ?_
        refine w_getR 10 10 rfl rfl rfl rfl p_a0 ?_
        refine w_aload rfl rfl ?_
        refine w_getR 6 9 rfl rfl rfl rfl p_a0 ?_
        refine w_callA rfl (fun _ => rfl) rfl (cA_mono H fun v6 h5 H => ?_)
        refine w_astore rfl rfl ?_
        refine w_aload rfl rfl ?_
        refine w_getR 9 7 rfl rfl rfl rfl p_a0 ?_
        have o7 := H.1
        replace H := H.2
        refine w_getI 8 rfl rfl rfl o7 ?_
        refine w_if rfl (And.intro (fun hc => ?_) (fun hc => ?_))
        · replace H := H.1 hc
          refine w_aload rfl rfl ?_
          refine w_iconst rfl ⟨by decide, by decide⟩ ?_
          refine w_aload rfl rfl ?_
          refine w_getR 2 23 rfl rfl rfl rfl p_a0 ?_
          refine w_iload rfl rfl ?_
          have o8 := H.1
          replace H := H.2
          have o9 := H.1
          replace H := H.2
          refine w_aaload rfl rfl rfl o8 o9 ?_
          refine w_iconst rfl ⟨by decide, by decide⟩ ?_
          refine w_aload rfl rfl ?_
          refine w_getR 6 9 rfl rfl rfl rfl p_a0 ?_
          have o10 := H.1
          replace H := H.2
          refine w_getI 1 rfl rfl rfl o10 ?_
          have o11 := H.1
          replace H := H.2
          have o12 := H.1
          replace H := H.2
          have o13 := H.1
          replace H := H.2
          refine w_copy rfl rfl o11 o12 o13 (fun h14 eh14 => ?_)
          replace H := H h14 eh14
          refine w_aload rfl rfl ?_
          refine w_getR 6 9 rfl rfl rfl rfl p_a0 ?_
          refine w_aload rfl rfl ?_
          refine w_getR 2 23 rfl rfl rfl rfl p_a0 ?_
          refine w_iload rfl rfl ?_
          have o15 := H.1
          replace H := H.2
          have o16 := H.1
          replace H := H.2
          refine w_aaload rfl rfl rfl o15 o16 ?_
          refine w_callI rfl (fun _ => rfl) rfl (cI_mono H fun v18 h17 H => ?_)
          exact w_ireturn rfl H
        · replace H := H.2 hc
          refine w_iconst rfl ⟨by decide, by decide⟩ ?_
          refine w_aload rfl rfl ?_
          refine w_getR 9 7 rfl rfl rfl rfl p_a0 ?_
          refine w_getI 8 rfl rfl rfl o7 ?_
          have o19 := H.1
          replace H := H.2
          refine w_isub rfl o19 ?_
          exact w_ireturn rfl H
      · replace H := H.2 hc
        refine w_iconst rfl ⟨by decide, by decide⟩ ?_
        exact w_ireturn rfl H
set_option maxHeartbeats 4000000 in
set_option maxRecDepth 100000 in
theorem r_Works_group {d : Nat} {Q : cm_Q} {h : cm_H} {a0 : Nat} {x1 : Int} (p_a0 : 0 < a0) (H : ((x1 = 0 → (0 < ((ch_R h a0 7)) ∧ Q (some (vI (ch_I h (ch_R h a0 7) 2))) h)) ∧ (¬ x1 = 0 → ((x1 = 1 → (0 < ((ch_R h a0 7)) ∧ Q (some (vI (ch_I h (ch_R h a0 7) 0))) h)) ∧ (¬ x1 = 1 → ((x1 = 2 → (0 < ((ch_R h a0 7)) ∧ Q (some (vI (ch_I h (ch_R h a0 7) 1))) h)) ∧ (¬ x1 = 2 → ((x1 = 3 → (cI d m_Members_lots [vR 3 (ch_R h a0 7)] h fun v5 h4 => Q (some (vI v5)) h4)) ∧ (¬ x1 = 3 → ((x1 = 4 → (cI d m_Members_commonPower [vR 3 (ch_R h a0 7)] h fun v7 h6 => Q (some (vI v7)) h6)) ∧ (¬ x1 = 4 → ((x1 = 5 → (cI d m_Members_isEitherOrder [vR 3 (ch_R h a0 7)] h fun v9 h8 => ((v9 = 0 → Q (some (vI 0)) h8) ∧ (¬ v9 = 0 → Q (some (vI 1)) h8)))) ∧ (¬ x1 = 5 → Q (some (vI (-1))) h))))))))))))) : cm_call (d + 1) m_Works_group [vR 11 a0, vI x1] h Q := by
  refine cm_call_in (C := cd_Works_group) (ls := [some (vR 11 a0), some (vI x1)]) rfl rfl p_a0 rfl ?_
  refine w_iload rfl rfl ?_
  refine w_switch rfl ?_
  refine And.intro (fun hc => ?_) (fun hc => ?_)
  · replace H := H.1 hc
    show cw _ _ _ 40 _ _ _
    refine w_aload rfl rfl ?_
    refine w_getR 7 3 rfl rfl rfl rfl p_a0 ?_
    have o1 := H.1
    replace H := H.2
    refine w_getI 2 rfl rfl rfl o1 ?_
    exact w_ireturn rfl H
  · replace H := H.2 hc
    refine And.intro (fun hc => ?_) (fun hc => ?_)
    · replace H := H.1 hc
      show cw _ _ _ 48 _ _ _
      refine w_aload rfl rfl ?_
      refine w_getR 7 3 rfl rfl rfl rfl p_a0 ?_
      have o2 := H.1
      replace H := H.2
      refine w_getI 0 rfl rfl rfl o2 ?_
      exact w_ireturn rfl H
    · replace H := H.2 hc
      refine And.intro (fun hc => ?_) (fun hc => ?_)
      · replace H := H.1 hc
        show cw _ _ _ 56 _ _ _
        refine w_aload rfl rfl ?_
        refine w_getR 7 3 rfl rfl rfl rfl p_a0 ?_
        have o3 := H.1
        replace H := H.2
        refine w_getI 1 rfl rfl rfl o3 ?_
        exact w_ireturn rfl H
      · replace H := H.2 hc
        refine And.intro (fun hc => ?_) (fun hc => ?_)
        · replace H := H.1 hc
          show cw _ _ _ 64 _ _ _
          refine w_aload rfl rfl ?_
          refine w_getR 7 3 rfl rfl rfl rfl p_a0 ?_
          refine w_callI rfl (fun _ => rfl) rfl (cI_mono H fun v5 h4 H => ?_)
          exact w_ireturn rfl H
        · replace H := H.2 hc
          refine And.intro (fun hc => ?_) (fun hc => ?_)
          · replace H := H.1 hc
            show cw _ _ _ 72 _ _ _
            refine w_aload rfl rfl ?_
            refine w_getR 7 3 rfl rfl rfl rfl p_a0 ?_
            refine w_callI rfl (fun _ => rfl) rfl (cI_mono H fun v7 h6 H => ?_)
            exact w_ireturn rfl H
          · replace H := H.2 hc
            refine And.intro (fun hc => ?_) (fun hc => ?_)
            · replace H := H.1 hc
              show cw _ _ _ 80 _ _ _
              refine w_aload rfl rfl ?_
              refine w_getR 7 3 rfl rfl rfl rfl p_a0 ?_
              refine w_callI rfl (fun _ => rfl) rfl (cI_mono H fun v9 h8 H => ?_)
              refine w_if rfl (And.intro (fun hc => ?_) (fun hc => ?_))
              · replace H := H.1 hc
                refine w_iconst rfl ⟨by decide, by decide⟩ ?_
                exact w_ireturn rfl H
              · replace H := H.2 hc
                refine w_iconst rfl ⟨by decide, by decide⟩ ?_
                refine w_goto rfl ?_
                exact w_ireturn rfl H
            · replace H := H.2 hc
              show cw _ _ _ 96 _ _ _
              refine w_iconst rfl ⟨by decide, by decide⟩ ?_
              exact w_ireturn rfl H
set_option maxHeartbeats 4000000 in
set_option maxRecDepth 100000 in
theorem r_Works_member {d : Nat} {Q : cm_Q} {h : cm_H} {a0 : Nat} {x1 : Int} {x2 : Int} {x3 : Int} (p_a0 : 0 < a0) (H : (0 < ((ch_R h a0 7)) ∧ (cI d m_Works_isMember [vR 11 a0, vI x1] h fun v3 h2 => ((v3 = 0 → Q (some (vI (-1))) h2) ∧ (¬ v3 = 0 → ((x2 < 0 → Q (some (vI (-1))) h2) ∧ (0 ≤ x2 → (((ch_I h (ch_R h a0 7) 0) ≤ x2 → Q (some (vI (-1))) h2) ∧ (x2 < (ch_I h (ch_R h a0 7) 0) → ((x3 < 0 → Q (some (vI (-1))) h2) ∧ (0 ≤ x3 → ((x3 < (ch_I h (ch_R h a0 7) 0) → (0 < ((ch_R h2 a0 7)) ∧ (cm_i (9 * x1) ∧ (cm_i ((ch_I h (ch_R h a0 7) 0) * x2) ∧ (cm_i ((9 * x1) + ((ch_I h (ch_R h a0 7) 0) * x2)) ∧ (cm_i (((9 * x1) + ((ch_I h (ch_R h a0 7) 0) * x2)) + x3) ∧ (0 < ((ch_R h2 (ch_R h2 a0 7) 4)) ∧ ((0:Int) ≤ (((9 * x1) + ((ch_I h (ch_R h a0 7) 0) * x2)) + x3) ∧ (((9 * x1) + ((ch_I h (ch_R h a0 7) 0) * x2)) + x3) < ch_L h2 (ch_R h2 (ch_R h2 a0 7) 4)) ∧ Q (some (vI (ch_I h2 (ch_R h2 (ch_R h2 a0 7) 4) (((9 * x1) + ((ch_I h (ch_R h a0 7) 0) * x2)) + x3)))) h2))))))) ∧ ((ch_I h (ch_R h a0 7) 0) ≤ x3 → Q (some (vI (-1))) h2))))))))))))) : cm_call (d + 1) m_Works_member [vR 11 a0, vI x1, vI x2, vI x3] h Q := by
  refine cm_call_in (C := cd_Works_member) (ls := [some (vR 11 a0), some (vI x1), some (vI x2), some (vI x3), none]) rfl rfl p_a0 rfl ?_
  refine w_aload rfl rfl ?_
  refine w_getR 7 3 rfl rfl rfl rfl p_a0 ?_
  have o1 := H.1
  replace H := H.2
  refine w_getI 0 rfl rfl rfl o1 ?_
  refine w_istore rfl rfl ?_
  refine w_aload rfl rfl ?_
  refine w_iload rfl rfl ?_
  refine w_callI rfl (fun _ => rfl) rfl (cI_mono H fun v3 h2 H => ?_)
  refine w_if rfl (And.intro (fun hc => ?_) (fun hc => ?_))
  · replace H := H.1 hc
    refine w_iconst rfl ⟨by decide, by decide⟩ ?_
    exact w_ireturn rfl H
  · replace H := H.2 hc
    refine w_iload rfl rfl ?_
    refine w_if rfl (And.intro (fun hc => ?_) (fun hc => ?_))
    · replace H := H.1 hc
      refine w_iconst rfl ⟨by decide, by decide⟩ ?_
      exact w_ireturn rfl H
    · replace H := H.2 hc
      refine w_iload rfl rfl ?_
      refine w_iload rfl rfl ?_
      refine w_icmp rfl (And.intro (fun hc => ?_) (fun hc => ?_))
      · replace H := H.1 hc
        refine w_iconst rfl ⟨by decide, by decide⟩ ?_
        exact w_ireturn rfl H
      · replace H := H.2 hc
        refine w_iload rfl rfl ?_
        refine w_if rfl (And.intro (fun hc => ?_) (fun hc => ?_))
        · replace H := H.1 hc
          refine w_iconst rfl ⟨by decide, by decide⟩ ?_
          exact w_ireturn rfl H
        · replace H := H.2 hc
          refine w_iload rfl rfl ?_
          refine w_iload rfl rfl ?_
          refine w_icmp rfl (And.intro (fun hc => ?_) (fun hc => ?_))
          · replace H := H.1 hc
            refine w_aload rfl rfl ?_
            refine w_getR 7 3 rfl rfl rfl rfl p_a0 ?_
            have o4 := H.1
            replace H := H.2
            refine w_getR 4 20 rfl rfl rfl rfl o4 ?_
            refine w_iconst rfl ⟨by decide, by decide⟩ ?_
            refine w_iload rfl rfl ?_
            have o5 := H.1
            replace H := H.2
            refine w_imul rfl o5 ?_
            refine w_iload rfl rfl ?_
            refine w_iload rfl rfl ?_
            have o6 := H.1
            replace H := H.2
            refine w_imul rfl o6 ?_
            have o7 := H.1
            replace H := H.2
            refine w_iadd rfl o7 ?_
            refine w_iload rfl rfl ?_
            have o8 := H.1
            replace H := H.2
            refine w_iadd rfl o8 ?_
            have o9 := H.1
            replace H := H.2
            have o10 := H.1
            replace H := H.2
            refine w_iaload rfl o9 o10 ?_
            exact w_ireturn rfl H
          · replace H := H.2 hc
            refine w_iconst rfl ⟨by decide, by decide⟩ ?_
            exact w_ireturn rfl H
set_option maxHeartbeats 4000000 in
set_option maxRecDepth 100000 in
theorem r_Works_times {d : Nat} {Q : cm_Q} {h : cm_H} {a0 : Nat} {x1 : Int} {x2 : Int} (p_a0 : 0 < a0) (H : (cI d m_Works_isMember [vR 11 a0, vI x1] h fun v2 h1 => ((v2 = 0 → Q (some (vI (-1))) h1) ∧ (¬ v2 = 0 → (cI d m_Works_isMember [vR 11 a0, vI x2] h1 fun v4 h3 => ((¬ v4 = 0 → (0 < ((ch_R h3 a0 7)) ∧ (cm_i (48 * x1) ∧ (cm_i ((48 * x1) + x2) ∧ (0 < ((ch_R h3 (ch_R h3 a0 7) 6)) ∧ ((0:Int) ≤ ((48 * x1) + x2) ∧ ((48 * x1) + x2) < ch_L h3 (ch_R h3 (ch_R h3 a0 7) 6)) ∧ Q (some (vI (ch_I h3 (ch_R h3 (ch_R h3 a0 7) 6) ((48 * x1) + x2)))) h3))))) ∧ (v4 = 0 → Q (some (vI (-1))) h3))))))) : cm_call (d + 1) m_Works_times [vR 11 a0, vI x1, vI x2] h Q := by
  refine cm_call_in (C := cd_Works_times) (ls := [some (vR 11 a0), some (vI x1), some (vI x2)]) rfl rfl p_a0 rfl ?_
  refine w_aload rfl rfl ?_
  refine w_iload rfl rfl ?_
  refine w_callI rfl (fun _ => rfl) rfl (cI_mono H fun v2 h1 H => ?_)
  refine w_if rfl (And.intro (fun hc => ?_) (fun hc => ?_))
  · replace H := H.1 hc
    refine w_iconst rfl ⟨by decide, by decide⟩ ?_
    exact w_ireturn rfl H
  · replace H := H.2 hc
    refine w_aload rfl rfl ?_
    refine w_iload rfl rfl ?_
    refine w_callI rfl (fun _ => rfl) rfl (cI_mono H fun v4 h3 H => ?_)
    refine w_if rfl (And.intro (fun hc => ?_) (fun hc => ?_))
    · replace H := H.1 hc
      refine w_aload rfl rfl ?_
      refine w_getR 7 3 rfl rfl rfl rfl p_a0 ?_
      have o5 := H.1
      replace H := H.2
      refine w_getR 6 20 rfl rfl rfl rfl o5 ?_
      refine w_iconst rfl ⟨by decide, by decide⟩ ?_
      refine w_iload rfl rfl ?_
      have o6 := H.1
      replace H := H.2
      refine w_imul rfl o6 ?_
      refine w_iload rfl rfl ?_
      have o7 := H.1
      replace H := H.2
      refine w_iadd rfl o7 ?_
      have o8 := H.1
      replace H := H.2
      have o9 := H.1
      replace H := H.2
      refine w_iaload rfl o8 o9 ?_
      exact w_ireturn rfl H
    · replace H := H.2 hc
      refine w_iconst rfl ⟨by decide, by decide⟩ ?_
      exact w_ireturn rfl H
set_option maxHeartbeats 4000000 in
set_option maxRecDepth 100000 in
theorem r_Works_about {d : Nat} {Q : cm_Q} {h : cm_H} {a0 : Nat} {x1 : Int} {x2 : Int} (p_a0 : 0 < a0) (H : (cI d m_Works_isMember [vR 11 a0, vI x1] h fun v2 h1 => ((¬ v2 = 0 → ((x2 = 0 → (0 < ((ch_R h1 a0 7)) ∧ (0 < ((ch_R h1 (ch_R h1 a0 7) 7)) ∧ ((0:Int) ≤ x1 ∧ x1 < ch_L h1 (ch_R h1 (ch_R h1 a0 7) 7)) ∧ Q (some (vI (ch_I h1 (ch_R h1 (ch_R h1 a0 7) 7) x1))) h1))) ∧ (¬ x2 = 0 → ((x2 = 1 → (0 < ((ch_R h1 a0 7)) ∧ (0 < ((ch_R h1 (ch_R h1 a0 7) 8)) ∧ ((0:Int) ≤ x1 ∧ x1 < ch_L h1 (ch_R h1 (ch_R h1 a0 7) 8)) ∧ Q (some (vI (ch_I h1 (ch_R h1 (ch_R h1 a0 7) 8) x1))) h1))) ∧ (¬ x2 = 1 → ((x2 = 2 → (0 < ((ch_R h1 a0 7)) ∧ (cm_i (9 * x1) ∧ (cI d m_Works_determinant [vR 20 (ch_R h1 (ch_R h1 a0 7) 4), vI (9 * x1), vI (ch_I h1 (ch_R h1 a0 7) 0)] h1 fun v12 h11 => Q (some (vI v12)) h11)))) ∧ (¬ x2 = 2 → ((x2 = 3 → (cI d m_Members_trace [vR 3 (ch_R h1 a0 7), vI x1] h1 fun v14 h13 => Q (some (vI v14)) h13)) ∧ (¬ x2 = 3 → Q (some (vI (-1))) h1))))))))) ∧ (v2 = 0 → Q (some (vI (-1))) h1)))) : cm_call (d + 1) m_Works_about [vR 11 a0, vI x1, vI x2] h Q := by
  refine cm_call_in (C := cd_Works_about) (ls := [some (vR 11 a0), some (vI x1), some (vI x2)]) rfl rfl p_a0 rfl ?_
  refine w_aload rfl rfl ?_
  refine w_iload rfl rfl ?_
  refine w_callI rfl (fun _ => rfl) rfl (cI_mono H fun v2 h1 H => ?_)
  refine w_if rfl (And.intro (fun hc => ?_) (fun hc => ?_))
  · replace H := H.1 hc
    refine w_iload rfl rfl ?_
    refine w_switch rfl ?_
    refine And.intro (fun hc => ?_) (fun hc => ?_)
    · replace H := H.1 hc
      show cw _ _ _ 40 _ _ _
      refine w_aload rfl rfl ?_
      refine w_getR 7 3 rfl rfl rfl rfl p_a0 ?_
      have o3 := H.1
      replace H := H.2
      refine w_getR 7 20 rfl rfl rfl rfl o3 ?_
      refine w_iload rfl rfl ?_
      have o4 := H.1
      replace H := H.2
      have o5 := H.1
      replace H := H.2
      refine w_iaload rfl o4 o5 ?_
      exact w_ireturn rfl H
    · replace H := H.2 hc
      refine And.intro (fun hc => ?_) (fun hc => ?_)
      · replace H := H.1 hc
        show cw _ _ _ 50 _ _ _
        refine w_aload rfl rfl ?_
        refine w_getR 7 3 rfl rfl rfl rfl p_a0 ?_
        have o6 := H.1
        replace H := H.2
        refine w_getR 8 20 rfl rfl rfl rfl o6 ?_
        refine w_iload rfl rfl ?_
        have o7 := H.1
        replace H := H.2
        have o8 := H.1
        replace H := H.2
        refine w_iaload rfl o7 o8 ?_
        exact w_ireturn rfl H
      · replace H := H.2 hc
        refine And.intro (fun hc => ?_) (fun hc => ?_)
        · replace H := H.1 hc
          show cw _ _ _ 60 _ _ _
          refine w_aload rfl rfl ?_
          refine w_getR 7 3 rfl rfl rfl rfl p_a0 ?_
          have o9 := H.1
          replace H := H.2
          refine w_getR 4 20 rfl rfl rfl rfl o9 ?_
          refine w_iconst rfl ⟨by decide, by decide⟩ ?_
          refine w_iload rfl rfl ?_
          have o10 := H.1
          replace H := H.2
          refine w_imul rfl o10 ?_
          refine w_aload rfl rfl ?_
          refine w_getR 7 3 rfl rfl rfl rfl p_a0 ?_
          refine w_getI 0 rfl rfl rfl o9 ?_
          refine w_callI rfl (fun _ => rfl) rfl (cI_mono H fun v12 h11 H => ?_)
          exact w_ireturn rfl H
        · replace H := H.2 hc
          refine And.intro (fun hc => ?_) (fun hc => ?_)
          · replace H := H.1 hc
            show cw _ _ _ 82 _ _ _
            refine w_aload rfl rfl ?_
            refine w_getR 7 3 rfl rfl rfl rfl p_a0 ?_
            refine w_iload rfl rfl ?_
            refine w_callI rfl (fun _ => rfl) rfl (cI_mono H fun v14 h13 H => ?_)
            exact w_ireturn rfl H
          · replace H := H.2 hc
            show cw _ _ _ 91 _ _ _
            refine w_iconst rfl ⟨by decide, by decide⟩ ?_
            exact w_ireturn rfl H
  · replace H := H.2 hc
    refine w_iconst rfl ⟨by decide, by decide⟩ ?_
    exact w_ireturn rfl H
set_option maxHeartbeats 4000000 in
set_option maxRecDepth 100000 in
theorem r_Works_of {d : Nat} {Q : cm_Q} {h : cm_H} {a0 : Nat} {x1 : Int} {x2 : Int} (p_a0 : 0 < a0) (H : (cI d m_Works_isKept [vI x1] h fun v2 h1 => ((¬ v2 = 0 → ((x2 = 0 → (0 < ((ch_R h1 a0 2)) ∧ ((0:Int) ≤ x1 ∧ x1 < ch_L h1 (ch_R h1 a0 2)) ∧ (cI d m_Shape_degreeOf [vR 9 (ch_R h1 a0 6), vR 20 (ch_R h1 (ch_R h1 a0 2) x1)] h1 fun v6 h5 => Q (some (vI v6)) h5))) ∧ (¬ x2 = 0 → ((x2 = 1 → (0 < ((ch_R h1 a0 2)) ∧ ((0:Int) ≤ x1 ∧ x1 < ch_L h1 (ch_R h1 a0 2)) ∧ (cI d m_Shape_termsOf [vR 9 (ch_R h1 a0 6), vR 20 (ch_R h1 (ch_R h1 a0 2) x1)] h1 fun v10 h9 => Q (some (vI v10)) h9))) ∧ (¬ x2 = 1 → ((x2 = 2 → (0 < ((ch_R h1 a0 2)) ∧ ((0:Int) ≤ x1 ∧ x1 < ch_L h1 (ch_R h1 a0 2)) ∧ (cI d m_Works_isLeftAlone [vR 11 a0, vR 20 (ch_R h1 (ch_R h1 a0 2) x1)] h1 fun v14 h13 => ((v14 = 0 → Q (some (vI 0)) h13) ∧ (¬ v14 = 0 → Q (some (vI 1)) h13))))) ∧ (¬ x2 = 2 → ((x2 = 3 → (0 < ((ch_R h1 a0 2)) ∧ ((0:Int) ≤ x1 ∧ x1 < ch_L h1 (ch_R h1 a0 2)) ∧ (cI d m_Shape_isOneDegree [vR 9 (ch_R h1 a0 6), vR 20 (ch_R h1 (ch_R h1 a0 2) x1)] h1 fun v18 h17 => ((v18 = 0 → Q (some (vI 0)) h17) ∧ (¬ v18 = 0 → Q (some (vI 1)) h17))))) ∧ (¬ x2 = 3 → ((x2 = 4 → (0 < ((ch_R h1 a0 2)) ∧ ((0:Int) ≤ x1 ∧ x1 < ch_L h1 (ch_R h1 a0 2)) ∧ (cI d m_Works_unlikeMoved [vR 11 a0, vR 20 (ch_R h1 (ch_R h1 a0 2) x1)] h1 fun v22 h21 => Q (some (vI v22)) h21))) ∧ (¬ x2 = 4 → Q (some (vI (-1))) h1))))))))))) ∧ (v2 = 0 → Q (some (vI (-1))) h1)))) : cm_call (d + 1) m_Works_of [vR 11 a0, vI x1, vI x2] h Q := by
  refine cm_call_in (C := cd_Works_of) (ls := [some (vR 11 a0), some (vI x1), some (vI x2)]) rfl rfl p_a0 rfl ?_
  refine w_iload rfl rfl ?_
  refine w_callI rfl (fun _ => rfl) rfl (cI_mono H fun v2 h1 H => ?_)
  refine w_if rfl (And.intro (fun hc => ?_) (fun hc => ?_))
  · replace H := H.1 hc
    refine w_iload rfl rfl ?_
    refine w_switch rfl ?_
    refine And.intro (fun hc => ?_) (fun hc => ?_)
    · replace H := H.1 hc
      show cw _ _ _ 44 _ _ _
      refine w_aload rfl rfl ?_
      refine w_getR 6 9 rfl rfl rfl rfl p_a0 ?_
      refine w_aload rfl rfl ?_
      refine w_getR 2 23 rfl rfl rfl rfl p_a0 ?_
      refine w_iload rfl rfl ?_
      have o3 := H.1
      replace H := H.2
      have o4 := H.1
      replace H := H.2
      refine w_aaload rfl rfl rfl o3 o4 ?_
      refine w_callI rfl (fun _ => rfl) rfl (cI_mono H fun v6 h5 H => ?_)
      exact w_ireturn rfl H
    · replace H := H.2 hc
      refine And.intro (fun hc => ?_) (fun hc => ?_)
      · replace H := H.1 hc
        show cw _ _ _ 58 _ _ _
        refine w_aload rfl rfl ?_
        refine w_getR 6 9 rfl rfl rfl rfl p_a0 ?_
        refine w_aload rfl rfl ?_
        refine w_getR 2 23 rfl rfl rfl rfl p_a0 ?_
        refine w_iload rfl rfl ?_
        have o7 := H.1
        replace H := H.2
        have o8 := H.1
        replace H := H.2
        refine w_aaload rfl rfl rfl o7 o8 ?_
        refine w_callI rfl (fun _ => rfl) rfl (cI_mono H fun v10 h9 H => ?_)
        exact w_ireturn rfl H
      · replace H := H.2 hc
        refine And.intro (fun hc => ?_) (fun hc => ?_)
        · replace H := H.1 hc
          show cw _ _ _ 72 _ _ _
          refine w_aload rfl rfl ?_
          refine w_aload rfl rfl ?_
          refine w_getR 2 23 rfl rfl rfl rfl p_a0 ?_
          refine w_iload rfl rfl ?_
          have o11 := H.1
          replace H := H.2
          have o12 := H.1
          replace H := H.2
          refine w_aaload rfl rfl rfl o11 o12 ?_
          refine w_callI rfl (fun _ => rfl) rfl (cI_mono H fun v14 h13 H => ?_)
          refine w_if rfl (And.intro (fun hc => ?_) (fun hc => ?_))
          · replace H := H.1 hc
            refine w_iconst rfl ⟨by decide, by decide⟩ ?_
            exact w_ireturn rfl H
          · replace H := H.2 hc
            refine w_iconst rfl ⟨by decide, by decide⟩ ?_
            refine w_goto rfl ?_
            exact w_ireturn rfl H
        · replace H := H.2 hc
          refine And.intro (fun hc => ?_) (fun hc => ?_)
          · replace H := H.1 hc
            show cw _ _ _ 91 _ _ _
            refine w_aload rfl rfl ?_
            refine w_getR 6 9 rfl rfl rfl rfl p_a0 ?_
            refine w_aload rfl rfl ?_
            refine w_getR 2 23 rfl rfl rfl rfl p_a0 ?_
            refine w_iload rfl rfl ?_
            have o15 := H.1
            replace H := H.2
            have o16 := H.1
            replace H := H.2
            refine w_aaload rfl rfl rfl o15 o16 ?_
            refine w_callI rfl (fun _ => rfl) rfl (cI_mono H fun v18 h17 H => ?_)
            refine w_if rfl (And.intro (fun hc => ?_) (fun hc => ?_))
            · replace H := H.1 hc
              refine w_iconst rfl ⟨by decide, by decide⟩ ?_
              exact w_ireturn rfl H
            · replace H := H.2 hc
              refine w_iconst rfl ⟨by decide, by decide⟩ ?_
              refine w_goto rfl ?_
              exact w_ireturn rfl H
          · replace H := H.2 hc
            refine And.intro (fun hc => ?_) (fun hc => ?_)
            · replace H := H.1 hc
              show cw _ _ _ 113 _ _ _
              refine w_aload rfl rfl ?_
              refine w_aload rfl rfl ?_
              refine w_getR 2 23 rfl rfl rfl rfl p_a0 ?_
              refine w_iload rfl rfl ?_
              have o19 := H.1
              replace H := H.2
              have o20 := H.1
              replace H := H.2
              refine w_aaload rfl rfl rfl o19 o20 ?_
              refine w_callI rfl (fun _ => rfl) rfl (cI_mono H fun v22 h21 H => ?_)
              exact w_ireturn rfl H
            · replace H := H.2 hc
              show cw _ _ _ 124 _ _ _
              refine w_iconst rfl ⟨by decide, by decide⟩ ?_
              exact w_ireturn rfl H
  · replace H := H.2 hc
    refine w_iconst rfl ⟨by decide, by decide⟩ ?_
    exact w_ireturn rfl H
set_option maxHeartbeats 4000000 in
set_option maxRecDepth 100000 in
theorem r_Works_factor_49 {d : Nat} {Q : cm_Q} {h : cm_H} {a0 : Nat} {x1 : Int} {x2 : Int} {x3 : Int} {x4 : Int} {z5 : Option cm_V} (p_a0 : 0 < a0) (H : (cm_i (x2 + x3) ∧ (cm_i ((x2 + x3) + x4) ∧ ((((x2 + x3) + x4) ≤ 15 → (0 < ((ch_R h a0 2)) ∧ ((0:Int) ≤ x1 ∧ x1 < ch_L h (ch_R h a0 2)) ∧ (0 < ((ch_R h a0 6)) ∧ (0 < ((ch_R h (ch_R h a0 6) 3)) ∧ ((0:Int) ≤ ((x2 + x3) + x4) ∧ ((x2 + x3) + x4) < ch_L h (ch_R h (ch_R h a0 6) 3)) ∧ (cm_i (x3 + x4) ∧ (0 < ((ch_R h (ch_R h a0 6) 2)) ∧ ((0:Int) ≤ (x3 + x4) ∧ (x3 + x4) < ch_L h (ch_R h (ch_R h a0 6) 2)) ∧ (cm_i ((ch_I h (ch_R h (ch_R h a0 6) 3) ((x2 + x3) + x4)) + (ch_I h (ch_R h (ch_R h a0 6) 2) (x3 + x4))) ∧ (cm_i (((ch_I h (ch_R h (ch_R h a0 6) 3) ((x2 + x3) + x4)) + (ch_I h (ch_R h (ch_R h a0 6) 2) (x3 + x4))) + x4) ∧ (0 < ((ch_R h (ch_R h a0 2) x1)) ∧ ((0:Int) ≤ (((ch_I h (ch_R h (ch_R h a0 6) 3) ((x2 + x3) + x4)) + (ch_I h (ch_R h (ch_R h a0 6) 2) (x3 + x4))) + x4) ∧ (((ch_I h (ch_R h (ch_R h a0 6) 3) ((x2 + x3) + x4)) + (ch_I h (ch_R h (ch_R h a0 6) 2) (x3 + x4))) + x4) < ch_L h (ch_R h (ch_R h a0 2) x1)) ∧ Q (some (vI (ch_I h (ch_R h (ch_R h a0 2) x1) (((ch_I h (ch_R h (ch_R h a0 6) 3) ((x2 + x3) + x4)) + (ch_I h (ch_R h (ch_R h a0 6) 2) (x3 + x4))) + x4)))) h))))))))) ∧ (15 < ((x2 + x3) + x4) → Q (some (vI 0)) h))))) : cw d cd_Works_factor Q 49 [some (vR 11 a0), some (vI x1), some (vI x2), some (vI x3), some (vI x4), z5] [] h := by
  refine w_iload rfl rfl ?_
  refine w_iload rfl rfl ?_
  have o1 := H.1
  replace H := H.2
  refine w_iadd rfl o1 ?_
  refine w_iload rfl rfl ?_
  have o2 := H.1
  replace H := H.2
  refine w_iadd rfl o2 ?_
  refine w_istore rfl rfl ?_
  refine w_iload rfl rfl ?_
  refine w_iconst rfl ⟨by decide, by decide⟩ ?_
  refine w_icmp rfl (And.intro (fun hc => ?_) (fun hc => ?_))
  · replace H := H.1 hc
    refine w_aload rfl rfl ?_
    refine w_getR 2 23 rfl rfl rfl rfl p_a0 ?_
    refine w_iload rfl rfl ?_
    have o3 := H.1
    replace H := H.2
    have o4 := H.1
    replace H := H.2
    refine w_aaload rfl rfl rfl o3 o4 ?_
    refine w_aload rfl rfl ?_
    refine w_getR 6 9 rfl rfl rfl rfl p_a0 ?_
    have o5 := H.1
    replace H := H.2
    refine w_getR 3 20 rfl rfl rfl rfl o5 ?_
    refine w_iload rfl rfl ?_
    have o6 := H.1
    replace H := H.2
    have o7 := H.1
    replace H := H.2
    refine w_iaload rfl o6 o7 ?_
    refine w_aload rfl rfl ?_
    refine w_getR 6 9 rfl rfl rfl rfl p_a0 ?_
    refine w_getR 2 20 rfl rfl rfl rfl o5 ?_
    refine w_iload rfl rfl ?_
    refine w_iload rfl rfl ?_
    have o8 := H.1
    replace H := H.2
    refine w_iadd rfl o8 ?_
    have o9 := H.1
    replace H := H.2
    have o10 := H.1
    replace H := H.2
    refine w_iaload rfl o9 o10 ?_
    have o11 := H.1
    replace H := H.2
    refine w_iadd rfl o11 ?_
    refine w_iload rfl rfl ?_
    have o12 := H.1
    replace H := H.2
    refine w_iadd rfl o12 ?_
    have o13 := H.1
    replace H := H.2
    have o14 := H.1
    replace H := H.2
    refine w_iaload rfl o13 o14 ?_
    exact w_ireturn rfl H
  · replace H := H.2 hc
    refine w_iconst rfl ⟨by decide, by decide⟩ ?_
    exact w_ireturn rfl H
set_option maxHeartbeats 4000000 in
set_option maxRecDepth 100000 in
theorem r_Works_factor {d : Nat} {Q : cm_Q} {h : cm_H} {a0 : Nat} {x1 : Int} {x2 : Int} {x3 : Int} {x4 : Int} (p_a0 : 0 < a0) (H : (cI d m_Works_isKept [vI x1] h fun v2 h1 => ((v2 = 0 → Q (some (vI (-1))) h1) ∧ (¬ v2 = 0 → (cI d m_Works_isPower [vI x2] h1 fun v4 h3 => ((v4 = 0 → Q (some (vI (-1))) h3) ∧ (¬ v4 = 0 → (cI d m_Works_isPower [vI x3] h3 fun v6 h5 => ((v6 = 0 → Q (some (vI (-1))) h5) ∧ (¬ v6 = 0 → (cI d m_Works_isPower [vI x4] h5 fun v8 h7 => ((¬ v8 = 0 → ((x4 ≤ 0 → cw d cd_Works_factor Q 49 [some (vR 11 a0), some (vI x1), some (vI x2), some (vI x3), some (vI x4), none] [] h7) ∧ (0 < x4 → (0 < ((ch_R h7 a0 6)) ∧ ((3 ≤ (ch_I h7 (ch_R h7 a0 6) 0) → cw d cd_Works_factor Q 49 [some (vR 11 a0), some (vI x1), some (vI x2), some (vI x3), some (vI x4), none] [] h7) ∧ ((ch_I h7 (ch_R h7 a0 6) 0) < 3 → Q (some (vI (-1))) h7)))))) ∧ (v8 = 0 → Q (some (vI (-1))) h7))))))))))))) : cm_call (d + 1) m_Works_factor [vR 11 a0, vI x1, vI x2, vI x3, vI x4] h Q := by
  refine cm_call_in (C := cd_Works_factor) (ls := [some (vR 11 a0), some (vI x1), some (vI x2), some (vI x3), some (vI x4), none]) rfl rfl p_a0 rfl ?_
  refine w_iload rfl rfl ?_
  refine w_callI rfl (fun _ => rfl) rfl (cI_mono H fun v2 h1 H => ?_)
  refine w_if rfl (And.intro (fun hc => ?_) (fun hc => ?_))
  · replace H := H.1 hc
    refine w_iconst rfl ⟨by decide, by decide⟩ ?_
    exact w_ireturn rfl H
  · replace H := H.2 hc
    refine w_iload rfl rfl ?_
    refine w_callI rfl (fun _ => rfl) rfl (cI_mono H fun v4 h3 H => ?_)
    refine w_if rfl (And.intro (fun hc => ?_) (fun hc => ?_))
    · replace H := H.1 hc
      refine w_iconst rfl ⟨by decide, by decide⟩ ?_
      exact w_ireturn rfl H
    · replace H := H.2 hc
      refine w_iload rfl rfl ?_
      refine w_callI rfl (fun _ => rfl) rfl (cI_mono H fun v6 h5 H => ?_)
      refine w_if rfl (And.intro (fun hc => ?_) (fun hc => ?_))
      · replace H := H.1 hc
        refine w_iconst rfl ⟨by decide, by decide⟩ ?_
        exact w_ireturn rfl H
      · replace H := H.2 hc
        refine w_iload rfl rfl ?_
        refine w_callI rfl (fun _ => rfl) rfl (cI_mono H fun v8 h7 H => ?_)
        refine w_if rfl (And.intro (fun hc => ?_) (fun hc => ?_))
        · replace H := H.1 hc
          refine w_iload rfl rfl ?_
          refine w_if rfl (And.intro (fun hc => ?_) (fun hc => ?_))
          · replace H := H.1 hc
            exact H
          · replace H := H.2 hc
            refine w_aload rfl rfl ?_
            refine w_getR 6 9 rfl rfl rfl rfl p_a0 ?_
            have o9 := H.1
            replace H := H.2
            refine w_getI 0 rfl rfl rfl o9 ?_
            refine w_iconst rfl ⟨by decide, by decide⟩ ?_
            refine w_icmp rfl (And.intro (fun hc => ?_) (fun hc => ?_))
            · replace H := H.1 hc
              exact H
            · replace H := H.2 hc
              refine w_iconst rfl ⟨by decide, by decide⟩ ?_
              exact w_ireturn rfl H
        · replace H := H.2 hc
          refine w_iconst rfl ⟨by decide, by decide⟩ ?_
          exact w_ireturn rfl H
set_option maxHeartbeats 4000000 in
set_option maxRecDepth 100000 in
theorem r_Works_term_37 {d : Nat} {Q : cm_Q} {h : cm_H} {a0 : Nat} {x1 : Int} {x2 : Int} {x3 : Int} {x4 : Int} {x5 : Int} {z6 : Option cm_V} {z7 : Option cm_V} {z8 : Option cm_V} (p_a0 : 0 < a0) (H : ((x5 < 0 → Q cm_exc (ch_thr h)) ∧ (0 ≤ x5 → (0 < ((ch_R h a0 6)) ∧ (0 < ((ch_R h (ch_R h a0 6) 3)) ∧ ((0:Int) ≤ x5 ∧ x5 < ch_L h (ch_R h (ch_R h a0 6) 3)) ∧ (cm_i (x5 + 1) ∧ (0 < ((ch_R h (ch_R h a0 6) 2)) ∧ ((0:Int) ≤ (x5 + 1) ∧ (x5 + 1) < ch_L h (ch_R h (ch_R h a0 6) 2)) ∧ cw d cd_Works_term Q 71 [some (vR 11 a0), some (vI x1), some (vI x2), some (vI x3), some (vI x4), some (vI x5), some (vI (ch_I h (ch_R h (ch_R h a0 6) 3) x5)), some (vI (ch_I h (ch_R h (ch_R h a0 6) 2) (x5 + 1))), some (vI 0)] [] h))))))) : cw d cd_Works_term Q 37 [some (vR 11 a0), some (vI x1), some (vI x2), some (vI x3), some (vI x4), some (vI x5), z6, z7, z8] [] h := by
  refine w_iload rfl rfl ?_
  refine w_if rfl (And.intro (fun hc => ?_) (fun hc => ?_))
  · replace H := H.1 hc
    exact w_throw rfl H
  · replace H := H.2 hc
    refine w_aload rfl rfl ?_
    refine w_getR 6 9 rfl rfl rfl rfl p_a0 ?_
    have o1 := H.1
    replace H := H.2
    refine w_getR 3 20 rfl rfl rfl rfl o1 ?_
    refine w_iload rfl rfl ?_
    have o2 := H.1
    replace H := H.2
    have o3 := H.1
    replace H := H.2
    refine w_iaload rfl o2 o3 ?_
    refine w_istore rfl rfl ?_
    refine w_aload rfl rfl ?_
    refine w_getR 6 9 rfl rfl rfl rfl p_a0 ?_
    refine w_getR 2 20 rfl rfl rfl rfl o1 ?_
    refine w_iload rfl rfl ?_
    refine w_iconst rfl ⟨by decide, by decide⟩ ?_
    have o4 := H.1
    replace H := H.2
    refine w_iadd rfl o4 ?_
    have o5 := H.1
    replace H := H.2
    have o6 := H.1
    replace H := H.2
    refine w_iaload rfl o5 o6 ?_
    refine w_istore rfl rfl ?_
    refine w_iconst rfl ⟨by decide, by decide⟩ ?_
    refine w_istore rfl rfl ?_
    exact H
set_option maxHeartbeats 4000000 in
set_option maxRecDepth 100000 in
theorem r_Works_term_71 {d : Nat} {Q : cm_Q} {h : cm_H} {a0 : Nat} {x1 : Int} {x2 : Int} {x3 : Int} {x4 : Int} {x5 : Int} {x6 : Int} {x7 : Int} {x8 : Int} (p_a0 : 0 < a0) (H : ((x7 ≤ x8 → (cm_i (x5 + (-1)) ∧ cw d cd_Works_term Q 37 [some (vR 11 a0), some (vI x1), some (vI x2), some (vI x3), some (vI x4), some (vI (x5 + (-1))), some (vI x6), some (vI x7), some (vI x8)] [] h)) ∧ (x8 < x7 → (0 < ((ch_R h a0 2)) ∧ ((0:Int) ≤ x1 ∧ x1 < ch_L h (ch_R h a0 2)) ∧ (cm_i (x6 + x8) ∧ (0 < ((ch_R h (ch_R h a0 2) x1)) ∧ ((0:Int) ≤ (x6 + x8) ∧ (x6 + x8) < ch_L h (ch_R h (ch_R h a0 2) x1)) ∧ ((¬ (ch_I h (ch_R h (ch_R h a0 2) x1) (x6 + x8)) = 0 → ((¬ x4 = x2 → (cm_i (x4 + 1) ∧ (cm_i (x8 + 1) ∧ cw d cd_Works_term Q 71 [some (vR 11 a0), some (vI x1), some (vI x2), some (vI x3), some (vI (x4 + 1)), some (vI x5), some (vI x6), some (vI x7), some (vI (x8 + 1))] [] h))) ∧ (x4 = x2 → ((¬ x3 = 0 → (cm_i (x3 - 1) ∧ (cI d m_Shape_power [vR 9 (ch_R h a0 6), vI x5, vI x8, vI (x3 - 1)] h fun v11 h10 => Q (some (vI v11)) h10))) ∧ (x3 = 0 → Q (some (vI (ch_I h (ch_R h (ch_R h a0 2) x1) (x6 + x8)))) h))))) ∧ ((ch_I h (ch_R h (ch_R h a0 2) x1) (x6 + x8)) = 0 → (cm_i (x8 + 1) ∧ cw d cd_Works_term Q 71 [some (vR 11 a0), some (vI x1), some (vI x2), some (vI x3), some (vI x4), some (vI x5), some (vI x6), some (vI x7), some (vI (x8 + 1))] [] h))))))))) : cw d cd_Works_term Q 71 [some (vR 11 a0), some (vI x1), some (vI x2), some (vI x3), some (vI x4), some (vI x5), some (vI x6), some (vI x7), some (vI x8)] [] h := by
  refine w_iload rfl rfl ?_
  refine w_iload rfl rfl ?_
  refine w_icmp rfl (And.intro (fun hc => ?_) (fun hc => ?_))
  · replace H := H.1 hc
    have o1 := H.1
    replace H := H.2
    refine w_iinc rfl rfl rfl o1 ?_
    refine w_goto rfl ?_
    exact H
  · replace H := H.2 hc
    refine w_aload rfl rfl ?_
    refine w_getR 2 23 rfl rfl rfl rfl p_a0 ?_
    refine w_iload rfl rfl ?_
    have o2 := H.1
    replace H := H.2
    have o3 := H.1
    replace H := H.2
    refine w_aaload rfl rfl rfl o2 o3 ?_
    refine w_iload rfl rfl ?_
    refine w_iload rfl rfl ?_
    have o4 := H.1
    replace H := H.2
    refine w_iadd rfl o4 ?_
    have o5 := H.1
    replace H := H.2
    have o6 := H.1
    replace H := H.2
    refine w_iaload rfl o5 o6 ?_
    refine w_if rfl (And.intro (fun hc => ?_) (fun hc => ?_))
    · replace H := H.1 hc
      refine w_iload rfl rfl ?_
      refine w_iload rfl rfl ?_
      refine w_icmp rfl (And.intro (fun hc => ?_) (fun hc => ?_))
      · replace H := H.1 hc
        have o7 := H.1
        replace H := H.2
        refine w_iinc rfl rfl rfl o7 ?_
        have o8 := H.1
        replace H := H.2
        refine w_iinc rfl rfl rfl o8 ?_
        refine w_goto rfl ?_
        exact H
      · replace H := H.2 hc
        refine w_iload rfl rfl ?_
        refine w_if rfl (And.intro (fun hc => ?_) (fun hc => ?_))
        · replace H := H.1 hc
          refine w_aload rfl rfl ?_
          refine w_getR 6 9 rfl rfl rfl rfl p_a0 ?_
          refine w_iload rfl rfl ?_
          refine w_iload rfl rfl ?_
          refine w_iload rfl rfl ?_
          refine w_iconst rfl ⟨by decide, by decide⟩ ?_
          have o9 := H.1
          replace H := H.2
          refine w_isub rfl o9 ?_
          refine w_callI rfl (fun _ => rfl) rfl (cI_mono H fun v11 h10 H => ?_)
          exact w_ireturn rfl H
        · replace H := H.2 hc
          refine w_aload rfl rfl ?_
          refine w_getR 2 23 rfl rfl rfl rfl p_a0 ?_
          refine w_iload rfl rfl ?_
          refine w_aaload rfl rfl rfl o2 o3 ?_
          refine w_iload rfl rfl ?_
          refine w_iload rfl rfl ?_
          refine w_iadd rfl o4 ?_
          refine w_iaload rfl o5 o6 ?_
          refine w_goto rfl ?_
          exact w_ireturn rfl H
    · replace H := H.2 hc
      refine w_goto rfl ?_
      have o12 := H.1
      replace H := H.2
      refine w_iinc rfl rfl rfl o12 ?_
      refine w_goto rfl ?_
      exact H
set_option maxHeartbeats 4000000 in
set_option maxRecDepth 100000 in
theorem r_Works_term {d : Nat} {Q : cm_Q} {h : cm_H} {a0 : Nat} {x1 : Int} {x2 : Int} {x3 : Int} (p_a0 : 0 < a0) (H : (cI d m_Works_isKept [vI x1] h fun v2 h1 => ((v2 = 0 → Q cm_exc (ch_thr h1)) ∧ (¬ v2 = 0 → ((x2 < 0 → Q cm_exc (ch_thr h1)) ∧ (0 ≤ x2 → ((x3 < 0 → Q cm_exc (ch_thr h1)) ∧ (0 ≤ x3 → ((x3 ≤ 3 → cw d cd_Works_term Q 37 [some (vR 11 a0), some (vI x1), some (vI x2), some (vI x3), some (vI 0), some (vI 15), none, none, none] [] h1) ∧ (3 < x3 → Q cm_exc (ch_thr h1))))))))))) : cm_call (d + 1) m_Works_term [vR 11 a0, vI x1, vI x2, vI x3] h Q := by
  refine cm_call_in (C := cd_Works_term) (ls := [some (vR 11 a0), some (vI x1), some (vI x2), some (vI x3), none, none, none, none, none]) rfl rfl p_a0 rfl ?_
  refine w_iload rfl rfl ?_
  refine w_callI rfl (fun _ => rfl) rfl (cI_mono H fun v2 h1 H => ?_)
  refine w_if rfl (And.intro (fun hc => ?_) (fun hc => ?_))
  · replace H := H.1 hc
    exact w_throw rfl H
  · replace H := H.2 hc
    refine w_iload rfl rfl ?_
    refine w_if rfl (And.intro (fun hc => ?_) (fun hc => ?_))
    · replace H := H.1 hc
      exact w_throw rfl H
    · replace H := H.2 hc
      refine w_iload rfl rfl ?_
      refine w_if rfl (And.intro (fun hc => ?_) (fun hc => ?_))
      · replace H := H.1 hc
        exact w_throw rfl H
      · replace H := H.2 hc
        refine w_iload rfl rfl ?_
        refine w_iconst rfl ⟨by decide, by decide⟩ ?_
        refine w_icmp rfl (And.intro (fun hc => ?_) (fun hc => ?_))
        · replace H := H.1 hc
          refine w_iconst rfl ⟨by decide, by decide⟩ ?_
          refine w_istore rfl rfl ?_
          refine w_iconst rfl ⟨by decide, by decide⟩ ?_
          refine w_istore rfl rfl ?_
          exact H
        · replace H := H.2 hc
          exact w_throw rfl H
set_option maxHeartbeats 4000000 in
set_option maxRecDepth 100000 in
theorem r_Works_moved {d : Nat} {Q : cm_Q} {h : cm_H} {a0 : Nat} {x1 : Int} {x2 : Int} {x3 : Int} (p_a0 : 0 < a0) (H : (cI d m_Works_isKept [vI x1] h fun v2 h1 => ((v2 = 0 → Q (some (vI (-1))) h1) ∧ (¬ v2 = 0 → (cI d m_Works_isMember [vR 11 a0, vI x2] h1 fun v4 h3 => ((v4 = 0 → Q (some (vI (-1))) h3) ∧ (¬ v4 = 0 → (cI d m_Works_isKept [vI x3] h3 fun v6 h5 => ((¬ v6 = 0 → (cU d m_Arr_fill [vR 20 (ch_R h5 a0 3), vI 0] h5 fun h7 => (cU d m_Mover_use [vR 4 (ch_R h7 a0 11), vI x2] h7 fun h8 => (0 < ((ch_R h8 a0 2)) ∧ ((0:Int) ≤ x1 ∧ x1 < ch_L h8 (ch_R h8 a0 2)) ∧ (cU d m_Mover_addAllMoved [vR 4 (ch_R h8 a0 11), vR 20 (ch_R h8 (ch_R h8 a0 2) x1), vR 20 (ch_R h8 a0 3)] h8 fun h11 => (cI d m_Works_keepFresh [vR 11 a0, vI x3] h11 fun v13 h12 => Q (some (vI v13)) h12)))))) ∧ (v6 = 0 → Q (some (vI (-1))) h5)))))))))) : cm_call (d + 1) m_Works_moved [vR 11 a0, vI x1, vI x2, vI x3] h Q := by
  refine cm_call_in (C := cd_Works_moved) (ls := [some (vR 11 a0), some (vI x1), some (vI x2), some (vI x3)]) rfl rfl p_a0 rfl ?_
  refine w_iload rfl rfl ?_
  refine w_callI rfl (fun _ => rfl) rfl (cI_mono H fun v2 h1 H => ?_)
  refine w_if rfl (And.intro (fun hc => ?_) (fun hc => ?_))
  · replace H := H.1 hc
    refine w_iconst rfl ⟨by decide, by decide⟩ ?_
    exact w_ireturn rfl H
  · replace H := H.2 hc
    refine w_aload rfl rfl ?_
    refine w_iload rfl rfl ?_
    refine w_callI rfl (fun _ => rfl) rfl (cI_mono H fun v4 h3 H => ?_)
    refine w_if rfl (And.intro (fun hc => ?_) (fun hc => ?_))
    · replace H := H.1 hc
      refine w_iconst rfl ⟨by decide, by decide⟩ ?_
      exact w_ireturn rfl H
    · replace H := H.2 hc
      refine w_iload rfl rfl ?_
      refine w_callI rfl (fun _ => rfl) rfl (cI_mono H fun v6 h5 H => ?_)
      refine w_if rfl (And.intro (fun hc => ?_) (fun hc => ?_))
      · replace H := H.1 hc
        refine w_aload rfl rfl ?_
        refine w_getR 3 20 rfl rfl rfl rfl p_a0 ?_
        refine w_iconst rfl ⟨by decide, by decide⟩ ?_
        refine w_callU rfl (fun _ => rfl) rfl (cU_mono H fun h7 H => ?_)
        refine w_aload rfl rfl ?_
        refine w_getR 11 4 rfl rfl rfl rfl p_a0 ?_
        refine w_iload rfl rfl ?_
        refine w_callU rfl (fun _ => rfl) rfl (cU_mono H fun h8 H => ?_)
        refine w_aload rfl rfl ?_
        refine w_getR 11 4 rfl rfl rfl rfl p_a0 ?_
        refine w_aload rfl rfl ?_
        refine w_getR 2 23 rfl rfl rfl rfl p_a0 ?_
        refine w_iload rfl rfl ?_
        have o9 := H.1
        replace H := H.2
        have o10 := H.1
        replace H := H.2
        refine w_aaload rfl rfl rfl o9 o10 ?_
        refine w_aload rfl rfl ?_
        refine w_getR 3 20 rfl rfl rfl rfl p_a0 ?_
        refine w_callU rfl (fun _ => rfl) rfl (cU_mono H fun h11 H => ?_)
        refine w_aload rfl rfl ?_
        refine w_iload rfl rfl ?_
        refine w_callI rfl (fun _ => rfl) rfl (cI_mono H fun v13 h12 H => ?_)
        exact w_ireturn rfl H
      · replace H := H.2 hc
        refine w_iconst rfl ⟨by decide, by decide⟩ ?_
        exact w_ireturn rfl H
set_option maxHeartbeats 4000000 in
set_option maxRecDepth 100000 in
theorem r_Works_average_26 {d : Nat} {Q : cm_Q} {h : cm_H} {a0 : Nat} {x1 : Int} {x2 : Int} {x3 : Int} {z4 : Option cm_V} (p_a0 : 0 < a0) (H : (0 < ((ch_R h a0 7)) ∧ (((ch_I h (ch_R h a0 7) 2) ≤ x3 → (cI d m_Works_raise [vI (ch_I h (ch_R h a0 7) 2), vI 2519] h fun v3 h2 => cw d cd_Works_average Q 85 [some (vR 11 a0), some (vI x1), some (vI x2), some (vI v3), some (vI 0)] [] h2)) ∧ (x3 < (ch_I h (ch_R h a0 7) 2) → (cU d m_Mover_use [vR 4 (ch_R h a0 11), vI x3] h fun h4 => (0 < ((ch_R h4 a0 2)) ∧ ((0:Int) ≤ x1 ∧ x1 < ch_L h4 (ch_R h4 a0 2)) ∧ (cU d m_Mover_addAllMoved [vR 4 (ch_R h4 a0 11), vR 20 (ch_R h4 (ch_R h4 a0 2) x1), vR 20 (ch_R h4 a0 3)] h4 fun h7 => (cm_i (x3 + 1) ∧ cw d cd_Works_average Q 26 [some (vR 11 a0), some (vI x1), some (vI x2), some (vI (x3 + 1)), z4] [] h7)))))))) : cw d cd_Works_average Q 26 [some (vR 11 a0), some (vI x1), some (vI x2), some (vI x3), z4] [] h := by
  refine w_iload rfl rfl ?_
  refine w_aload rfl rfl ?_
  refine w_getR 7 3 rfl rfl rfl rfl p_a0 ?_
  have o1 := H.1
  replace H := H.2
  refine w_getI 2 rfl rfl rfl o1 ?_
  refine w_icmp rfl (And.intro (fun hc => ?_) (fun hc => ?_))
  · replace H := H.1 hc
    refine w_aload rfl rfl ?_
    refine w_getR 7 3 rfl rfl rfl rfl p_a0 ?_
    refine w_getI 2 rfl rfl rfl o1 ?_
    refine w_iconst rfl ⟨by decide, by decide⟩ ?_
    refine w_callI rfl (fun _ => rfl) rfl (cI_mono H fun v3 h2 H => ?_)
    refine w_istore rfl rfl ?_
    refine w_iconst rfl ⟨by decide, by decide⟩ ?_
    refine w_istore rfl rfl ?_
    exact H
  · replace H := H.2 hc
    refine w_aload rfl rfl ?_
    refine w_getR 11 4 rfl rfl rfl rfl p_a0 ?_
    refine w_iload rfl rfl ?_
    refine w_callU rfl (fun _ => rfl) rfl (cU_mono H fun h4 H => ?_)
    refine w_aload rfl rfl ?_
    refine w_getR 11 4 rfl rfl rfl rfl p_a0 ?_
    refine w_aload rfl rfl ?_
    refine w_getR 2 23 rfl rfl rfl rfl p_a0 ?_
    refine w_iload rfl rfl ?_
    have o5 := H.1
    replace H := H.2
    have o6 := H.1
    replace H := H.2
    refine w_aaload rfl rfl rfl o5 o6 ?_
    refine w_aload rfl rfl ?_
    refine w_getR 3 20 rfl rfl rfl rfl p_a0 ?_
    refine w_callU rfl (fun _ => rfl) rfl (cU_mono H fun h7 H => ?_)
    have o8 := H.1
    replace H := H.2
    refine w_iinc rfl rfl rfl o8 ?_
    refine w_goto rfl ?_
    exact H
set_option maxHeartbeats 4000000 in
set_option maxRecDepth 100000 in
theorem r_Works_average_85 {d : Nat} {Q : cm_Q} {h : cm_H} {a0 : Nat} {z1 : Option cm_V} {x2 : Int} {x3 : Int} {x4 : Int} (p_a0 : 0 < a0) (H : (0 < ((ch_R h a0 6)) ∧ (((ch_I h (ch_R h a0 6) 1) ≤ x4 → (cI d m_Works_keepFresh [vR 11 a0, vI x2] h fun v3 h2 => Q (some (vI v3)) h2)) ∧ (x4 < (ch_I h (ch_R h a0 6) 1) → (0 < ((ch_R h a0 3)) ∧ ((0:Int) ≤ x4 ∧ x4 < ch_L h (ch_R h a0 3)) ∧ (cm_i ((Int.tmod (ch_I h (ch_R h a0 3) x4) 2521) * x3) ∧ (∀ h7 : cm_H, h7 = ch_u h (ch_R h a0 3) x4 (Int.tmod ((Int.tmod (ch_I h (ch_R h a0 3) x4) 2521) * x3) 2521) → (cm_i (x4 + 1) ∧ cw d cd_Works_average Q 85 [some (vR 11 a0), z1, some (vI x2), some (vI x3), some (vI (x4 + 1))] [] h7)))))))) : cw d cd_Works_average Q 85 [some (vR 11 a0), z1, some (vI x2), some (vI x3), some (vI x4)] [] h := by
  refine w_iload rfl rfl ?_
  refine w_aload rfl rfl ?_
  refine w_getR 6 9 rfl rfl rfl rfl p_a0 ?_
  have o1 := H.1
  replace H := H.2
  refine w_getI 1 rfl rfl rfl o1 ?_
  refine w_icmp rfl (And.intro (fun hc => ?_) (fun hc => ?_))
  · replace H := H.1 hc
    refine w_aload rfl rfl ?_
    refine w_iload rfl rfl ?_
    refine w_callI rfl (fun _ => rfl) rfl (cI_mono H fun v3 h2 H => ?_)
    exact w_ireturn rfl H
  · replace H := H.2 hc
    refine w_aload rfl rfl ?_
    refine w_getR 3 20 rfl rfl rfl rfl p_a0 ?_
    refine w_iload rfl rfl ?_
    refine w_aload rfl rfl ?_
    refine w_getR 3 20 rfl rfl rfl rfl p_a0 ?_
    refine w_iload rfl rfl ?_
    have o4 := H.1
    replace H := H.2
    have o5 := H.1
    replace H := H.2
    refine w_iaload rfl o4 o5 ?_
    refine w_iconst rfl ⟨by decide, by decide⟩ ?_
    refine w_irem rfl (by decide) ?_
    refine w_iload rfl rfl ?_
    have o6 := H.1
    replace H := H.2
    refine w_imul rfl o6 ?_
    refine w_iconst rfl ⟨by decide, by decide⟩ ?_
    refine w_irem rfl (by decide) ?_
    refine w_iastore rfl o4 o5 (fun h7 eh7 => ?_)
    replace H := H h7 eh7
    have o8 := H.1
    replace H := H.2
    refine w_iinc rfl rfl rfl o8 ?_
    refine w_goto rfl ?_
    exact H
set_option maxHeartbeats 4000000 in
set_option maxRecDepth 100000 in
theorem r_Works_average {d : Nat} {Q : cm_Q} {h : cm_H} {a0 : Nat} {x1 : Int} {x2 : Int} (p_a0 : 0 < a0) (H : (cI d m_Works_isKept [vI x1] h fun v2 h1 => ((v2 = 0 → Q (some (vI (-1))) h1) ∧ (¬ v2 = 0 → (cI d m_Works_isKept [vI x2] h1 fun v4 h3 => ((¬ v4 = 0 → (cU d m_Arr_fill [vR 20 (ch_R h3 a0 3), vI 0] h3 fun h5 => cw d cd_Works_average Q 26 [some (vR 11 a0), some (vI x1), some (vI x2), some (vI 0), none] [] h5)) ∧ (v4 = 0 → Q (some (vI (-1))) h3))))))) : cm_call (d + 1) m_Works_average [vR 11 a0, vI x1, vI x2] h Q := by
  refine cm_call_in (C := cd_Works_average) (ls := [some (vR 11 a0), some (vI x1), some (vI x2), none, none]) rfl rfl p_a0 rfl ?_
  refine w_iload rfl rfl ?_
  refine w_callI rfl (fun _ => rfl) rfl (cI_mono H fun v2 h1 H => ?_)
  refine w_if rfl (And.intro (fun hc => ?_) (fun hc => ?_))
  · replace H := H.1 hc
    refine w_iconst rfl ⟨by decide, by decide⟩ ?_
    exact w_ireturn rfl H
  · replace H := H.2 hc
    refine w_iload rfl rfl ?_
    refine w_callI rfl (fun _ => rfl) rfl (cI_mono H fun v4 h3 H => ?_)
    refine w_if rfl (And.intro (fun hc => ?_) (fun hc => ?_))
    · replace H := H.1 hc
      refine w_aload rfl rfl ?_
      refine w_getR 3 20 rfl rfl rfl rfl p_a0 ?_
      refine w_iconst rfl ⟨by decide, by decide⟩ ?_
      refine w_callU rfl (fun _ => rfl) rfl (cU_mono H fun h5 H => ?_)
      refine w_iconst rfl ⟨by decide, by decide⟩ ?_
      refine w_istore rfl rfl ?_
      exact H
    · replace H := H.2 hc
      refine w_iconst rfl ⟨by decide, by decide⟩ ?_
      exact w_ireturn rfl H
set_option maxHeartbeats 4000000 in
set_option maxRecDepth 100000 in
theorem r_Works_plus_36 {d : Nat} {Q : cm_Q} {h : cm_H} {a0 : Nat} {x1 : Int} {x2 : Int} {z3 : Option cm_V} {x4 : Int} {x5 : Int} {x6 : Int} (p_a0 : 0 < a0) (H : (0 < ((ch_R h a0 6)) ∧ (((ch_I h (ch_R h a0 6) 1) ≤ x6 → (cI d m_Works_keepFresh [vR 11 a0, vI x4] h fun v3 h2 => Q (some (vI v3)) h2)) ∧ (x6 < (ch_I h (ch_R h a0 6) 1) → (0 < ((ch_R h a0 2)) ∧ ((0:Int) ≤ x1 ∧ x1 < ch_L h (ch_R h a0 2)) ∧ (0 < ((ch_R h (ch_R h a0 2) x1)) ∧ ((0:Int) ≤ x6 ∧ x6 < ch_L h (ch_R h (ch_R h a0 2) x1)) ∧ ((0:Int) ≤ x2 ∧ x2 < ch_L h (ch_R h a0 2)) ∧ (0 < ((ch_R h (ch_R h a0 2) x2)) ∧ ((0:Int) ≤ x6 ∧ x6 < ch_L h (ch_R h (ch_R h a0 2) x2)) ∧ (cm_i (x5 * (ch_I h (ch_R h (ch_R h a0 2) x2) x6)) ∧ (cm_i ((ch_I h (ch_R h (ch_R h a0 2) x1) x6) + (x5 * (ch_I h (ch_R h (ch_R h a0 2) x2) x6))) ∧ (0 < ((ch_R h a0 3)) ∧ ((0:Int) ≤ x6 ∧ x6 < ch_L h (ch_R h a0 3)) ∧ (∀ h15 : cm_H, h15 = ch_u h (ch_R h a0 3) x6 (Int.tmod ((ch_I h (ch_R h (ch_R h a0 2) x1) x6) + (x5 * (ch_I h (ch_R h (ch_R h a0 2) x2) x6))) 2521) → (cm_i (x6 + 1) ∧ cw d cd_Works_plus Q 36 [some (vR 11 a0), some (vI x1), some (vI x2), z3, some (vI x4), some (vI x5), some (vI (x6 + 1))] [] h15)))))))))))) : cw d cd_Works_plus Q 36 [some (vR 11 a0), some (vI x1), some (vI x2), z3, some (vI x4), some (vI x5), some (vI x6)] [] h := by
  refine w_iload rfl rfl ?_
  refine w_aload rfl rfl ?_
  refine w_getR 6 9 rfl rfl rfl rfl p_a0 ?_
  have o1 := H.1
  replace H := H.2
  refine w_getI 1 rfl rfl rfl o1 ?_
  refine w_icmp rfl (And.intro (fun hc => ?_) (fun hc => ?_))
  · replace H := H.1 hc
    refine w_aload rfl rfl ?_
    refine w_iload rfl rfl ?_
    refine w_callI rfl (fun _ => rfl) rfl (cI_mono H fun v3 h2 H => ?_)
    exact w_ireturn rfl H
  · replace H := H.2 hc
    refine w_aload rfl rfl ?_
    refine w_getR 3 20 rfl rfl rfl rfl p_a0 ?_
    refine w_iload rfl rfl ?_
    refine w_aload rfl rfl ?_
    refine w_getR 2 23 rfl rfl rfl rfl p_a0 ?_
    refine w_iload rfl rfl ?_
    have o4 := H.1
    replace H := H.2
    have o5 := H.1
    replace H := H.2
    refine w_aaload rfl rfl rfl o4 o5 ?_
    refine w_iload rfl rfl ?_
    have o6 := H.1
    replace H := H.2
    have o7 := H.1
    replace H := H.2
    refine w_iaload rfl o6 o7 ?_
    refine w_iload rfl rfl ?_
    refine w_aload rfl rfl ?_
    refine w_getR 2 23 rfl rfl rfl rfl p_a0 ?_
    refine w_iload rfl rfl ?_
    have o8 := H.1
    replace H := H.2
    refine w_aaload rfl rfl rfl o4 o8 ?_
    refine w_iload rfl rfl ?_
    have o9 := H.1
    replace H := H.2
    have o10 := H.1
    replace H := H.2
    refine w_iaload rfl o9 o10 ?_
    have o11 := H.1
    replace H := H.2
    refine w_imul rfl o11 ?_
    have o12 := H.1
    replace H := H.2
    refine w_iadd rfl o12 ?_
    refine w_iconst rfl ⟨by decide, by decide⟩ ?_
    refine w_irem rfl (by decide) ?_
    have o13 := H.1
    replace H := H.2
    have o14 := H.1
    replace H := H.2
    refine w_iastore rfl o13 o14 (fun h15 eh15 => ?_)
    replace H := H h15 eh15
    have o16 := H.1
    replace H := H.2
    refine w_iinc rfl rfl rfl o16 ?_
    refine w_goto rfl ?_
    exact H
set_option maxHeartbeats 4000000 in
set_option maxRecDepth 100000 in
theorem r_Works_plus {d : Nat} {Q : cm_Q} {h : cm_H} {a0 : Nat} {x1 : Int} {x2 : Int} {x3 : Int} {x4 : Int} (p_a0 : 0 < a0) (H : (cI d m_Works_isKept [vI x1] h fun v2 h1 => ((v2 = 0 → Q (some (vI (-1))) h1) ∧ (¬ v2 = 0 → (cI d m_Works_isKept [vI x2] h1 fun v4 h3 => ((v4 = 0 → Q (some (vI (-1))) h3) ∧ (¬ v4 = 0 → (cI d m_Works_isKept [vI x4] h3 fun v6 h5 => ((¬ v6 = 0 → cw d cd_Works_plus Q 36 [some (vR 11 a0), some (vI x1), some (vI x2), some (vI x3), some (vI x4), some (vI (x3 % 2521)), some (vI 0)] [] h5) ∧ (v6 = 0 → Q (some (vI (-1))) h5)))))))))) : cm_call (d + 1) m_Works_plus [vR 11 a0, vI x1, vI x2, vI x3, vI x4] h Q := by
  refine cm_call_in (C := cd_Works_plus) (ls := [some (vR 11 a0), some (vI x1), some (vI x2), some (vI x3), some (vI x4), none, none]) rfl rfl p_a0 rfl ?_
  refine w_iload rfl rfl ?_
  refine w_callI rfl (fun _ => rfl) rfl (cI_mono H fun v2 h1 H => ?_)
  refine w_if rfl (And.intro (fun hc => ?_) (fun hc => ?_))
  · replace H := H.1 hc
    refine w_iconst rfl ⟨by decide, by decide⟩ ?_
    exact w_ireturn rfl H
  · replace H := H.2 hc
    refine w_iload rfl rfl ?_
    refine w_callI rfl (fun _ => rfl) rfl (cI_mono H fun v4 h3 H => ?_)
    refine w_if rfl (And.intro (fun hc => ?_) (fun hc => ?_))
    · replace H := H.1 hc
      refine w_iconst rfl ⟨by decide, by decide⟩ ?_
      exact w_ireturn rfl H
    · replace H := H.2 hc
      refine w_iload rfl rfl ?_
      refine w_callI rfl (fun _ => rfl) rfl (cI_mono H fun v6 h5 H => ?_)
      refine w_if rfl (And.intro (fun hc => ?_) (fun hc => ?_))
      · replace H := H.1 hc
        refine w_iload rfl rfl ?_
        refine w_iconst rfl ⟨by decide, by decide⟩ ?_
        refine w_floorMod rfl rfl (by decide) ?_
        refine w_istore rfl rfl ?_
        refine w_iconst rfl ⟨by decide, by decide⟩ ?_
        refine w_istore rfl rfl ?_
        exact H
      · replace H := H.2 hc
        refine w_iconst rfl ⟨by decide, by decide⟩ ?_
        exact w_ireturn rfl H
set_option maxHeartbeats 4000000 in
set_option maxRecDepth 100000 in
theorem r_Works_product {d : Nat} {Q : cm_Q} {h : cm_H} {a0 : Nat} {x1 : Int} {x2 : Int} {x3 : Int} (p_a0 : 0 < a0) (H : (cI d m_Works_isKept [vI x1] h fun v2 h1 => ((v2 = 0 → Q (some (vI (-1))) h1) ∧ (¬ v2 = 0 → (cI d m_Works_isKept [vI x2] h1 fun v4 h3 => ((v4 = 0 → Q (some (vI (-1))) h3) ∧ (¬ v4 = 0 → (cI d m_Works_isKept [vI x3] h3 fun v6 h5 => ((¬ v6 = 0 → (0 < ((ch_R h5 a0 2)) ∧ ((0:Int) ≤ x1 ∧ x1 < ch_L h5 (ch_R h5 a0 2)) ∧ (cI d m_Shape_degreeOf [vR 9 (ch_R h5 a0 6), vR 20 (ch_R h5 (ch_R h5 a0 2) x1)] h5 fun v10 h9 => (0 < ((ch_R h9 a0 2)) ∧ ((0:Int) ≤ x2 ∧ x2 < ch_L h9 (ch_R h9 a0 2)) ∧ (cI d m_Shape_degreeOf [vR 9 (ch_R h9 a0 6), vR 20 (ch_R h9 (ch_R h9 a0 2) x2)] h9 fun v14 h13 => (cm_i (v10 + v14) ∧ (((v10 + v14) ≤ 15 → (0 < ((ch_R h13 a0 2)) ∧ ((0:Int) ≤ x1 ∧ x1 < ch_L h13 (ch_R h13 a0 2)) ∧ ((0:Int) ≤ x2 ∧ x2 < ch_L h13 (ch_R h13 a0 2)) ∧ (cU d m_Shape_multiply [vR 9 (ch_R h13 a0 6), vR 20 (ch_R h13 (ch_R h13 a0 2) x1), vR 20 (ch_R h13 (ch_R h13 a0 2) x2), vR 20 (ch_R h13 a0 3)] h13 fun h19 => (cI d m_Works_keepFresh [vR 11 a0, vI x3] h19 fun v21 h20 => Q (some (vI v21)) h20)))) ∧ (15 < (v10 + v14) → Q (some (vI (-2))) h13)))))))) ∧ (v6 = 0 → Q (some (vI (-1))) h5)))))))))) : cm_call (d + 1) m_Works_product [vR 11 a0, vI x1, vI x2, vI x3] h Q := by
  refine cm_call_in (C := cd_Works_product) (ls := [some (vR 11 a0), some (vI x1), some (vI x2), some (vI x3)]) rfl rfl p_a0 rfl ?_
  refine w_iload rfl rfl ?_
  refine w_callI rfl (fun _ => rfl) rfl (cI_mono H fun v2 h1 H => ?_)
  refine w_if rfl (And.intro (fun hc => ?_) (fun hc => ?_))
  · replace H := H.1 hc
    refine w_iconst rfl ⟨by decide, by decide⟩ ?_
    exact w_ireturn rfl H
  · replace H := H.2 hc
    refine w_iload rfl rfl ?_
    refine w_callI rfl (fun _ => rfl) rfl (cI_mono H fun v4 h3 H => ?_)
    refine w_if rfl (And.intro (fun hc => ?_) (fun hc => ?_))
    · replace H := H.1 hc
      refine w_iconst rfl ⟨by decide, by decide⟩ ?_
      exact w_ireturn rfl H
    · replace H := H.2 hc
      refine w_iload rfl rfl ?_
      refine w_callI rfl (fun _ => rfl) rfl (cI_mono H fun v6 h5 H => ?_)
      refine w_if rfl (And.intro (fun hc => ?_) (fun hc => ?_))
      · replace H := H.1 hc
        refine w_aload rfl rfl ?_
        refine w_getR 6 9 rfl rfl rfl rfl p_a0 ?_
        refine w_aload rfl rfl ?_
        refine w_getR 2 23 rfl rfl rfl rfl p_a0 ?_
        refine w_iload rfl rfl ?_
        have o7 := H.1
        replace H := H.2
        have o8 := H.1
        replace H := H.2
        refine w_aaload rfl rfl rfl o7 o8 ?_
        refine w_callI rfl (fun _ => rfl) rfl (cI_mono H fun v10 h9 H => ?_)
        refine w_aload rfl rfl ?_
        refine w_getR 6 9 rfl rfl rfl rfl p_a0 ?_
        refine w_aload rfl rfl ?_
        refine w_getR 2 23 rfl rfl rfl rfl p_a0 ?_
        refine w_iload rfl rfl ?_
        have o11 := H.1
        replace H := H.2
        have o12 := H.1
        replace H := H.2
        refine w_aaload rfl rfl rfl o11 o12 ?_
        refine w_callI rfl (fun _ => rfl) rfl (cI_mono H fun v14 h13 H => ?_)
        have o15 := H.1
        replace H := H.2
        refine w_iadd rfl o15 ?_
        refine w_iconst rfl ⟨by decide, by decide⟩ ?_
        refine w_icmp rfl (And.intro (fun hc => ?_) (fun hc => ?_))
        · replace H := H.1 hc
          refine w_aload rfl rfl ?_
          refine w_getR 6 9 rfl rfl rfl rfl p_a0 ?_
          refine w_aload rfl rfl ?_
          refine w_getR 2 23 rfl rfl rfl rfl p_a0 ?_
          refine w_iload rfl rfl ?_
          have o16 := H.1
          replace H := H.2
          have o17 := H.1
          replace H := H.2
          refine w_aaload rfl rfl rfl o16 o17 ?_
          refine w_aload rfl rfl ?_
          refine w_getR 2 23 rfl rfl rfl rfl p_a0 ?_
          refine w_iload rfl rfl ?_
          have o18 := H.1
          replace H := H.2
          refine w_aaload rfl rfl rfl o16 o18 ?_
          refine w_aload rfl rfl ?_
          refine w_getR 3 20 rfl rfl rfl rfl p_a0 ?_
          refine w_callU rfl (fun _ => rfl) rfl (cU_mono H fun h19 H => ?_)
          refine w_aload rfl rfl ?_
          refine w_iload rfl rfl ?_
          refine w_callI rfl (fun _ => rfl) rfl (cI_mono H fun v21 h20 H => ?_)
          exact w_ireturn rfl H
        · replace H := H.2 hc
          refine w_iconst rfl ⟨by decide, by decide⟩ ?_
          exact w_ireturn rfl H
      · replace H := H.2 hc
        refine w_iconst rfl ⟨by decide, by decide⟩ ?_
        exact w_ireturn rfl H
set_option maxHeartbeats 4000000 in
set_option maxRecDepth 100000 in
theorem r_Works_series {d : Nat} {Q : cm_Q} {h : cm_H} {a0 : Nat} {x1 : Int} (p_a0 : 0 < a0) (H : (cI d m_Works_isPower [vI x1] h fun v2 h1 => ((v2 = 0 → Q (some (vI (-1))) h1) ∧ (¬ v2 = 0 → (0 < ((ch_R h1 a0 13)) ∧ (0 < ((ch_R h1 (ch_R h1 a0 13) 4)) ∧ ((0:Int) ≤ x1 ∧ x1 < ch_L h1 (ch_R h1 (ch_R h1 a0 13) 4)) ∧ Q (some (vI (ch_I h1 (ch_R h1 (ch_R h1 a0 13) 4) x1))) h1)))))) : cm_call (d + 1) m_Works_series [vR 11 a0, vI x1] h Q := by
  refine cm_call_in (C := cd_Works_series) (ls := [some (vR 11 a0), some (vI x1)]) rfl rfl p_a0 rfl ?_
  refine w_iload rfl rfl ?_
  refine w_callI rfl (fun _ => rfl) rfl (cI_mono H fun v2 h1 H => ?_)
  refine w_if rfl (And.intro (fun hc => ?_) (fun hc => ?_))
  · replace H := H.1 hc
    refine w_iconst rfl ⟨by decide, by decide⟩ ?_
    exact w_ireturn rfl H
  · replace H := H.2 hc
    refine w_aload rfl rfl ?_
    refine w_getR 13 0 rfl rfl rfl rfl p_a0 ?_
    have o3 := H.1
    replace H := H.2
    refine w_getR 4 20 rfl rfl rfl rfl o3 ?_
    refine w_iload rfl rfl ?_
    have o4 := H.1
    replace H := H.2
    have o5 := H.1
    replace H := H.2
    refine w_iaload rfl o4 o5 ?_
    refine w_goto rfl ?_
    exact w_ireturn rfl H
set_option maxHeartbeats 4000000 in
set_option maxRecDepth 100000 in
theorem r_Works_base {d : Nat} {Q : cm_Q} {h : cm_H} {a0 : Nat} {x1 : Int} {x2 : Int} {x3 : Int} (p_a0 : 0 < a0) (H : (cI d m_Works_isPower [vI x1] h fun v2 h1 => ((v2 = 0 → Q (some (vI (-1))) h1) ∧ (¬ v2 = 0 → (cI d m_Works_isKept [vI x3] h1 fun v4 h3 => ((v4 = 0 → Q (some (vI (-1))) h3) ∧ (¬ v4 = 0 → ((x2 < 0 → Q (some (vI (-1))) h3) ∧ (0 ≤ x2 → (0 < ((ch_R h3 a0 13)) ∧ (0 < ((ch_R h3 (ch_R h3 a0 13) 4)) ∧ ((0:Int) ≤ x1 ∧ x1 < ch_L h3 (ch_R h3 (ch_R h3 a0 13) 4)) ∧ ((x2 < (ch_I h3 (ch_R h3 (ch_R h3 a0 13) 4) x1) → (cA d m_Bases_grade [vR 0 (ch_R h3 a0 13), vI x1] h3 2 fun v9 h8 => (cU d m_Arr_fill [vR 20 (ch_R h8 a0 3), vI 0] h8 fun h10 => (0 < v9 ∧ (cm_i ((ch_I h10 v9 2) * x2) ∧ (0 < ((ch_R h10 a0 6)) ∧ (0 < ((ch_R h10 (ch_R h10 a0 6) 3)) ∧ ((0:Int) ≤ x1 ∧ x1 < ch_L h10 (ch_R h10 (ch_R h10 a0 6) 3)) ∧ (0 < ((ch_R h10 v9 4)) ∧ 0 < ((ch_R h10 a0 3)) ∧ ((0:Int) ≤ ((ch_I h10 v9 2) * x2) ∧ (0:Int) ≤ (ch_I h10 (ch_R h10 (ch_R h10 a0 6) 3) x1) ∧ (0:Int) ≤ (ch_I h10 v9 2) ∧ ((ch_I h10 v9 2) * x2) + (ch_I h10 v9 2) ≤ ch_L h10 (ch_R h10 v9 4) ∧ (ch_I h10 (ch_R h10 (ch_R h10 a0 6) 3) x1) + (ch_I h10 v9 2) ≤ ch_L h10 (ch_R h10 a0 3)) ∧ (∀ h19 : cm_H, h19 = ch_cp h10 (ch_R h10 v9 4) ((ch_I h10 v9 2) * x2) (ch_R h10 a0 3) (ch_I h10 (ch_R h10 (ch_R h10 a0 6) 3) x1) (ch_I h10 v9 2) → (cI d m_Works_keepFresh [vR 11 a0, vI x3] h19 fun v21 h20 => Q (some (vI v21)) h20)))))))))) ∧ ((ch_I h3 (ch_R h3 (ch_R h3 a0 13) 4) x1) ≤ x2 → Q (some (vI (-1))) h3))))))))))))) : cm_call (d + 1) m_Works_base [vR 11 a0, vI x1, vI x2, vI x3] h Q := by
  refine cm_call_in (C := cd_Works_base) (ls := [some (vR 11 a0), some (vI x1), some (vI x2), some (vI x3), none]) rfl rfl p_a0 rfl ?_
  refine w_iload rfl rfl ?_
  refine w_callI rfl (fun _ => rfl) rfl (cI_mono H fun v2 h1 H => ?_)
  refine w_if rfl (And.intro (fun hc => ?_) (fun hc => ?_))
  · replace H := H.1 hc
    refine w_iconst rfl ⟨by decide, by decide⟩ ?_
    exact w_ireturn rfl H
  · replace H := H.2 hc
    refine w_iload rfl rfl ?_
    refine w_callI rfl (fun _ => rfl) rfl (cI_mono H fun v4 h3 H => ?_)
    refine w_if rfl (And.intro (fun hc => ?_) (fun hc => ?_))
    · replace H := H.1 hc
      refine w_iconst rfl ⟨by decide, by decide⟩ ?_
      exact w_ireturn rfl H
    · replace H := H.2 hc
      refine w_iload rfl rfl ?_
      refine w_if rfl (And.intro (fun hc => ?_) (fun hc => ?_))
      · replace H := H.1 hc
        refine w_iconst rfl ⟨by decide, by decide⟩ ?_
        exact w_ireturn rfl H
      · replace H := H.2 hc
        refine w_iload rfl rfl ?_
        refine w_aload rfl rfl ?_
        refine w_getR 13 0 rfl rfl rfl rfl p_a0 ?_
        have o5 := H.1
        replace H := H.2
        refine w_getR 4 20 rfl rfl rfl rfl o5 ?_
        refine w_iload rfl rfl ?_
        have o6 := H.1
        replace H := H.2
        have o7 := H.1
        replace H := H.2
        refine w_iaload rfl o6 o7 ?_
        refine w_icmp rfl (And.intro (fun hc => ?_) (fun hc => ?_))
        · replace H := H.1 hc
          refine w_aload rfl rfl ?_
          refine w_getR 13 0 rfl rfl rfl rfl p_a0 ?_
          refine w_iload rfl rfl ?_
          refine w_callA rfl (fun _ => rfl) rfl (cA_mono H fun v9 h8 H => ?_)
          refine w_astore rfl rfl ?_
          refine w_aload rfl rfl ?_
          refine w_getR 3 20 rfl rfl rfl rfl p_a0 ?_
          refine w_iconst rfl ⟨by decide, by decide⟩ ?_
          refine w_callU rfl (fun _ => rfl) rfl (cU_mono H fun h10 H => ?_)
          refine w_aload rfl rfl ?_
          have o11 := H.1
          replace H := H.2
          refine w_getR 4 20 rfl rfl rfl rfl o11 ?_
          refine w_aload rfl rfl ?_
          refine w_getI 2 rfl rfl rfl o11 ?_
          refine w_iload rfl rfl ?_
          have o12 := H.1
          replace H := H.2
          refine w_imul rfl o12 ?_
          refine w_aload rfl rfl ?_
          refine w_getR 3 20 rfl rfl rfl rfl p_a0 ?_
          refine w_aload rfl rfl ?_
          refine w_getR 6 9 rfl rfl rfl rfl p_a0 ?_
          have o13 := H.1
          replace H := H.2
          refine w_getR 3 20 rfl rfl rfl rfl o13 ?_
          refine w_iload rfl rfl ?_
          have o14 := H.1
          replace H := H.2
          have o15 := H.1
          replace H := H.2
          refine w_iaload rfl o14 o15 ?_
          refine w_aload rfl rfl ?_
          refine w_getI 2 rfl rfl rfl o11 ?_
          have o16 := H.1
          replace H := H.2
          have o17 := H.1
          replace H := H.2
          have o18 := H.1
          replace H := H.2
          refine w_copy rfl rfl o16 o17 o18 (fun h19 eh19 => ?_)
          replace H := H h19 eh19
          refine w_aload rfl rfl ?_
          refine w_iload rfl rfl ?_
          refine w_callI rfl (fun _ => rfl) rfl (cI_mono H fun v21 h20 H => ?_)
          exact w_ireturn rfl H
        · replace H := H.2 hc
          refine w_iconst rfl ⟨by decide, by decide⟩ ?_
          exact w_ireturn rfl H
set_option maxHeartbeats 4000000 in
set_option maxRecDepth 100000 in
theorem r_Works_isSystem_16 {d : Nat} {Q : cm_Q} {h : cm_H} {a0 : Nat} {x1 : Int} {x2 : Int} {x3 : Int} {z4 : Option cm_V} {z5 : Option cm_V} {s0 : Int}  (H : (cI d m_Works_isKept [vI x1] h fun v2 h1 => ((v2 = 0 → Q (some (vI (-1))) h1) ∧ (¬ v2 = 0 → (cI d m_Works_isKept [vI x2] h1 fun v4 h3 => ((v4 = 0 → Q (some (vI (-1))) h3) ∧ (¬ v4 = 0 → ((s0 = 0 → cw d cd_Works_isSystem Q 46 [some (vR 11 a0), some (vI x1), some (vI x2), some (vI x3), some (vI s0), z5] [] h3) ∧ (¬ s0 = 0 → (cI d m_Works_isKept [vI x3] h3 fun v6 h5 => ((¬ v6 = 0 → cw d cd_Works_isSystem Q 46 [some (vR 11 a0), some (vI x1), some (vI x2), some (vI x3), some (vI s0), z5] [] h5) ∧ (v6 = 0 → Q (some (vI (-1))) h5)))))))))))) : cw d cd_Works_isSystem Q 16 [some (vR 11 a0), some (vI x1), some (vI x2), some (vI x3), z4, z5] [vI s0] h := by
  refine w_istore rfl rfl ?_
  refine w_iload rfl rfl ?_
  refine w_callI rfl (fun _ => rfl) rfl (cI_mono H fun v2 h1 H => ?_)
  refine w_if rfl (And.intro (fun hc => ?_) (fun hc => ?_))
  · replace H := H.1 hc
    refine w_iconst rfl ⟨by decide, by decide⟩ ?_
    exact w_ireturn rfl H
  · replace H := H.2 hc
    refine w_iload rfl rfl ?_
    refine w_callI rfl (fun _ => rfl) rfl (cI_mono H fun v4 h3 H => ?_)
    refine w_if rfl (And.intro (fun hc => ?_) (fun hc => ?_))
    · replace H := H.1 hc
      refine w_iconst rfl ⟨by decide, by decide⟩ ?_
      exact w_ireturn rfl H
    · replace H := H.2 hc
      refine w_iload rfl rfl ?_
      refine w_if rfl (And.intro (fun hc => ?_) (fun hc => ?_))
      · replace H := H.1 hc
        exact H
      · replace H := H.2 hc
        refine w_iload rfl rfl ?_
        refine w_callI rfl (fun _ => rfl) rfl (cI_mono H fun v6 h5 H => ?_)
        refine w_if rfl (And.intro (fun hc => ?_) (fun hc => ?_))
        · replace H := H.1 hc
          exact H
        · replace H := H.2 hc
          refine w_iconst rfl ⟨by decide, by decide⟩ ?_
          exact w_ireturn rfl H
set_option maxHeartbeats 4000000 in
set_option maxRecDepth 100000 in
theorem r_Works_isSystem_46 {d : Nat} {Q : cm_Q} {h : cm_H} {a0 : Nat} {x1 : Int} {x2 : Int} {x3 : Int} {x4 : Int} {z5 : Option cm_V} (p_a0 : 0 < a0) (H : ((x4 = 0 → cw d cd_Works_isSystem Q 68 [some (vR 11 a0), some (vI x1), some (vI x2), some (vI x3), some (vI x4), z5] [vI 0] h) ∧ (¬ x4 = 0 → (0 < ((ch_R h a0 2)) ∧ ((0:Int) ≤ x3 ∧ x3 < ch_L h (ch_R h a0 2)) ∧ (cI d m_Shape_degreeOf [vR 9 (ch_R h a0 6), vR 20 (ch_R h (ch_R h a0 2) x3)] h fun v4 h3 => cw d cd_Works_isSystem Q 68 [some (vR 11 a0), some (vI x1), some (vI x2), some (vI x3), some (vI x4), z5] [vI v4] h3))))) : cw d cd_Works_isSystem Q 46 [some (vR 11 a0), some (vI x1), some (vI x2), some (vI x3), some (vI x4), z5] [] h := by
  refine w_iload rfl rfl ?_
  refine w_if rfl (And.intro (fun hc => ?_) (fun hc => ?_))
  · replace H := H.1 hc
    refine w_iconst rfl ⟨by decide, by decide⟩ ?_
    exact H
  · replace H := H.2 hc
    refine w_aload rfl rfl ?_
    refine w_getR 6 9 rfl rfl rfl rfl p_a0 ?_
    refine w_aload rfl rfl ?_
    refine w_getR 2 23 rfl rfl rfl rfl p_a0 ?_
    refine w_iload rfl rfl ?_
    have o1 := H.1
    replace H := H.2
    have o2 := H.1
    replace H := H.2
    refine w_aaload rfl rfl rfl o1 o2 ?_
    refine w_callI rfl (fun _ => rfl) rfl (cI_mono H fun v4 h3 H => ?_)
    refine w_goto rfl ?_
    exact H
set_option maxHeartbeats 4000000 in
set_option maxRecDepth 100000 in
theorem r_Works_isSystem_68 {d : Nat} {Q : cm_Q} {h : cm_H} {a0 : Nat} {x1 : Int} {x2 : Int} {x3 : Int} {x4 : Int} {z5 : Option cm_V} {s0 : Int} (p_a0 : 0 < a0) (H : (0 < ((ch_R h a0 2)) ∧ ((0:Int) ≤ x1 ∧ x1 < ch_L h (ch_R h a0 2)) ∧ (cI d m_Shape_degreeOf [vR 9 (ch_R h a0 6), vR 20 (ch_R h (ch_R h a0 2) x1)] h fun v4 h3 => (0 < ((ch_R h3 a0 2)) ∧ ((0:Int) ≤ x2 ∧ x2 < ch_L h3 (ch_R h3 a0 2)) ∧ (cI d m_Shape_degreeOf [vR 9 (ch_R h3 a0 6), vR 20 (ch_R h3 (ch_R h3 a0 2) x2)] h3 fun v8 h7 => (cm_i (v4 + v8) ∧ (cm_i ((v4 + v8) + s0) ∧ ((((v4 + v8) + s0) ≤ 18 → (cI d m_Works_canBeOfSystem [vR 11 a0, vI x1] h7 fun v12 h11 => ((v12 = 0 → Q (some (vI 0)) h11) ∧ (¬ v12 = 0 → (cI d m_Works_canBeOfSystem [vR 11 a0, vI x2] h11 fun v14 h13 => ((v14 = 0 → Q (some (vI 0)) h13) ∧ (¬ v14 = 0 → ((x4 = 0 → cw d cd_Works_isSystem Q 138 [some (vR 11 a0), some (vI x1), some (vI x2), some (vI x3), some (vI x4), some (vI s0)] [] h13) ∧ (¬ x4 = 0 → (cI d m_Works_canBeOfSystem [vR 11 a0, vI x3] h13 fun v16 h15 => ((¬ v16 = 0 → cw d cd_Works_isSystem Q 138 [some (vR 11 a0), some (vI x1), some (vI x2), some (vI x3), some (vI x4), some (vI s0)] [] h15) ∧ (v16 = 0 → Q (some (vI 0)) h15)))))))))))) ∧ (18 < ((v4 + v8) + s0) → Q (some (vI (-1))) h7))))))))) : cw d cd_Works_isSystem Q 68 [some (vR 11 a0), some (vI x1), some (vI x2), some (vI x3), some (vI x4), z5] [vI s0] h := by
  refine w_istore rfl rfl ?_
  refine w_aload rfl rfl ?_
  refine w_getR 6 9 rfl rfl rfl rfl p_a0 ?_
  refine w_aload rfl rfl ?_
  refine w_getR 2 23 rfl rfl rfl rfl p_a0 ?_
  refine w_iload rfl rfl ?_
  have o1 := H.1
  replace H := H.2
  have o2 := H.1
  replace H := H.2
  refine w_aaload rfl rfl rfl o1 o2 ?_
  refine w_callI rfl (fun _ => rfl) rfl (cI_mono H fun v4 h3 H => ?_)
  refine w_aload rfl rfl ?_
  refine w_getR 6 9 rfl rfl rfl rfl p_a0 ?_
  refine w_aload rfl rfl ?_
  refine w_getR 2 23 rfl rfl rfl rfl p_a0 ?_
  refine w_iload rfl rfl ?_
  have o5 := H.1
  replace H := H.2
  have o6 := H.1
  replace H := H.2
  refine w_aaload rfl rfl rfl o5 o6 ?_
  refine w_callI rfl (fun _ => rfl) rfl (cI_mono H fun v8 h7 H => ?_)
  have o9 := H.1
  replace H := H.2
  refine w_iadd rfl o9 ?_
  refine w_iload rfl rfl ?_
  have o10 := H.1
  replace H := H.2
  refine w_iadd rfl o10 ?_
  refine w_iconst rfl ⟨by decide, by decide⟩ ?_
  refine w_icmp rfl (And.intro (fun hc => ?_) (fun hc => ?_))
  · replace H := H.1 hc
    refine w_aload rfl rfl ?_
    refine w_iload rfl rfl ?_
    refine w_callI rfl (fun _ => rfl) rfl (cI_mono H fun v12 h11 H => ?_)
    refine w_if rfl (And.intro (fun hc => ?_) (fun hc => ?_))
    · replace H := H.1 hc
      refine w_iconst rfl ⟨by decide, by decide⟩ ?_
      exact w_ireturn rfl H
    · replace H := H.2 hc
      refine w_aload rfl rfl ?_
      refine w_iload rfl rfl ?_
      refine w_callI rfl (fun _ => rfl) rfl (cI_mono H fun v14 h13 H => ?_)
      refine w_if rfl (And.intro (fun hc => ?_) (fun hc => ?_))
      · replace H := H.1 hc
        refine w_iconst rfl ⟨by decide, by decide⟩ ?_
        exact w_ireturn rfl H
      · replace H := H.2 hc
        refine w_iload rfl rfl ?_
        refine w_if rfl (And.intro (fun hc => ?_) (fun hc => ?_))
        · replace H := H.1 hc
          exact H
        · replace H := H.2 hc
          refine w_aload rfl rfl ?_
          refine w_iload rfl rfl ?_
          refine w_callI rfl (fun _ => rfl) rfl (cI_mono H fun v16 h15 H => ?_)
          refine w_if rfl (And.intro (fun hc => ?_) (fun hc => ?_))
          · replace H := H.1 hc
            exact H
          · replace H := H.2 hc
            refine w_iconst rfl ⟨by decide, by decide⟩ ?_
            exact w_ireturn rfl H
  · replace H := H.2 hc
    refine w_iconst rfl ⟨by decide, by decide⟩ ?_
    exact w_ireturn rfl H
set_option maxHeartbeats 4000000 in
set_option maxRecDepth 100000 in
theorem r_Works_isSystem_138 {d : Nat} {Q : cm_Q} {h : cm_H} {a0 : Nat} {x1 : Int} {x2 : Int} {x3 : Int} {x4 : Int} {z5 : Option cm_V}  (H : (cU d m_Works_putForSystem [vR 11 a0, vI 0, vI x1] h fun h1 => (cU d m_Works_putForSystem [vR 11 a0, vI 1, vI x2] h1 fun h2 => ((x4 = 0 → cw d cd_Works_isSystem Q 161 [some (vR 11 a0), some (vI x1), some (vI x2), some (vI x3), some (vI x4), z5] [] h2) ∧ (¬ x4 = 0 → (cU d m_Works_putForSystem [vR 11 a0, vI 2, vI x3] h2 fun h3 => cw d cd_Works_isSystem Q 161 [some (vR 11 a0), some (vI x1), some (vI x2), some (vI x3), some (vI x4), z5] [] h3)))))) : cw d cd_Works_isSystem Q 138 [some (vR 11 a0), some (vI x1), some (vI x2), some (vI x3), some (vI x4), z5] [] h := by
  refine w_aload rfl rfl ?_
  refine w_iconst rfl ⟨by decide, by decide⟩ ?_
  refine w_iload rfl rfl ?_
  refine w_callU rfl (fun _ => rfl) rfl (cU_mono H fun h1 H => ?_)
  refine w_aload rfl rfl ?_
  refine w_iconst rfl ⟨by decide, by decide⟩ ?_
  refine w_iload rfl rfl ?_
  refine w_callU rfl (fun _ => rfl) rfl (cU_mono H fun h2 H => ?_)
  refine w_iload rfl rfl ?_
  refine w_if rfl (And.intro (fun hc => ?_) (fun hc => ?_))
  · replace H := H.1 hc
    exact H
  · replace H := H.2 hc
    refine w_aload rfl rfl ?_
    refine w_iconst rfl ⟨by decide, by decide⟩ ?_
    refine w_iload rfl rfl ?_
    refine w_callU rfl (fun _ => rfl) rfl (cU_mono H fun h3 H => ?_)
    exact H
set_option maxHeartbeats 4000000 in
set_option maxRecDepth 100000 in
theorem r_Works_isSystem_161 {d : Nat} {Q : cm_Q} {h : cm_H} {a0 : Nat} {z1 : Option cm_V} {z2 : Option cm_V} {z3 : Option cm_V} {z4 : Option cm_V} {z5 : Option cm_V} (p_a0 : 0 < a0) (H : (cI d m_Search_isSpanning [vR 6 (ch_R h a0 14)] h fun v2 h1 => ((v2 = 0 → Q (some (vI 0)) h1) ∧ (¬ v2 = 0 → Q (some (vI 1)) h1)))) : cw d cd_Works_isSystem Q 161 [some (vR 11 a0), z1, z2, z3, z4, z5] [] h := by
  refine w_aload rfl rfl ?_
  refine w_getR 14 6 rfl rfl rfl rfl p_a0 ?_
  refine w_callI rfl (fun _ => rfl) rfl (cI_mono H fun v2 h1 H => ?_)
  refine w_if rfl (And.intro (fun hc => ?_) (fun hc => ?_))
  · replace H := H.1 hc
    refine w_iconst rfl ⟨by decide, by decide⟩ ?_
    exact w_ireturn rfl H
  · replace H := H.2 hc
    refine w_iconst rfl ⟨by decide, by decide⟩ ?_
    refine w_goto rfl ?_
    exact w_ireturn rfl H
set_option maxHeartbeats 4000000 in
set_option maxRecDepth 100000 in
theorem r_Works_isSystem {d : Nat} {Q : cm_Q} {h : cm_H} {a0 : Nat} {x1 : Int} {x2 : Int} {x3 : Int} (p_a0 : 0 < a0) (H : (0 < ((ch_R h a0 6)) ∧ ((¬ (ch_I h (ch_R h a0 6) 0) = 3 → cw d cd_Works_isSystem Q 16 [some (vR 11 a0), some (vI x1), some (vI x2), some (vI x3), none, none] [vI 0] h) ∧ ((ch_I h (ch_R h a0 6) 0) = 3 → cw d cd_Works_isSystem Q 16 [some (vR 11 a0), some (vI x1), some (vI x2), some (vI x3), none, none] [vI 1] h)))) : cm_call (d + 1) m_Works_isSystem [vR 11 a0, vI x1, vI x2, vI x3] h Q := by
  refine cm_call_in (C := cd_Works_isSystem) (ls := [some (vR 11 a0), some (vI x1), some (vI x2), some (vI x3), none, none]) rfl rfl p_a0 rfl ?_
  refine w_aload rfl rfl ?_
  refine w_getR 6 9 rfl rfl rfl rfl p_a0 ?_
  have o1 := H.1
  replace H := H.2
  refine w_getI 0 rfl rfl rfl o1 ?_
  refine w_iconst rfl ⟨by decide, by decide⟩ ?_
  refine w_icmp rfl (And.intro (fun hc => ?_) (fun hc => ?_))
  · replace H := H.1 hc
    refine w_iconst rfl ⟨by decide, by decide⟩ ?_
    exact H
  · replace H := H.2 hc
    refine w_iconst rfl ⟨by decide, by decide⟩ ?_
    refine w_goto rfl ?_
    exact H
set_option maxHeartbeats 4000000 in
set_option maxRecDepth 100000 in
theorem r_Works_primary {d : Nat} {Q : cm_Q} {h : cm_H} {a0 : Nat} {x1 : Int} {x2 : Int} (p_a0 : 0 < a0) (H : ((x1 < 0 → Q (some (vI (-1))) h) ∧ (0 ≤ x1 → (0 < ((ch_R h a0 6)) ∧ (((ch_I h (ch_R h a0 6) 0) ≤ x1 → Q (some (vI (-1))) h) ∧ (x1 < (ch_I h (ch_R h a0 6) 0) → ((x2 < 0 → Q (some (vI (-1))) h) ∧ (0 ≤ x2 → ((1 < x2 → Q (some (vI (-1))) h) ∧ (x2 ≤ 1 → (cI d m_Search_find [vR 6 (ch_R h a0 14)] h fun v3 h2 => ((¬ v3 = 0 → ((¬ x2 = 0 → (0 < ((ch_R h2 a0 14)) ∧ (0 < ((ch_R h2 (ch_R h2 a0 14) 13)) ∧ ((0:Int) ≤ x1 ∧ x1 < ch_L h2 (ch_R h2 (ch_R h2 a0 14) 13)) ∧ Q (some (vI (ch_I h2 (ch_R h2 (ch_R h2 a0 14) 13) x1))) h2))) ∧ (x2 = 0 → (0 < ((ch_R h2 a0 14)) ∧ (0 < ((ch_R h2 (ch_R h2 a0 14) 12)) ∧ ((0:Int) ≤ x1 ∧ x1 < ch_L h2 (ch_R h2 (ch_R h2 a0 14) 12)) ∧ Q (some (vI (ch_I h2 (ch_R h2 (ch_R h2 a0 14) 12) x1))) h2))))) ∧ (v3 = 0 → Q (some (vI (-1))) h2))))))))))))) : cm_call (d + 1) m_Works_primary [vR 11 a0, vI x1, vI x2] h Q := by
  refine cm_call_in (C := cd_Works_primary) (ls := [some (vR 11 a0), some (vI x1), some (vI x2)]) rfl rfl p_a0 rfl ?_
  refine w_iload rfl rfl ?_
  refine w_if rfl (And.intro (fun hc => ?_) (fun hc => ?_))
  · replace H := H.1 hc
    refine w_iconst rfl ⟨by decide, by decide⟩ ?_
    exact w_ireturn rfl H
  · replace H := H.2 hc
    refine w_iload rfl rfl ?_
    refine w_aload rfl rfl ?_
    refine w_getR 6 9 rfl rfl rfl rfl p_a0 ?_
    have o1 := H.1
    replace H := H.2
    refine w_getI 0 rfl rfl rfl o1 ?_
    refine w_icmp rfl (And.intro (fun hc => ?_) (fun hc => ?_))
    · replace H := H.1 hc
      refine w_iconst rfl ⟨by decide, by decide⟩ ?_
      exact w_ireturn rfl H
    · replace H := H.2 hc
      refine w_iload rfl rfl ?_
      refine w_if rfl (And.intro (fun hc => ?_) (fun hc => ?_))
      · replace H := H.1 hc
        refine w_iconst rfl ⟨by decide, by decide⟩ ?_
        exact w_ireturn rfl H
      · replace H := H.2 hc
        refine w_iload rfl rfl ?_
        refine w_iconst rfl ⟨by decide, by decide⟩ ?_
        refine w_icmp rfl (And.intro (fun hc => ?_) (fun hc => ?_))
        · replace H := H.1 hc
          refine w_iconst rfl ⟨by decide, by decide⟩ ?_
          exact w_ireturn rfl H
        · replace H := H.2 hc
          refine w_aload rfl rfl ?_
          refine w_getR 14 6 rfl rfl rfl rfl p_a0 ?_
          refine w_callI rfl (fun _ => rfl) rfl (cI_mono H fun v3 h2 H => ?_)
          refine w_if rfl (And.intro (fun hc => ?_) (fun hc => ?_))
          · replace H := H.1 hc
            refine w_iload rfl rfl ?_
            refine w_if rfl (And.intro (fun hc => ?_) (fun hc => ?_))
            · replace H := H.1 hc
              refine w_aload rfl rfl ?_
              refine w_getR 14 6 rfl rfl rfl rfl p_a0 ?_
              have o4 := H.1
              replace H := H.2
              refine w_getR 13 20 rfl rfl rfl rfl o4 ?_
              refine w_iload rfl rfl ?_
              have o5 := H.1
              replace H := H.2
              have o6 := H.1
              replace H := H.2
              refine w_iaload rfl o5 o6 ?_
              exact w_ireturn rfl H
            · replace H := H.2 hc
              refine w_aload rfl rfl ?_
              refine w_getR 14 6 rfl rfl rfl rfl p_a0 ?_
              have o7 := H.1
              replace H := H.2
              refine w_getR 12 20 rfl rfl rfl rfl o7 ?_
              refine w_iload rfl rfl ?_
              have o8 := H.1
              replace H := H.2
              have o9 := H.1
              replace H := H.2
              refine w_iaload rfl o8 o9 ?_
              refine w_goto rfl ?_
              exact w_ireturn rfl H
          · replace H := H.2 hc
            refine w_iconst rfl ⟨by decide, by decide⟩ ?_
            exact w_ireturn rfl H
set_option maxHeartbeats 4000000 in
set_option maxRecDepth 100000 in
theorem r_Works_secondaries {d : Nat} {Q : cm_Q} {h : cm_H} {a0 : Nat} (p_a0 : 0 < a0) (H : (cI d m_Works_findSecondaries [vR 11 a0] h fun v2 h1 => ((v2 = 0 → Q (some (vI (-1))) h1) ∧ (¬ v2 = 0 → (0 < ((ch_R h1 a0 15)) ∧ Q (some (vI (ch_I h1 (ch_R h1 a0 15) 3))) h1))))) : cm_call (d + 1) m_Works_secondaries [vR 11 a0] h Q := by
  refine cm_call_in (C := cd_Works_secondaries) (ls := [some (vR 11 a0)]) rfl rfl p_a0 rfl ?_
  refine w_aload rfl rfl ?_
  refine w_callI rfl (fun _ => rfl) rfl (cI_mono H fun v2 h1 H => ?_)
  refine w_if rfl (And.intro (fun hc => ?_) (fun hc => ?_))
  · replace H := H.1 hc
    refine w_iconst rfl ⟨by decide, by decide⟩ ?_
    exact w_ireturn rfl H
  · replace H := H.2 hc
    refine w_aload rfl rfl ?_
    refine w_getR 15 8 rfl rfl rfl rfl p_a0 ?_
    have o3 := H.1
    replace H := H.2
    refine w_getI 3 rfl rfl rfl o3 ?_
    refine w_goto rfl ?_
    exact w_ireturn rfl H
set_option maxHeartbeats 4000000 in
set_option maxRecDepth 100000 in
theorem r_Works_secondary {d : Nat} {Q : cm_Q} {h : cm_H} {a0 : Nat} {x1 : Int} {x2 : Int} (p_a0 : 0 < a0) (H : ((x1 < 0 → Q (some (vI (-1))) h) ∧ (0 ≤ x1 → ((x2 < 0 → Q (some (vI (-1))) h) ∧ (0 ≤ x2 → ((1 < x2 → Q (some (vI (-1))) h) ∧ (x2 ≤ 1 → (cI d m_Works_findSecondaries [vR 11 a0] h fun v2 h1 => ((v2 = 0 → Q (some (vI (-1))) h1) ∧ (¬ v2 = 0 → (0 < ((ch_R h1 a0 15)) ∧ ((x1 < (ch_I h1 (ch_R h1 a0 15) 3) → ((¬ x2 = 0 → (0 < ((ch_R h1 (ch_R h1 a0 15) 6)) ∧ ((0:Int) ≤ x1 ∧ x1 < ch_L h1 (ch_R h1 (ch_R h1 a0 15) 6)) ∧ Q (some (vI (ch_I h1 (ch_R h1 (ch_R h1 a0 15) 6) x1))) h1)) ∧ (x2 = 0 → (0 < ((ch_R h1 (ch_R h1 a0 15) 5)) ∧ ((0:Int) ≤ x1 ∧ x1 < ch_L h1 (ch_R h1 (ch_R h1 a0 15) 5)) ∧ Q (some (vI (ch_I h1 (ch_R h1 (ch_R h1 a0 15) 5) x1))) h1)))) ∧ ((ch_I h1 (ch_R h1 a0 15) 3) ≤ x1 → Q (some (vI (-1))) h1))))))))))))) : cm_call (d + 1) m_Works_secondary [vR 11 a0, vI x1, vI x2] h Q := by
  refine cm_call_in (C := cd_Works_secondary) (ls := [some (vR 11 a0), some (vI x1), some (vI x2)]) rfl rfl p_a0 rfl ?_
  refine w_iload rfl rfl ?_
  refine w_if rfl (And.intro (fun hc => ?_) (fun hc => ?_))
  · replace H := H.1 hc
    refine w_iconst rfl ⟨by decide, by decide⟩ ?_
    exact w_ireturn rfl H
  · replace H := H.2 hc
    refine w_iload rfl rfl ?_
    refine w_if rfl (And.intro (fun hc => ?_) (fun hc => ?_))
    · replace H := H.1 hc
      refine w_iconst rfl ⟨by decide, by decide⟩ ?_
      exact w_ireturn rfl H
    · replace H := H.2 hc
      refine w_iload rfl rfl ?_
      refine w_iconst rfl ⟨by decide, by decide⟩ ?_
      refine w_icmp rfl (And.intro (fun hc => ?_) (fun hc => ?_))
      · replace H := H.1 hc
        refine w_iconst rfl ⟨by decide, by decide⟩ ?_
        exact w_ireturn rfl H
      · replace H := H.2 hc
        refine w_aload rfl rfl ?_
        refine w_callI rfl (fun _ => rfl) rfl (cI_mono H fun v2 h1 H => ?_)
        refine w_if rfl (And.intro (fun hc => ?_) (fun hc => ?_))
        · replace H := H.1 hc
          refine w_iconst rfl ⟨by decide, by decide⟩ ?_
          exact w_ireturn rfl H
        · replace H := H.2 hc
          refine w_iload rfl rfl ?_
          refine w_aload rfl rfl ?_
          refine w_getR 15 8 rfl rfl rfl rfl p_a0 ?_
          have o3 := H.1
          replace H := H.2
          refine w_getI 3 rfl rfl rfl o3 ?_
          refine w_icmp rfl (And.intro (fun hc => ?_) (fun hc => ?_))
          · replace H := H.1 hc
            refine w_iload rfl rfl ?_
            refine w_if rfl (And.intro (fun hc => ?_) (fun hc => ?_))
            · replace H := H.1 hc
              refine w_aload rfl rfl ?_
              refine w_getR 15 8 rfl rfl rfl rfl p_a0 ?_
              refine w_getR 6 20 rfl rfl rfl rfl o3 ?_
              refine w_iload rfl rfl ?_
              have o4 := H.1
              replace H := H.2
              have o5 := H.1
              replace H := H.2
              refine w_iaload rfl o4 o5 ?_
              exact w_ireturn rfl H
            · replace H := H.2 hc
              refine w_aload rfl rfl ?_
              refine w_getR 15 8 rfl rfl rfl rfl p_a0 ?_
              refine w_getR 5 20 rfl rfl rfl rfl o3 ?_
              refine w_iload rfl rfl ?_
              have o6 := H.1
              replace H := H.2
              have o7 := H.1
              replace H := H.2
              refine w_iaload rfl o6 o7 ?_
              refine w_goto rfl ?_
              exact w_ireturn rfl H
          · replace H := H.2 hc
            refine w_iconst rfl ⟨by decide, by decide⟩ ?_
            exact w_ireturn rfl H
set_option maxHeartbeats 4000000 in
set_option maxRecDepth 100000 in
theorem r_Works_numerator_20 {d : Nat} {Q : cm_Q} {h : cm_H} {a0 : Nat} {x1 : Int} {x2 : Int} {x3 : Int} (p_a0 : 0 < a0) (H : (0 < ((ch_R h a0 15)) ∧ (((ch_I h (ch_R h a0 15) 3) ≤ x3 → Q (some (vI x2)) h) ∧ (x3 < (ch_I h (ch_R h a0 15) 3) → (0 < ((ch_R h (ch_R h a0 15) 5)) ∧ ((0:Int) ≤ x3 ∧ x3 < ch_L h (ch_R h (ch_R h a0 15) 5)) ∧ ((¬ (ch_I h (ch_R h (ch_R h a0 15) 5) x3) = x1 → (cm_i (x3 + 1) ∧ cw d cd_Works_numerator Q 20 [some (vR 11 a0), some (vI x1), some (vI x2), some (vI (x3 + 1))] [] h)) ∧ ((ch_I h (ch_R h (ch_R h a0 15) 5) x3) = x1 → (cm_i (x2 + 1) ∧ (cm_i (x3 + 1) ∧ cw d cd_Works_numerator Q 20 [some (vR 11 a0), some (vI x1), some (vI (x2 + 1)), some (vI (x3 + 1))] [] h))))))))) : cw d cd_Works_numerator Q 20 [some (vR 11 a0), some (vI x1), some (vI x2), some (vI x3)] [] h := by
  refine w_iload rfl rfl ?_
  refine w_aload rfl rfl ?_
  refine w_getR 15 8 rfl rfl rfl rfl p_a0 ?_
  have o1 := H.1
  replace H := H.2
  refine w_getI 3 rfl rfl rfl o1 ?_
  refine w_icmp rfl (And.intro (fun hc => ?_) (fun hc => ?_))
  · replace H := H.1 hc
    refine w_iload rfl rfl ?_
    exact w_ireturn rfl H
  · replace H := H.2 hc
    refine w_aload rfl rfl ?_
    refine w_getR 15 8 rfl rfl rfl rfl p_a0 ?_
    refine w_getR 5 20 rfl rfl rfl rfl o1 ?_
    refine w_iload rfl rfl ?_
    have o2 := H.1
    replace H := H.2
    have o3 := H.1
    replace H := H.2
    refine w_iaload rfl o2 o3 ?_
    refine w_iload rfl rfl ?_
    refine w_icmp rfl (And.intro (fun hc => ?_) (fun hc => ?_))
    · replace H := H.1 hc
      have o4 := H.1
      replace H := H.2
      refine w_iinc rfl rfl rfl o4 ?_
      refine w_goto rfl ?_
      exact H
    · replace H := H.2 hc
      have o5 := H.1
      replace H := H.2
      refine w_iinc rfl rfl rfl o5 ?_
      have o6 := H.1
      replace H := H.2
      refine w_iinc rfl rfl rfl o6 ?_
      refine w_goto rfl ?_
      exact H
set_option maxHeartbeats 4000000 in
set_option maxRecDepth 100000 in
theorem r_Works_numerator {d : Nat} {Q : cm_Q} {h : cm_H} {a0 : Nat} {x1 : Int} (p_a0 : 0 < a0) (H : (cI d m_Works_isPower [vI x1] h fun v2 h1 => ((v2 = 0 → Q (some (vI (-1))) h1) ∧ (¬ v2 = 0 → (cI d m_Works_findSecondaries [vR 11 a0] h1 fun v4 h3 => ((¬ v4 = 0 → cw d cd_Works_numerator Q 20 [some (vR 11 a0), some (vI x1), some (vI 0), some (vI 0)] [] h3) ∧ (v4 = 0 → Q (some (vI (-1))) h3))))))) : cm_call (d + 1) m_Works_numerator [vR 11 a0, vI x1] h Q := by
  refine cm_call_in (C := cd_Works_numerator) (ls := [some (vR 11 a0), some (vI x1), none, none]) rfl rfl p_a0 rfl ?_
  refine w_iload rfl rfl ?_
  refine w_callI rfl (fun _ => rfl) rfl (cI_mono H fun v2 h1 H => ?_)
  refine w_if rfl (And.intro (fun hc => ?_) (fun hc => ?_))
  · replace H := H.1 hc
    refine w_iconst rfl ⟨by decide, by decide⟩ ?_
    exact w_ireturn rfl H
  · replace H := H.2 hc
    refine w_aload rfl rfl ?_
    refine w_callI rfl (fun _ => rfl) rfl (cI_mono H fun v4 h3 H => ?_)
    refine w_if rfl (And.intro (fun hc => ?_) (fun hc => ?_))
    · replace H := H.1 hc
      refine w_iconst rfl ⟨by decide, by decide⟩ ?_
      refine w_istore rfl rfl ?_
      refine w_iconst rfl ⟨by decide, by decide⟩ ?_
      refine w_istore rfl rfl ?_
      exact H
    · replace H := H.2 hc
      refine w_iconst rfl ⟨by decide, by decide⟩ ?_
      exact w_ireturn rfl H
set_option maxHeartbeats 4000000 in
set_option maxRecDepth 100000 in
theorem r_Works_rewrite {d : Nat} {Q : cm_Q} {h : cm_H} {a0 : Nat} {x1 : Int} (p_a0 : 0 < a0) (H : (cI d m_Works_isKept [vI x1] h fun v2 h1 => ((v2 = 0 → Q (some (vI (-1))) h1) ∧ (¬ v2 = 0 → (cI d m_Works_findSecondaries [vR 11 a0] h1 fun v4 h3 => ((¬ v4 = 0 → (0 < ((ch_R h3 a0 2)) ∧ ((0:Int) ≤ x1 ∧ x1 < ch_L h3 (ch_R h3 a0 2)) ∧ (cI d m_Works_isLeftAlone [vR 11 a0, vR 20 (ch_R h3 (ch_R h3 a0 2) x1)] h3 fun v8 h7 => ((¬ v8 = 0 → (0 < ((ch_R h7 a0 2)) ∧ ((0:Int) ≤ x1 ∧ x1 < ch_L h7 (ch_R h7 a0 2)) ∧ (cI d m_Shape_degreeOf [vR 9 (ch_R h7 a0 6), vR 20 (ch_R h7 (ch_R h7 a0 2) x1)] h7 fun v12 h11 => (cU d m_Rewriter_extend [vR 8 (ch_R h7 a0 15), vI v12] h11 fun h13 => (0 < ((ch_R h13 a0 2)) ∧ ((0:Int) ≤ x1 ∧ x1 < ch_L h13 (ch_R h13 a0 2)) ∧ (cU d m_Rewriter_tell [vR 8 (ch_R h13 a0 15), vR 20 (ch_R h13 (ch_R h13 a0 2) x1)] h13 fun h16 => (0 < ((ch_R h16 a0 15)) ∧ Q (some (vI (ch_I h16 (ch_R h16 a0 15) 7))) h16))))))) ∧ (v8 = 0 → Q (some (vI (-2))) h7))))) ∧ (v4 = 0 → Q (some (vI (-1))) h3))))))) : cm_call (d + 1) m_Works_rewrite [vR 11 a0, vI x1] h Q := by
  refine cm_call_in (C := cd_Works_rewrite) (ls := [some (vR 11 a0), some (vI x1)]) rfl rfl p_a0 rfl ?_
  refine w_iload rfl rfl ?_
  refine w_callI rfl (fun _ => rfl) rfl (cI_mono H fun v2 h1 H => ?_)
  refine w_if rfl (And.intro (fun hc => ?_) (fun hc => ?_))
  · replace H := H.1 hc
    refine w_iconst rfl ⟨by decide, by decide⟩ ?_
    exact w_ireturn rfl H
  · replace H := H.2 hc
    refine w_aload rfl rfl ?_
    refine w_callI rfl (fun _ => rfl) rfl (cI_mono H fun v4 h3 H => ?_)
    refine w_if rfl (And.intro (fun hc => ?_) (fun hc => ?_))
    · replace H := H.1 hc
      refine w_aload rfl rfl ?_
      refine w_aload rfl rfl ?_
      refine w_getR 2 23 rfl rfl rfl rfl p_a0 ?_
      refine w_iload rfl rfl ?_
      have o5 := H.1
      replace H := H.2
      have o6 := H.1
      replace H := H.2
      refine w_aaload rfl rfl rfl o5 o6 ?_
      refine w_callI rfl (fun _ => rfl) rfl (cI_mono H fun v8 h7 H => ?_)
      refine w_if rfl (And.intro (fun hc => ?_) (fun hc => ?_))
      · replace H := H.1 hc
        refine w_aload rfl rfl ?_
        refine w_getR 15 8 rfl rfl rfl rfl p_a0 ?_
        refine w_aload rfl rfl ?_
        refine w_getR 6 9 rfl rfl rfl rfl p_a0 ?_
        refine w_aload rfl rfl ?_
        refine w_getR 2 23 rfl rfl rfl rfl p_a0 ?_
        refine w_iload rfl rfl ?_
        have o9 := H.1
        replace H := H.2
        have o10 := H.1
        replace H := H.2
        refine w_aaload rfl rfl rfl o9 o10 ?_
        refine w_callI rfl (fun _ => rfl) rfl (cI_mono H fun v12 h11 H => ?_)
        refine w_callU rfl (fun _ => rfl) rfl (cU_mono H fun h13 H => ?_)
        refine w_aload rfl rfl ?_
        refine w_getR 15 8 rfl rfl rfl rfl p_a0 ?_
        refine w_aload rfl rfl ?_
        refine w_getR 2 23 rfl rfl rfl rfl p_a0 ?_
        refine w_iload rfl rfl ?_
        have o14 := H.1
        replace H := H.2
        have o15 := H.1
        replace H := H.2
        refine w_aaload rfl rfl rfl o14 o15 ?_
        refine w_callU rfl (fun _ => rfl) rfl (cU_mono H fun h16 H => ?_)
        refine w_aload rfl rfl ?_
        refine w_getR 15 8 rfl rfl rfl rfl p_a0 ?_
        have o17 := H.1
        replace H := H.2
        refine w_getI 7 rfl rfl rfl o17 ?_
        exact w_ireturn rfl H
      · replace H := H.2 hc
        refine w_iconst rfl ⟨by decide, by decide⟩ ?_
        exact w_ireturn rfl H
    · replace H := H.2 hc
      refine w_iconst rfl ⟨by decide, by decide⟩ ?_
      exact w_ireturn rfl H
set_option maxHeartbeats 4000000 in
set_option maxRecDepth 100000 in
theorem r_Works_rewritten {d : Nat} {Q : cm_Q} {h : cm_H} {a0 : Nat} {x1 : Int} {x2 : Int} {x3 : Int} {x4 : Int} (p_a0 : 0 < a0) (H : (0 < ((ch_R h a0 15)) ∧ (((ch_I h (ch_R h a0 15) 7) < 0 → Q (some (vI (-1))) h) ∧ (0 ≤ (ch_I h (ch_R h a0 15) 7) → (cI d m_Works_isProduct [vR 11 a0, vI x1, vI x2, vI x3, vI x4] h fun v3 h2 => ((¬ v3 = 0 → (cI d m_Rewriter_placeOf [vR 8 (ch_R h2 a0 15), vI x1, vI x2, vI x3, vI x4] h2 fun v5 h4 => ((0 ≤ v5 → (0 < ((ch_R h4 a0 15)) ∧ (0 < ((ch_R h4 (ch_R h4 a0 15) 8)) ∧ ((0:Int) ≤ v5 ∧ v5 < ch_L h4 (ch_R h4 (ch_R h4 a0 15) 8)) ∧ Q (some (vI (ch_I h4 (ch_R h4 (ch_R h4 a0 15) 8) v5))) h4))) ∧ (v5 < 0 → Q (some (vI 0)) h4)))) ∧ (v3 = 0 → Q (some (vI (-1))) h2))))))) : cm_call (d + 1) m_Works_rewritten [vR 11 a0, vI x1, vI x2, vI x3, vI x4] h Q := by
  refine cm_call_in (C := cd_Works_rewritten) (ls := [some (vR 11 a0), some (vI x1), some (vI x2), some (vI x3), some (vI x4), none]) rfl rfl p_a0 rfl ?_
  refine w_aload rfl rfl ?_
  refine w_getR 15 8 rfl rfl rfl rfl p_a0 ?_
  have o1 := H.1
  replace H := H.2
  refine w_getI 7 rfl rfl rfl o1 ?_
  refine w_if rfl (And.intro (fun hc => ?_) (fun hc => ?_))
  · replace H := H.1 hc
    refine w_iconst rfl ⟨by decide, by decide⟩ ?_
    exact w_ireturn rfl H
  · replace H := H.2 hc
    refine w_aload rfl rfl ?_
    refine w_iload rfl rfl ?_
    refine w_iload rfl rfl ?_
    refine w_iload rfl rfl ?_
    refine w_iload rfl rfl ?_
    refine w_callI rfl (fun _ => rfl) rfl (cI_mono H fun v3 h2 H => ?_)
    refine w_if rfl (And.intro (fun hc => ?_) (fun hc => ?_))
    · replace H := H.1 hc
      refine w_aload rfl rfl ?_
      refine w_getR 15 8 rfl rfl rfl rfl p_a0 ?_
      refine w_iload rfl rfl ?_
      refine w_iload rfl rfl ?_
      refine w_iload rfl rfl ?_
      refine w_iload rfl rfl ?_
      refine w_callI rfl (fun _ => rfl) rfl (cI_mono H fun v5 h4 H => ?_)
      refine w_istore rfl rfl ?_
      refine w_iload rfl rfl ?_
      refine w_if rfl (And.intro (fun hc => ?_) (fun hc => ?_))
      · replace H := H.1 hc
        refine w_aload rfl rfl ?_
        refine w_getR 15 8 rfl rfl rfl rfl p_a0 ?_
        have o6 := H.1
        replace H := H.2
        refine w_getR 8 20 rfl rfl rfl rfl o6 ?_
        refine w_iload rfl rfl ?_
        have o7 := H.1
        replace H := H.2
        have o8 := H.1
        replace H := H.2
        refine w_iaload rfl o7 o8 ?_
        exact w_ireturn rfl H
      · replace H := H.2 hc
        refine w_iconst rfl ⟨by decide, by decide⟩ ?_
        refine w_goto rfl ?_
        exact w_ireturn rfl H
    · replace H := H.2 hc
      refine w_iconst rfl ⟨by decide, by decide⟩ ?_
      exact w_ireturn rfl H
set_option maxHeartbeats 4000000 in
set_option maxRecDepth 100000 in
theorem r_Works_relation {d : Nat} {Q : cm_Q} {h : cm_H} {a0 : Nat} {x1 : Int} {x2 : Int} {x3 : Int} {x4 : Int} {x5 : Int} {x6 : Int} (p_a0 : 0 < a0) (H : (cI d m_Works_findSecondaries [vR 11 a0] h fun v2 h1 => ((v2 = 0 → Q (some (vI (-1))) h1) ∧ (¬ v2 = 0 → (cI d m_Works_isSecondary [vR 11 a0, vI x1] h1 fun v4 h3 => ((v4 = 0 → Q (some (vI (-1))) h3) ∧ (¬ v4 = 0 → (cI d m_Works_isSecondary [vR 11 a0, vI x2] h3 fun v6 h5 => ((v6 = 0 → Q (some (vI (-1))) h5) ∧ (¬ v6 = 0 → (cI d m_Works_isProduct [vR 11 a0, vI x3, vI x4, vI x5, vI x6] h5 fun v8 h7 => ((¬ v8 = 0 → (0 < ((ch_R h7 a0 15)) ∧ (0 < ((ch_R h7 (ch_R h7 a0 15) 5)) ∧ ((0:Int) ≤ x1 ∧ x1 < ch_L h7 (ch_R h7 (ch_R h7 a0 15) 5)) ∧ ((0:Int) ≤ x2 ∧ x2 < ch_L h7 (ch_R h7 (ch_R h7 a0 15) 5)) ∧ (cm_i ((ch_I h7 (ch_R h7 (ch_R h7 a0 15) 5) x1) + (ch_I h7 (ch_R h7 (ch_R h7 a0 15) 5) x2)) ∧ ((((ch_I h7 (ch_R h7 (ch_R h7 a0 15) 5) x1) + (ch_I h7 (ch_R h7 (ch_R h7 a0 15) 5) x2)) ≤ 15 → (cU d m_Rewriter_extend [vR 8 (ch_R h7 a0 15), vI ((ch_I h7 (ch_R h7 (ch_R h7 a0 15) 5) x1) + (ch_I h7 (ch_R h7 (ch_R h7 a0 15) 5) x2))] h7 fun h14 => (cU d m_Rewriter_relate [vR 8 (ch_R h14 a0 15), vI x1, vI x2] h14 fun h15 => (cI d m_Rewriter_placeOf [vR 8 (ch_R h15 a0 15), vI x3, vI x4, vI x5, vI x6] h15 fun v17 h16 => (0 < ((ch_R h16 a0 6)) ∧ (0 < ((ch_R h16 (ch_R h16 a0 6) 3)) ∧ ((0:Int) ≤ ((ch_I h7 (ch_R h7 (ch_R h7 a0 15) 5) x1) + (ch_I h7 (ch_R h7 (ch_R h7 a0 15) 5) x2)) ∧ ((ch_I h7 (ch_R h7 (ch_R h7 a0 15) 5) x1) + (ch_I h7 (ch_R h7 (ch_R h7 a0 15) 5) x2)) < ch_L h16 (ch_R h16 (ch_R h16 a0 6) 3)) ∧ (cm_i (v17 - (ch_I h16 (ch_R h16 (ch_R h16 a0 6) 3) ((ch_I h7 (ch_R h7 (ch_R h7 a0 15) 5) x1) + (ch_I h7 (ch_R h7 (ch_R h7 a0 15) 5) x2)))) ∧ (((v17 - (ch_I h16 (ch_R h16 (ch_R h16 a0 6) 3) ((ch_I h7 (ch_R h7 (ch_R h7 a0 15) 5) x1) + (ch_I h7 (ch_R h7 (ch_R h7 a0 15) 5) x2)))) < 0 → Q (some (vI 0)) h16) ∧ (0 ≤ (v17 - (ch_I h16 (ch_R h16 (ch_R h16 a0 6) 3) ((ch_I h7 (ch_R h7 (ch_R h7 a0 15) 5) x1) + (ch_I h7 (ch_R h7 (ch_R h7 a0 15) 5) x2)))) → (cm_i (((ch_I h7 (ch_R h7 (ch_R h7 a0 15) 5) x1) + (ch_I h7 (ch_R h7 (ch_R h7 a0 15) 5) x2)) + 1) ∧ (0 < ((ch_R h16 (ch_R h16 a0 6) 2)) ∧ ((0:Int) ≤ (((ch_I h7 (ch_R h7 (ch_R h7 a0 15) 5) x1) + (ch_I h7 (ch_R h7 (ch_R h7 a0 15) 5) x2)) + 1) ∧ (((ch_I h7 (ch_R h7 (ch_R h7 a0 15) 5) x1) + (ch_I h7 (ch_R h7 (ch_R h7 a0 15) 5) x2)) + 1) < ch_L h16 (ch_R h16 (ch_R h16 a0 6) 2)) ∧ (((v17 - (ch_I h16 (ch_R h16 (ch_R h16 a0 6) 3) ((ch_I h7 (ch_R h7 (ch_R h7 a0 15) 5) x1) + (ch_I h7 (ch_R h7 (ch_R h7 a0 15) 5) x2)))) < (ch_I h16 (ch_R h16 (ch_R h16 a0 6) 2) (((ch_I h7 (ch_R h7 (ch_R h7 a0 15) 5) x1) + (ch_I h7 (ch_R h7 (ch_R h7 a0 15) 5) x2)) + 1)) → (0 < ((ch_R h16 a0 15)) ∧ (0 < ((ch_R h16 (ch_R h16 a0 15) 11)) ∧ ((0:Int) ≤ (v17 - (ch_I h16 (ch_R h16 (ch_R h16 a0 6) 3) ((ch_I h7 (ch_R h7 (ch_R h7 a0 15) 5) x1) + (ch_I h7 (ch_R h7 (ch_R h7 a0 15) 5) x2)))) ∧ (v17 - (ch_I h16 (ch_R h16 (ch_R h16 a0 6) 3) ((ch_I h7 (ch_R h7 (ch_R h7 a0 15) 5) x1) + (ch_I h7 (ch_R h7 (ch_R h7 a0 15) 5) x2)))) < ch_L h16 (ch_R h16 (ch_R h16 a0 15) 11)) ∧ Q (some (vI (ch_I h16 (ch_R h16 (ch_R h16 a0 15) 11) (v17 - (ch_I h16 (ch_R h16 (ch_R h16 a0 6) 3) ((ch_I h7 (ch_R h7 (ch_R h7 a0 15) 5) x1) + (ch_I h7 (ch_R h7 (ch_R h7 a0 15) 5) x2))))))) h16))) ∧ ((ch_I h16 (ch_R h16 (ch_R h16 a0 6) 2) (((ch_I h7 (ch_R h7 (ch_R h7 a0 15) 5) x1) + (ch_I h7 (ch_R h7 (ch_R h7 a0 15) 5) x2)) + 1)) ≤ (v17 - (ch_I h16 (ch_R h16 (ch_R h16 a0 6) 3) ((ch_I h7 (ch_R h7 (ch_R h7 a0 15) 5) x1) + (ch_I h7 (ch_R h7 (ch_R h7 a0 15) 5) x2)))) → Q (some (vI 0)) h16))))))))))))) ∧ (15 < ((ch_I h7 (ch_R h7 (ch_R h7 a0 15) 5) x1) + (ch_I h7 (ch_R h7 (ch_R h7 a0 15) 5) x2)) → Q (some (vI (-2))) h7)))))) ∧ (v8 = 0 → Q (some (vI (-1))) h7))))))))))))) : cm_call (d + 1) m_Works_relation [vR 11 a0, vI x1, vI x2, vI x3, vI x4, vI x5, vI x6] h Q := by
  refine cm_call_in (C := cd_Works_relation) (ls := [some (vR 11 a0), some (vI x1), some (vI x2), some (vI x3), some (vI x4), some (vI x5), some (vI x6), none, none]) rfl rfl p_a0 rfl ?_
  refine w_aload rfl rfl ?_
  refine w_callI rfl (fun _ => rfl) rfl (cI_mono H fun v2 h1 H => ?_)
  refine w_if rfl (And.intro (fun hc => ?_) (fun hc => ?_))
  · replace H := H.1 hc
    refine w_iconst rfl ⟨by decide, by decide⟩ ?_
    exact w_ireturn rfl H
  · replace H := H.2 hc
    refine w_aload rfl rfl ?_
    refine w_iload rfl rfl ?_
    refine w_callI rfl (fun _ => rfl) rfl (cI_mono H fun v4 h3 H => ?_)
    refine w_if rfl (And.intro (fun hc => ?_) (fun hc => ?_))
    · replace H := H.1 hc
      refine w_iconst rfl ⟨by decide, by decide⟩ ?_
      exact w_ireturn rfl H
    · replace H := H.2 hc
      refine w_aload rfl rfl ?_
      refine w_iload rfl rfl ?_
      refine w_callI rfl (fun _ => rfl) rfl (cI_mono H fun v6 h5 H => ?_)
      refine w_if rfl (And.intro (fun hc => ?_) (fun hc => ?_))
      · replace H := H.1 hc
        refine w_iconst rfl ⟨by decide, by decide⟩ ?_
        exact w_ireturn rfl H
      · replace H := H.2 hc
        refine w_aload rfl rfl ?_
        refine w_iload rfl rfl ?_
        refine w_iload rfl rfl ?_
        refine w_iload rfl rfl ?_
        refine w_iload rfl rfl ?_
        refine w_callI rfl (fun _ => rfl) rfl (cI_mono H fun v8 h7 H => ?_)
        refine w_if rfl (And.intro (fun hc => ?_) (fun hc => ?_))
        · replace H := H.1 hc
          refine w_aload rfl rfl ?_
          refine w_getR 15 8 rfl rfl rfl rfl p_a0 ?_
          have o9 := H.1
          replace H := H.2
          refine w_getR 5 20 rfl rfl rfl rfl o9 ?_
          refine w_iload rfl rfl ?_
          have o10 := H.1
          replace H := H.2
          have o11 := H.1
          replace H := H.2
          refine w_iaload rfl o10 o11 ?_
          refine w_aload rfl rfl ?_
          refine w_getR 15 8 rfl rfl rfl rfl p_a0 ?_
          refine w_getR 5 20 rfl rfl rfl rfl o9 ?_
          refine w_iload rfl rfl ?_
          have o12 := H.1
          replace H := H.2
          refine w_iaload rfl o10 o12 ?_
          have o13 := H.1
          replace H := H.2
          refine w_iadd rfl o13 ?_
          refine w_istore rfl rfl ?_
          refine w_iload rfl rfl ?_
          refine w_iconst rfl ⟨by decide, by decide⟩ ?_
          refine w_icmp rfl (And.intro (fun hc => ?_) (fun hc => ?_))
          · replace H := H.1 hc
            refine w_aload rfl rfl ?_
            refine w_getR 15 8 rfl rfl rfl rfl p_a0 ?_
            refine w_iload rfl rfl ?_
            refine w_callU rfl (fun _ => rfl) rfl (cU_mono H fun h14 H => ?_)
            refine w_aload rfl rfl ?_
            refine w_getR 15 8 rfl rfl rfl rfl p_a0 ?_
            refine w_iload rfl rfl ?_
            refine w_iload rfl rfl ?_
            refine w_callU rfl (fun _ => rfl) rfl (cU_mono H fun h15 H => ?_)
            refine w_aload rfl rfl ?_
            refine w_getR 15 8 rfl rfl rfl rfl p_a0 ?_
            refine w_iload rfl rfl ?_
            refine w_iload rfl rfl ?_
            refine w_iload rfl rfl ?_
            refine w_iload rfl rfl ?_
            refine w_callI rfl (fun _ => rfl) rfl (cI_mono H fun v17 h16 H => ?_)
            refine w_aload rfl rfl ?_
            refine w_getR 6 9 rfl rfl rfl rfl p_a0 ?_
            have o18 := H.1
            replace H := H.2
            refine w_getR 3 20 rfl rfl rfl rfl o18 ?_
            refine w_iload rfl rfl ?_
            have o19 := H.1
            replace H := H.2
            have o20 := H.1
            replace H := H.2
            refine w_iaload rfl o19 o20 ?_
            have o21 := H.1
            replace H := H.2
            refine w_isub rfl o21 ?_
            refine w_istore rfl rfl ?_
            refine w_iload rfl rfl ?_
            refine w_if rfl (And.intro (fun hc => ?_) (fun hc => ?_))
            · replace H := H.1 hc
              refine w_iconst rfl ⟨by decide, by decide⟩ ?_
              refine w_goto rfl ?_
              exact w_ireturn rfl H
            · replace H := H.2 hc
              refine w_iload rfl rfl ?_
              refine w_aload rfl rfl ?_
              refine w_getR 6 9 rfl rfl rfl rfl p_a0 ?_
              refine w_getR 2 20 rfl rfl rfl rfl o18 ?_
              refine w_iload rfl rfl ?_
              refine w_iconst rfl ⟨by decide, by decide⟩ ?_
              have o22 := H.1
              replace H := H.2
              refine w_iadd rfl o22 ?_
              have o23 := H.1
              replace H := H.2
              have o24 := H.1
              replace H := H.2
              refine w_iaload rfl o23 o24 ?_
              refine w_icmp rfl (And.intro (fun hc => ?_) (fun hc => ?_))
              · replace H := H.1 hc
                refine w_aload rfl rfl ?_
                refine w_getR 15 8 rfl rfl rfl rfl p_a0 ?_
                have o25 := H.1
                replace H := H.2
                refine w_getR 11 20 rfl rfl rfl rfl o25 ?_
                refine w_iload rfl rfl ?_
                have o26 := H.1
                replace H := H.2
                have o27 := H.1
                replace H := H.2
                refine w_iaload rfl o26 o27 ?_
                exact w_ireturn rfl H
              · replace H := H.2 hc
                refine w_iconst rfl ⟨by decide, by decide⟩ ?_
                refine w_goto rfl ?_
                exact w_ireturn rfl H
          · replace H := H.2 hc
            refine w_iconst rfl ⟨by decide, by decide⟩ ?_
            exact w_ireturn rfl H
        · replace H := H.2 hc
          refine w_iconst rfl ⟨by decide, by decide⟩ ?_
          exact w_ireturn rfl H
set_option maxHeartbeats 4000000 in
set_option maxRecDepth 100000 in
theorem r_Works_count {d : Nat} {Q : cm_Q} {h : cm_H} {a0 : Nat} {x1 : Int} (p_a0 : 0 < a0) (H : ((¬ x1 = 0 → ((¬ x1 = 1 → Q (some (vI (-1))) h) ∧ (x1 = 1 → (0 < ((ch_R h a0 15)) ∧ (((ch_I h (ch_R h a0 15) 7) < 0 → Q (some (vI (-1))) h) ∧ (0 ≤ (ch_I h (ch_R h a0 15) 7) → Q (some (vI (ch_I h (ch_R h a0 15) 7))) h)))))) ∧ (x1 = 0 → Q (some (vI (ch_I h a0 1))) h))) : cm_call (d + 1) m_Works_count [vR 11 a0, vI x1] h Q := by
  refine cm_call_in (C := cd_Works_count) (ls := [some (vR 11 a0), some (vI x1)]) rfl rfl p_a0 rfl ?_
  refine w_iload rfl rfl ?_
  refine w_if rfl (And.intro (fun hc => ?_) (fun hc => ?_))
  · replace H := H.1 hc
    refine w_iload rfl rfl ?_
    refine w_iconst rfl ⟨by decide, by decide⟩ ?_
    refine w_icmp rfl (And.intro (fun hc => ?_) (fun hc => ?_))
    · replace H := H.1 hc
      refine w_iconst rfl ⟨by decide, by decide⟩ ?_
      exact w_ireturn rfl H
    · replace H := H.2 hc
      refine w_aload rfl rfl ?_
      refine w_getR 15 8 rfl rfl rfl rfl p_a0 ?_
      have o1 := H.1
      replace H := H.2
      refine w_getI 7 rfl rfl rfl o1 ?_
      refine w_if rfl (And.intro (fun hc => ?_) (fun hc => ?_))
      · replace H := H.1 hc
        refine w_iconst rfl ⟨by decide, by decide⟩ ?_
        exact w_ireturn rfl H
      · replace H := H.2 hc
        refine w_aload rfl rfl ?_
        refine w_getR 15 8 rfl rfl rfl rfl p_a0 ?_
        refine w_getI 7 rfl rfl rfl o1 ?_
        refine w_goto rfl ?_
        exact w_ireturn rfl H
  · replace H := H.2 hc
    refine w_aload rfl rfl ?_
    refine w_getI 1 rfl rfl rfl p_a0 ?_
    exact w_ireturn rfl H
set_option maxHeartbeats 4000000 in
set_option maxRecDepth 100000 in
theorem r_Works_startAgain {d : Nat} {Q : cm_Q} {h : cm_H} {a0 : Nat} (p_a0 : 0 < a0) (H : (cU d m_Mover_begin [vR 4 (ch_R h a0 11), vR 9 (ch_R h a0 6), vR 3 (ch_R h a0 7)] h fun h1 => (cU d m_Bases_begin [vR 0 (ch_R h1 a0 13), vR 9 (ch_R h1 a0 6), vR 3 (ch_R h1 a0 7)] h1 fun h2 => (cU d m_Search_begin [vR 6 (ch_R h2 a0 14), vR 9 (ch_R h2 a0 6), vR 3 (ch_R h2 a0 7)] h2 fun h3 => (cU d m_Rewriter_begin [vR 8 (ch_R h3 a0 15), vR 9 (ch_R h3 a0 6)] h3 fun h4 => Q none h4))))) : cm_call (d + 1) m_Works_startAgain [vR 11 a0] h Q := by
  refine cm_call_in (C := cd_Works_startAgain) (ls := [some (vR 11 a0)]) rfl rfl p_a0 rfl ?_
  refine w_aload rfl rfl ?_
  refine w_getR 11 4 rfl rfl rfl rfl p_a0 ?_
  refine w_aload rfl rfl ?_
  refine w_getR 6 9 rfl rfl rfl rfl p_a0 ?_
  refine w_aload rfl rfl ?_
  refine w_getR 7 3 rfl rfl rfl rfl p_a0 ?_
  refine w_callU rfl (fun _ => rfl) rfl (cU_mono H fun h1 H => ?_)
  refine w_aload rfl rfl ?_
  refine w_getR 13 0 rfl rfl rfl rfl p_a0 ?_
  refine w_aload rfl rfl ?_
  refine w_getR 6 9 rfl rfl rfl rfl p_a0 ?_
  refine w_aload rfl rfl ?_
  refine w_getR 7 3 rfl rfl rfl rfl p_a0 ?_
  refine w_callU rfl (fun _ => rfl) rfl (cU_mono H fun h2 H => ?_)
  refine w_aload rfl rfl ?_
  refine w_getR 14 6 rfl rfl rfl rfl p_a0 ?_
  refine w_aload rfl rfl ?_
  refine w_getR 6 9 rfl rfl rfl rfl p_a0 ?_
  refine w_aload rfl rfl ?_
  refine w_getR 7 3 rfl rfl rfl rfl p_a0 ?_
  refine w_callU rfl (fun _ => rfl) rfl (cU_mono H fun h3 H => ?_)
  refine w_aload rfl rfl ?_
  refine w_getR 15 8 rfl rfl rfl rfl p_a0 ?_
  refine w_aload rfl rfl ?_
  refine w_getR 6 9 rfl rfl rfl rfl p_a0 ?_
  refine w_callU rfl (fun _ => rfl) rfl (cU_mono H fun h4 H => ?_)
  exact w_return rfl H
set_option maxHeartbeats 4000000 in
set_option maxRecDepth 100000 in
theorem r_Works_putBytes_3 {d : Nat} {Q : cm_Q} {h : cm_H} {a0 : Nat} {x1 : Int} {x2 : Int} (p_a0 : 0 < a0) (H : ((x2 < 0 → Q none h) ∧ (0 ≤ x2 → ((0:Int) ≤ x2 ∧ x2 < 32) ∧ (0 < ((ch_R h a0 0)) ∧ ((0:Int) ≤ (ch_I h a0 1) ∧ (ch_I h a0 1) < ch_L h (ch_R h a0 0)) ∧ (-128 ≤ (((x1 / 2 ^ (Int.toNat x2)) + 128) % 256 - 128) ∧ (((x1 / 2 ^ (Int.toNat x2)) + 128) % 256 - 128) ≤ 127) ∧ (∀ h5 : cm_H, h5 = ch_u h (ch_R h a0 0) (ch_I h a0 1) (((x1 / 2 ^ (Int.toNat x2)) + 128) % 256 - 128) → (cm_i ((ch_I h5 a0 1) + 1) ∧ (∀ h7 : cm_H, h7 = ch_u h5 a0 1 ((ch_I h5 a0 1) + 1) → (cm_i (x2 + (-8)) ∧ cw d cd_Works_putBytes Q 3 [some (vR 11 a0), some (vI x1), some (vI (x2 + (-8)))] [] h7)))))))) : cw d cd_Works_putBytes Q 3 [some (vR 11 a0), some (vI x1), some (vI x2)] [] h := by
  refine w_iload rfl rfl ?_
  refine w_if rfl (And.intro (fun hc => ?_) (fun hc => ?_))
  · replace H := H.1 hc
    exact w_return rfl H
  · replace H := H.2 hc
    refine w_aload rfl rfl ?_
    refine w_getR 0 21 rfl rfl rfl rfl p_a0 ?_
    refine w_aload rfl rfl ?_
    refine w_getI 1 rfl rfl rfl p_a0 ?_
    refine w_iload rfl rfl ?_
    refine w_iload rfl rfl ?_
    have o1 := H.1
    replace H := H.2
    refine w_ishr rfl o1 ?_
    refine w_i2b rfl ?_
    have o2 := H.1
    replace H := H.2
    have o3 := H.1
    replace H := H.2
    have o4 := H.1
    replace H := H.2
    refine w_bastore rfl rfl (Or.inl ⟨rfl, o4⟩) o2 o3 (fun h5 eh5 => ?_)
    replace H := H h5 eh5
    refine w_aload rfl rfl ?_
    refine w_dup rfl rfl ?_
    refine w_getI 1 rfl rfl rfl p_a0 ?_
    refine w_iconst rfl ⟨by decide, by decide⟩ ?_
    have o6 := H.1
    replace H := H.2
    refine w_iadd rfl o6 ?_
    refine w_putI 1 rfl rfl rfl p_a0 (fun h7 eh7 => ?_)
    replace H := H h7 eh7
    have o8 := H.1
    replace H := H.2
    refine w_iinc rfl rfl rfl o8 ?_
    refine w_goto rfl ?_
    exact H
set_option maxHeartbeats 4000000 in
set_option maxRecDepth 100000 in
theorem r_Works_putBytes {d : Nat} {Q : cm_Q} {h : cm_H} {a0 : Nat} {x1 : Int} (p_a0 : 0 < a0) (H : cw d cd_Works_putBytes Q 3 [some (vR 11 a0), some (vI x1), some (vI 24)] [] h) : cm_call (d + 1) m_Works_putBytes [vR 11 a0, vI x1] h Q := by
  refine cm_call_in (C := cd_Works_putBytes) (ls := [some (vR 11 a0), some (vI x1), none]) rfl rfl p_a0 rfl ?_
  refine w_iconst rfl ⟨by decide, by decide⟩ ?_
  refine w_istore rfl rfl ?_
  exact H
set_option maxHeartbeats 4000000 in
set_option maxRecDepth 100000 in
theorem r_Works_isKept {d : Nat} {Q : cm_Q} {h : cm_H} {x0 : Int}  (H : ((x0 < 0 → Q (some (vI 0)) h) ∧ (0 ≤ x0 → ((6 ≤ x0 → Q (some (vI 0)) h) ∧ (x0 < 6 → Q (some (vI 1)) h))))) : cm_call (d + 1) m_Works_isKept [vI x0] h Q := by
  refine cm_call_in (C := cd_Works_isKept) (ls := [some (vI x0)]) rfl rfl trivial rfl ?_
  refine w_iload rfl rfl ?_
  refine w_if rfl (And.intro (fun hc => ?_) (fun hc => ?_))
  · replace H := H.1 hc
    refine w_iconst rfl ⟨by decide, by decide⟩ ?_
    exact w_zreturn rfl (by decide) H
  · replace H := H.2 hc
    refine w_iload rfl rfl ?_
    refine w_iconst rfl ⟨by decide, by decide⟩ ?_
    refine w_icmp rfl (And.intro (fun hc => ?_) (fun hc => ?_))
    · replace H := H.1 hc
      refine w_iconst rfl ⟨by decide, by decide⟩ ?_
      exact w_zreturn rfl (by decide) H
    · replace H := H.2 hc
      refine w_iconst rfl ⟨by decide, by decide⟩ ?_
      refine w_goto rfl ?_
      exact w_zreturn rfl (by decide) H
set_option maxHeartbeats 4000000 in
set_option maxRecDepth 100000 in
theorem r_Works_isPower {d : Nat} {Q : cm_Q} {h : cm_H} {x0 : Int}  (H : ((x0 < 0 → Q (some (vI 0)) h) ∧ (0 ≤ x0 → ((15 < x0 → Q (some (vI 0)) h) ∧ (x0 ≤ 15 → Q (some (vI 1)) h))))) : cm_call (d + 1) m_Works_isPower [vI x0] h Q := by
  refine cm_call_in (C := cd_Works_isPower) (ls := [some (vI x0)]) rfl rfl trivial rfl ?_
  refine w_iload rfl rfl ?_
  refine w_if rfl (And.intro (fun hc => ?_) (fun hc => ?_))
  · replace H := H.1 hc
    refine w_iconst rfl ⟨by decide, by decide⟩ ?_
    exact w_zreturn rfl (by decide) H
  · replace H := H.2 hc
    refine w_iload rfl rfl ?_
    refine w_iconst rfl ⟨by decide, by decide⟩ ?_
    refine w_icmp rfl (And.intro (fun hc => ?_) (fun hc => ?_))
    · replace H := H.1 hc
      refine w_iconst rfl ⟨by decide, by decide⟩ ?_
      exact w_zreturn rfl (by decide) H
    · replace H := H.2 hc
      refine w_iconst rfl ⟨by decide, by decide⟩ ?_
      refine w_goto rfl ?_
      exact w_zreturn rfl (by decide) H
set_option maxHeartbeats 4000000 in
set_option maxRecDepth 100000 in
theorem r_Works_isMember {d : Nat} {Q : cm_Q} {h : cm_H} {a0 : Nat} {x1 : Int} (p_a0 : 0 < a0) (H : ((x1 < 0 → Q (some (vI 0)) h) ∧ (0 ≤ x1 → (0 < ((ch_R h a0 7)) ∧ (((ch_I h (ch_R h a0 7) 2) ≤ x1 → Q (some (vI 0)) h) ∧ (x1 < (ch_I h (ch_R h a0 7) 2) → Q (some (vI 1)) h)))))) : cm_call (d + 1) m_Works_isMember [vR 11 a0, vI x1] h Q := by
  refine cm_call_in (C := cd_Works_isMember) (ls := [some (vR 11 a0), some (vI x1)]) rfl rfl p_a0 rfl ?_
  refine w_iload rfl rfl ?_
  refine w_if rfl (And.intro (fun hc => ?_) (fun hc => ?_))
  · replace H := H.1 hc
    refine w_iconst rfl ⟨by decide, by decide⟩ ?_
    exact w_zreturn rfl (by decide) H
  · replace H := H.2 hc
    refine w_iload rfl rfl ?_
    refine w_aload rfl rfl ?_
    refine w_getR 7 3 rfl rfl rfl rfl p_a0 ?_
    have o1 := H.1
    replace H := H.2
    refine w_getI 2 rfl rfl rfl o1 ?_
    refine w_icmp rfl (And.intro (fun hc => ?_) (fun hc => ?_))
    · replace H := H.1 hc
      refine w_iconst rfl ⟨by decide, by decide⟩ ?_
      exact w_zreturn rfl (by decide) H
    · replace H := H.2 hc
      refine w_iconst rfl ⟨by decide, by decide⟩ ?_
      refine w_goto rfl ?_
      exact w_zreturn rfl (by decide) H
set_option maxHeartbeats 4000000 in
set_option maxRecDepth 100000 in
theorem r_Works_isSecondary {d : Nat} {Q : cm_Q} {h : cm_H} {a0 : Nat} {x1 : Int} (p_a0 : 0 < a0) (H : ((x1 < 0 → Q (some (vI 0)) h) ∧ (0 ≤ x1 → (0 < ((ch_R h a0 15)) ∧ (((ch_I h (ch_R h a0 15) 3) ≤ x1 → Q (some (vI 0)) h) ∧ (x1 < (ch_I h (ch_R h a0 15) 3) → Q (some (vI 1)) h)))))) : cm_call (d + 1) m_Works_isSecondary [vR 11 a0, vI x1] h Q := by
  refine cm_call_in (C := cd_Works_isSecondary) (ls := [some (vR 11 a0), some (vI x1)]) rfl rfl p_a0 rfl ?_
  refine w_iload rfl rfl ?_
  refine w_if rfl (And.intro (fun hc => ?_) (fun hc => ?_))
  · replace H := H.1 hc
    refine w_iconst rfl ⟨by decide, by decide⟩ ?_
    exact w_zreturn rfl (by decide) H
  · replace H := H.2 hc
    refine w_iload rfl rfl ?_
    refine w_aload rfl rfl ?_
    refine w_getR 15 8 rfl rfl rfl rfl p_a0 ?_
    have o1 := H.1
    replace H := H.2
    refine w_getI 3 rfl rfl rfl o1 ?_
    refine w_icmp rfl (And.intro (fun hc => ?_) (fun hc => ?_))
    · replace H := H.1 hc
      refine w_iconst rfl ⟨by decide, by decide⟩ ?_
      exact w_zreturn rfl (by decide) H
    · replace H := H.2 hc
      refine w_iconst rfl ⟨by decide, by decide⟩ ?_
      refine w_goto rfl ?_
      exact w_zreturn rfl (by decide) H
set_option maxHeartbeats 4000000 in
set_option maxRecDepth 100000 in
theorem r_Works_isProduct {d : Nat} {Q : cm_Q} {h : cm_H} {a0 : Nat} {x1 : Int} {x2 : Int} {x3 : Int} {x4 : Int} (p_a0 : 0 < a0) (H : (cI d m_Works_isSecondary [vR 11 a0, vI x1] h fun v2 h1 => ((v2 = 0 → Q (some (vI 0)) h1) ∧ (¬ v2 = 0 → ((x2 < 0 → Q (some (vI 0)) h1) ∧ (0 ≤ x2 → ((x3 < 0 → Q (some (vI 0)) h1) ∧ (0 ≤ x3 → ((0 ≤ x4 → ((x4 = 0 → Q (some (vI 1)) h1) ∧ (¬ x4 = 0 → (0 < ((ch_R h1 a0 6)) ∧ ((¬ (ch_I h1 (ch_R h1 a0 6) 0) = 3 → Q (some (vI 0)) h1) ∧ ((ch_I h1 (ch_R h1 a0 6) 0) = 3 → Q (some (vI 1)) h1)))))) ∧ (x4 < 0 → Q (some (vI 0)) h1)))))))))) : cm_call (d + 1) m_Works_isProduct [vR 11 a0, vI x1, vI x2, vI x3, vI x4] h Q := by
  refine cm_call_in (C := cd_Works_isProduct) (ls := [some (vR 11 a0), some (vI x1), some (vI x2), some (vI x3), some (vI x4)]) rfl rfl p_a0 rfl ?_
  refine w_aload rfl rfl ?_
  refine w_iload rfl rfl ?_
  refine w_callI rfl (fun _ => rfl) rfl (cI_mono H fun v2 h1 H => ?_)
  refine w_if rfl (And.intro (fun hc => ?_) (fun hc => ?_))
  · replace H := H.1 hc
    refine w_iconst rfl ⟨by decide, by decide⟩ ?_
    exact w_zreturn rfl (by decide) H
  · replace H := H.2 hc
    refine w_iload rfl rfl ?_
    refine w_if rfl (And.intro (fun hc => ?_) (fun hc => ?_))
    · replace H := H.1 hc
      refine w_iconst rfl ⟨by decide, by decide⟩ ?_
      exact w_zreturn rfl (by decide) H
    · replace H := H.2 hc
      refine w_iload rfl rfl ?_
      refine w_if rfl (And.intro (fun hc => ?_) (fun hc => ?_))
      · replace H := H.1 hc
        refine w_iconst rfl ⟨by decide, by decide⟩ ?_
        exact w_zreturn rfl (by decide) H
      · replace H := H.2 hc
        refine w_iload rfl rfl ?_
        refine w_if rfl (And.intro (fun hc => ?_) (fun hc => ?_))
        · replace H := H.1 hc
          refine w_iload rfl rfl ?_
          refine w_if rfl (And.intro (fun hc => ?_) (fun hc => ?_))
          · replace H := H.1 hc
            refine w_iconst rfl ⟨by decide, by decide⟩ ?_
            refine w_goto rfl ?_
            exact w_zreturn rfl (by decide) H
          · replace H := H.2 hc
            refine w_aload rfl rfl ?_
            refine w_getR 6 9 rfl rfl rfl rfl p_a0 ?_
            have o3 := H.1
            replace H := H.2
            refine w_getI 0 rfl rfl rfl o3 ?_
            refine w_iconst rfl ⟨by decide, by decide⟩ ?_
            refine w_icmp rfl (And.intro (fun hc => ?_) (fun hc => ?_))
            · replace H := H.1 hc
              refine w_iconst rfl ⟨by decide, by decide⟩ ?_
              exact w_zreturn rfl (by decide) H
            · replace H := H.2 hc
              refine w_iconst rfl ⟨by decide, by decide⟩ ?_
              refine w_goto rfl ?_
              exact w_zreturn rfl (by decide) H
        · replace H := H.2 hc
          refine w_iconst rfl ⟨by decide, by decide⟩ ?_
          exact w_zreturn rfl (by decide) H
set_option maxHeartbeats 4000000 in
set_option maxRecDepth 100000 in
theorem r_Works_keepFresh {d : Nat} {Q : cm_Q} {h : cm_H} {a0 : Nat} {x1 : Int} (p_a0 : 0 < a0) (H : (0 < ((ch_R h a0 2)) ∧ ((0:Int) ≤ x1 ∧ x1 < ch_L h (ch_R h a0 2)) ∧ (0 < ((ch_R h a0 6)) ∧ (0 < ((ch_R h a0 3)) ∧ 0 < ((ch_R h (ch_R h a0 2) x1)) ∧ ((0:Int) ≤ 0 ∧ (0:Int) ≤ 0 ∧ (0:Int) ≤ (ch_I h (ch_R h a0 6) 1) ∧ 0 + (ch_I h (ch_R h a0 6) 1) ≤ ch_L h (ch_R h a0 3) ∧ 0 + (ch_I h (ch_R h a0 6) 1) ≤ ch_L h (ch_R h (ch_R h a0 2) x1)) ∧ (∀ h7 : cm_H, h7 = ch_cp h (ch_R h a0 3) 0 (ch_R h (ch_R h a0 2) x1) 0 (ch_I h (ch_R h a0 6) 1) → (cI d m_Shape_termsOf [vR 9 (ch_R h7 a0 6), vR 20 (ch_R h7 a0 3)] h7 fun v9 h8 => Q (some (vI v9)) h8)))))) : cm_call (d + 1) m_Works_keepFresh [vR 11 a0, vI x1] h Q := by
  refine cm_call_in (C := cd_Works_keepFresh) (ls := [some (vR 11 a0), some (vI x1)]) rfl rfl p_a0 rfl ?_
  refine w_aload rfl rfl ?_
  refine w_getR 3 20 rfl rfl rfl rfl p_a0 ?_
  refine w_iconst rfl ⟨by decide, by decide⟩ ?_
  refine w_aload rfl rfl ?_
  refine w_getR 2 23 rfl rfl rfl rfl p_a0 ?_
  refine w_iload rfl rfl ?_
  have o1 := H.1
  replace H := H.2
  have o2 := H.1
  replace H := H.2
  refine w_aaload rfl rfl rfl o1 o2 ?_
  refine w_iconst rfl ⟨by decide, by decide⟩ ?_
  refine w_aload rfl rfl ?_
  refine w_getR 6 9 rfl rfl rfl rfl p_a0 ?_
  have o3 := H.1
  replace H := H.2
  refine w_getI 1 rfl rfl rfl o3 ?_
  have o4 := H.1
  replace H := H.2
  have o5 := H.1
  replace H := H.2
  have o6 := H.1
  replace H := H.2
  refine w_copy rfl rfl o4 o5 o6 (fun h7 eh7 => ?_)
  replace H := H h7 eh7
  refine w_aload rfl rfl ?_
  refine w_getR 6 9 rfl rfl rfl rfl p_a0 ?_
  refine w_aload rfl rfl ?_
  refine w_getR 3 20 rfl rfl rfl rfl p_a0 ?_
  refine w_callI rfl (fun _ => rfl) rfl (cI_mono H fun v9 h8 H => ?_)
  exact w_ireturn rfl H
set_option maxHeartbeats 4000000 in
set_option maxRecDepth 100000 in
theorem r_Works_isMovedToItself_30 {d : Nat} {Q : cm_Q} {h : cm_H} {a0 : Nat} {a1 : Nat} {z2 : Option cm_V} {x3 : Int} (p_a0 : 0 < a0) (p_a1 : 0 < a1) (H : (0 < ((ch_R h a0 6)) ∧ (((ch_I h (ch_R h a0 6) 1) ≤ x3 → Q (some (vI 1)) h) ∧ (x3 < (ch_I h (ch_R h a0 6) 1) → (0 < ((ch_R h a0 3)) ∧ ((0:Int) ≤ x3 ∧ x3 < ch_L h (ch_R h a0 3)) ∧ ((0:Int) ≤ x3 ∧ x3 < ch_L h a1) ∧ (((ch_I h (ch_R h a0 3) x3) = (ch_I h a1 x3) → (cm_i (x3 + 1) ∧ cw d cd_Works_isMovedToItself Q 30 [some (vR 11 a0), some (vR 20 a1), z2, some (vI (x3 + 1))] [] h)) ∧ (¬ (ch_I h (ch_R h a0 3) x3) = (ch_I h a1 x3) → Q (some (vI 0)) h))))))) : cw d cd_Works_isMovedToItself Q 30 [some (vR 11 a0), some (vR 20 a1), z2, some (vI x3)] [] h := by
  refine w_iload rfl rfl ?_
  refine w_aload rfl rfl ?_
  refine w_getR 6 9 rfl rfl rfl rfl p_a0 ?_
  have o1 := H.1
  replace H := H.2
  refine w_getI 1 rfl rfl rfl o1 ?_
  refine w_icmp rfl (And.intro (fun hc => ?_) (fun hc => ?_))
  · replace H := H.1 hc
    refine w_iconst rfl ⟨by decide, by decide⟩ ?_
    exact w_zreturn rfl (by decide) H
  · replace H := H.2 hc
    refine w_aload rfl rfl ?_
    refine w_getR 3 20 rfl rfl rfl rfl p_a0 ?_
    refine w_iload rfl rfl ?_
    have o2 := H.1
    replace H := H.2
    have o3 := H.1
    replace H := H.2
    refine w_iaload rfl o2 o3 ?_
    refine w_aload rfl rfl ?_
    refine w_iload rfl rfl ?_
    have o4 := H.1
    replace H := H.2
    refine w_iaload rfl p_a1 o4 ?_
    refine w_icmp rfl (And.intro (fun hc => ?_) (fun hc => ?_))
    · replace H := H.1 hc
      have o5 := H.1
      replace H := H.2
      refine w_iinc rfl rfl rfl o5 ?_
      refine w_goto rfl ?_
      exact H
    · replace H := H.2 hc
      refine w_iconst rfl ⟨by decide, by decide⟩ ?_
      exact w_zreturn rfl (by decide) H
set_option maxHeartbeats 4000000 in
set_option maxRecDepth 100000 in
theorem r_Works_isMovedToItself {d : Nat} {Q : cm_Q} {h : cm_H} {a0 : Nat} {a1 : Nat} {x2 : Int} (p_a0 : 0 < a0) (H : (cU d m_Arr_fill [vR 20 (ch_R h a0 3), vI 0] h fun h1 => (cU d m_Mover_use [vR 4 (ch_R h1 a0 11), vI x2] h1 fun h2 => (cU d m_Mover_addAllMoved [vR 4 (ch_R h2 a0 11), vR 20 a1, vR 20 (ch_R h2 a0 3)] h2 fun h3 => cw d cd_Works_isMovedToItself Q 30 [some (vR 11 a0), some (vR 20 a1), some (vI x2), some (vI 0)] [] h3)))) : cm_call (d + 1) m_Works_isMovedToItself [vR 11 a0, vR 20 a1, vI x2] h Q := by
  refine cm_call_in (C := cd_Works_isMovedToItself) (ls := [some (vR 11 a0), some (vR 20 a1), some (vI x2), none]) rfl rfl p_a0 rfl ?_
  refine w_aload rfl rfl ?_
  refine w_getR 3 20 rfl rfl rfl rfl p_a0 ?_
  refine w_iconst rfl ⟨by decide, by decide⟩ ?_
  refine w_callU rfl (fun _ => rfl) rfl (cU_mono H fun h1 H => ?_)
  refine w_aload rfl rfl ?_
  refine w_getR 11 4 rfl rfl rfl rfl p_a0 ?_
  refine w_iload rfl rfl ?_
  refine w_callU rfl (fun _ => rfl) rfl (cU_mono H fun h2 H => ?_)
  refine w_aload rfl rfl ?_
  refine w_getR 11 4 rfl rfl rfl rfl p_a0 ?_
  refine w_aload rfl rfl ?_
  refine w_aload rfl rfl ?_
  refine w_getR 3 20 rfl rfl rfl rfl p_a0 ?_
  refine w_callU rfl (fun _ => rfl) rfl (cU_mono H fun h3 H => ?_)
  refine w_iconst rfl ⟨by decide, by decide⟩ ?_
  refine w_istore rfl rfl ?_
  exact H
set_option maxHeartbeats 4000000 in
set_option maxRecDepth 100000 in
theorem r_Works_isLeftAlone_2 {d : Nat} {Q : cm_Q} {h : cm_H} {a0 : Nat} {a1 : Nat} {x2 : Int} (p_a0 : 0 < a0) (H : (0 < ((ch_R h a0 7)) ∧ (((ch_I h (ch_R h a0 7) 1) ≤ x2 → Q (some (vI 1)) h) ∧ (x2 < (ch_I h (ch_R h a0 7) 1) → (0 < ((ch_R h (ch_R h a0 7) 5)) ∧ ((0:Int) ≤ x2 ∧ x2 < ch_L h (ch_R h (ch_R h a0 7) 5)) ∧ (cI d m_Works_isMovedToItself [vR 11 a0, vR 20 a1, vI (ch_I h (ch_R h (ch_R h a0 7) 5) x2)] h fun v5 h4 => ((¬ v5 = 0 → (cm_i (x2 + 1) ∧ cw d cd_Works_isLeftAlone Q 2 [some (vR 11 a0), some (vR 20 a1), some (vI (x2 + 1))] [] h4)) ∧ (v5 = 0 → Q (some (vI 0)) h4)))))))) : cw d cd_Works_isLeftAlone Q 2 [some (vR 11 a0), some (vR 20 a1), some (vI x2)] [] h := by
  refine w_iload rfl rfl ?_
  refine w_aload rfl rfl ?_
  refine w_getR 7 3 rfl rfl rfl rfl p_a0 ?_
  have o1 := H.1
  replace H := H.2
  refine w_getI 1 rfl rfl rfl o1 ?_
  refine w_icmp rfl (And.intro (fun hc => ?_) (fun hc => ?_))
  · replace H := H.1 hc
    refine w_iconst rfl ⟨by decide, by decide⟩ ?_
    exact w_zreturn rfl (by decide) H
  · replace H := H.2 hc
    refine w_aload rfl rfl ?_
    refine w_aload rfl rfl ?_
    refine w_aload rfl rfl ?_
    refine w_getR 7 3 rfl rfl rfl rfl p_a0 ?_
    refine w_getR 5 20 rfl rfl rfl rfl o1 ?_
    refine w_iload rfl rfl ?_
    have o2 := H.1
    replace H := H.2
    have o3 := H.1
    replace H := H.2
    refine w_iaload rfl o2 o3 ?_
    refine w_callI rfl (fun _ => rfl) rfl (cI_mono H fun v5 h4 H => ?_)
    refine w_if rfl (And.intro (fun hc => ?_) (fun hc => ?_))
    · replace H := H.1 hc
      have o6 := H.1
      replace H := H.2
      refine w_iinc rfl rfl rfl o6 ?_
      refine w_goto rfl ?_
      exact H
    · replace H := H.2 hc
      refine w_iconst rfl ⟨by decide, by decide⟩ ?_
      exact w_zreturn rfl (by decide) H
set_option maxHeartbeats 4000000 in
set_option maxRecDepth 100000 in
theorem r_Works_isLeftAlone {d : Nat} {Q : cm_Q} {h : cm_H} {a0 : Nat} {a1 : Nat} (p_a0 : 0 < a0) (H : cw d cd_Works_isLeftAlone Q 2 [some (vR 11 a0), some (vR 20 a1), some (vI 0)] [] h) : cm_call (d + 1) m_Works_isLeftAlone [vR 11 a0, vR 20 a1] h Q := by
  refine cm_call_in (C := cd_Works_isLeftAlone) (ls := [some (vR 11 a0), some (vR 20 a1), none]) rfl rfl p_a0 rfl ?_
  refine w_iconst rfl ⟨by decide, by decide⟩ ?_
  refine w_istore rfl rfl ?_
  exact H
set_option maxHeartbeats 4000000 in
set_option maxRecDepth 100000 in
theorem r_Works_unlikeMoved_4 {d : Nat} {Q : cm_Q} {h : cm_H} {a0 : Nat} {a1 : Nat} {x2 : Int} {x3 : Int} (p_a0 : 0 < a0) (H : (0 < ((ch_R h a0 7)) ∧ (((ch_I h (ch_R h a0 7) 2) ≤ x3 → ((¬ x2 = 0 → (0 < x2 ∧ Q (some (vI (Int.tdiv (ch_I h (ch_R h a0 7) 2) x2))) h)) ∧ (x2 = 0 → Q (some (vI (ch_I h (ch_R h a0 7) 2))) h))) ∧ (x3 < (ch_I h (ch_R h a0 7) 2) → (cI d m_Works_isMovedToItself [vR 11 a0, vR 20 a1, vI x3] h fun v4 h3 => ((v4 = 0 → (cm_i (x3 + 1) ∧ cw d cd_Works_unlikeMoved Q 4 [some (vR 11 a0), some (vR 20 a1), some (vI x2), some (vI (x3 + 1))] [] h3)) ∧ (¬ v4 = 0 → (cm_i (x2 + 1) ∧ (cm_i (x3 + 1) ∧ cw d cd_Works_unlikeMoved Q 4 [some (vR 11 a0), some (vR 20 a1), some (vI (x2 + 1)), some (vI (x3 + 1))] [] h3))))))))) : cw d cd_Works_unlikeMoved Q 4 [some (vR 11 a0), some (vR 20 a1), some (vI x2), some (vI x3)] [] h := by
  refine w_iload rfl rfl ?_
  refine w_aload rfl rfl ?_
  refine w_getR 7 3 rfl rfl rfl rfl p_a0 ?_
  have o1 := H.1
  replace H := H.2
  refine w_getI 2 rfl rfl rfl o1 ?_
  refine w_icmp rfl (And.intro (fun hc => ?_) (fun hc => ?_))
  · replace H := H.1 hc
    refine w_iload rfl rfl ?_
    refine w_if rfl (And.intro (fun hc => ?_) (fun hc => ?_))
    · replace H := H.1 hc
      refine w_aload rfl rfl ?_
      refine w_getR 7 3 rfl rfl rfl rfl p_a0 ?_
      refine w_getI 2 rfl rfl rfl o1 ?_
      refine w_iload rfl rfl ?_
      have o2 := H.1
      replace H := H.2
      refine w_idiv rfl o2 ?_
      exact w_ireturn rfl H
    · replace H := H.2 hc
      refine w_aload rfl rfl ?_
      refine w_getR 7 3 rfl rfl rfl rfl p_a0 ?_
      refine w_getI 2 rfl rfl rfl o1 ?_
      refine w_goto rfl ?_
      exact w_ireturn rfl H
  · replace H := H.2 hc
    refine w_aload rfl rfl ?_
    refine w_aload rfl rfl ?_
    refine w_iload rfl rfl ?_
    refine w_callI rfl (fun _ => rfl) rfl (cI_mono H fun v4 h3 H => ?_)
    refine w_if rfl (And.intro (fun hc => ?_) (fun hc => ?_))
    · replace H := H.1 hc
      have o5 := H.1
      replace H := H.2
      refine w_iinc rfl rfl rfl o5 ?_
      refine w_goto rfl ?_
      exact H
    · replace H := H.2 hc
      have o6 := H.1
      replace H := H.2
      refine w_iinc rfl rfl rfl o6 ?_
      have o7 := H.1
      replace H := H.2
      refine w_iinc rfl rfl rfl o7 ?_
      refine w_goto rfl ?_
      exact H
set_option maxHeartbeats 4000000 in
set_option maxRecDepth 100000 in
theorem r_Works_unlikeMoved {d : Nat} {Q : cm_Q} {h : cm_H} {a0 : Nat} {a1 : Nat} (p_a0 : 0 < a0) (H : cw d cd_Works_unlikeMoved Q 4 [some (vR 11 a0), some (vR 20 a1), some (vI 0), some (vI 0)] [] h) : cm_call (d + 1) m_Works_unlikeMoved [vR 11 a0, vR 20 a1] h Q := by
  refine cm_call_in (C := cd_Works_unlikeMoved) (ls := [some (vR 11 a0), some (vR 20 a1), none, none]) rfl rfl p_a0 rfl ?_
  refine w_iconst rfl ⟨by decide, by decide⟩ ?_
  refine w_istore rfl rfl ?_
  refine w_iconst rfl ⟨by decide, by decide⟩ ?_
  refine w_istore rfl rfl ?_
  exact H
set_option maxHeartbeats 4000000 in
set_option maxRecDepth 100000 in
theorem r_Works_canBeOfSystem {d : Nat} {Q : cm_Q} {h : cm_H} {a0 : Nat} {x1 : Int} (p_a0 : 0 < a0) (H : (0 < ((ch_R h a0 2)) ∧ ((0:Int) ≤ x1 ∧ x1 < ch_L h (ch_R h a0 2)) ∧ (cI d m_Shape_degreeOf [vR 9 (ch_R h a0 6), vR 20 (ch_R h (ch_R h a0 2) x1)] h fun v4 h3 => ((v4 ≤ 0 → Q (some (vI 0)) h3) ∧ (0 < v4 → (cI d m_Shape_isOneDegree [vR 9 (ch_R h3 a0 6), vR 20 (ch_R h (ch_R h a0 2) x1)] h3 fun v6 h5 => ((v6 = 0 → Q (some (vI 0)) h5) ∧ (¬ v6 = 0 → (cI d m_Works_isLeftAlone [vR 11 a0, vR 20 (ch_R h (ch_R h a0 2) x1)] h5 fun v8 h7 => ((v8 = 0 → Q (some (vI 0)) h7) ∧ (¬ v8 = 0 → Q (some (vI 1)) h7))))))))))) : cm_call (d + 1) m_Works_canBeOfSystem [vR 11 a0, vI x1] h Q := by
  refine cm_call_in (C := cd_Works_canBeOfSystem) (ls := [some (vR 11 a0), some (vI x1), none]) rfl rfl p_a0 rfl ?_
  refine w_aload rfl rfl ?_
  refine w_getR 2 23 rfl rfl rfl rfl p_a0 ?_
  refine w_iload rfl rfl ?_
  have o1 := H.1
  replace H := H.2
  have o2 := H.1
  replace H := H.2
  refine w_aaload rfl rfl rfl o1 o2 ?_
  refine w_astore rfl rfl ?_
  refine w_aload rfl rfl ?_
  refine w_getR 6 9 rfl rfl rfl rfl p_a0 ?_
  refine w_aload rfl rfl ?_
  refine w_callI rfl (fun _ => rfl) rfl (cI_mono H fun v4 h3 H => ?_)
  refine w_if rfl (And.intro (fun hc => ?_) (fun hc => ?_))
  · replace H := H.1 hc
    refine w_iconst rfl ⟨by decide, by decide⟩ ?_
    exact w_zreturn rfl (by decide) H
  · replace H := H.2 hc
    refine w_aload rfl rfl ?_
    refine w_getR 6 9 rfl rfl rfl rfl p_a0 ?_
    refine w_aload rfl rfl ?_
    refine w_callI rfl (fun _ => rfl) rfl (cI_mono H fun v6 h5 H => ?_)
    refine w_if rfl (And.intro (fun hc => ?_) (fun hc => ?_))
    · replace H := H.1 hc
      refine w_iconst rfl ⟨by decide, by decide⟩ ?_
      exact w_zreturn rfl (by decide) H
    · replace H := H.2 hc
      refine w_aload rfl rfl ?_
      refine w_aload rfl rfl ?_
      refine w_callI rfl (fun _ => rfl) rfl (cI_mono H fun v8 h7 H => ?_)
      refine w_if rfl (And.intro (fun hc => ?_) (fun hc => ?_))
      · replace H := H.1 hc
        refine w_iconst rfl ⟨by decide, by decide⟩ ?_
        exact w_zreturn rfl (by decide) H
      · replace H := H.2 hc
        refine w_iconst rfl ⟨by decide, by decide⟩ ?_
        refine w_goto rfl ?_
        exact w_zreturn rfl (by decide) H
set_option maxHeartbeats 4000000 in
set_option maxRecDepth 100000 in
theorem r_Works_putForSystem {d : Nat} {Q : cm_Q} {h : cm_H} {a0 : Nat} {x1 : Int} {x2 : Int} (p_a0 : 0 < a0) (H : (0 < ((ch_R h a0 2)) ∧ ((0:Int) ≤ x2 ∧ x2 < ch_L h (ch_R h a0 2)) ∧ (cI d m_Shape_degreeOf [vR 9 (ch_R h a0 6), vR 20 (ch_R h (ch_R h a0 2) x2)] h fun v4 h3 => (0 < ((ch_R h3 a0 14)) ∧ (0 < ((ch_R h3 (ch_R h3 a0 14) 11)) ∧ ((0:Int) ≤ x1 ∧ x1 < ch_L h3 (ch_R h3 (ch_R h3 a0 14) 11)) ∧ (0 < ((ch_R h3 a0 2)) ∧ ((0:Int) ≤ x2 ∧ x2 < ch_L h3 (ch_R h3 a0 2)) ∧ (0 < ((ch_R h3 a0 6)) ∧ (0 < ((ch_R h3 (ch_R h3 a0 6) 3)) ∧ ((0:Int) ≤ v4 ∧ v4 < ch_L h3 (ch_R h3 (ch_R h3 a0 6) 3)) ∧ (cU d m_Piece_put [vR 5 (ch_R h3 (ch_R h3 (ch_R h3 a0 14) 11) x1), vR 20 (ch_R h3 (ch_R h3 a0 2) x2), vI (ch_I h3 (ch_R h3 (ch_R h3 a0 6) 3) v4), vI v4] h3 fun h13 => Q none h13))))))))) : cm_call (d + 1) m_Works_putForSystem [vR 11 a0, vI x1, vI x2] h Q := by
  refine cm_call_in (C := cd_Works_putForSystem) (ls := [some (vR 11 a0), some (vI x1), some (vI x2), none]) rfl rfl p_a0 rfl ?_
  refine w_aload rfl rfl ?_
  refine w_getR 6 9 rfl rfl rfl rfl p_a0 ?_
  refine w_aload rfl rfl ?_
  refine w_getR 2 23 rfl rfl rfl rfl p_a0 ?_
  refine w_iload rfl rfl ?_
  have o1 := H.1
  replace H := H.2
  have o2 := H.1
  replace H := H.2
  refine w_aaload rfl rfl rfl o1 o2 ?_
  refine w_callI rfl (fun _ => rfl) rfl (cI_mono H fun v4 h3 H => ?_)
  refine w_istore rfl rfl ?_
  refine w_aload rfl rfl ?_
  refine w_getR 14 6 rfl rfl rfl rfl p_a0 ?_
  have o5 := H.1
  replace H := H.2
  refine w_getR 11 25 rfl rfl rfl rfl o5 ?_
  refine w_iload rfl rfl ?_
  have o6 := H.1
  replace H := H.2
  have o7 := H.1
  replace H := H.2
  refine w_aaload rfl rfl rfl o6 o7 ?_
  refine w_aload rfl rfl ?_
  refine w_getR 2 23 rfl rfl rfl rfl p_a0 ?_
  refine w_iload rfl rfl ?_
  have o8 := H.1
  replace H := H.2
  have o9 := H.1
  replace H := H.2
  refine w_aaload rfl rfl rfl o8 o9 ?_
  refine w_aload rfl rfl ?_
  refine w_getR 6 9 rfl rfl rfl rfl p_a0 ?_
  have o10 := H.1
  replace H := H.2
  refine w_getR 3 20 rfl rfl rfl rfl o10 ?_
  refine w_iload rfl rfl ?_
  have o11 := H.1
  replace H := H.2
  have o12 := H.1
  replace H := H.2
  refine w_iaload rfl o11 o12 ?_
  refine w_iload rfl rfl ?_
  refine w_callU rfl (fun _ => rfl) rfl (cU_mono H fun h13 H => ?_)
  exact w_return rfl H
set_option maxHeartbeats 4000000 in
set_option maxRecDepth 100000 in
theorem r_Works_findSecondaries {d : Nat} {Q : cm_Q} {h : cm_H} {a0 : Nat} (p_a0 : 0 < a0) (H : (cI d m_Search_find [vR 6 (ch_R h a0 14)] h fun v2 h1 => ((¬ v2 = 0 → (cU d m_Rewriter_extendToAll [vR 8 (ch_R h1 a0 15)] h1 fun h3 => Q (some (vI 1)) h3)) ∧ (v2 = 0 → Q (some (vI 0)) h1)))) : cm_call (d + 1) m_Works_findSecondaries [vR 11 a0] h Q := by
  refine cm_call_in (C := cd_Works_findSecondaries) (ls := [some (vR 11 a0)]) rfl rfl p_a0 rfl ?_
  refine w_aload rfl rfl ?_
  refine w_getR 14 6 rfl rfl rfl rfl p_a0 ?_
  refine w_callI rfl (fun _ => rfl) rfl (cI_mono H fun v2 h1 H => ?_)
  refine w_if rfl (And.intro (fun hc => ?_) (fun hc => ?_))
  · replace H := H.1 hc
    refine w_aload rfl rfl ?_
    refine w_getR 15 8 rfl rfl rfl rfl p_a0 ?_
    refine w_callU rfl (fun _ => rfl) rfl (cU_mono H fun h3 H => ?_)
    refine w_iconst rfl ⟨by decide, by decide⟩ ?_
    exact w_zreturn rfl (by decide) H
  · replace H := H.2 hc
    refine w_iconst rfl ⟨by decide, by decide⟩ ?_
    exact w_zreturn rfl (by decide) H
set_option maxHeartbeats 4000000 in
set_option maxRecDepth 100000 in
theorem r_Works_raise_7 {d : Nat} {Q : cm_Q} {h : cm_H} {z0 : Option cm_V} {z1 : Option cm_V} {x2 : Int} {x3 : Int} {x4 : Int}  (H : ((x4 ≤ 0 → Q (some (vI x2)) h) ∧ (0 < x4 → ((¬ (x4 % (1 + 1)) = 1 → cw d cd_Works_raise Q 28 [z0, z1, some (vI x2), some (vI x3), some (vI x4)] [] h) ∧ ((x4 % (1 + 1)) = 1 → (cm_i (x2 * x3) ∧ cw d cd_Works_raise Q 28 [z0, z1, some (vI (Int.tmod (x2 * x3) 2521)), some (vI x3), some (vI x4)] [] h)))))) : cw d cd_Works_raise Q 7 [z0, z1, some (vI x2), some (vI x3), some (vI x4)] [] h := by
  refine w_iload rfl rfl ?_
  refine w_if rfl (And.intro (fun hc => ?_) (fun hc => ?_))
  · replace H := H.1 hc
    refine w_iload rfl rfl ?_
    exact w_ireturn rfl H
  · replace H := H.2 hc
    refine w_iload rfl rfl ?_
    refine w_iconst rfl ⟨by decide, by decide⟩ ?_
    refine w_iand rfl (by decide) ?_
    refine w_iconst rfl ⟨by decide, by decide⟩ ?_
    refine w_icmp rfl (And.intro (fun hc => ?_) (fun hc => ?_))
    · replace H := H.1 hc
      exact H
    · replace H := H.2 hc
      refine w_iload rfl rfl ?_
      refine w_iload rfl rfl ?_
      have o1 := H.1
      replace H := H.2
      refine w_imul rfl o1 ?_
      refine w_iconst rfl ⟨by decide, by decide⟩ ?_
      refine w_irem rfl (by decide) ?_
      refine w_istore rfl rfl ?_
      exact H
set_option maxHeartbeats 4000000 in
set_option maxRecDepth 100000 in
theorem r_Works_raise_28 {d : Nat} {Q : cm_Q} {h : cm_H} {z0 : Option cm_V} {z1 : Option cm_V} {x2 : Int} {x3 : Int} {x4 : Int}  (H : (cm_i (x3 * x3) ∧ cw d cd_Works_raise Q 7 [z0, z1, some (vI x2), some (vI (Int.tmod (x3 * x3) 2521)), some (vI (x4 / 2 ^ (Int.toNat 1)))] [] h)) : cw d cd_Works_raise Q 28 [z0, z1, some (vI x2), some (vI x3), some (vI x4)] [] h := by
  refine w_iload rfl rfl ?_
  refine w_iload rfl rfl ?_
  have o1 := H.1
  replace H := H.2
  refine w_imul rfl o1 ?_
  refine w_iconst rfl ⟨by decide, by decide⟩ ?_
  refine w_irem rfl (by decide) ?_
  refine w_istore rfl rfl ?_
  refine w_iload rfl rfl ?_
  refine w_iconst rfl ⟨by decide, by decide⟩ ?_
  refine w_ishr rfl (by decide) ?_
  refine w_istore rfl rfl ?_
  refine w_goto rfl ?_
  exact H
set_option maxHeartbeats 4000000 in
set_option maxRecDepth 100000 in
theorem r_Works_raise {d : Nat} {Q : cm_Q} {h : cm_H} {x0 : Int} {x1 : Int}  (H : cw d cd_Works_raise Q 7 [some (vI x0), some (vI x1), some (vI 1), some (vI x0), some (vI x1)] [] h) : cm_call (d + 1) m_Works_raise [vI x0, vI x1] h Q := by
  refine cm_call_in (C := cd_Works_raise) (ls := [some (vI x0), some (vI x1), none, none, none]) rfl rfl trivial rfl ?_
  refine w_iconst rfl ⟨by decide, by decide⟩ ?_
  refine w_istore rfl rfl ?_
  refine w_iload rfl rfl ?_
  refine w_istore rfl rfl ?_
  refine w_iload rfl rfl ?_
  refine w_istore rfl rfl ?_
  exact H
set_option maxHeartbeats 4000000 in
set_option maxRecDepth 100000 in
theorem r_Works_divides {d : Nat} {Q : cm_Q} {h : cm_H} {x0 : Int} {x1 : Int}  (H : ((x0 ≤ 0 → Q (some (vI 0)) h) ∧ (0 < x0 → (0 < x0 ∧ ((¬ (Int.tmod x1 x0) = 0 → Q (some (vI 0)) h) ∧ ((Int.tmod x1 x0) = 0 → Q (some (vI 1)) h)))))) : cm_call (d + 1) m_Works_divides [vI x0, vI x1] h Q := by
  refine cm_call_in (C := cd_Works_divides) (ls := [some (vI x0), some (vI x1)]) rfl rfl trivial rfl ?_
  refine w_iload rfl rfl ?_
  refine w_if rfl (And.intro (fun hc => ?_) (fun hc => ?_))
  · replace H := H.1 hc
    refine w_iconst rfl ⟨by decide, by decide⟩ ?_
    exact w_zreturn rfl (by decide) H
  · replace H := H.2 hc
    refine w_iload rfl rfl ?_
    refine w_iload rfl rfl ?_
    have o1 := H.1
    replace H := H.2
    refine w_irem rfl o1 ?_
    refine w_if rfl (And.intro (fun hc => ?_) (fun hc => ?_))
    · replace H := H.1 hc
      refine w_iconst rfl ⟨by decide, by decide⟩ ?_
      exact w_zreturn rfl (by decide) H
    · replace H := H.2 hc
      refine w_iconst rfl ⟨by decide, by decide⟩ ?_
      refine w_goto rfl ?_
      exact w_zreturn rfl (by decide) H
set_option maxHeartbeats 4000000 in
set_option maxRecDepth 100000 in
theorem r_Works_minor {d : Nat} {Q : cm_Q} {h : cm_H} {x0 : Int} {x1 : Int} {x2 : Int} {x3 : Int}  (H : (cm_i (x0 * x3) ∧ (cm_i (x1 * x2) ∧ (cm_i ((x0 * x3) - (x1 * x2)) ∧ Q (some (vI (((x0 * x3) - (x1 * x2)) % 2521))) h)))) : cm_call (d + 1) m_Works_minor [vI x0, vI x1, vI x2, vI x3] h Q := by
  refine cm_call_in (C := cd_Works_minor) (ls := [some (vI x0), some (vI x1), some (vI x2), some (vI x3)]) rfl rfl trivial rfl ?_
  refine w_iload rfl rfl ?_
  refine w_iload rfl rfl ?_
  have o1 := H.1
  replace H := H.2
  refine w_imul rfl o1 ?_
  refine w_iload rfl rfl ?_
  refine w_iload rfl rfl ?_
  have o2 := H.1
  replace H := H.2
  refine w_imul rfl o2 ?_
  have o3 := H.1
  replace H := H.2
  refine w_isub rfl o3 ?_
  refine w_iconst rfl ⟨by decide, by decide⟩ ?_
  refine w_floorMod rfl rfl (by decide) ?_
  exact w_ireturn rfl H
set_option maxHeartbeats 4000000 in
set_option maxRecDepth 100000 in
theorem r_Works_determinant {d : Nat} {Q : cm_Q} {h : cm_H} {a0 : Nat} {x1 : Int} {x2 : Int} (p_a0 : 0 < a0) (H : ((¬ x2 = 2 → ((0:Int) ≤ x1 ∧ x1 < ch_L h a0) ∧ (cm_i (x1 + 4) ∧ ((0:Int) ≤ (x1 + 4) ∧ (x1 + 4) < ch_L h a0) ∧ (cm_i (x1 + 5) ∧ ((0:Int) ≤ (x1 + 5) ∧ (x1 + 5) < ch_L h a0) ∧ (cm_i (x1 + 7) ∧ ((0:Int) ≤ (x1 + 7) ∧ (x1 + 7) < ch_L h a0) ∧ (cm_i (x1 + 8) ∧ ((0:Int) ≤ (x1 + 8) ∧ (x1 + 8) < ch_L h a0) ∧ (cI d m_Works_minor [vI (ch_I h a0 (x1 + 4)), vI (ch_I h a0 (x1 + 5)), vI (ch_I h a0 (x1 + 7)), vI (ch_I h a0 (x1 + 8))] h fun v11 h10 => (cm_i ((ch_I h a0 x1) * v11) ∧ (cm_i (x1 + 1) ∧ ((0:Int) ≤ (x1 + 1) ∧ (x1 + 1) < ch_L h10 a0) ∧ (cm_i (x1 + 3) ∧ ((0:Int) ≤ (x1 + 3) ∧ (x1 + 3) < ch_L h10 a0) ∧ ((0:Int) ≤ (x1 + 5) ∧ (x1 + 5) < ch_L h10 a0) ∧ (cm_i (x1 + 6) ∧ ((0:Int) ≤ (x1 + 6) ∧ (x1 + 6) < ch_L h10 a0) ∧ ((0:Int) ≤ (x1 + 8) ∧ (x1 + 8) < ch_L h10 a0) ∧ (cI d m_Works_minor [vI (ch_I h10 a0 (x1 + 3)), vI (ch_I h10 a0 (x1 + 5)), vI (ch_I h10 a0 (x1 + 6)), vI (ch_I h10 a0 (x1 + 8))] h10 fun v22 h21 => (cm_i ((ch_I h10 a0 (x1 + 1)) * v22) ∧ (cm_i (x1 + 2) ∧ ((0:Int) ≤ (x1 + 2) ∧ (x1 + 2) < ch_L h21 a0) ∧ ((0:Int) ≤ (x1 + 3) ∧ (x1 + 3) < ch_L h21 a0) ∧ ((0:Int) ≤ (x1 + 4) ∧ (x1 + 4) < ch_L h21 a0) ∧ ((0:Int) ≤ (x1 + 6) ∧ (x1 + 6) < ch_L h21 a0) ∧ ((0:Int) ≤ (x1 + 7) ∧ (x1 + 7) < ch_L h21 a0) ∧ (cI d m_Works_minor [vI (ch_I h21 a0 (x1 + 3)), vI (ch_I h21 a0 (x1 + 4)), vI (ch_I h21 a0 (x1 + 6)), vI (ch_I h21 a0 (x1 + 7))] h21 fun v31 h30 => (cm_i ((ch_I h21 a0 (x1 + 2)) * v31) ∧ (cm_i (((ch_I h a0 x1) * v11) - ((ch_I h10 a0 (x1 + 1)) * v22)) ∧ (cm_i ((((ch_I h a0 x1) * v11) - ((ch_I h10 a0 (x1 + 1)) * v22)) + ((ch_I h21 a0 (x1 + 2)) * v31)) ∧ Q (some (vI (((((ch_I h a0 x1) * v11) - ((ch_I h10 a0 (x1 + 1)) * v22)) + ((ch_I h21 a0 (x1 + 2)) * v31)) % 2521))) h30))))))))))))))))) ∧ (x2 = 2 → ((0:Int) ≤ x1 ∧ x1 < ch_L h a0) ∧ (cm_i (x1 + 1) ∧ ((0:Int) ≤ (x1 + 1) ∧ (x1 + 1) < ch_L h a0) ∧ (cm_i (x1 + 2) ∧ ((0:Int) ≤ (x1 + 2) ∧ (x1 + 2) < ch_L h a0) ∧ (cm_i (x1 + 3) ∧ ((0:Int) ≤ (x1 + 3) ∧ (x1 + 3) < ch_L h a0) ∧ (cI d m_Works_minor [vI (ch_I h a0 x1), vI (ch_I h a0 (x1 + 1)), vI (ch_I h a0 (x1 + 2)), vI (ch_I h a0 (x1 + 3))] h fun v43 h42 => Q (some (vI v43)) h42))))))) : cm_call (d + 1) m_Works_determinant [vR 20 a0, vI x1, vI x2] h Q := by
  refine cm_call_in (C := cd_Works_determinant) (ls := [some (vR 20 a0), some (vI x1), some (vI x2), none, none, none]) rfl rfl trivial rfl ?_
  refine w_iload rfl rfl ?_
  refine w_iconst rfl ⟨by decide, by decide⟩ ?_
  refine w_icmp rfl (And.intro (fun hc => ?_) (fun hc => ?_))
  · replace H := H.1 hc
    refine w_aload rfl rfl ?_
    refine w_iload rfl rfl ?_
    have o1 := H.1
    replace H := H.2
    refine w_iaload rfl p_a0 o1 ?_
    refine w_aload rfl rfl ?_
    refine w_iload rfl rfl ?_
    refine w_iconst rfl ⟨by decide, by decide⟩ ?_
    have o2 := H.1
    replace H := H.2
    refine w_iadd rfl o2 ?_
    have o3 := H.1
    replace H := H.2
    refine w_iaload rfl p_a0 o3 ?_
    refine w_aload rfl rfl ?_
    refine w_iload rfl rfl ?_
    refine w_iconst rfl ⟨by decide, by decide⟩ ?_
    have o4 := H.1
    replace H := H.2
    refine w_iadd rfl o4 ?_
    have o5 := H.1
    replace H := H.2
    refine w_iaload rfl p_a0 o5 ?_
    refine w_aload rfl rfl ?_
    refine w_iload rfl rfl ?_
    refine w_iconst rfl ⟨by decide, by decide⟩ ?_
    have o6 := H.1
    replace H := H.2
    refine w_iadd rfl o6 ?_
    have o7 := H.1
    replace H := H.2
    refine w_iaload rfl p_a0 o7 ?_
    refine w_aload rfl rfl ?_
    refine w_iload rfl rfl ?_
    refine w_iconst rfl ⟨by decide, by decide⟩ ?_
    have o8 := H.1
    replace H := H.2
    refine w_iadd rfl o8 ?_
    have o9 := H.1
    replace H := H.2
    refine w_iaload rfl p_a0 o9 ?_
    refine w_callI rfl (fun _ => rfl) rfl (cI_mono H fun v11 h10 H => ?_)
    have o12 := H.1
    replace H := H.2
    refine w_imul rfl o12 ?_
    refine w_istore rfl rfl ?_
    refine w_aload rfl rfl ?_
    refine w_iload rfl rfl ?_
    refine w_iconst rfl ⟨by decide, by decide⟩ ?_
    have o13 := H.1
    replace H := H.2
    refine w_iadd rfl o13 ?_
    have o14 := H.1
    replace H := H.2
    refine w_iaload rfl p_a0 o14 ?_
    refine w_aload rfl rfl ?_
    refine w_iload rfl rfl ?_
    refine w_iconst rfl ⟨by decide, by decide⟩ ?_
    have o15 := H.1
    replace H := H.2
    refine w_iadd rfl o15 ?_
    have o16 := H.1
    replace H := H.2
    refine w_iaload rfl p_a0 o16 ?_
    refine w_aload rfl rfl ?_
    refine w_iload rfl rfl ?_
    refine w_iconst rfl ⟨by decide, by decide⟩ ?_
    refine w_iadd rfl o4 ?_
    have o17 := H.1
    replace H := H.2
    refine w_iaload rfl p_a0 o17 ?_
    refine w_aload rfl rfl ?_
    refine w_iload rfl rfl ?_
    refine w_iconst rfl ⟨by decide, by decide⟩ ?_
    have o18 := H.1
    replace H := H.2
    refine w_iadd rfl o18 ?_
    have o19 := H.1
    replace H := H.2
    refine w_iaload rfl p_a0 o19 ?_
    refine w_aload rfl rfl ?_
    refine w_iload rfl rfl ?_
    refine w_iconst rfl ⟨by decide, by decide⟩ ?_
    refine w_iadd rfl o8 ?_
    have o20 := H.1
    replace H := H.2
    refine w_iaload rfl p_a0 o20 ?_
    refine w_callI rfl (fun _ => rfl) rfl (cI_mono H fun v22 h21 H => ?_)
    have o23 := H.1
    replace H := H.2
    refine w_imul rfl o23 ?_
    refine w_istore rfl rfl ?_
    refine w_aload rfl rfl ?_
    refine w_iload rfl rfl ?_
    refine w_iconst rfl ⟨by decide, by decide⟩ ?_
    have o24 := H.1
    replace H := H.2
    refine w_iadd rfl o24 ?_
    have o25 := H.1
    replace H := H.2
    refine w_iaload rfl p_a0 o25 ?_
    refine w_aload rfl rfl ?_
    refine w_iload rfl rfl ?_
    refine w_iconst rfl ⟨by decide, by decide⟩ ?_
    refine w_iadd rfl o15 ?_
    have o26 := H.1
    replace H := H.2
    refine w_iaload rfl p_a0 o26 ?_
    refine w_aload rfl rfl ?_
    refine w_iload rfl rfl ?_
    refine w_iconst rfl ⟨by decide, by decide⟩ ?_
    refine w_iadd rfl o2 ?_
    have o27 := H.1
    replace H := H.2
    refine w_iaload rfl p_a0 o27 ?_
    refine w_aload rfl rfl ?_
    refine w_iload rfl rfl ?_
    refine w_iconst rfl ⟨by decide, by decide⟩ ?_
    refine w_iadd rfl o18 ?_
    have o28 := H.1
    replace H := H.2
    refine w_iaload rfl p_a0 o28 ?_
    refine w_aload rfl rfl ?_
    refine w_iload rfl rfl ?_
    refine w_iconst rfl ⟨by decide, by decide⟩ ?_
    refine w_iadd rfl o6 ?_
    have o29 := H.1
    replace H := H.2
    refine w_iaload rfl p_a0 o29 ?_
    refine w_callI rfl (fun _ => rfl) rfl (cI_mono H fun v31 h30 H => ?_)
    have o32 := H.1
    replace H := H.2
    refine w_imul rfl o32 ?_
    refine w_istore rfl rfl ?_
    refine w_iload rfl rfl ?_
    refine w_iload rfl rfl ?_
    have o33 := H.1
    replace H := H.2
    refine w_isub rfl o33 ?_
    refine w_iload rfl rfl ?_
    have o34 := H.1
    replace H := H.2
    refine w_iadd rfl o34 ?_
    refine w_iconst rfl ⟨by decide, by decide⟩ ?_
    refine w_floorMod rfl rfl (by decide) ?_
    exact w_ireturn rfl H
  · replace H := H.2 hc
    refine w_aload rfl rfl ?_
    refine w_iload rfl rfl ?_
    have o35 := H.1
    replace H := H.2
    refine w_iaload rfl p_a0 o35 ?_
    refine w_aload rfl rfl ?_
    refine w_iload rfl rfl ?_
    refine w_iconst rfl ⟨by decide, by decide⟩ ?_
    have o36 := H.1
    replace H := H.2
    refine w_iadd rfl o36 ?_
    have o37 := H.1
    replace H := H.2
    refine w_iaload rfl p_a0 o37 ?_
    refine w_aload rfl rfl ?_
    refine w_iload rfl rfl ?_
    refine w_iconst rfl ⟨by decide, by decide⟩ ?_
    have o38 := H.1
    replace H := H.2
    refine w_iadd rfl o38 ?_
    have o39 := H.1
    replace H := H.2
    refine w_iaload rfl p_a0 o39 ?_
    refine w_aload rfl rfl ?_
    refine w_iload rfl rfl ?_
    refine w_iconst rfl ⟨by decide, by decide⟩ ?_
    have o40 := H.1
    replace H := H.2
    refine w_iadd rfl o40 ?_
    have o41 := H.1
    replace H := H.2
    refine w_iaload rfl p_a0 o41 ?_
    refine w_callI rfl (fun _ => rfl) rfl (cI_mono H fun v43 h42 H => ?_)
    exact w_ireturn rfl H
set_option maxHeartbeats 4000000 in
set_option maxRecDepth 100000 in
theorem r_Works_withRoom {d : Nat} {Q : cm_Q} {h : cm_H} {a0 : Nat} {x1 : Int} {x2 : Int} (p_a0 : 0 < a0) (H : (((ch_L h a0) < x1 → (cm_i (2 * (ch_L h a0)) ∧ ((0:Int) ≤ (max x1 (min x2 (2 * (ch_L h a0)))) ∧ (max x1 (min x2 (2 * (ch_L h a0)))) ≤ 1000000) ∧ (∀ h3 : cm_H, h3 = ch_new h 20 (max x1 (min x2 (2 * (ch_L h a0)))) (Int.toNat (max x1 (min x2 (2 * (ch_L h a0))))) → (0 < ((ch_n h)) ∧ Q (some (vR 20 (ch_n h))) h3)))) ∧ (x1 ≤ (ch_L h a0) → Q (some (vR 20 a0)) h))) : cm_call (d + 1) m_Works_withRoom [vR 20 a0, vI x1, vI x2] h Q := by
  refine cm_call_in (C := cd_Works_withRoom) (ls := [some (vR 20 a0), some (vI x1), some (vI x2)]) rfl rfl trivial rfl ?_
  refine w_aload rfl rfl ?_
  refine w_alen rfl rfl p_a0 ?_
  refine w_iload rfl rfl ?_
  refine w_icmp rfl (And.intro (fun hc => ?_) (fun hc => ?_))
  · replace H := H.1 hc
    refine w_iload rfl rfl ?_
    refine w_iload rfl rfl ?_
    refine w_iconst rfl ⟨by decide, by decide⟩ ?_
    refine w_aload rfl rfl ?_
    refine w_alen rfl rfl p_a0 ?_
    have o1 := H.1
    replace H := H.2
    refine w_imul rfl o1 ?_
    refine w_min rfl rfl ?_
    refine w_max rfl rfl ?_
    have o2 := H.1
    replace H := H.2
    refine w_newI rfl o2 (fun h3 eh3 => ?_)
    replace H := H h3 eh3
    have o4 := H.1
    replace H := H.2
    exact w_areturn rfl o4 H
  · replace H := H.2 hc
    refine w_aload rfl rfl ?_
    exact w_areturn rfl p_a0 H
