/-! RULES: what must hold at an entry or a cut place (printed by wip/whole/genrules.py) -/
set_option maxHeartbeats 4000000 in
set_option maxRecDepth 100000 in
theorem r_Reader_init {d : Nat} {Q : cm_Q} {h : cm_H} {a0 : Nat} {a1 : Nat} (p_a0 : 0 < a0) (H : (∀ h1 : cm_H, h1 = ch_new h 20 4 (Int.toNat 4) → (∀ h2 : cm_H, h2 = ch_r h1 a0 1 (ch_n h) → (∀ h3 : cm_H, h3 = ch_r h2 a0 0 a1 → Q none h3)))) : cm_call (d + 1) m_Reader_init [vR 7 a0, vR 21 a1] h Q := by
  refine cm_call_in (C := cd_Reader_init) (ls := [some (vR 7 a0), some (vR 21 a1)]) rfl rfl p_a0 rfl ?_
  refine w_aload rfl rfl ?_
  refine w_objInit rfl rfl p_a0 ?_
  refine w_aload rfl rfl ?_
  refine w_iconst rfl ⟨by decide, by decide⟩ ?_
  refine w_newI rfl (by decide) (fun h1 eh1 => ?_)
  replace H := H h1 eh1
  refine w_putR 1 rfl rfl rfl rfl p_a0 (fun h2 eh2 => ?_)
  replace H := H h2 eh2
  refine w_aload rfl rfl ?_
  refine w_aload rfl rfl ?_
  refine w_putR 0 rfl rfl rfl rfl p_a0 (fun h3 eh3 => ?_)
  replace H := H h3 eh3
  exact w_return rfl H
set_option maxHeartbeats 4000000 in
set_option maxRecDepth 100000 in
theorem r_Reader_open {d : Nat} {Q : cm_Q} {h : cm_H} {a0 : Nat} {x1 : Int} (p_a0 : 0 < a0) (H : (∀ h1 : cm_H, h1 = ch_u h a0 2 x1 → (∀ h2 : cm_H, h2 = ch_u h1 a0 3 0 → (∀ h3 : cm_H, h3 = ch_u h2 a0 8 0 → (cU d m_Reader_advance [vR 7 a0] h3 fun h4 => Q none h4))))) : cm_call (d + 1) m_Reader_open [vR 7 a0, vI x1] h Q := by
  refine cm_call_in (C := cd_Reader_open) (ls := [some (vR 7 a0), some (vI x1)]) rfl rfl p_a0 rfl ?_
  refine w_aload rfl rfl ?_
  refine w_iload rfl rfl ?_
  refine w_putI 2 rfl rfl rfl p_a0 (fun h1 eh1 => ?_)
  replace H := H h1 eh1
  refine w_aload rfl rfl ?_
  refine w_iconst rfl ⟨by decide, by decide⟩ ?_
  refine w_putI 3 rfl rfl rfl p_a0 (fun h2 eh2 => ?_)
  replace H := H h2 eh2
  refine w_aload rfl rfl ?_
  refine w_iconst rfl ⟨by decide, by decide⟩ ?_
  refine w_putI 8 rfl rfl rfl p_a0 (fun h3 eh3 => ?_)
  replace H := H h3 eh3
  refine w_aload rfl rfl ?_
  refine w_callU rfl (fun _ => rfl) rfl (cU_mono H fun h4 H => ?_)
  exact w_return rfl H
set_option maxHeartbeats 4000000 in
set_option maxRecDepth 100000 in
theorem r_Reader_advance_0 {d : Nat} {Q : cm_Q} {h : cm_H} {a0 : Nat} (p_a0 : 0 < a0) (H : (((ch_I h a0 2) ≤ (ch_I h a0 3) → cw d cd_Reader_advance Q 52 [some (vR 7 a0)] [] h) ∧ ((ch_I h a0 3) < (ch_I h a0 2) → (0 < ((ch_R h a0 0)) ∧ ((0:Int) ≤ (ch_I h a0 3) ∧ (ch_I h a0 3) < ch_L h (ch_R h a0 0)) ∧ (((ch_I h (ch_R h a0 0) (ch_I h a0 3)) = 32 → (cm_i ((ch_I h a0 3) + 1) ∧ (∀ h4 : cm_H, h4 = ch_u h a0 3 ((ch_I h a0 3) + 1) → cw d cd_Reader_advance Q 0 [some (vR 7 a0)] [] h4))) ∧ (¬ (ch_I h (ch_R h a0 0) (ch_I h a0 3)) = 32 → ((¬ (ch_I h (ch_R h a0 0) (ch_I h a0 3)) = 10 → cw d cd_Reader_advance Q 52 [some (vR 7 a0)] [] h) ∧ ((ch_I h (ch_R h a0 0) (ch_I h a0 3)) = 10 → (cm_i ((ch_I h a0 3) + 1) ∧ (∀ h6 : cm_H, h6 = ch_u h a0 3 ((ch_I h a0 3) + 1) → cw d cd_Reader_advance Q 0 [some (vR 7 a0)] [] h6)))))))))) : cw d cd_Reader_advance Q 0 [some (vR 7 a0)] [] h := by
  refine w_aload rfl rfl ?_
  refine w_getI 3 rfl rfl rfl p_a0 ?_
  refine w_aload rfl rfl ?_
  refine w_getI 2 rfl rfl rfl p_a0 ?_
  refine w_icmp rfl (And.intro (fun hc => ?_) (fun hc => ?_))
  · replace H := H.1 hc
    exact H
  · replace H := H.2 hc
    refine w_aload rfl rfl ?_
    refine w_getR 0 21 rfl rfl rfl rfl p_a0 ?_
    refine w_aload rfl rfl ?_
    refine w_getI 3 rfl rfl rfl p_a0 ?_
    have o1 := H.1
    replace H := H.2
    have o2 := H.1
    replace H := H.2
    refine w_baload rfl rfl o1 o2 ?_
    refine w_iconst rfl ⟨by decide, by decide⟩ ?_
    refine w_icmp rfl (And.intro (fun hc => ?_) (fun hc => ?_))
    · replace H := H.1 hc
      refine w_aload rfl rfl ?_
      refine w_dup rfl rfl ?_
      refine w_getI 3 rfl rfl rfl p_a0 ?_
      refine w_iconst rfl ⟨by decide, by decide⟩ ?_
      have o3 := H.1
      replace H := H.2
      refine w_iadd rfl o3 ?_
      refine w_putI 3 rfl rfl rfl p_a0 (fun h4 eh4 => ?_)
      replace H := H h4 eh4
      refine w_goto rfl ?_
      exact H
    · replace H := H.2 hc
      refine w_aload rfl rfl ?_
      refine w_getR 0 21 rfl rfl rfl rfl p_a0 ?_
      refine w_aload rfl rfl ?_
      refine w_getI 3 rfl rfl rfl p_a0 ?_
      refine w_baload rfl rfl o1 o2 ?_
      refine w_iconst rfl ⟨by decide, by decide⟩ ?_
      refine w_icmp rfl (And.intro (fun hc => ?_) (fun hc => ?_))
      · replace H := H.1 hc
        exact H
      · replace H := H.2 hc
        refine w_aload rfl rfl ?_
        refine w_dup rfl rfl ?_
        refine w_getI 3 rfl rfl rfl p_a0 ?_
        refine w_iconst rfl ⟨by decide, by decide⟩ ?_
        have o5 := H.1
        replace H := H.2
        refine w_iadd rfl o5 ?_
        refine w_putI 3 rfl rfl rfl p_a0 (fun h6 eh6 => ?_)
        replace H := H h6 eh6
        refine w_goto rfl ?_
        exact H
set_option maxHeartbeats 4000000 in
set_option maxRecDepth 100000 in
theorem r_Reader_advance_52 {d : Nat} {Q : cm_Q} {h : cm_H} {a0 : Nat} (p_a0 : 0 < a0) (H : (∀ h1 : cm_H, h1 = ch_u h a0 4 (ch_I h a0 3) → (((ch_I h1 a0 3) < (ch_I h1 a0 2) → (0 < ((ch_R h1 a0 0)) ∧ ((0:Int) ≤ (ch_I h1 a0 3) ∧ (ch_I h1 a0 3) < ch_L h1 (ch_R h1 a0 0)) ∧ (cI d m_Reader_isDigit [vI (ch_I h1 (ch_R h1 a0 0) (ch_I h1 a0 3))] h1 fun v5 h4 => ((v5 = 0 → (0 < ((ch_R h4 a0 0)) ∧ ((0:Int) ≤ (ch_I h4 a0 3) ∧ (ch_I h4 a0 3) < ch_L h4 (ch_R h4 a0 0)) ∧ (cI d m_Reader_isSign [vI (ch_I h4 (ch_R h4 a0 0) (ch_I h4 a0 3))] h4 fun v9 h8 => ((v9 = 0 → (∀ h10 : cm_H, h10 = ch_u h8 a0 5 1 → (cm_i ((ch_I h10 a0 3) + 1) ∧ (∀ h12 : cm_H, h12 = ch_u h10 a0 3 ((ch_I h10 a0 3) + 1) → Q none h12)))) ∧ (¬ v9 = 0 → (0 < ((ch_R h8 a0 0)) ∧ ((0:Int) ≤ (ch_I h8 a0 3) ∧ (ch_I h8 a0 3) < ch_L h8 (ch_R h8 a0 0)) ∧ (∀ h15 : cm_H, h15 = ch_u h8 a0 5 (ch_I h8 (ch_R h8 a0 0) (ch_I h8 a0 3)) → (cm_i ((ch_I h15 a0 3) + 1) ∧ (∀ h17 : cm_H, h17 = ch_u h15 a0 3 ((ch_I h15 a0 3) + 1) → Q none h17))))))))) ∧ (¬ v5 = 0 → (cU d m_Reader_takeDigits [vR 7 a0] h4 fun h18 => Q none h18)))))) ∧ ((ch_I h1 a0 2) ≤ (ch_I h1 a0 3) → (∀ h19 : cm_H, h19 = ch_u h1 a0 5 0 → Q none h19))))) : cw d cd_Reader_advance Q 52 [some (vR 7 a0)] [] h := by
  refine w_aload rfl rfl ?_
  refine w_aload rfl rfl ?_
  refine w_getI 3 rfl rfl rfl p_a0 ?_
  refine w_putI 4 rfl rfl rfl p_a0 (fun h1 eh1 => ?_)
  replace H := H h1 eh1
  refine w_aload rfl rfl ?_
  refine w_getI 3 rfl rfl rfl p_a0 ?_
  refine w_aload rfl rfl ?_
  refine w_getI 2 rfl rfl rfl p_a0 ?_
  refine w_icmp rfl (And.intro (fun hc => ?_) (fun hc => ?_))
  · replace H := H.1 hc
    refine w_aload rfl rfl ?_
    refine w_getR 0 21 rfl rfl rfl rfl p_a0 ?_
    refine w_aload rfl rfl ?_
    refine w_getI 3 rfl rfl rfl p_a0 ?_
    have o2 := H.1
    replace H := H.2
    have o3 := H.1
    replace H := H.2
    refine w_baload rfl rfl o2 o3 ?_
    refine w_callI rfl (fun _ => rfl) rfl (cI_mono H fun v5 h4 H => ?_)
    refine w_if rfl (And.intro (fun hc => ?_) (fun hc => ?_))
    · replace H := H.1 hc
      refine w_aload rfl rfl ?_
      refine w_aload rfl rfl ?_
      refine w_getR 0 21 rfl rfl rfl rfl p_a0 ?_
      refine w_aload rfl rfl ?_
      refine w_getI 3 rfl rfl rfl p_a0 ?_
      have o6 := H.1
      replace H := H.2
      have o7 := H.1
      replace H := H.2
      refine w_baload rfl rfl o6 o7 ?_
      refine w_callI rfl (fun _ => rfl) rfl (cI_mono H fun v9 h8 H => ?_)
      refine w_if rfl (And.intro (fun hc => ?_) (fun hc => ?_))
      · replace H := H.1 hc
        refine w_iconst rfl ⟨by decide, by decide⟩ ?_
        refine w_putI 5 rfl rfl rfl p_a0 (fun h10 eh10 => ?_)
        replace H := H h10 eh10
        refine w_aload rfl rfl ?_
        refine w_dup rfl rfl ?_
        refine w_getI 3 rfl rfl rfl p_a0 ?_
        refine w_iconst rfl ⟨by decide, by decide⟩ ?_
        have o11 := H.1
        replace H := H.2
        refine w_iadd rfl o11 ?_
        refine w_putI 3 rfl rfl rfl p_a0 (fun h12 eh12 => ?_)
        replace H := H h12 eh12
        exact w_return rfl H
      · replace H := H.2 hc
        refine w_aload rfl rfl ?_
        refine w_getR 0 21 rfl rfl rfl rfl p_a0 ?_
        refine w_aload rfl rfl ?_
        refine w_getI 3 rfl rfl rfl p_a0 ?_
        have o13 := H.1
        replace H := H.2
        have o14 := H.1
        replace H := H.2
        refine w_baload rfl rfl o13 o14 ?_
        refine w_goto rfl ?_
        refine w_putI 5 rfl rfl rfl p_a0 (fun h15 eh15 => ?_)
        replace H := H h15 eh15
        refine w_aload rfl rfl ?_
        refine w_dup rfl rfl ?_
        refine w_getI 3 rfl rfl rfl p_a0 ?_
        refine w_iconst rfl ⟨by decide, by decide⟩ ?_
        have o16 := H.1
        replace H := H.2
        refine w_iadd rfl o16 ?_
        refine w_putI 3 rfl rfl rfl p_a0 (fun h17 eh17 => ?_)
        replace H := H h17 eh17
        exact w_return rfl H
    · replace H := H.2 hc
      refine w_aload rfl rfl ?_
      refine w_callU rfl (fun _ => rfl) rfl (cU_mono H fun h18 H => ?_)
      refine w_goto rfl ?_
      exact w_return rfl H
  · replace H := H.2 hc
    refine w_aload rfl rfl ?_
    refine w_iconst rfl ⟨by decide, by decide⟩ ?_
    refine w_putI 5 rfl rfl rfl p_a0 (fun h19 eh19 => ?_)
    replace H := H h19 eh19
    refine w_goto rfl ?_
    exact w_return rfl H
set_option maxHeartbeats 4000000 in
set_option maxRecDepth 100000 in
theorem r_Reader_advance {d : Nat} {Q : cm_Q} {h : cm_H} {a0 : Nat} (p_a0 : 0 < a0) (H : cw d cd_Reader_advance Q 0 [some (vR 7 a0)] [] h) : cm_call (d + 1) m_Reader_advance [vR 7 a0] h Q := by
  refine cm_call_in (C := cd_Reader_advance) (ls := [some (vR 7 a0)]) rfl rfl p_a0 rfl ?_
  exact H
set_option maxHeartbeats 4000000 in
set_option maxRecDepth 100000 in
theorem r_Reader_refuse {d : Nat} {Q : cm_Q} {h : cm_H} {a0 : Nat} {x1 : Int} (p_a0 : 0 < a0) (H : ((¬ (ch_I h a0 8) = 0 → Q (some (vI 0)) h) ∧ ((ch_I h a0 8) = 0 → (cm_i (8 * (ch_I h a0 4)) ∧ (cm_i ((8 * (ch_I h a0 4)) + x1) ∧ (∀ h3 : cm_H, h3 = ch_u h a0 8 ((8 * (ch_I h a0 4)) + x1) → Q (some (vI 0)) h3)))))) : cm_call (d + 1) m_Reader_refuse [vR 7 a0, vI x1] h Q := by
  refine cm_call_in (C := cd_Reader_refuse) (ls := [some (vR 7 a0), some (vI x1)]) rfl rfl p_a0 rfl ?_
  refine w_aload rfl rfl ?_
  refine w_getI 8 rfl rfl rfl p_a0 ?_
  refine w_if rfl (And.intro (fun hc => ?_) (fun hc => ?_))
  · replace H := H.1 hc
    refine w_iconst rfl ⟨by decide, by decide⟩ ?_
    exact w_zreturn rfl (by decide) H
  · replace H := H.2 hc
    refine w_aload rfl rfl ?_
    refine w_iconst rfl ⟨by decide, by decide⟩ ?_
    refine w_aload rfl rfl ?_
    refine w_getI 4 rfl rfl rfl p_a0 ?_
    have o1 := H.1
    replace H := H.2
    refine w_imul rfl o1 ?_
    refine w_iload rfl rfl ?_
    have o2 := H.1
    replace H := H.2
    refine w_iadd rfl o2 ?_
    refine w_putI 8 rfl rfl rfl p_a0 (fun h3 eh3 => ?_)
    replace H := H h3 eh3
    refine w_iconst rfl ⟨by decide, by decide⟩ ?_
    exact w_zreturn rfl (by decide) H
set_option maxHeartbeats 4000000 in
set_option maxRecDepth 100000 in
theorem r_Reader_takeDigits_15 {d : Nat} {Q : cm_Q} {h : cm_H} {a0 : Nat} (p_a0 : 0 < a0) (H : (((ch_I h a0 2) ≤ (ch_I h a0 3) → Q none h) ∧ ((ch_I h a0 3) < (ch_I h a0 2) → (0 < ((ch_R h a0 0)) ∧ ((0:Int) ≤ (ch_I h a0 3) ∧ (ch_I h a0 3) < ch_L h (ch_R h a0 0)) ∧ (cI d m_Reader_isDigit [vI (ch_I h (ch_R h a0 0) (ch_I h a0 3))] h fun v4 h3 => ((v4 = 0 → Q none h3) ∧ (¬ v4 = 0 → ((4 ≤ (ch_I h3 a0 7) → cw d cd_Reader_takeDigits Q 73 [some (vR 7 a0)] [] h3) ∧ ((ch_I h3 a0 7) < 4 → (cm_i (10 * (ch_I h3 a0 6)) ∧ (0 < ((ch_R h3 a0 0)) ∧ ((0:Int) ≤ (ch_I h3 a0 3) ∧ (ch_I h3 a0 3) < ch_L h3 (ch_R h3 a0 0)) ∧ (cm_i ((10 * (ch_I h3 a0 6)) + (ch_I h3 (ch_R h3 a0 0) (ch_I h3 a0 3))) ∧ (cm_i (((10 * (ch_I h3 a0 6)) + (ch_I h3 (ch_R h3 a0 0) (ch_I h3 a0 3))) - 48) ∧ (∀ h10 : cm_H, h10 = ch_u h3 a0 6 (((10 * (ch_I h3 a0 6)) + (ch_I h3 (ch_R h3 a0 0) (ch_I h3 a0 3))) - 48) → cw d cd_Reader_takeDigits Q 73 [some (vR 7 a0)] [] h10)))))))))))))) : cw d cd_Reader_takeDigits Q 15 [some (vR 7 a0)] [] h := by
  refine w_aload rfl rfl ?_
  refine w_getI 3 rfl rfl rfl p_a0 ?_
  refine w_aload rfl rfl ?_
  refine w_getI 2 rfl rfl rfl p_a0 ?_
  refine w_icmp rfl (And.intro (fun hc => ?_) (fun hc => ?_))
  · replace H := H.1 hc
    exact w_return rfl H
  · replace H := H.2 hc
    refine w_aload rfl rfl ?_
    refine w_getR 0 21 rfl rfl rfl rfl p_a0 ?_
    refine w_aload rfl rfl ?_
    refine w_getI 3 rfl rfl rfl p_a0 ?_
    have o1 := H.1
    replace H := H.2
    have o2 := H.1
    replace H := H.2
    refine w_baload rfl rfl o1 o2 ?_
    refine w_callI rfl (fun _ => rfl) rfl (cI_mono H fun v4 h3 H => ?_)
    refine w_if rfl (And.intro (fun hc => ?_) (fun hc => ?_))
    · replace H := H.1 hc
      exact w_return rfl H
    · replace H := H.2 hc
      refine w_aload rfl rfl ?_
      refine w_getI 7 rfl rfl rfl p_a0 ?_
      refine w_iconst rfl ⟨by decide, by decide⟩ ?_
      refine w_icmp rfl (And.intro (fun hc => ?_) (fun hc => ?_))
      · replace H := H.1 hc
        exact H
      · replace H := H.2 hc
        refine w_aload rfl rfl ?_
        refine w_iconst rfl ⟨by decide, by decide⟩ ?_
        refine w_aload rfl rfl ?_
        refine w_getI 6 rfl rfl rfl p_a0 ?_
        have o5 := H.1
        replace H := H.2
        refine w_imul rfl o5 ?_
        refine w_aload rfl rfl ?_
        refine w_getR 0 21 rfl rfl rfl rfl p_a0 ?_
        refine w_aload rfl rfl ?_
        refine w_getI 3 rfl rfl rfl p_a0 ?_
        have o6 := H.1
        replace H := H.2
        have o7 := H.1
        replace H := H.2
        refine w_baload rfl rfl o6 o7 ?_
        have o8 := H.1
        replace H := H.2
        refine w_iadd rfl o8 ?_
        refine w_iconst rfl ⟨by decide, by decide⟩ ?_
        have o9 := H.1
        replace H := H.2
        refine w_isub rfl o9 ?_
        refine w_putI 6 rfl rfl rfl p_a0 (fun h10 eh10 => ?_)
        replace H := H h10 eh10
        exact H
set_option maxHeartbeats 4000000 in
set_option maxRecDepth 100000 in
theorem r_Reader_takeDigits_73 {d : Nat} {Q : cm_Q} {h : cm_H} {a0 : Nat} (p_a0 : 0 < a0) (H : (cm_i ((ch_I h a0 7) + 1) ∧ (∀ h2 : cm_H, h2 = ch_u h a0 7 ((ch_I h a0 7) + 1) → (cm_i ((ch_I h2 a0 3) + 1) ∧ (∀ h4 : cm_H, h4 = ch_u h2 a0 3 ((ch_I h2 a0 3) + 1) → cw d cd_Reader_takeDigits Q 15 [some (vR 7 a0)] [] h4))))) : cw d cd_Reader_takeDigits Q 73 [some (vR 7 a0)] [] h := by
  refine w_aload rfl rfl ?_
  refine w_dup rfl rfl ?_
  refine w_getI 7 rfl rfl rfl p_a0 ?_
  refine w_iconst rfl ⟨by decide, by decide⟩ ?_
  have o1 := H.1
  replace H := H.2
  refine w_iadd rfl o1 ?_
  refine w_putI 7 rfl rfl rfl p_a0 (fun h2 eh2 => ?_)
  replace H := H h2 eh2
  refine w_aload rfl rfl ?_
  refine w_dup rfl rfl ?_
  refine w_getI 3 rfl rfl rfl p_a0 ?_
  refine w_iconst rfl ⟨by decide, by decide⟩ ?_
  have o3 := H.1
  replace H := H.2
  refine w_iadd rfl o3 ?_
  refine w_putI 3 rfl rfl rfl p_a0 (fun h4 eh4 => ?_)
  replace H := H h4 eh4
  refine w_goto rfl ?_
  exact H
set_option maxHeartbeats 4000000 in
set_option maxRecDepth 100000 in
theorem r_Reader_takeDigits {d : Nat} {Q : cm_Q} {h : cm_H} {a0 : Nat} (p_a0 : 0 < a0) (H : (∀ h1 : cm_H, h1 = ch_u h a0 5 2 → (∀ h2 : cm_H, h2 = ch_u h1 a0 6 0 → (∀ h3 : cm_H, h3 = ch_u h2 a0 7 0 → cw d cd_Reader_takeDigits Q 15 [some (vR 7 a0)] [] h3)))) : cm_call (d + 1) m_Reader_takeDigits [vR 7 a0] h Q := by
  refine cm_call_in (C := cd_Reader_takeDigits) (ls := [some (vR 7 a0)]) rfl rfl p_a0 rfl ?_
  refine w_aload rfl rfl ?_
  refine w_iconst rfl ⟨by decide, by decide⟩ ?_
  refine w_putI 5 rfl rfl rfl p_a0 (fun h1 eh1 => ?_)
  replace H := H h1 eh1
  refine w_aload rfl rfl ?_
  refine w_iconst rfl ⟨by decide, by decide⟩ ?_
  refine w_putI 6 rfl rfl rfl p_a0 (fun h2 eh2 => ?_)
  replace H := H h2 eh2
  refine w_aload rfl rfl ?_
  refine w_iconst rfl ⟨by decide, by decide⟩ ?_
  refine w_putI 7 rfl rfl rfl p_a0 (fun h3 eh3 => ?_)
  replace H := H h3 eh3
  exact H
set_option maxHeartbeats 4000000 in
set_option maxRecDepth 100000 in
theorem r_Reader_isDigit {d : Nat} {Q : cm_Q} {h : cm_H} {x0 : Int}  (H : ((x0 < 48 → Q (some (vI 0)) h) ∧ (48 ≤ x0 → ((57 < x0 → Q (some (vI 0)) h) ∧ (x0 ≤ 57 → Q (some (vI 1)) h))))) : cm_call (d + 1) m_Reader_isDigit [vI x0] h Q := by
  refine cm_call_in (C := cd_Reader_isDigit) (ls := [some (vI x0)]) rfl rfl trivial rfl ?_
  refine w_iload rfl rfl ?_
  refine w_iconst rfl ⟨by decide, by decide⟩ ?_
  refine w_icmp rfl (And.intro (fun hc => ?_) (fun hc => ?_))
  · replace H := H.1 hc
    refine w_iconst rfl ⟨by decide, by decide⟩ ?_
    exact w_zreturn rfl (by decide) H
  · replace H := H.2 hc
    refine w_iload rfl rfl ?_
    refine w_iconst rfl ⟨by decide, by decide⟩ ?_
    refine w_icmp rfl (And.intro (fun hc => ?_) (fun hc => ?_))
    · replace H := H.1 hc
      refine w_iconst rfl ⟨by decide, by decide⟩ ?_
      exact w_zreturn rfl (by decide) H
    · replace H := H.2 hc
      refine w_iconst rfl ⟨by decide, by decide⟩ ?_
      refine w_goto rfl ?_
      exact w_zreturn rfl (by decide) H
set_option maxHeartbeats 4000000 in
set_option maxRecDepth 100000 in
theorem r_Reader_isSign {d : Nat} {Q : cm_Q} {h : cm_H} {x0 : Int}  (H : ((x0 = 40 → Q (some (vI 1)) h) ∧ (¬ x0 = 40 → ((x0 = 41 → Q (some (vI 1)) h) ∧ (¬ x0 = 41 → ((x0 = 42 → Q (some (vI 1)) h) ∧ (¬ x0 = 42 → ((x0 = 43 → Q (some (vI 1)) h) ∧ (¬ x0 = 43 → ((x0 = 45 → Q (some (vI 1)) h) ∧ (¬ x0 = 45 → ((x0 = 47 → Q (some (vI 1)) h) ∧ (¬ x0 = 47 → ((x0 = 59 → Q (some (vI 1)) h) ∧ (¬ x0 = 59 → ((x0 = 94 → Q (some (vI 1)) h) ∧ (¬ x0 = 94 → ((x0 = 120 → Q (some (vI 1)) h) ∧ (¬ x0 = 120 → ((x0 = 121 → Q (some (vI 1)) h) ∧ (¬ x0 = 121 → ((x0 = 122 → Q (some (vI 1)) h) ∧ (¬ x0 = 122 → Q (some (vI 0)) h))))))))))))))))))))))) : cm_call (d + 1) m_Reader_isSign [vI x0] h Q := by
  refine cm_call_in (C := cd_Reader_isSign) (ls := [some (vI x0)]) rfl rfl trivial rfl ?_
  refine w_iload rfl rfl ?_
  refine w_switch rfl ?_
  refine And.intro (fun hc => ?_) (fun hc => ?_)
  · replace H := H.1 hc
    show cw _ _ _ 100 _ _ _
    refine w_iconst rfl ⟨by decide, by decide⟩ ?_
    exact w_zreturn rfl (by decide) H
  · replace H := H.2 hc
    refine And.intro (fun hc => ?_) (fun hc => ?_)
    · replace H := H.1 hc
      show cw _ _ _ 100 _ _ _
      refine w_iconst rfl ⟨by decide, by decide⟩ ?_
      exact w_zreturn rfl (by decide) H
    · replace H := H.2 hc
      refine And.intro (fun hc => ?_) (fun hc => ?_)
      · replace H := H.1 hc
        show cw _ _ _ 100 _ _ _
        refine w_iconst rfl ⟨by decide, by decide⟩ ?_
        exact w_zreturn rfl (by decide) H
      · replace H := H.2 hc
        refine And.intro (fun hc => ?_) (fun hc => ?_)
        · replace H := H.1 hc
          show cw _ _ _ 100 _ _ _
          refine w_iconst rfl ⟨by decide, by decide⟩ ?_
          exact w_zreturn rfl (by decide) H
        · replace H := H.2 hc
          refine And.intro (fun hc => ?_) (fun hc => ?_)
          · replace H := H.1 hc
            show cw _ _ _ 100 _ _ _
            refine w_iconst rfl ⟨by decide, by decide⟩ ?_
            exact w_zreturn rfl (by decide) H
          · replace H := H.2 hc
            refine And.intro (fun hc => ?_) (fun hc => ?_)
            · replace H := H.1 hc
              show cw _ _ _ 100 _ _ _
              refine w_iconst rfl ⟨by decide, by decide⟩ ?_
              exact w_zreturn rfl (by decide) H
            · replace H := H.2 hc
              refine And.intro (fun hc => ?_) (fun hc => ?_)
              · replace H := H.1 hc
                show cw _ _ _ 100 _ _ _
                refine w_iconst rfl ⟨by decide, by decide⟩ ?_
                exact w_zreturn rfl (by decide) H
              · replace H := H.2 hc
                refine And.intro (fun hc => ?_) (fun hc => ?_)
                · replace H := H.1 hc
                  show cw _ _ _ 100 _ _ _
                  refine w_iconst rfl ⟨by decide, by decide⟩ ?_
                  exact w_zreturn rfl (by decide) H
                · replace H := H.2 hc
                  refine And.intro (fun hc => ?_) (fun hc => ?_)
                  · replace H := H.1 hc
                    show cw _ _ _ 100 _ _ _
                    refine w_iconst rfl ⟨by decide, by decide⟩ ?_
                    exact w_zreturn rfl (by decide) H
                  · replace H := H.2 hc
                    refine And.intro (fun hc => ?_) (fun hc => ?_)
                    · replace H := H.1 hc
                      show cw _ _ _ 100 _ _ _
                      refine w_iconst rfl ⟨by decide, by decide⟩ ?_
                      exact w_zreturn rfl (by decide) H
                    · replace H := H.2 hc
                      refine And.intro (fun hc => ?_) (fun hc => ?_)
                      · replace H := H.1 hc
                        show cw _ _ _ 100 _ _ _
                        refine w_iconst rfl ⟨by decide, by decide⟩ ?_
                        exact w_zreturn rfl (by decide) H
                      · replace H := H.2 hc
                        show cw _ _ _ 102 _ _ _
                        refine w_iconst rfl ⟨by decide, by decide⟩ ?_
                        exact w_zreturn rfl (by decide) H
set_option maxHeartbeats 4000000 in
set_option maxRecDepth 100000 in
theorem r_Reader_readTables_7 {d : Nat} {Q : cm_Q} {h : cm_H} {a0 : Nat} {a1 : Nat} {x2 : Int} (p_a0 : 0 < a0) (p_a1 : 0 < a1) (H : ((4 ≤ x2 → Q (some (vI 0)) h) ∧ (x2 < 4 → (0 < ((ch_R h a0 1)) ∧ ((0:Int) ≤ x2 ∧ x2 < ch_L h (ch_R h a0 1)) ∧ (∀ h3 : cm_H, h3 = ch_u h (ch_R h a0 1) x2 (ch_I h a0 4) → (cI d m_Reader_readTable [vR 7 a0, vR 3 a1, vI x2] h3 fun v5 h4 => ((¬ v5 = 0 → (cm_i (x2 + 1) ∧ (∀ h7 : cm_H, h7 = ch_u h4 a1 1 (x2 + 1) → ((¬ (ch_I h7 a0 5) = 0 → (((ch_I h7 a0 5) = 59 → ((¬ (x2 + 1) = 4 → (cU d m_Reader_advance [vR 7 a0] h7 fun h8 => cw d cd_Reader_readTables Q 7 [some (vR 7 a0), some (vR 3 a1), some (vI (x2 + 1))] [] h8)) ∧ ((x2 + 1) = 4 → (cI d m_Reader_refuse [vR 7 a0, vI 2] h7 fun v10 h9 => ((v10 = 0 ∨ v10 = 1) ∧ Q (some (vI v10)) h9))))) ∧ (¬ (ch_I h7 a0 5) = 59 → (cI d m_Reader_refuse [vR 7 a0, vI 1] h7 fun v12 h11 => ((v12 = 0 ∨ v12 = 1) ∧ Q (some (vI v12)) h11))))) ∧ ((ch_I h7 a0 5) = 0 → (cI d m_Reader_haveInverses [vR 7 a0, vR 3 a1] h7 fun v14 h13 => ((v14 = 0 ∨ v14 = 1) ∧ Q (some (vI v14)) h13))))))) ∧ (v5 = 0 → Q (some (vI 0)) h4)))))))) : cw d cd_Reader_readTables Q 7 [some (vR 7 a0), some (vR 3 a1), some (vI x2)] [] h := by
  refine w_iload rfl rfl ?_
  refine w_iconst rfl ⟨by decide, by decide⟩ ?_
  refine w_icmp rfl (And.intro (fun hc => ?_) (fun hc => ?_))
  · replace H := H.1 hc
    refine w_iconst rfl ⟨by decide, by decide⟩ ?_
    exact w_zreturn rfl (by decide) H
  · replace H := H.2 hc
    refine w_aload rfl rfl ?_
    refine w_getR 1 20 rfl rfl rfl rfl p_a0 ?_
    refine w_iload rfl rfl ?_
    refine w_aload rfl rfl ?_
    refine w_getI 4 rfl rfl rfl p_a0 ?_
    have o1 := H.1
    replace H := H.2
    have o2 := H.1
    replace H := H.2
    refine w_iastore rfl o1 o2 (fun h3 eh3 => ?_)
    replace H := H h3 eh3
    refine w_aload rfl rfl ?_
    refine w_aload rfl rfl ?_
    refine w_iload rfl rfl ?_
    refine w_callI rfl (fun _ => rfl) rfl (cI_mono H fun v5 h4 H => ?_)
    refine w_if rfl (And.intro (fun hc => ?_) (fun hc => ?_))
    · replace H := H.1 hc
      refine w_aload rfl rfl ?_
      refine w_iload rfl rfl ?_
      refine w_iconst rfl ⟨by decide, by decide⟩ ?_
      have o6 := H.1
      replace H := H.2
      refine w_iadd rfl o6 ?_
      refine w_putI 1 rfl rfl rfl p_a1 (fun h7 eh7 => ?_)
      replace H := H h7 eh7
      refine w_aload rfl rfl ?_
      refine w_getI 5 rfl rfl rfl p_a0 ?_
      refine w_if rfl (And.intro (fun hc => ?_) (fun hc => ?_))
      · replace H := H.1 hc
        refine w_aload rfl rfl ?_
        refine w_getI 5 rfl rfl rfl p_a0 ?_
        refine w_iconst rfl ⟨by decide, by decide⟩ ?_
        refine w_icmp rfl (And.intro (fun hc => ?_) (fun hc => ?_))
        · replace H := H.1 hc
          refine w_iload rfl rfl ?_
          refine w_iconst rfl ⟨by decide, by decide⟩ ?_
          refine w_iadd rfl o6 ?_
          refine w_iconst rfl ⟨by decide, by decide⟩ ?_
          refine w_icmp rfl (And.intro (fun hc => ?_) (fun hc => ?_))
          · replace H := H.1 hc
            refine w_aload rfl rfl ?_
            refine w_callU rfl (fun _ => rfl) rfl (cU_mono H fun h8 H => ?_)
            refine w_iinc rfl rfl rfl o6 ?_
            refine w_goto rfl ?_
            exact H
          · replace H := H.2 hc
            refine w_aload rfl rfl ?_
            refine w_iconst rfl ⟨by decide, by decide⟩ ?_
            refine w_callI rfl (fun _ => rfl) rfl (cI_mono H fun v10 h9 H => ?_)
            exact w_zreturn rfl H.1 H.2
        · replace H := H.2 hc
          refine w_aload rfl rfl ?_
          refine w_iconst rfl ⟨by decide, by decide⟩ ?_
          refine w_callI rfl (fun _ => rfl) rfl (cI_mono H fun v12 h11 H => ?_)
          exact w_zreturn rfl H.1 H.2
      · replace H := H.2 hc
        refine w_aload rfl rfl ?_
        refine w_aload rfl rfl ?_
        refine w_callI rfl (fun _ => rfl) rfl (cI_mono H fun v14 h13 H => ?_)
        exact w_zreturn rfl H.1 H.2
    · replace H := H.2 hc
      refine w_iconst rfl ⟨by decide, by decide⟩ ?_
      exact w_zreturn rfl (by decide) H
set_option maxHeartbeats 4000000 in
set_option maxRecDepth 100000 in
theorem r_Reader_readTables {d : Nat} {Q : cm_Q} {h : cm_H} {a0 : Nat} {a1 : Nat} (p_a0 : 0 < a0) (p_a1 : 0 < a1) (H : (∀ h1 : cm_H, h1 = ch_u h a1 0 0 → cw d cd_Reader_readTables Q 7 [some (vR 7 a0), some (vR 3 a1), some (vI 0)] [] h1)) : cm_call (d + 1) m_Reader_readTables [vR 7 a0, vR 3 a1] h Q := by
  refine cm_call_in (C := cd_Reader_readTables) (ls := [some (vR 7 a0), some (vR 3 a1), none]) rfl rfl p_a0 rfl ?_
  refine w_aload rfl rfl ?_
  refine w_iconst rfl ⟨by decide, by decide⟩ ?_
  refine w_putI 0 rfl rfl rfl p_a1 (fun h1 eh1 => ?_)
  replace H := H h1 eh1
  refine w_iconst rfl ⟨by decide, by decide⟩ ?_
  refine w_istore rfl rfl ?_
  exact H
set_option maxHeartbeats 4000000 in
set_option maxRecDepth 100000 in
theorem r_Reader_readTable_14 {d : Nat} {Q : cm_Q} {h : cm_H} {a0 : Nat} {a1 : Nat} {x2 : Int} {x3 : Int} (p_a1 : 0 < a1) (p_a0 : 0 < a0) (H : (((ch_I h a1 0) ≤ x3 → Q (some (vI 1)) h) ∧ (x3 < (ch_I h a1 0) → (((ch_I h a0 5) = 47 → (cU d m_Reader_advance [vR 7 a0] h fun h1 => (cI d m_Reader_readRow [vR 7 a0, vR 3 a1, vI x2, vI x3] h1 fun v3 h2 => ((¬ v3 = 0 → (cm_i (x3 + 1) ∧ cw d cd_Reader_readTable Q 14 [some (vR 7 a0), some (vR 3 a1), some (vI x2), some (vI (x3 + 1))] [] h2)) ∧ (v3 = 0 → Q (some (vI 0)) h2))))) ∧ (¬ (ch_I h a0 5) = 47 → (cI d m_Reader_refuse [vR 7 a0, vI 1] h fun v6 h5 => ((v6 = 0 ∨ v6 = 1) ∧ Q (some (vI v6)) h5))))))) : cw d cd_Reader_readTable Q 14 [some (vR 7 a0), some (vR 3 a1), some (vI x2), some (vI x3)] [] h := by
  refine w_iload rfl rfl ?_
  refine w_aload rfl rfl ?_
  refine w_getI 0 rfl rfl rfl p_a1 ?_
  refine w_icmp rfl (And.intro (fun hc => ?_) (fun hc => ?_))
  · replace H := H.1 hc
    refine w_iconst rfl ⟨by decide, by decide⟩ ?_
    exact w_zreturn rfl (by decide) H
  · replace H := H.2 hc
    refine w_aload rfl rfl ?_
    refine w_getI 5 rfl rfl rfl p_a0 ?_
    refine w_iconst rfl ⟨by decide, by decide⟩ ?_
    refine w_icmp rfl (And.intro (fun hc => ?_) (fun hc => ?_))
    · replace H := H.1 hc
      refine w_aload rfl rfl ?_
      refine w_callU rfl (fun _ => rfl) rfl (cU_mono H fun h1 H => ?_)
      refine w_aload rfl rfl ?_
      refine w_aload rfl rfl ?_
      refine w_iload rfl rfl ?_
      refine w_iload rfl rfl ?_
      refine w_callI rfl (fun _ => rfl) rfl (cI_mono H fun v3 h2 H => ?_)
      refine w_if rfl (And.intro (fun hc => ?_) (fun hc => ?_))
      · replace H := H.1 hc
        have o4 := H.1
        replace H := H.2
        refine w_iinc rfl rfl rfl o4 ?_
        refine w_goto rfl ?_
        exact H
      · replace H := H.2 hc
        refine w_iconst rfl ⟨by decide, by decide⟩ ?_
        exact w_zreturn rfl (by decide) H
    · replace H := H.2 hc
      refine w_aload rfl rfl ?_
      refine w_iconst rfl ⟨by decide, by decide⟩ ?_
      refine w_callI rfl (fun _ => rfl) rfl (cI_mono H fun v6 h5 H => ?_)
      exact w_zreturn rfl H.1 H.2
set_option maxHeartbeats 4000000 in
set_option maxRecDepth 100000 in
theorem r_Reader_readTable {d : Nat} {Q : cm_Q} {h : cm_H} {a0 : Nat} {a1 : Nat} {x2 : Int} (p_a0 : 0 < a0) (H : (cI d m_Reader_readRow [vR 7 a0, vR 3 a1, vI x2, vI 0] h fun v2 h1 => ((¬ v2 = 0 → cw d cd_Reader_readTable Q 14 [some (vR 7 a0), some (vR 3 a1), some (vI x2), some (vI 1)] [] h1) ∧ (v2 = 0 → Q (some (vI 0)) h1)))) : cm_call (d + 1) m_Reader_readTable [vR 7 a0, vR 3 a1, vI x2] h Q := by
  refine cm_call_in (C := cd_Reader_readTable) (ls := [some (vR 7 a0), some (vR 3 a1), some (vI x2), none]) rfl rfl p_a0 rfl ?_
  refine w_aload rfl rfl ?_
  refine w_aload rfl rfl ?_
  refine w_iload rfl rfl ?_
  refine w_iconst rfl ⟨by decide, by decide⟩ ?_
  refine w_callI rfl (fun _ => rfl) rfl (cI_mono H fun v2 h1 H => ?_)
  refine w_if rfl (And.intro (fun hc => ?_) (fun hc => ?_))
  · replace H := H.1 hc
    refine w_iconst rfl ⟨by decide, by decide⟩ ?_
    refine w_istore rfl rfl ?_
    exact H
  · replace H := H.2 hc
    refine w_iconst rfl ⟨by decide, by decide⟩ ?_
    exact w_zreturn rfl (by decide) H
set_option maxHeartbeats 4000000 in
set_option maxRecDepth 100000 in
theorem r_Reader_readRow_20 {d : Nat} {Q : cm_Q} {h : cm_H} {a0 : Nat} {a1 : Nat} {x2 : Int} {x3 : Int} {x4 : Int} {x5 : Int} {z6 : Option cm_V} {z7 : Option cm_V} (p_a1 : 0 < a1) (p_a0 : 0 < a0) (H : ((x4 ≤ x5 → (∀ h1 : cm_H, h1 = ch_u h a1 0 x4 → Q (some (vI 1)) h1)) ∧ (x5 < x4 → ((¬ (ch_I h a1 0) = 0 → cw d cd_Reader_readRow Q 64 [some (vR 7 a0), some (vR 3 a1), some (vI x2), some (vI x3), some (vI x4), some (vI x5), z6, z7] [] h) ∧ ((ch_I h a1 0) = 0 → ((¬ x5 = 2 → cw d cd_Reader_readRow Q 64 [some (vR 7 a0), some (vR 3 a1), some (vI x2), some (vI x3), some (vI x4), some (vI x5), z6, z7] [] h) ∧ (x5 = 2 → (((ch_I h a0 5) = 2 → cw d cd_Reader_readRow Q 64 [some (vR 7 a0), some (vR 3 a1), some (vI x2), some (vI x3), some (vI x4), some (vI x5), z6, z7] [] h) ∧ (¬ (ch_I h a0 5) = 2 → (((ch_I h a0 5) = 45 → cw d cd_Reader_readRow Q 64 [some (vR 7 a0), some (vR 3 a1), some (vI x2), some (vI x3), some (vI x4), some (vI x5), z6, z7] [] h) ∧ (¬ (ch_I h a0 5) = 45 → (∀ h2 : cm_H, h2 = ch_u h a1 0 2 → Q (some (vI 1)) h2)))))))))))) : cw d cd_Reader_readRow Q 20 [some (vR 7 a0), some (vR 3 a1), some (vI x2), some (vI x3), some (vI x4), some (vI x5), z6, z7] [] h := by
  refine w_iload rfl rfl ?_
  refine w_iload rfl rfl ?_
  refine w_icmp rfl (And.intro (fun hc => ?_) (fun hc => ?_))
  · replace H := H.1 hc
    refine w_aload rfl rfl ?_
    refine w_iload rfl rfl ?_
    refine w_putI 0 rfl rfl rfl p_a1 (fun h1 eh1 => ?_)
    replace H := H h1 eh1
    refine w_iconst rfl ⟨by decide, by decide⟩ ?_
    exact w_zreturn rfl (by decide) H
  · replace H := H.2 hc
    refine w_aload rfl rfl ?_
    refine w_getI 0 rfl rfl rfl p_a1 ?_
    refine w_if rfl (And.intro (fun hc => ?_) (fun hc => ?_))
    · replace H := H.1 hc
      exact H
    · replace H := H.2 hc
      refine w_iload rfl rfl ?_
      refine w_iconst rfl ⟨by decide, by decide⟩ ?_
      refine w_icmp rfl (And.intro (fun hc => ?_) (fun hc => ?_))
      · replace H := H.1 hc
        exact H
      · replace H := H.2 hc
        refine w_aload rfl rfl ?_
        refine w_getI 5 rfl rfl rfl p_a0 ?_
        refine w_iconst rfl ⟨by decide, by decide⟩ ?_
        refine w_icmp rfl (And.intro (fun hc => ?_) (fun hc => ?_))
        · replace H := H.1 hc
          exact H
        · replace H := H.2 hc
          refine w_aload rfl rfl ?_
          refine w_getI 5 rfl rfl rfl p_a0 ?_
          refine w_iconst rfl ⟨by decide, by decide⟩ ?_
          refine w_icmp rfl (And.intro (fun hc => ?_) (fun hc => ?_))
          · replace H := H.1 hc
            exact H
          · replace H := H.2 hc
            refine w_aload rfl rfl ?_
            refine w_iconst rfl ⟨by decide, by decide⟩ ?_
            refine w_putI 0 rfl rfl rfl p_a1 (fun h2 eh2 => ?_)
            replace H := H h2 eh2
            refine w_iconst rfl ⟨by decide, by decide⟩ ?_
            exact w_zreturn rfl (by decide) H
set_option maxHeartbeats 4000000 in
set_option maxRecDepth 100000 in
theorem r_Reader_readRow_64 {d : Nat} {Q : cm_Q} {h : cm_H} {a0 : Nat} {a1 : Nat} {x2 : Int} {x3 : Int} {x4 : Int} {x5 : Int} {z6 : Option cm_V} {z7 : Option cm_V} (p_a0 : 0 < a0) (H : ((¬ (ch_I h a0 5) = 45 → cw d cd_Reader_readRow Q 78 [some (vR 7 a0), some (vR 3 a1), some (vI x2), some (vI x3), some (vI x4), some (vI x5), z6, z7] [vI 0] h) ∧ ((ch_I h a0 5) = 45 → cw d cd_Reader_readRow Q 78 [some (vR 7 a0), some (vR 3 a1), some (vI x2), some (vI x3), some (vI x4), some (vI x5), z6, z7] [vI 1] h))) : cw d cd_Reader_readRow Q 64 [some (vR 7 a0), some (vR 3 a1), some (vI x2), some (vI x3), some (vI x4), some (vI x5), z6, z7] [] h := by
  refine w_aload rfl rfl ?_
  refine w_getI 5 rfl rfl rfl p_a0 ?_
  refine w_iconst rfl ⟨by decide, by decide⟩ ?_
  refine w_icmp rfl (And.intro (fun hc => ?_) (fun hc => ?_))
  · replace H := H.1 hc
    refine w_iconst rfl ⟨by decide, by decide⟩ ?_
    exact H
  · replace H := H.2 hc
    refine w_iconst rfl ⟨by decide, by decide⟩ ?_
    refine w_goto rfl ?_
    exact H
set_option maxHeartbeats 4000000 in
set_option maxRecDepth 100000 in
theorem r_Reader_readRow_78 {d : Nat} {Q : cm_Q} {h : cm_H} {a0 : Nat} {a1 : Nat} {x2 : Int} {x3 : Int} {x4 : Int} {x5 : Int} {z6 : Option cm_V} {z7 : Option cm_V} {s0 : Int}  (H : ((s0 = 0 → cw d cd_Reader_readRow Q 89 [some (vR 7 a0), some (vR 3 a1), some (vI x2), some (vI x3), some (vI x4), some (vI x5), some (vI s0), z7] [] h) ∧ (¬ s0 = 0 → (cU d m_Reader_advance [vR 7 a0] h fun h1 => cw d cd_Reader_readRow Q 89 [some (vR 7 a0), some (vR 3 a1), some (vI x2), some (vI x3), some (vI x4), some (vI x5), some (vI s0), z7] [] h1)))) : cw d cd_Reader_readRow Q 78 [some (vR 7 a0), some (vR 3 a1), some (vI x2), some (vI x3), some (vI x4), some (vI x5), z6, z7] [vI s0] h := by
  refine w_istore rfl rfl ?_
  refine w_iload rfl rfl ?_
  refine w_if rfl (And.intro (fun hc => ?_) (fun hc => ?_))
  · replace H := H.1 hc
    exact H
  · replace H := H.2 hc
    refine w_aload rfl rfl ?_
    refine w_callU rfl (fun _ => rfl) rfl (cU_mono H fun h1 H => ?_)
    exact H
set_option maxHeartbeats 4000000 in
set_option maxRecDepth 100000 in
theorem r_Reader_readRow_89 {d : Nat} {Q : cm_Q} {h : cm_H} {a0 : Nat} {a1 : Nat} {x2 : Int} {x3 : Int} {x4 : Int} {x5 : Int} {x6 : Int} {z7 : Option cm_V} (p_a0 : 0 < a0) (H : ((¬ (ch_I h a0 5) = 2 → (cI d m_Reader_refuse [vR 7 a0, vI 1] h fun v2 h1 => ((v2 = 0 ∨ v2 = 1) ∧ Q (some (vI v2)) h1))) ∧ ((ch_I h a0 5) = 2 → (((ch_I h a0 7) ≤ 4 → ((x6 = 0 → cw d cd_Reader_readRow Q 128 [some (vR 7 a0), some (vR 3 a1), some (vI x2), some (vI x3), some (vI x4), some (vI x5), some (vI x6), z7] [vI (ch_I h a0 6)] h) ∧ (¬ x6 = 0 → (cm_i (-(ch_I h a0 6)) ∧ cw d cd_Reader_readRow Q 128 [some (vR 7 a0), some (vR 3 a1), some (vI x2), some (vI x3), some (vI x4), some (vI x5), some (vI x6), z7] [vI (-(ch_I h a0 6))] h)))) ∧ (4 < (ch_I h a0 7) → (cI d m_Reader_refuse [vR 7 a0, vI 1] h fun v5 h4 => ((v5 = 0 ∨ v5 = 1) ∧ Q (some (vI v5)) h4))))))) : cw d cd_Reader_readRow Q 89 [some (vR 7 a0), some (vR 3 a1), some (vI x2), some (vI x3), some (vI x4), some (vI x5), some (vI x6), z7] [] h := by
  refine w_aload rfl rfl ?_
  refine w_getI 5 rfl rfl rfl p_a0 ?_
  refine w_iconst rfl ⟨by decide, by decide⟩ ?_
  refine w_icmp rfl (And.intro (fun hc => ?_) (fun hc => ?_))
  · replace H := H.1 hc
    refine w_aload rfl rfl ?_
    refine w_iconst rfl ⟨by decide, by decide⟩ ?_
    refine w_callI rfl (fun _ => rfl) rfl (cI_mono H fun v2 h1 H => ?_)
    exact w_zreturn rfl H.1 H.2
  · replace H := H.2 hc
    refine w_aload rfl rfl ?_
    refine w_getI 7 rfl rfl rfl p_a0 ?_
    refine w_iconst rfl ⟨by decide, by decide⟩ ?_
    refine w_icmp rfl (And.intro (fun hc => ?_) (fun hc => ?_))
    · replace H := H.1 hc
      refine w_iload rfl rfl ?_
      refine w_if rfl (And.intro (fun hc => ?_) (fun hc => ?_))
      · replace H := H.1 hc
        refine w_aload rfl rfl ?_
        refine w_getI 6 rfl rfl rfl p_a0 ?_
        exact H
      · replace H := H.2 hc
        refine w_aload rfl rfl ?_
        refine w_getI 6 rfl rfl rfl p_a0 ?_
        have o3 := H.1
        replace H := H.2
        refine w_ineg rfl o3 ?_
        refine w_goto rfl ?_
        exact H
    · replace H := H.2 hc
      refine w_aload rfl rfl ?_
      refine w_iconst rfl ⟨by decide, by decide⟩ ?_
      refine w_callI rfl (fun _ => rfl) rfl (cI_mono H fun v5 h4 H => ?_)
      exact w_zreturn rfl H.1 H.2
set_option maxHeartbeats 4000000 in
set_option maxRecDepth 100000 in
theorem r_Reader_readRow_128 {d : Nat} {Q : cm_Q} {h : cm_H} {a0 : Nat} {a1 : Nat} {x2 : Int} {x3 : Int} {x4 : Int} {x5 : Int} {z6 : Option cm_V} {z7 : Option cm_V} {s0 : Int} (p_a1 : 0 < a1) (H : (cm_i (9 * x2) ∧ (cm_i (x4 * x3) ∧ (cm_i ((9 * x2) + (x4 * x3)) ∧ (cm_i (((9 * x2) + (x4 * x3)) + x5) ∧ (0 < ((ch_R h a1 3)) ∧ ((0:Int) ≤ (((9 * x2) + (x4 * x3)) + x5) ∧ (((9 * x2) + (x4 * x3)) + x5) < ch_L h (ch_R h a1 3)) ∧ (∀ h7 : cm_H, h7 = ch_u h (ch_R h a1 3) (((9 * x2) + (x4 * x3)) + x5) (s0 % 2521) → (cU d m_Reader_advance [vR 7 a0] h7 fun h8 => (cm_i (x5 + 1) ∧ cw d cd_Reader_readRow Q 20 [some (vR 7 a0), some (vR 3 a1), some (vI x2), some (vI x3), some (vI x4), some (vI (x5 + 1)), z6, some (vI s0)] [] h8))))))))) : cw d cd_Reader_readRow Q 128 [some (vR 7 a0), some (vR 3 a1), some (vI x2), some (vI x3), some (vI x4), some (vI x5), z6, z7] [vI s0] h := by
  refine w_istore rfl rfl ?_
  refine w_aload rfl rfl ?_
  refine w_getR 3 20 rfl rfl rfl rfl p_a1 ?_
  refine w_iconst rfl ⟨by decide, by decide⟩ ?_
  refine w_iload rfl rfl ?_
  have o1 := H.1
  replace H := H.2
  refine w_imul rfl o1 ?_
  refine w_iload rfl rfl ?_
  refine w_iload rfl rfl ?_
  have o2 := H.1
  replace H := H.2
  refine w_imul rfl o2 ?_
  have o3 := H.1
  replace H := H.2
  refine w_iadd rfl o3 ?_
  refine w_iload rfl rfl ?_
  have o4 := H.1
  replace H := H.2
  refine w_iadd rfl o4 ?_
  refine w_iload rfl rfl ?_
  refine w_iconst rfl ⟨by decide, by decide⟩ ?_
  refine w_floorMod rfl rfl (by decide) ?_
  have o5 := H.1
  replace H := H.2
  have o6 := H.1
  replace H := H.2
  refine w_iastore rfl o5 o6 (fun h7 eh7 => ?_)
  replace H := H h7 eh7
  refine w_aload rfl rfl ?_
  refine w_callU rfl (fun _ => rfl) rfl (cU_mono H fun h8 H => ?_)
  have o9 := H.1
  replace H := H.2
  refine w_iinc rfl rfl rfl o9 ?_
  refine w_goto rfl ?_
  exact H
set_option maxHeartbeats 4000000 in
set_option maxRecDepth 100000 in
theorem r_Reader_readRow {d : Nat} {Q : cm_Q} {h : cm_H} {a0 : Nat} {a1 : Nat} {x2 : Int} {x3 : Int} (p_a0 : 0 < a0) (p_a1 : 0 < a1) (H : ((¬ (ch_I h a1 0) = 0 → cw d cd_Reader_readRow Q 20 [some (vR 7 a0), some (vR 3 a1), some (vI x2), some (vI x3), some (vI (ch_I h a1 0)), some (vI 0), none, none] [] h) ∧ ((ch_I h a1 0) = 0 → cw d cd_Reader_readRow Q 20 [some (vR 7 a0), some (vR 3 a1), some (vI x2), some (vI x3), some (vI 3), some (vI 0), none, none] [] h))) : cm_call (d + 1) m_Reader_readRow [vR 7 a0, vR 3 a1, vI x2, vI x3] h Q := by
  refine cm_call_in (C := cd_Reader_readRow) (ls := [some (vR 7 a0), some (vR 3 a1), some (vI x2), some (vI x3), none, none, none, none]) rfl rfl p_a0 rfl ?_
  refine w_aload rfl rfl ?_
  refine w_getI 0 rfl rfl rfl p_a1 ?_
  refine w_if rfl (And.intro (fun hc => ?_) (fun hc => ?_))
  · replace H := H.1 hc
    refine w_aload rfl rfl ?_
    refine w_getI 0 rfl rfl rfl p_a1 ?_
    refine w_istore rfl rfl ?_
    refine w_iconst rfl ⟨by decide, by decide⟩ ?_
    refine w_istore rfl rfl ?_
    exact H
  · replace H := H.2 hc
    refine w_iconst rfl ⟨by decide, by decide⟩ ?_
    refine w_goto rfl ?_
    refine w_istore rfl rfl ?_
    refine w_iconst rfl ⟨by decide, by decide⟩ ?_
    refine w_istore rfl rfl ?_
    exact H
set_option maxHeartbeats 4000000 in
set_option maxRecDepth 100000 in
theorem r_Reader_haveInverses_2 {d : Nat} {Q : cm_Q} {h : cm_H} {a0 : Nat} {a1 : Nat} {x2 : Int} (p_a1 : 0 < a1) (p_a0 : 0 < a0) (H : (((ch_I h a1 1) ≤ x2 → Q (some (vI 1)) h) ∧ (x2 < (ch_I h a1 1) → (cm_i (9 * x2) ∧ (cI d m_Works_determinant [vR 20 (ch_R h a1 3), vI (9 * x2), vI (ch_I h a1 0)] h fun v3 h2 => ((¬ v3 = 0 → (cm_i (x2 + 1) ∧ cw d cd_Reader_haveInverses Q 2 [some (vR 7 a0), some (vR 3 a1), some (vI (x2 + 1))] [] h2)) ∧ (v3 = 0 → (0 < ((ch_R h2 a0 1)) ∧ ((0:Int) ≤ x2 ∧ x2 < ch_L h2 (ch_R h2 a0 1)) ∧ (cm_i (8 * (ch_I h2 (ch_R h2 a0 1) x2)) ∧ (cm_i ((8 * (ch_I h2 (ch_R h2 a0 1) x2)) + 3) ∧ (∀ h9 : cm_H, h9 = ch_u h2 a0 8 ((8 * (ch_I h2 (ch_R h2 a0 1) x2)) + 3) → Q (some (vI 0)) h9))))))))))) : cw d cd_Reader_haveInverses Q 2 [some (vR 7 a0), some (vR 3 a1), some (vI x2)] [] h := by
  refine w_iload rfl rfl ?_
  refine w_aload rfl rfl ?_
  refine w_getI 1 rfl rfl rfl p_a1 ?_
  refine w_icmp rfl (And.intro (fun hc => ?_) (fun hc => ?_))
  · replace H := H.1 hc
    refine w_iconst rfl ⟨by decide, by decide⟩ ?_
    exact w_zreturn rfl (by decide) H
  · replace H := H.2 hc
    refine w_aload rfl rfl ?_
    refine w_getR 3 20 rfl rfl rfl rfl p_a1 ?_
    refine w_iconst rfl ⟨by decide, by decide⟩ ?_
    refine w_iload rfl rfl ?_
    have o1 := H.1
    replace H := H.2
    refine w_imul rfl o1 ?_
    refine w_aload rfl rfl ?_
    refine w_getI 0 rfl rfl rfl p_a1 ?_
    refine w_callI rfl (fun _ => rfl) rfl (cI_mono H fun v3 h2 H => ?_)
    refine w_if rfl (And.intro (fun hc => ?_) (fun hc => ?_))
    · replace H := H.1 hc
      have o4 := H.1
      replace H := H.2
      refine w_iinc rfl rfl rfl o4 ?_
      refine w_goto rfl ?_
      exact H
    · replace H := H.2 hc
      refine w_aload rfl rfl ?_
      refine w_iconst rfl ⟨by decide, by decide⟩ ?_
      refine w_aload rfl rfl ?_
      refine w_getR 1 20 rfl rfl rfl rfl p_a0 ?_
      refine w_iload rfl rfl ?_
      have o5 := H.1
      replace H := H.2
      have o6 := H.1
      replace H := H.2
      refine w_iaload rfl o5 o6 ?_
      have o7 := H.1
      replace H := H.2
      refine w_imul rfl o7 ?_
      refine w_iconst rfl ⟨by decide, by decide⟩ ?_
      have o8 := H.1
      replace H := H.2
      refine w_iadd rfl o8 ?_
      refine w_putI 8 rfl rfl rfl p_a0 (fun h9 eh9 => ?_)
      replace H := H h9 eh9
      refine w_iconst rfl ⟨by decide, by decide⟩ ?_
      exact w_zreturn rfl (by decide) H
set_option maxHeartbeats 4000000 in
set_option maxRecDepth 100000 in
theorem r_Reader_haveInverses {d : Nat} {Q : cm_Q} {h : cm_H} {a0 : Nat} {a1 : Nat} (p_a0 : 0 < a0) (H : cw d cd_Reader_haveInverses Q 2 [some (vR 7 a0), some (vR 3 a1), some (vI 0)] [] h) : cm_call (d + 1) m_Reader_haveInverses [vR 7 a0, vR 3 a1] h Q := by
  refine cm_call_in (C := cd_Reader_haveInverses) (ls := [some (vR 7 a0), some (vR 3 a1), none]) rfl rfl p_a0 rfl ?_
  refine w_iconst rfl ⟨by decide, by decide⟩ ?_
  refine w_istore rfl rfl ?_
  exact H
set_option maxHeartbeats 4000000 in
set_option maxRecDepth 100000 in
theorem r_Sum_init {d : Nat} {Q : cm_Q} {h : cm_H} {a0 : Nat} {a1 : Nat} (p_a0 : 0 < a0) (H : ((0:Int) ≤ 0 ∧ 0 ≤ (1000:Int) ∧ (0:Int) ≤ 0 ∧ 0 ≤ (1000:Int)) ∧ (∀ h2 : cm_H, h2 = ch_x (ch_news (ch_new h 23 0 (Int.toNat 0)) 0 (Int.toNat 0) (Int.toNat 0)) (ch_n h) (fun j => if 0 ≤ j ∧ j < 0 then ch_n h + 1 + j.toNat else 0) → (∀ h3 : cm_H, h3 = ch_r h2 a0 2 (ch_n h) → (∀ h4 : cm_H, h4 = ch_r h3 a0 0 a1 → Q none h4)))) : cm_call (d + 1) m_Sum_init [vR 10 a0, vR 7 a1] h Q := by
  refine cm_call_in (C := cd_Sum_init) (ls := [some (vR 10 a0), some (vR 7 a1)]) rfl rfl p_a0 rfl ?_
  refine w_aload rfl rfl ?_
  refine w_objInit rfl rfl p_a0 ?_
  refine w_aload rfl rfl ?_
  refine w_iconst rfl ⟨by decide, by decide⟩ ?_
  refine w_iconst rfl ⟨by decide, by decide⟩ ?_
  have o1 := H.1
  replace H := H.2
  refine w_newM rfl o1 (fun h2 eh2 => ?_)
  replace H := H h2 eh2
  refine w_putR 2 rfl rfl rfl rfl p_a0 (fun h3 eh3 => ?_)
  replace H := H h3 eh3
  refine w_aload rfl rfl ?_
  refine w_aload rfl rfl ?_
  refine w_putR 0 rfl rfl rfl rfl p_a0 (fun h4 eh4 => ?_)
  replace H := H h4 eh4
  exact w_return rfl H
set_option maxHeartbeats 4000000 in
set_option maxRecDepth 100000 in
theorem r_Sum_readAll_47 {d : Nat} {Q : cm_Q} {h : cm_H} {a0 : Nat} {z1 : Option cm_V} (p_a0 : 0 < a0) (H : (∀ h1 : cm_H, h1 = ch_u h a0 3 18 → (cm_i ((ch_I h1 a0 3) + 1) ∧ (∀ h3 : cm_H, h3 = ch_u h1 a0 4 ((ch_I h1 a0 3) + 1) → (cm_i ((ch_I h3 a0 3) + 2) ∧ (∀ h5 : cm_H, h5 = ch_u h3 a0 5 ((ch_I h3 a0 3) + 2) → (∀ h6 : cm_H, h6 = ch_u h5 a0 6 0 → (cI d m_Sum_readSum [vR 10 a0, vI 0] h6 fun v8 h7 => ((v8 = 0 → cw d cd_Sum_readAll Q 105 [some (vR 10 a0), z1] [] h7) ∧ (¬ v8 = 0 → (0 < ((ch_R h7 a0 0)) ∧ (((ch_I h7 (ch_R h7 a0 0) 5) = 0 → cw d cd_Sum_readAll Q 105 [some (vR 10 a0), z1] [] h7) ∧ (¬ (ch_I h7 (ch_R h7 a0 0) 5) = 0 → (cI d m_Reader_refuse [vR 7 (ch_R h7 a0 0), vI 1] h7 fun v11 h10 => cw d cd_Sum_readAll Q 105 [some (vR 10 a0), z1] [] h10)))))))))))))) : cw d cd_Sum_readAll Q 47 [some (vR 10 a0), z1] [] h := by
  refine w_aload rfl rfl ?_
  refine w_iconst rfl ⟨by decide, by decide⟩ ?_
  refine w_putI 3 rfl rfl rfl p_a0 (fun h1 eh1 => ?_)
  replace H := H h1 eh1
  refine w_aload rfl rfl ?_
  refine w_aload rfl rfl ?_
  refine w_getI 3 rfl rfl rfl p_a0 ?_
  refine w_iconst rfl ⟨by decide, by decide⟩ ?_
  have o2 := H.1
  replace H := H.2
  refine w_iadd rfl o2 ?_
  refine w_putI 4 rfl rfl rfl p_a0 (fun h3 eh3 => ?_)
  replace H := H h3 eh3
  refine w_aload rfl rfl ?_
  refine w_aload rfl rfl ?_
  refine w_getI 3 rfl rfl rfl p_a0 ?_
  refine w_iconst rfl ⟨by decide, by decide⟩ ?_
  have o4 := H.1
  replace H := H.2
  refine w_iadd rfl o4 ?_
  refine w_putI 5 rfl rfl rfl p_a0 (fun h5 eh5 => ?_)
  replace H := H h5 eh5
  refine w_aload rfl rfl ?_
  refine w_iconst rfl ⟨by decide, by decide⟩ ?_
  refine w_putZ 6 rfl rfl rfl (by decide) p_a0 (fun h6 eh6 => ?_)
  replace H := H h6 eh6
  refine w_aload rfl rfl ?_
  refine w_iconst rfl ⟨by decide, by decide⟩ ?_
  refine w_callI rfl (fun _ => rfl) rfl (cI_mono H fun v8 h7 H => ?_)
  refine w_if rfl (And.intro (fun hc => ?_) (fun hc => ?_))
  · replace H := H.1 hc
    exact H
  · replace H := H.2 hc
    refine w_aload rfl rfl ?_
    refine w_getR 0 7 rfl rfl rfl rfl p_a0 ?_
    have o9 := H.1
    replace H := H.2
    refine w_getI 5 rfl rfl rfl o9 ?_
    refine w_if rfl (And.intro (fun hc => ?_) (fun hc => ?_))
    · replace H := H.1 hc
      exact H
    · replace H := H.2 hc
      refine w_aload rfl rfl ?_
      refine w_getR 0 7 rfl rfl rfl rfl p_a0 ?_
      refine w_iconst rfl ⟨by decide, by decide⟩ ?_
      refine w_callI rfl (fun _ => rfl) rfl (cI_mono H fun v11 h10 H => ?_)
      refine w_pop rfl rfl ?_
      exact H
set_option maxHeartbeats 4000000 in
set_option maxRecDepth 100000 in
theorem r_Sum_readAll_105 {d : Nat} {Q : cm_Q} {h : cm_H} {a0 : Nat} {z1 : Option cm_V} (p_a0 : 0 < a0) (H : (0 < ((ch_R h a0 0)) ∧ ((¬ (ch_I h (ch_R h a0 0) 8) = 0 → (0 < ((ch_R h a0 2)) ∧ ((0:Int) ≤ 0 ∧ 0 < ch_L h (ch_R h a0 2)) ∧ (0 < ((ch_R h (ch_R h a0 2) 0)) ∧ Q (some (vR 20 (ch_R h (ch_R h a0 2) 0))) h))) ∧ ((ch_I h (ch_R h a0 0) 8) = 0 → (((ch_I h a0 6) = 0 → (0 < ((ch_R h a0 2)) ∧ ((0:Int) ≤ 0 ∧ 0 < ch_L h (ch_R h a0 2)) ∧ (0 < ((ch_R h (ch_R h a0 2) 0)) ∧ Q (some (vR 20 (ch_R h (ch_R h a0 2) 0))) h))) ∧ (¬ (ch_I h a0 6) = 0 → (∀ h8 : cm_H, h8 = ch_u h (ch_R h a0 0) 8 3 → (0 < ((ch_R h8 a0 2)) ∧ ((0:Int) ≤ 0 ∧ 0 < ch_L h8 (ch_R h8 a0 2)) ∧ (0 < ((ch_R h8 (ch_R h8 a0 2) 0)) ∧ Q (some (vR 20 (ch_R h8 (ch_R h8 a0 2) 0))) h8))))))))) : cw d cd_Sum_readAll Q 105 [some (vR 10 a0), z1] [] h := by
  refine w_aload rfl rfl ?_
  refine w_getR 0 7 rfl rfl rfl rfl p_a0 ?_
  have o1 := H.1
  replace H := H.2
  refine w_getI 8 rfl rfl rfl o1 ?_
  refine w_if rfl (And.intro (fun hc => ?_) (fun hc => ?_))
  · replace H := H.1 hc
    refine w_aload rfl rfl ?_
    refine w_getR 2 23 rfl rfl rfl rfl p_a0 ?_
    refine w_iconst rfl ⟨by decide, by decide⟩ ?_
    have o2 := H.1
    replace H := H.2
    have o3 := H.1
    replace H := H.2
    refine w_aaload rfl rfl rfl o2 o3 ?_
    have o4 := H.1
    replace H := H.2
    exact w_areturn rfl o4 H
  · replace H := H.2 hc
    refine w_aload rfl rfl ?_
    refine w_getI 6 rfl rfl rfl p_a0 ?_
    refine w_if rfl (And.intro (fun hc => ?_) (fun hc => ?_))
    · replace H := H.1 hc
      refine w_aload rfl rfl ?_
      refine w_getR 2 23 rfl rfl rfl rfl p_a0 ?_
      refine w_iconst rfl ⟨by decide, by decide⟩ ?_
      have o5 := H.1
      replace H := H.2
      have o6 := H.1
      replace H := H.2
      refine w_aaload rfl rfl rfl o5 o6 ?_
      have o7 := H.1
      replace H := H.2
      exact w_areturn rfl o7 H
    · replace H := H.2 hc
      refine w_aload rfl rfl ?_
      refine w_getR 0 7 rfl rfl rfl rfl p_a0 ?_
      refine w_iconst rfl ⟨by decide, by decide⟩ ?_
      refine w_putI 8 rfl rfl rfl o1 (fun h8 eh8 => ?_)
      replace H := H h8 eh8
      refine w_aload rfl rfl ?_
      refine w_getR 2 23 rfl rfl rfl rfl p_a0 ?_
      refine w_iconst rfl ⟨by decide, by decide⟩ ?_
      have o9 := H.1
      replace H := H.2
      have o10 := H.1
      replace H := H.2
      refine w_aaload rfl rfl rfl o9 o10 ?_
      have o11 := H.1
      replace H := H.2
      exact w_areturn rfl o11 H
set_option maxHeartbeats 4000000 in
set_option maxRecDepth 100000 in
theorem r_Sum_readAll {d : Nat} {Q : cm_Q} {h : cm_H} {a0 : Nat} {a1 : Nat} (p_a0 : 0 < a0) (H : (∀ h1 : cm_H, h1 = ch_r h a0 1 a1 → (0 < ((ch_R h1 a0 2)) ∧ (((ch_L h1 (ch_R h1 a0 2)) = 0 → (0 < ((ch_R h1 a0 1)) ∧ ((0:Int) ≤ 21 ∧ 21 ≤ (1000:Int) ∧ (0:Int) ≤ (ch_I h1 (ch_R h1 a0 1) 1) ∧ (ch_I h1 (ch_R h1 a0 1) 1) ≤ (1000:Int)) ∧ (∀ h5 : cm_H, h5 = ch_x (ch_news (ch_new h1 23 21 (Int.toNat 21)) (ch_I h1 (ch_R h1 a0 1) 1) (Int.toNat (ch_I h1 (ch_R h1 a0 1) 1)) (Int.toNat 21)) (ch_n h1) (fun j => if 0 ≤ j ∧ j < 21 then ch_n h1 + 1 + j.toNat else 0) → (∀ h6 : cm_H, h6 = ch_r h5 a0 2 (ch_n h1) → cw d cd_Sum_readAll Q 47 [some (vR 10 a0), some (vR 9 a1)] [] h6)))) ∧ (¬ (ch_L h1 (ch_R h1 a0 2)) = 0 → ((0:Int) ≤ 0 ∧ 0 < ch_L h1 (ch_R h1 a0 2)) ∧ (0 < ((ch_R h1 (ch_R h1 a0 2) 0)) ∧ (0 < ((ch_R h1 a0 1)) ∧ (((ch_I h1 (ch_R h1 a0 1) 1) ≤ (ch_L h1 (ch_R h1 (ch_R h1 a0 2) 0)) → cw d cd_Sum_readAll Q 47 [some (vR 10 a0), some (vR 9 a1)] [] h1) ∧ ((ch_L h1 (ch_R h1 (ch_R h1 a0 2) 0)) < (ch_I h1 (ch_R h1 a0 1) 1) → ((0:Int) ≤ 21 ∧ 21 ≤ (1000:Int) ∧ (0:Int) ≤ (ch_I h1 (ch_R h1 a0 1) 1) ∧ (ch_I h1 (ch_R h1 a0 1) 1) ≤ (1000:Int)) ∧ (∀ h11 : cm_H, h11 = ch_x (ch_news (ch_new h1 23 21 (Int.toNat 21)) (ch_I h1 (ch_R h1 a0 1) 1) (Int.toNat (ch_I h1 (ch_R h1 a0 1) 1)) (Int.toNat 21)) (ch_n h1) (fun j => if 0 ≤ j ∧ j < 21 then ch_n h1 + 1 + j.toNat else 0) → (∀ h12 : cm_H, h12 = ch_r h11 a0 2 (ch_n h1) → cw d cd_Sum_readAll Q 47 [some (vR 10 a0), some (vR 9 a1)] [] h12))))))))))) : cm_call (d + 1) m_Sum_readAll [vR 10 a0, vR 9 a1] h Q := by
  refine cm_call_in (C := cd_Sum_readAll) (ls := [some (vR 10 a0), some (vR 9 a1)]) rfl rfl p_a0 rfl ?_
  refine w_aload rfl rfl ?_
  refine w_aload rfl rfl ?_
  refine w_putR 1 rfl rfl rfl rfl p_a0 (fun h1 eh1 => ?_)
  replace H := H h1 eh1
  refine w_aload rfl rfl ?_
  refine w_getR 2 23 rfl rfl rfl rfl p_a0 ?_
  have o2 := H.1
  replace H := H.2
  refine w_alen rfl rfl o2 ?_
  refine w_if rfl (And.intro (fun hc => ?_) (fun hc => ?_))
  · replace H := H.1 hc
    refine w_aload rfl rfl ?_
    refine w_iconst rfl ⟨by decide, by decide⟩ ?_
    refine w_aload rfl rfl ?_
    refine w_getR 1 9 rfl rfl rfl rfl p_a0 ?_
    have o3 := H.1
    replace H := H.2
    refine w_getI 1 rfl rfl rfl o3 ?_
    have o4 := H.1
    replace H := H.2
    refine w_newM rfl o4 (fun h5 eh5 => ?_)
    replace H := H h5 eh5
    refine w_putR 2 rfl rfl rfl rfl p_a0 (fun h6 eh6 => ?_)
    replace H := H h6 eh6
    exact H
  · replace H := H.2 hc
    refine w_aload rfl rfl ?_
    refine w_getR 2 23 rfl rfl rfl rfl p_a0 ?_
    refine w_iconst rfl ⟨by decide, by decide⟩ ?_
    have o7 := H.1
    replace H := H.2
    refine w_aaload rfl rfl rfl o2 o7 ?_
    have o8 := H.1
    replace H := H.2
    refine w_alen rfl rfl o8 ?_
    refine w_aload rfl rfl ?_
    refine w_getR 1 9 rfl rfl rfl rfl p_a0 ?_
    have o9 := H.1
    replace H := H.2
    refine w_getI 1 rfl rfl rfl o9 ?_
    refine w_icmp rfl (And.intro (fun hc => ?_) (fun hc => ?_))
    · replace H := H.1 hc
      exact H
    · replace H := H.2 hc
      refine w_aload rfl rfl ?_
      refine w_iconst rfl ⟨by decide, by decide⟩ ?_
      refine w_aload rfl rfl ?_
      refine w_getR 1 9 rfl rfl rfl rfl p_a0 ?_
      refine w_getI 1 rfl rfl rfl o9 ?_
      have o10 := H.1
      replace H := H.2
      refine w_newM rfl o10 (fun h11 eh11 => ?_)
      replace H := H h11 eh11
      refine w_putR 2 rfl rfl rfl rfl p_a0 (fun h12 eh12 => ?_)
      replace H := H h12 eh12
      exact H
set_option maxHeartbeats 4000000 in
set_option maxRecDepth 100000 in
theorem r_Sum_readSum_27 {d : Nat} {Q : cm_Q} {h : cm_H} {a0 : Nat} {x1 : Int} {z2 : Option cm_V} {z3 : Option cm_V} {s0 : Int} (p_a0 : 0 < a0) (H : ((s0 = 0 → cw d cd_Sum_readSum Q 41 [some (vR 10 a0), some (vI x1), some (vI s0), some (vI 0)] [] h) ∧ (¬ s0 = 0 → (cU d m_Reader_advance [vR 7 (ch_R h a0 0)] h fun h1 => cw d cd_Sum_readSum Q 41 [some (vR 10 a0), some (vI x1), some (vI s0), some (vI 0)] [] h1)))) : cw d cd_Sum_readSum Q 27 [some (vR 10 a0), some (vI x1), z2, z3] [vI s0] h := by
  refine w_istore rfl rfl ?_
  refine w_iload rfl rfl ?_
  refine w_if rfl (And.intro (fun hc => ?_) (fun hc => ?_))
  · replace H := H.1 hc
    refine w_iconst rfl ⟨by decide, by decide⟩ ?_
    refine w_istore rfl rfl ?_
    exact H
  · replace H := H.2 hc
    refine w_aload rfl rfl ?_
    refine w_getR 0 7 rfl rfl rfl rfl p_a0 ?_
    refine w_callU rfl (fun _ => rfl) rfl (cU_mono H fun h1 H => ?_)
    refine w_iconst rfl ⟨by decide, by decide⟩ ?_
    refine w_istore rfl rfl ?_
    exact H
set_option maxHeartbeats 4000000 in
set_option maxRecDepth 100000 in
theorem r_Sum_readSum_41 {d : Nat} {Q : cm_Q} {h : cm_H} {a0 : Nat} {x1 : Int} {x2 : Int} {x3 : Int} (p_a0 : 0 < a0) (H : ((400 < x3 → Q (some (vI 0)) h) ∧ (x3 ≤ 400 → (cI d m_Sum_readProduct [vR 10 a0, vI x1] h fun v2 h1 => ((¬ v2 = 0 → (cm_i (9 + x1) ∧ (0 < ((ch_R h1 a0 2)) ∧ ((0:Int) ≤ (9 + x1) ∧ (9 + x1) < ch_L h1 (ch_R h1 a0 2)) ∧ ((x2 = 0 → cw d cd_Sum_readSum Q 79 [some (vR 10 a0), some (vI x1), some (vI x2), some (vI x3)] [vI 1, vR 20 (ch_R h1 (ch_R h1 a0 2) (9 + x1)), vR 10 a0] h1) ∧ (¬ x2 = 0 → cw d cd_Sum_readSum Q 79 [some (vR 10 a0), some (vI x1), some (vI x2), some (vI x3)] [vI 2520, vR 20 (ch_R h1 (ch_R h1 a0 2) (9 + x1)), vR 10 a0] h1))))) ∧ (v2 = 0 → Q (some (vI 0)) h1)))))) : cw d cd_Sum_readSum Q 41 [some (vR 10 a0), some (vI x1), some (vI x2), some (vI x3)] [] h := by
  refine w_iload rfl rfl ?_
  refine w_iconst rfl ⟨by decide, by decide⟩ ?_
  refine w_icmp rfl (And.intro (fun hc => ?_) (fun hc => ?_))
  · replace H := H.1 hc
    refine w_iconst rfl ⟨by decide, by decide⟩ ?_
    exact w_zreturn rfl (by decide) H
  · replace H := H.2 hc
    refine w_aload rfl rfl ?_
    refine w_iload rfl rfl ?_
    refine w_callI rfl (fun _ => rfl) rfl (cI_mono H fun v2 h1 H => ?_)
    refine w_if rfl (And.intro (fun hc => ?_) (fun hc => ?_))
    · replace H := H.1 hc
      refine w_aload rfl rfl ?_
      refine w_aload rfl rfl ?_
      refine w_getR 2 23 rfl rfl rfl rfl p_a0 ?_
      refine w_iconst rfl ⟨by decide, by decide⟩ ?_
      refine w_iload rfl rfl ?_
      have o3 := H.1
      replace H := H.2
      refine w_iadd rfl o3 ?_
      have o4 := H.1
      replace H := H.2
      have o5 := H.1
      replace H := H.2
      refine w_aaload rfl rfl rfl o4 o5 ?_
      refine w_iload rfl rfl ?_
      refine w_if rfl (And.intro (fun hc => ?_) (fun hc => ?_))
      · replace H := H.1 hc
        refine w_iconst rfl ⟨by decide, by decide⟩ ?_
        exact H
      · replace H := H.2 hc
        refine w_iconst rfl ⟨by decide, by decide⟩ ?_
        refine w_goto rfl ?_
        exact H
    · replace H := H.2 hc
      refine w_iconst rfl ⟨by decide, by decide⟩ ?_
      exact w_zreturn rfl (by decide) H
set_option maxHeartbeats 4000000 in
set_option maxRecDepth 100000 in
theorem r_Sum_readSum_79 {d : Nat} {Q : cm_Q} {h : cm_H} {a0 : Nat} {x1 : Int} {z2 : Option cm_V} {x3 : Int} {s0 : Int} {b1 : Nat} {b2 : Nat} (p_a0 : 0 < a0) (H : (0 < ((ch_R h a0 2)) ∧ ((0:Int) ≤ x1 ∧ x1 < ch_L h (ch_R h a0 2)) ∧ (cU d m_Sum_add [vR 10 b2, vR 20 b1, vI s0, vR 20 (ch_R h (ch_R h a0 2) x1)] h fun h3 => (0 < ((ch_R h3 a0 0)) ∧ (((ch_I h3 (ch_R h3 a0 0) 5) = 43 → cw d cd_Sum_readSum Q 114 [some (vR 10 a0), some (vI x1), z2, some (vI x3)] [] h3) ∧ (¬ (ch_I h3 (ch_R h3 a0 0) 5) = 43 → (((ch_I h3 (ch_R h3 a0 0) 5) = 45 → cw d cd_Sum_readSum Q 114 [some (vR 10 a0), some (vI x1), z2, some (vI x3)] [] h3) ∧ (¬ (ch_I h3 (ch_R h3 a0 0) 5) = 45 → Q (some (vI 1)) h3)))))))) : cw d cd_Sum_readSum Q 79 [some (vR 10 a0), some (vI x1), z2, some (vI x3)] [vI s0, vR 20 b1, vR 10 b2] h := by
  refine w_aload rfl rfl ?_
  refine w_getR 2 23 rfl rfl rfl rfl p_a0 ?_
  refine w_iload rfl rfl ?_
  have o1 := H.1
  replace H := H.2
  have o2 := H.1
  replace H := H.2
  refine w_aaload rfl rfl rfl o1 o2 ?_
  refine w_callU rfl (fun _ => rfl) rfl (cU_mono H fun h3 H => ?_)
  refine w_aload rfl rfl ?_
  refine w_getR 0 7 rfl rfl rfl rfl p_a0 ?_
  have o4 := H.1
  replace H := H.2
  refine w_getI 5 rfl rfl rfl o4 ?_
  refine w_iconst rfl ⟨by decide, by decide⟩ ?_
  refine w_icmp rfl (And.intro (fun hc => ?_) (fun hc => ?_))
  · replace H := H.1 hc
    exact H
  · replace H := H.2 hc
    refine w_aload rfl rfl ?_
    refine w_getR 0 7 rfl rfl rfl rfl p_a0 ?_
    refine w_getI 5 rfl rfl rfl o4 ?_
    refine w_iconst rfl ⟨by decide, by decide⟩ ?_
    refine w_icmp rfl (And.intro (fun hc => ?_) (fun hc => ?_))
    · replace H := H.1 hc
      exact H
    · replace H := H.2 hc
      refine w_iconst rfl ⟨by decide, by decide⟩ ?_
      exact w_zreturn rfl (by decide) H
set_option maxHeartbeats 4000000 in
set_option maxRecDepth 100000 in
theorem r_Sum_readSum_114 {d : Nat} {Q : cm_Q} {h : cm_H} {a0 : Nat} {x1 : Int} {z2 : Option cm_V} {x3 : Int} (p_a0 : 0 < a0) (H : (0 < ((ch_R h a0 0)) ∧ ((¬ (ch_I h (ch_R h a0 0) 5) = 45 → (cU d m_Reader_advance [vR 7 (ch_R h a0 0)] h fun h2 => (cm_i (x3 + 1) ∧ cw d cd_Sum_readSum Q 41 [some (vR 10 a0), some (vI x1), some (vI 0), some (vI (x3 + 1))] [] h2))) ∧ ((ch_I h (ch_R h a0 0) 5) = 45 → (cU d m_Reader_advance [vR 7 (ch_R h a0 0)] h fun h4 => (cm_i (x3 + 1) ∧ cw d cd_Sum_readSum Q 41 [some (vR 10 a0), some (vI x1), some (vI 1), some (vI (x3 + 1))] [] h4)))))) : cw d cd_Sum_readSum Q 114 [some (vR 10 a0), some (vI x1), z2, some (vI x3)] [] h := by
  refine w_aload rfl rfl ?_
  refine w_getR 0 7 rfl rfl rfl rfl p_a0 ?_
  have o1 := H.1
  replace H := H.2
  refine w_getI 5 rfl rfl rfl o1 ?_
  refine w_iconst rfl ⟨by decide, by decide⟩ ?_
  refine w_icmp rfl (And.intro (fun hc => ?_) (fun hc => ?_))
  · replace H := H.1 hc
    refine w_iconst rfl ⟨by decide, by decide⟩ ?_
    refine w_istore rfl rfl ?_
    refine w_aload rfl rfl ?_
    refine w_getR 0 7 rfl rfl rfl rfl p_a0 ?_
    refine w_callU rfl (fun _ => rfl) rfl (cU_mono H fun h2 H => ?_)
    have o3 := H.1
    replace H := H.2
    refine w_iinc rfl rfl rfl o3 ?_
    refine w_goto rfl ?_
    exact H
  · replace H := H.2 hc
    refine w_iconst rfl ⟨by decide, by decide⟩ ?_
    refine w_goto rfl ?_
    refine w_istore rfl rfl ?_
    refine w_aload rfl rfl ?_
    refine w_getR 0 7 rfl rfl rfl rfl p_a0 ?_
    refine w_callU rfl (fun _ => rfl) rfl (cU_mono H fun h4 H => ?_)
    have o5 := H.1
    replace H := H.2
    refine w_iinc rfl rfl rfl o5 ?_
    refine w_goto rfl ?_
    exact H
set_option maxHeartbeats 4000000 in
set_option maxRecDepth 100000 in
theorem r_Sum_readSum {d : Nat} {Q : cm_Q} {h : cm_H} {a0 : Nat} {x1 : Int} (p_a0 : 0 < a0) (H : (0 < ((ch_R h a0 2)) ∧ ((0:Int) ≤ x1 ∧ x1 < ch_L h (ch_R h a0 2)) ∧ (cU d m_Arr_fill [vR 20 (ch_R h (ch_R h a0 2) x1), vI 0] h fun h3 => (0 < ((ch_R h3 a0 0)) ∧ ((¬ (ch_I h3 (ch_R h3 a0 0) 5) = 45 → cw d cd_Sum_readSum Q 27 [some (vR 10 a0), some (vI x1), none, none] [vI 0] h3) ∧ ((ch_I h3 (ch_R h3 a0 0) 5) = 45 → cw d cd_Sum_readSum Q 27 [some (vR 10 a0), some (vI x1), none, none] [vI 1] h3)))))) : cm_call (d + 1) m_Sum_readSum [vR 10 a0, vI x1] h Q := by
  refine cm_call_in (C := cd_Sum_readSum) (ls := [some (vR 10 a0), some (vI x1), none, none]) rfl rfl p_a0 rfl ?_
  refine w_aload rfl rfl ?_
  refine w_getR 2 23 rfl rfl rfl rfl p_a0 ?_
  refine w_iload rfl rfl ?_
  have o1 := H.1
  replace H := H.2
  have o2 := H.1
  replace H := H.2
  refine w_aaload rfl rfl rfl o1 o2 ?_
  refine w_iconst rfl ⟨by decide, by decide⟩ ?_
  refine w_callU rfl (fun _ => rfl) rfl (cU_mono H fun h3 H => ?_)
  refine w_aload rfl rfl ?_
  refine w_getR 0 7 rfl rfl rfl rfl p_a0 ?_
  have o4 := H.1
  replace H := H.2
  refine w_getI 5 rfl rfl rfl o4 ?_
  refine w_iconst rfl ⟨by decide, by decide⟩ ?_
  refine w_icmp rfl (And.intro (fun hc => ?_) (fun hc => ?_))
  · replace H := H.1 hc
    refine w_iconst rfl ⟨by decide, by decide⟩ ?_
    exact H
  · replace H := H.2 hc
    refine w_iconst rfl ⟨by decide, by decide⟩ ?_
    refine w_goto rfl ?_
    exact H
set_option maxHeartbeats 4000000 in
set_option maxRecDepth 100000 in
theorem r_Sum_readProduct_7 {d : Nat} {Q : cm_Q} {h : cm_H} {a0 : Nat} {x1 : Int} {x2 : Int} {x3 : Int} (p_a0 : 0 < a0) (H : ((400 < x3 → Q (some (vI 0)) h) ∧ (x3 ≤ 400 → (cI d m_Sum_readPower [vR 10 a0, vI x1] h fun v2 h1 => ((¬ v2 = 0 → ((¬ x3 = 0 → (cU d m_Sum_multiplyBy [vR 10 a0, vI x2] h1 fun h3 => cw d cd_Sum_readProduct Q 63 [some (vR 10 a0), some (vI x1), some (vI x2), some (vI x3)] [] h3)) ∧ (x3 = 0 → (0 < ((ch_R h1 a0 2)) ∧ ((0:Int) ≤ (ch_I h1 a0 3) ∧ (ch_I h1 a0 3) < ch_L h1 (ch_R h1 a0 2)) ∧ ((0:Int) ≤ x2 ∧ x2 < ch_L h1 (ch_R h1 a0 2)) ∧ (0 < ((ch_R h1 a0 1)) ∧ (0 < ((ch_R h1 (ch_R h1 a0 2) (ch_I h1 a0 3))) ∧ 0 < ((ch_R h1 (ch_R h1 a0 2) x2)) ∧ ((0:Int) ≤ 0 ∧ (0:Int) ≤ 0 ∧ (0:Int) ≤ (ch_I h1 (ch_R h1 a0 1) 1) ∧ 0 + (ch_I h1 (ch_R h1 a0 1) 1) ≤ ch_L h1 (ch_R h1 (ch_R h1 a0 2) (ch_I h1 a0 3)) ∧ 0 + (ch_I h1 (ch_R h1 a0 1) 1) ≤ ch_L h1 (ch_R h1 (ch_R h1 a0 2) x2)) ∧ (∀ h11 : cm_H, h11 = ch_cp h1 (ch_R h1 (ch_R h1 a0 2) (ch_I h1 a0 3)) 0 (ch_R h1 (ch_R h1 a0 2) x2) 0 (ch_I h1 (ch_R h1 a0 1) 1) → cw d cd_Sum_readProduct Q 63 [some (vR 10 a0), some (vI x1), some (vI x2), some (vI x3)] [] h11))))))) ∧ (v2 = 0 → Q (some (vI 0)) h1)))))) : cw d cd_Sum_readProduct Q 7 [some (vR 10 a0), some (vI x1), some (vI x2), some (vI x3)] [] h := by
  refine w_iload rfl rfl ?_
  refine w_iconst rfl ⟨by decide, by decide⟩ ?_
  refine w_icmp rfl (And.intro (fun hc => ?_) (fun hc => ?_))
  · replace H := H.1 hc
    refine w_iconst rfl ⟨by decide, by decide⟩ ?_
    exact w_zreturn rfl (by decide) H
  · replace H := H.2 hc
    refine w_aload rfl rfl ?_
    refine w_iload rfl rfl ?_
    refine w_callI rfl (fun _ => rfl) rfl (cI_mono H fun v2 h1 H => ?_)
    refine w_if rfl (And.intro (fun hc => ?_) (fun hc => ?_))
    · replace H := H.1 hc
      refine w_iload rfl rfl ?_
      refine w_if rfl (And.intro (fun hc => ?_) (fun hc => ?_))
      · replace H := H.1 hc
        refine w_aload rfl rfl ?_
        refine w_iload rfl rfl ?_
        refine w_callU rfl (fun _ => rfl) rfl (cU_mono H fun h3 H => ?_)
        exact H
      · replace H := H.2 hc
        refine w_aload rfl rfl ?_
        refine w_getR 2 23 rfl rfl rfl rfl p_a0 ?_
        refine w_aload rfl rfl ?_
        refine w_getI 3 rfl rfl rfl p_a0 ?_
        have o4 := H.1
        replace H := H.2
        have o5 := H.1
        replace H := H.2
        refine w_aaload rfl rfl rfl o4 o5 ?_
        refine w_iconst rfl ⟨by decide, by decide⟩ ?_
        refine w_aload rfl rfl ?_
        refine w_getR 2 23 rfl rfl rfl rfl p_a0 ?_
        refine w_iload rfl rfl ?_
        have o6 := H.1
        replace H := H.2
        refine w_aaload rfl rfl rfl o4 o6 ?_
        refine w_iconst rfl ⟨by decide, by decide⟩ ?_
        refine w_aload rfl rfl ?_
        refine w_getR 1 9 rfl rfl rfl rfl p_a0 ?_
        have o7 := H.1
        replace H := H.2
        refine w_getI 1 rfl rfl rfl o7 ?_
        have o8 := H.1
        replace H := H.2
        have o9 := H.1
        replace H := H.2
        have o10 := H.1
        replace H := H.2
        refine w_copy rfl rfl o8 o9 o10 (fun h11 eh11 => ?_)
        replace H := H h11 eh11
        refine w_goto rfl ?_
        exact H
    · replace H := H.2 hc
      refine w_iconst rfl ⟨by decide, by decide⟩ ?_
      exact w_zreturn rfl (by decide) H
set_option maxHeartbeats 4000000 in
set_option maxRecDepth 100000 in
theorem r_Sum_readProduct_63 {d : Nat} {Q : cm_Q} {h : cm_H} {a0 : Nat} {x1 : Int} {x2 : Int} {x3 : Int} (p_a0 : 0 < a0) (H : (0 < ((ch_R h a0 0)) ∧ (((ch_I h (ch_R h a0 0) 5) = 42 → (cU d m_Reader_advance [vR 7 (ch_R h a0 0)] h fun h2 => (cm_i (x3 + 1) ∧ cw d cd_Sum_readProduct Q 7 [some (vR 10 a0), some (vI x1), some (vI x2), some (vI (x3 + 1))] [] h2))) ∧ (¬ (ch_I h (ch_R h a0 0) 5) = 42 → Q (some (vI 1)) h)))) : cw d cd_Sum_readProduct Q 63 [some (vR 10 a0), some (vI x1), some (vI x2), some (vI x3)] [] h := by
  refine w_aload rfl rfl ?_
  refine w_getR 0 7 rfl rfl rfl rfl p_a0 ?_
  have o1 := H.1
  replace H := H.2
  refine w_getI 5 rfl rfl rfl o1 ?_
  refine w_iconst rfl ⟨by decide, by decide⟩ ?_
  refine w_icmp rfl (And.intro (fun hc => ?_) (fun hc => ?_))
  · replace H := H.1 hc
    refine w_aload rfl rfl ?_
    refine w_getR 0 7 rfl rfl rfl rfl p_a0 ?_
    refine w_callU rfl (fun _ => rfl) rfl (cU_mono H fun h2 H => ?_)
    have o3 := H.1
    replace H := H.2
    refine w_iinc rfl rfl rfl o3 ?_
    refine w_goto rfl ?_
    exact H
  · replace H := H.2 hc
    refine w_iconst rfl ⟨by decide, by decide⟩ ?_
    exact w_zreturn rfl (by decide) H
set_option maxHeartbeats 4000000 in
set_option maxRecDepth 100000 in
theorem r_Sum_readProduct {d : Nat} {Q : cm_Q} {h : cm_H} {a0 : Nat} {x1 : Int} (p_a0 : 0 < a0) (H : (cm_i (9 + x1) ∧ cw d cd_Sum_readProduct Q 7 [some (vR 10 a0), some (vI x1), some (vI (9 + x1)), some (vI 0)] [] h)) : cm_call (d + 1) m_Sum_readProduct [vR 10 a0, vI x1] h Q := by
  refine cm_call_in (C := cd_Sum_readProduct) (ls := [some (vR 10 a0), some (vI x1), none, none]) rfl rfl p_a0 rfl ?_
  refine w_iconst rfl ⟨by decide, by decide⟩ ?_
  refine w_iload rfl rfl ?_
  have o1 := H.1
  replace H := H.2
  refine w_iadd rfl o1 ?_
  refine w_istore rfl rfl ?_
  refine w_iconst rfl ⟨by decide, by decide⟩ ?_
  refine w_istore rfl rfl ?_
  exact H
set_option maxHeartbeats 4000000 in
set_option maxRecDepth 100000 in
theorem r_Sum_readPower {d : Nat} {Q : cm_Q} {h : cm_H} {a0 : Nat} {x1 : Int} (p_a0 : 0 < a0) (H : (cI d m_Sum_readPart [vR 10 a0, vI x1] h fun v2 h1 => ((¬ v2 = 0 → (0 < ((ch_R h1 a0 0)) ∧ (((ch_I h1 (ch_R h1 a0 0) 5) = 94 → (cU d m_Reader_advance [vR 7 (ch_R h1 a0 0)] h1 fun h4 => (0 < ((ch_R h4 a0 0)) ∧ ((¬ (ch_I h4 (ch_R h4 a0 0) 5) = 2 → (cI d m_Reader_refuse [vR 7 (ch_R h4 a0 0), vI 1] h4 fun v7 h6 => ((v7 = 0 ∨ v7 = 1) ∧ Q (some (vI v7)) h6))) ∧ ((ch_I h4 (ch_R h4 a0 0) 5) = 2 → (((ch_I h4 (ch_R h4 a0 0) 7) ≤ 2 → (((ch_I h4 (ch_R h4 a0 0) 6) ≤ 15 → (cU d m_Sum_raisePart [vR 10 a0, vI (ch_I h4 (ch_R h4 a0 0) 6)] h4 fun h8 => (cU d m_Reader_advance [vR 7 (ch_R h8 a0 0)] h8 fun h9 => Q (some (vI 1)) h9))) ∧ (15 < (ch_I h4 (ch_R h4 a0 0) 6) → (cI d m_Reader_refuse [vR 7 (ch_R h4 a0 0), vI 2] h4 fun v11 h10 => ((v11 = 0 ∨ v11 = 1) ∧ Q (some (vI v11)) h10))))) ∧ (2 < (ch_I h4 (ch_R h4 a0 0) 7) → (cI d m_Reader_refuse [vR 7 (ch_R h4 a0 0), vI 1] h4 fun v13 h12 => ((v13 = 0 ∨ v13 = 1) ∧ Q (some (vI v13)) h12))))))))) ∧ (¬ (ch_I h1 (ch_R h1 a0 0) 5) = 94 → Q (some (vI 1)) h1)))) ∧ (v2 = 0 → Q (some (vI 0)) h1)))) : cm_call (d + 1) m_Sum_readPower [vR 10 a0, vI x1] h Q := by
  refine cm_call_in (C := cd_Sum_readPower) (ls := [some (vR 10 a0), some (vI x1)]) rfl rfl p_a0 rfl ?_
  refine w_aload rfl rfl ?_
  refine w_iload rfl rfl ?_
  refine w_callI rfl (fun _ => rfl) rfl (cI_mono H fun v2 h1 H => ?_)
  refine w_if rfl (And.intro (fun hc => ?_) (fun hc => ?_))
  · replace H := H.1 hc
    refine w_aload rfl rfl ?_
    refine w_getR 0 7 rfl rfl rfl rfl p_a0 ?_
    have o3 := H.1
    replace H := H.2
    refine w_getI 5 rfl rfl rfl o3 ?_
    refine w_iconst rfl ⟨by decide, by decide⟩ ?_
    refine w_icmp rfl (And.intro (fun hc => ?_) (fun hc => ?_))
    · replace H := H.1 hc
      refine w_aload rfl rfl ?_
      refine w_getR 0 7 rfl rfl rfl rfl p_a0 ?_
      refine w_callU rfl (fun _ => rfl) rfl (cU_mono H fun h4 H => ?_)
      refine w_aload rfl rfl ?_
      refine w_getR 0 7 rfl rfl rfl rfl p_a0 ?_
      have o5 := H.1
      replace H := H.2
      refine w_getI 5 rfl rfl rfl o5 ?_
      refine w_iconst rfl ⟨by decide, by decide⟩ ?_
      refine w_icmp rfl (And.intro (fun hc => ?_) (fun hc => ?_))
      · replace H := H.1 hc
        refine w_aload rfl rfl ?_
        refine w_getR 0 7 rfl rfl rfl rfl p_a0 ?_
        refine w_iconst rfl ⟨by decide, by decide⟩ ?_
        refine w_callI rfl (fun _ => rfl) rfl (cI_mono H fun v7 h6 H => ?_)
        exact w_zreturn rfl H.1 H.2
      · replace H := H.2 hc
        refine w_aload rfl rfl ?_
        refine w_getR 0 7 rfl rfl rfl rfl p_a0 ?_
        refine w_getI 7 rfl rfl rfl o5 ?_
        refine w_iconst rfl ⟨by decide, by decide⟩ ?_
        refine w_icmp rfl (And.intro (fun hc => ?_) (fun hc => ?_))
        · replace H := H.1 hc
          refine w_aload rfl rfl ?_
          refine w_getR 0 7 rfl rfl rfl rfl p_a0 ?_
          refine w_getI 6 rfl rfl rfl o5 ?_
          refine w_iconst rfl ⟨by decide, by decide⟩ ?_
          refine w_icmp rfl (And.intro (fun hc => ?_) (fun hc => ?_))
          · replace H := H.1 hc
            refine w_aload rfl rfl ?_
            refine w_aload rfl rfl ?_
            refine w_getR 0 7 rfl rfl rfl rfl p_a0 ?_
            refine w_getI 6 rfl rfl rfl o5 ?_
            refine w_callU rfl (fun _ => rfl) rfl (cU_mono H fun h8 H => ?_)
            refine w_aload rfl rfl ?_
            refine w_getR 0 7 rfl rfl rfl rfl p_a0 ?_
            refine w_callU rfl (fun _ => rfl) rfl (cU_mono H fun h9 H => ?_)
            refine w_iconst rfl ⟨by decide, by decide⟩ ?_
            exact w_zreturn rfl (by decide) H
          · replace H := H.2 hc
            refine w_aload rfl rfl ?_
            refine w_getR 0 7 rfl rfl rfl rfl p_a0 ?_
            refine w_iconst rfl ⟨by decide, by decide⟩ ?_
            refine w_callI rfl (fun _ => rfl) rfl (cI_mono H fun v11 h10 H => ?_)
            exact w_zreturn rfl H.1 H.2
        · replace H := H.2 hc
          refine w_aload rfl rfl ?_
          refine w_getR 0 7 rfl rfl rfl rfl p_a0 ?_
          refine w_iconst rfl ⟨by decide, by decide⟩ ?_
          refine w_callI rfl (fun _ => rfl) rfl (cI_mono H fun v13 h12 H => ?_)
          exact w_zreturn rfl H.1 H.2
    · replace H := H.2 hc
      refine w_iconst rfl ⟨by decide, by decide⟩ ?_
      exact w_zreturn rfl (by decide) H
  · replace H := H.2 hc
    refine w_iconst rfl ⟨by decide, by decide⟩ ?_
    exact w_zreturn rfl (by decide) H
set_option maxHeartbeats 4000000 in
set_option maxRecDepth 100000 in
theorem r_Sum_readPart_55 {d : Nat} {Q : cm_Q} {h : cm_H} {a0 : Nat} {z1 : Option cm_V} {x2 : Int} (p_a0 : 0 < a0) (H : ((¬ x2 = 120 → ((¬ x2 = 121 → ((¬ x2 = 122 → (cI d m_Reader_refuse [vR 7 (ch_R h a0 0), vI 1] h fun v2 h1 => ((v2 = 0 ∨ v2 = 1) ∧ Q (some (vI v2)) h1))) ∧ (x2 = 122 → (0 < ((ch_R h a0 1)) ∧ ((¬ (ch_I h (ch_R h a0 1) 0) = 3 → (cI d m_Reader_refuse [vR 7 (ch_R h a0 0), vI 1] h fun v5 h4 => ((v5 = 0 ∨ v5 = 1) ∧ Q (some (vI v5)) h4))) ∧ ((ch_I h (ch_R h a0 1) 0) = 3 → (0 < ((ch_R h (ch_R h a0 1) 3)) ∧ ((0:Int) ≤ 1 ∧ 1 < ch_L h (ch_R h (ch_R h a0 1) 3)) ∧ (cm_i ((ch_I h (ch_R h (ch_R h a0 1) 3) 1) + 2) ∧ (cU d m_Sum_putPart [vR 10 a0, vI ((ch_I h (ch_R h (ch_R h a0 1) 3) 1) + 2), vI 1] h fun h9 => (cU d m_Reader_advance [vR 7 (ch_R h9 a0 0)] h9 fun h10 => Q (some (vI 1)) h10)))))))))) ∧ (x2 = 121 → (0 < ((ch_R h a0 1)) ∧ (0 < ((ch_R h (ch_R h a0 1) 3)) ∧ ((0:Int) ≤ 1 ∧ 1 < ch_L h (ch_R h (ch_R h a0 1) 3)) ∧ (cm_i ((ch_I h (ch_R h (ch_R h a0 1) 3) 1) + 1) ∧ (cU d m_Sum_putPart [vR 10 a0, vI ((ch_I h (ch_R h (ch_R h a0 1) 3) 1) + 1), vI 1] h fun h15 => (cU d m_Reader_advance [vR 7 (ch_R h15 a0 0)] h15 fun h16 => Q (some (vI 1)) h16)))))))) ∧ (x2 = 120 → (0 < ((ch_R h a0 1)) ∧ (0 < ((ch_R h (ch_R h a0 1) 3)) ∧ ((0:Int) ≤ 1 ∧ 1 < ch_L h (ch_R h (ch_R h a0 1) 3)) ∧ (cU d m_Sum_putPart [vR 10 a0, vI (ch_I h (ch_R h (ch_R h a0 1) 3) 1), vI 1] h fun h20 => (cU d m_Reader_advance [vR 7 (ch_R h20 a0 0)] h20 fun h21 => Q (some (vI 1)) h21))))))) : cw d cd_Sum_readPart Q 55 [some (vR 10 a0), z1, some (vI x2)] [] h := by
  refine w_iload rfl rfl ?_
  refine w_iconst rfl ⟨by decide, by decide⟩ ?_
  refine w_icmp rfl (And.intro (fun hc => ?_) (fun hc => ?_))
  · replace H := H.1 hc
    refine w_iload rfl rfl ?_
    refine w_iconst rfl ⟨by decide, by decide⟩ ?_
    refine w_icmp rfl (And.intro (fun hc => ?_) (fun hc => ?_))
    · replace H := H.1 hc
      refine w_iload rfl rfl ?_
      refine w_iconst rfl ⟨by decide, by decide⟩ ?_
      refine w_icmp rfl (And.intro (fun hc => ?_) (fun hc => ?_))
      · replace H := H.1 hc
        refine w_aload rfl rfl ?_
        refine w_getR 0 7 rfl rfl rfl rfl p_a0 ?_
        refine w_iconst rfl ⟨by decide, by decide⟩ ?_
        refine w_callI rfl (fun _ => rfl) rfl (cI_mono H fun v2 h1 H => ?_)
        exact w_zreturn rfl H.1 H.2
      · replace H := H.2 hc
        refine w_aload rfl rfl ?_
        refine w_getR 1 9 rfl rfl rfl rfl p_a0 ?_
        have o3 := H.1
        replace H := H.2
        refine w_getI 0 rfl rfl rfl o3 ?_
        refine w_iconst rfl ⟨by decide, by decide⟩ ?_
        refine w_icmp rfl (And.intro (fun hc => ?_) (fun hc => ?_))
        · replace H := H.1 hc
          refine w_aload rfl rfl ?_
          refine w_getR 0 7 rfl rfl rfl rfl p_a0 ?_
          refine w_iconst rfl ⟨by decide, by decide⟩ ?_
          refine w_callI rfl (fun _ => rfl) rfl (cI_mono H fun v5 h4 H => ?_)
          exact w_zreturn rfl H.1 H.2
        · replace H := H.2 hc
          refine w_aload rfl rfl ?_
          refine w_aload rfl rfl ?_
          refine w_getR 1 9 rfl rfl rfl rfl p_a0 ?_
          refine w_getR 3 20 rfl rfl rfl rfl o3 ?_
          refine w_iconst rfl ⟨by decide, by decide⟩ ?_
          have o6 := H.1
          replace H := H.2
          have o7 := H.1
          replace H := H.2
          refine w_iaload rfl o6 o7 ?_
          refine w_iconst rfl ⟨by decide, by decide⟩ ?_
          have o8 := H.1
          replace H := H.2
          refine w_iadd rfl o8 ?_
          refine w_iconst rfl ⟨by decide, by decide⟩ ?_
          refine w_callU rfl (fun _ => rfl) rfl (cU_mono H fun h9 H => ?_)
          refine w_goto rfl ?_
          refine w_aload rfl rfl ?_
          refine w_getR 0 7 rfl rfl rfl rfl p_a0 ?_
          refine w_callU rfl (fun _ => rfl) rfl (cU_mono H fun h10 H => ?_)
          refine w_iconst rfl ⟨by decide, by decide⟩ ?_
          exact w_zreturn rfl (by decide) H
    · replace H := H.2 hc
      refine w_aload rfl rfl ?_
      refine w_aload rfl rfl ?_
      refine w_getR 1 9 rfl rfl rfl rfl p_a0 ?_
      have o11 := H.1
      replace H := H.2
      refine w_getR 3 20 rfl rfl rfl rfl o11 ?_
      refine w_iconst rfl ⟨by decide, by decide⟩ ?_
      have o12 := H.1
      replace H := H.2
      have o13 := H.1
      replace H := H.2
      refine w_iaload rfl o12 o13 ?_
      refine w_iconst rfl ⟨by decide, by decide⟩ ?_
      have o14 := H.1
      replace H := H.2
      refine w_iadd rfl o14 ?_
      refine w_iconst rfl ⟨by decide, by decide⟩ ?_
      refine w_callU rfl (fun _ => rfl) rfl (cU_mono H fun h15 H => ?_)
      refine w_goto rfl ?_
      refine w_aload rfl rfl ?_
      refine w_getR 0 7 rfl rfl rfl rfl p_a0 ?_
      refine w_callU rfl (fun _ => rfl) rfl (cU_mono H fun h16 H => ?_)
      refine w_iconst rfl ⟨by decide, by decide⟩ ?_
      exact w_zreturn rfl (by decide) H
  · replace H := H.2 hc
    refine w_aload rfl rfl ?_
    refine w_aload rfl rfl ?_
    refine w_getR 1 9 rfl rfl rfl rfl p_a0 ?_
    have o17 := H.1
    replace H := H.2
    refine w_getR 3 20 rfl rfl rfl rfl o17 ?_
    refine w_iconst rfl ⟨by decide, by decide⟩ ?_
    have o18 := H.1
    replace H := H.2
    have o19 := H.1
    replace H := H.2
    refine w_iaload rfl o18 o19 ?_
    refine w_iconst rfl ⟨by decide, by decide⟩ ?_
    refine w_callU rfl (fun _ => rfl) rfl (cU_mono H fun h20 H => ?_)
    refine w_goto rfl ?_
    refine w_aload rfl rfl ?_
    refine w_getR 0 7 rfl rfl rfl rfl p_a0 ?_
    refine w_callU rfl (fun _ => rfl) rfl (cU_mono H fun h21 H => ?_)
    refine w_iconst rfl ⟨by decide, by decide⟩ ?_
    exact w_zreturn rfl (by decide) H
set_option maxHeartbeats 4000000 in
set_option maxRecDepth 100000 in
theorem r_Sum_readPart {d : Nat} {Q : cm_Q} {h : cm_H} {a0 : Nat} {x1 : Int} (p_a0 : 0 < a0) (H : (0 < ((ch_R h a0 0)) ∧ ((¬ (ch_I h (ch_R h a0 0) 5) = 40 → ((¬ (ch_I h (ch_R h a0 0) 5) = 2 → cw d cd_Sum_readPart Q 55 [some (vR 10 a0), some (vI x1), some (vI (ch_I h (ch_R h a0 0) 5))] [] h) ∧ ((ch_I h (ch_R h a0 0) 5) = 2 → ((4 < (ch_I h (ch_R h a0 0) 7) → cw d cd_Sum_readPart Q 55 [some (vR 10 a0), some (vI x1), some (vI (ch_I h (ch_R h a0 0) 5))] [] h) ∧ ((ch_I h (ch_R h a0 0) 7) ≤ 4 → (cU d m_Sum_putPart [vR 10 a0, vI 0, vI (Int.tmod (ch_I h (ch_R h a0 0) 6) 2521)] h fun h2 => (cU d m_Reader_advance [vR 7 (ch_R h2 a0 0)] h2 fun h3 => Q (some (vI 1)) h3))))))) ∧ ((ch_I h (ch_R h a0 0) 5) = 40 → (cI d m_Sum_readBracket [vR 10 a0, vI x1] h fun v5 h4 => ((v5 = 0 ∨ v5 = 1) ∧ Q (some (vI v5)) h4)))))) : cm_call (d + 1) m_Sum_readPart [vR 10 a0, vI x1] h Q := by
  refine cm_call_in (C := cd_Sum_readPart) (ls := [some (vR 10 a0), some (vI x1), none]) rfl rfl p_a0 rfl ?_
  refine w_aload rfl rfl ?_
  refine w_getR 0 7 rfl rfl rfl rfl p_a0 ?_
  have o1 := H.1
  replace H := H.2
  refine w_getI 5 rfl rfl rfl o1 ?_
  refine w_istore rfl rfl ?_
  refine w_iload rfl rfl ?_
  refine w_iconst rfl ⟨by decide, by decide⟩ ?_
  refine w_icmp rfl (And.intro (fun hc => ?_) (fun hc => ?_))
  · replace H := H.1 hc
    refine w_iload rfl rfl ?_
    refine w_iconst rfl ⟨by decide, by decide⟩ ?_
    refine w_icmp rfl (And.intro (fun hc => ?_) (fun hc => ?_))
    · replace H := H.1 hc
      exact H
    · replace H := H.2 hc
      refine w_aload rfl rfl ?_
      refine w_getR 0 7 rfl rfl rfl rfl p_a0 ?_
      refine w_getI 7 rfl rfl rfl o1 ?_
      refine w_iconst rfl ⟨by decide, by decide⟩ ?_
      refine w_icmp rfl (And.intro (fun hc => ?_) (fun hc => ?_))
      · replace H := H.1 hc
        exact H
      · replace H := H.2 hc
        refine w_aload rfl rfl ?_
        refine w_iconst rfl ⟨by decide, by decide⟩ ?_
        refine w_aload rfl rfl ?_
        refine w_getR 0 7 rfl rfl rfl rfl p_a0 ?_
        refine w_getI 6 rfl rfl rfl o1 ?_
        refine w_iconst rfl ⟨by decide, by decide⟩ ?_
        refine w_irem rfl (by decide) ?_
        refine w_callU rfl (fun _ => rfl) rfl (cU_mono H fun h2 H => ?_)
        refine w_goto rfl ?_
        refine w_aload rfl rfl ?_
        refine w_getR 0 7 rfl rfl rfl rfl p_a0 ?_
        refine w_callU rfl (fun _ => rfl) rfl (cU_mono H fun h3 H => ?_)
        refine w_iconst rfl ⟨by decide, by decide⟩ ?_
        exact w_zreturn rfl (by decide) H
  · replace H := H.2 hc
    refine w_aload rfl rfl ?_
    refine w_iload rfl rfl ?_
    refine w_callI rfl (fun _ => rfl) rfl (cI_mono H fun v5 h4 H => ?_)
    exact w_zreturn rfl H.1 H.2
set_option maxHeartbeats 4000000 in
set_option maxRecDepth 100000 in
theorem r_Sum_readBracket {d : Nat} {Q : cm_Q} {h : cm_H} {a0 : Nat} {x1 : Int} (p_a0 : 0 < a0) (H : ((¬ x1 = 8 → (cU d m_Reader_advance [vR 7 (ch_R h a0 0)] h fun h1 => (cm_i (x1 + 1) ∧ (cI d m_Sum_readSum [vR 10 a0, vI (x1 + 1)] h1 fun v4 h3 => ((¬ v4 = 0 → (0 < ((ch_R h3 a0 0)) ∧ (((ch_I h3 (ch_R h3 a0 0) 5) = 41 → (0 < ((ch_R h3 a0 2)) ∧ ((0:Int) ≤ (x1 + 1) ∧ (x1 + 1) < ch_L h3 (ch_R h3 a0 2)) ∧ ((0:Int) ≤ (ch_I h3 a0 3) ∧ (ch_I h3 a0 3) < ch_L h3 (ch_R h3 a0 2)) ∧ (0 < ((ch_R h3 a0 1)) ∧ (0 < ((ch_R h3 (ch_R h3 a0 2) (x1 + 1))) ∧ 0 < ((ch_R h3 (ch_R h3 a0 2) (ch_I h3 a0 3))) ∧ ((0:Int) ≤ 0 ∧ (0:Int) ≤ 0 ∧ (0:Int) ≤ (ch_I h3 (ch_R h3 a0 1) 1) ∧ 0 + (ch_I h3 (ch_R h3 a0 1) 1) ≤ ch_L h3 (ch_R h3 (ch_R h3 a0 2) (x1 + 1)) ∧ 0 + (ch_I h3 (ch_R h3 a0 1) 1) ≤ ch_L h3 (ch_R h3 (ch_R h3 a0 2) (ch_I h3 a0 3))) ∧ (∀ h13 : cm_H, h13 = ch_cp h3 (ch_R h3 (ch_R h3 a0 2) (x1 + 1)) 0 (ch_R h3 (ch_R h3 a0 2) (ch_I h3 a0 3)) 0 (ch_I h3 (ch_R h3 a0 1) 1) → (cU d m_Reader_advance [vR 7 (ch_R h13 a0 0)] h13 fun h14 => Q (some (vI 1)) h14)))))) ∧ (¬ (ch_I h3 (ch_R h3 a0 0) 5) = 41 → (cI d m_Reader_refuse [vR 7 (ch_R h3 a0 0), vI 1] h3 fun v16 h15 => ((v16 = 0 ∨ v16 = 1) ∧ Q (some (vI v16)) h15)))))) ∧ (v4 = 0 → Q (some (vI 0)) h3)))))) ∧ (x1 = 8 → (cI d m_Reader_refuse [vR 7 (ch_R h a0 0), vI 2] h fun v18 h17 => ((v18 = 0 ∨ v18 = 1) ∧ Q (some (vI v18)) h17))))) : cm_call (d + 1) m_Sum_readBracket [vR 10 a0, vI x1] h Q := by
  refine cm_call_in (C := cd_Sum_readBracket) (ls := [some (vR 10 a0), some (vI x1)]) rfl rfl p_a0 rfl ?_
  refine w_iload rfl rfl ?_
  refine w_iconst rfl ⟨by decide, by decide⟩ ?_
  refine w_icmp rfl (And.intro (fun hc => ?_) (fun hc => ?_))
  · replace H := H.1 hc
    refine w_aload rfl rfl ?_
    refine w_getR 0 7 rfl rfl rfl rfl p_a0 ?_
    refine w_callU rfl (fun _ => rfl) rfl (cU_mono H fun h1 H => ?_)
    refine w_aload rfl rfl ?_
    refine w_iload rfl rfl ?_
    refine w_iconst rfl ⟨by decide, by decide⟩ ?_
    have o2 := H.1
    replace H := H.2
    refine w_iadd rfl o2 ?_
    refine w_callI rfl (fun _ => rfl) rfl (cI_mono H fun v4 h3 H => ?_)
    refine w_if rfl (And.intro (fun hc => ?_) (fun hc => ?_))
    · replace H := H.1 hc
      refine w_aload rfl rfl ?_
      refine w_getR 0 7 rfl rfl rfl rfl p_a0 ?_
      have o5 := H.1
      replace H := H.2
      refine w_getI 5 rfl rfl rfl o5 ?_
      refine w_iconst rfl ⟨by decide, by decide⟩ ?_
      refine w_icmp rfl (And.intro (fun hc => ?_) (fun hc => ?_))
      · replace H := H.1 hc
        refine w_aload rfl rfl ?_
        refine w_getR 2 23 rfl rfl rfl rfl p_a0 ?_
        refine w_iload rfl rfl ?_
        refine w_iconst rfl ⟨by decide, by decide⟩ ?_
        refine w_iadd rfl o2 ?_
        have o6 := H.1
        replace H := H.2
        have o7 := H.1
        replace H := H.2
        refine w_aaload rfl rfl rfl o6 o7 ?_
        refine w_iconst rfl ⟨by decide, by decide⟩ ?_
        refine w_aload rfl rfl ?_
        refine w_getR 2 23 rfl rfl rfl rfl p_a0 ?_
        refine w_aload rfl rfl ?_
        refine w_getI 3 rfl rfl rfl p_a0 ?_
        have o8 := H.1
        replace H := H.2
        refine w_aaload rfl rfl rfl o6 o8 ?_
        refine w_iconst rfl ⟨by decide, by decide⟩ ?_
        refine w_aload rfl rfl ?_
        refine w_getR 1 9 rfl rfl rfl rfl p_a0 ?_
        have o9 := H.1
        replace H := H.2
        refine w_getI 1 rfl rfl rfl o9 ?_
        have o10 := H.1
        replace H := H.2
        have o11 := H.1
        replace H := H.2
        have o12 := H.1
        replace H := H.2
        refine w_copy rfl rfl o10 o11 o12 (fun h13 eh13 => ?_)
        replace H := H h13 eh13
        refine w_aload rfl rfl ?_
        refine w_getR 0 7 rfl rfl rfl rfl p_a0 ?_
        refine w_callU rfl (fun _ => rfl) rfl (cU_mono H fun h14 H => ?_)
        refine w_iconst rfl ⟨by decide, by decide⟩ ?_
        exact w_zreturn rfl (by decide) H
      · replace H := H.2 hc
        refine w_aload rfl rfl ?_
        refine w_getR 0 7 rfl rfl rfl rfl p_a0 ?_
        refine w_iconst rfl ⟨by decide, by decide⟩ ?_
        refine w_callI rfl (fun _ => rfl) rfl (cI_mono H fun v16 h15 H => ?_)
        exact w_zreturn rfl H.1 H.2
    · replace H := H.2 hc
      refine w_iconst rfl ⟨by decide, by decide⟩ ?_
      exact w_zreturn rfl (by decide) H
  · replace H := H.2 hc
    refine w_aload rfl rfl ?_
    refine w_getR 0 7 rfl rfl rfl rfl p_a0 ?_
    refine w_iconst rfl ⟨by decide, by decide⟩ ?_
    refine w_callI rfl (fun _ => rfl) rfl (cI_mono H fun v18 h17 H => ?_)
    exact w_zreturn rfl H.1 H.2
set_option maxHeartbeats 4000000 in
set_option maxRecDepth 100000 in
theorem r_Sum_putPart {d : Nat} {Q : cm_Q} {h : cm_H} {a0 : Nat} {x1 : Int} {x2 : Int} (p_a0 : 0 < a0) (H : (0 < ((ch_R h a0 2)) ∧ ((0:Int) ≤ (ch_I h a0 3) ∧ (ch_I h a0 3) < ch_L h (ch_R h a0 2)) ∧ (cU d m_Arr_fill [vR 20 (ch_R h (ch_R h a0 2) (ch_I h a0 3)), vI 0] h fun h3 => (0 < ((ch_R h3 a0 2)) ∧ ((0:Int) ≤ (ch_I h3 a0 3) ∧ (ch_I h3 a0 3) < ch_L h3 (ch_R h3 a0 2)) ∧ (0 < ((ch_R h3 (ch_R h3 a0 2) (ch_I h3 a0 3))) ∧ ((0:Int) ≤ x1 ∧ x1 < ch_L h3 (ch_R h3 (ch_R h3 a0 2) (ch_I h3 a0 3))) ∧ (∀ h8 : cm_H, h8 = ch_u h3 (ch_R h3 (ch_R h3 a0 2) (ch_I h3 a0 3)) x1 x2 → Q none h8)))))) : cm_call (d + 1) m_Sum_putPart [vR 10 a0, vI x1, vI x2] h Q := by
  refine cm_call_in (C := cd_Sum_putPart) (ls := [some (vR 10 a0), some (vI x1), some (vI x2)]) rfl rfl p_a0 rfl ?_
  refine w_aload rfl rfl ?_
  refine w_getR 2 23 rfl rfl rfl rfl p_a0 ?_
  refine w_aload rfl rfl ?_
  refine w_getI 3 rfl rfl rfl p_a0 ?_
  have o1 := H.1
  replace H := H.2
  have o2 := H.1
  replace H := H.2
  refine w_aaload rfl rfl rfl o1 o2 ?_
  refine w_iconst rfl ⟨by decide, by decide⟩ ?_
  refine w_callU rfl (fun _ => rfl) rfl (cU_mono H fun h3 H => ?_)
  refine w_aload rfl rfl ?_
  refine w_getR 2 23 rfl rfl rfl rfl p_a0 ?_
  refine w_aload rfl rfl ?_
  refine w_getI 3 rfl rfl rfl p_a0 ?_
  have o4 := H.1
  replace H := H.2
  have o5 := H.1
  replace H := H.2
  refine w_aaload rfl rfl rfl o4 o5 ?_
  refine w_iload rfl rfl ?_
  refine w_iload rfl rfl ?_
  have o6 := H.1
  replace H := H.2
  have o7 := H.1
  replace H := H.2
  refine w_iastore rfl o6 o7 (fun h8 eh8 => ?_)
  replace H := H h8 eh8
  exact w_return rfl H
set_option maxHeartbeats 4000000 in
set_option maxRecDepth 100000 in
theorem r_Sum_add_3 {d : Nat} {Q : cm_Q} {h : cm_H} {a0 : Nat} {a1 : Nat} {x2 : Int} {a3 : Nat} {x4 : Int} (p_a0 : 0 < a0) (p_a3 : 0 < a3) (p_a1 : 0 < a1) (H : (0 < ((ch_R h a0 1)) ∧ (((ch_I h (ch_R h a0 1) 1) ≤ x4 → Q none h) ∧ (x4 < (ch_I h (ch_R h a0 1) 1) → ((0:Int) ≤ x4 ∧ x4 < ch_L h a3) ∧ ((0:Int) ≤ x4 ∧ x4 < ch_L h a1) ∧ (cm_i (x2 * (ch_I h a1 x4)) ∧ (cm_i ((ch_I h a3 x4) + (x2 * (ch_I h a1 x4))) ∧ (∀ h6 : cm_H, h6 = ch_u h a3 x4 (Int.tmod ((ch_I h a3 x4) + (x2 * (ch_I h a1 x4))) 2521) → (cm_i (x4 + 1) ∧ cw d cd_Sum_add Q 3 [some (vR 10 a0), some (vR 20 a1), some (vI x2), some (vR 20 a3), some (vI (x4 + 1))] [] h6)))))))) : cw d cd_Sum_add Q 3 [some (vR 10 a0), some (vR 20 a1), some (vI x2), some (vR 20 a3), some (vI x4)] [] h := by
  refine w_iload rfl rfl ?_
  refine w_aload rfl rfl ?_
  refine w_getR 1 9 rfl rfl rfl rfl p_a0 ?_
  have o1 := H.1
  replace H := H.2
  refine w_getI 1 rfl rfl rfl o1 ?_
  refine w_icmp rfl (And.intro (fun hc => ?_) (fun hc => ?_))
  · replace H := H.1 hc
    exact w_return rfl H
  · replace H := H.2 hc
    refine w_aload rfl rfl ?_
    refine w_iload rfl rfl ?_
    refine w_aload rfl rfl ?_
    refine w_iload rfl rfl ?_
    have o2 := H.1
    replace H := H.2
    refine w_iaload rfl p_a3 o2 ?_
    refine w_iload rfl rfl ?_
    refine w_aload rfl rfl ?_
    refine w_iload rfl rfl ?_
    have o3 := H.1
    replace H := H.2
    refine w_iaload rfl p_a1 o3 ?_
    have o4 := H.1
    replace H := H.2
    refine w_imul rfl o4 ?_
    have o5 := H.1
    replace H := H.2
    refine w_iadd rfl o5 ?_
    refine w_iconst rfl ⟨by decide, by decide⟩ ?_
    refine w_irem rfl (by decide) ?_
    refine w_iastore rfl p_a3 o2 (fun h6 eh6 => ?_)
    replace H := H h6 eh6
    have o7 := H.1
    replace H := H.2
    refine w_iinc rfl rfl rfl o7 ?_
    refine w_goto rfl ?_
    exact H
set_option maxHeartbeats 4000000 in
set_option maxRecDepth 100000 in
theorem r_Sum_add {d : Nat} {Q : cm_Q} {h : cm_H} {a0 : Nat} {a1 : Nat} {x2 : Int} {a3 : Nat} (p_a0 : 0 < a0) (H : cw d cd_Sum_add Q 3 [some (vR 10 a0), some (vR 20 a1), some (vI x2), some (vR 20 a3), some (vI 0)] [] h) : cm_call (d + 1) m_Sum_add [vR 10 a0, vR 20 a1, vI x2, vR 20 a3] h Q := by
  refine cm_call_in (C := cd_Sum_add) (ls := [some (vR 10 a0), some (vR 20 a1), some (vI x2), some (vR 20 a3), none]) rfl rfl p_a0 rfl ?_
  refine w_iconst rfl ⟨by decide, by decide⟩ ?_
  refine w_istore rfl rfl ?_
  exact H
set_option maxHeartbeats 4000000 in
set_option maxRecDepth 100000 in
theorem r_Sum_multiplyBy_40 {d : Nat} {Q : cm_Q} {h : cm_H} {a0 : Nat} {x1 : Int} (p_a0 : 0 < a0) (H : ((¬ (ch_I h a0 6) = 0 → Q none h) ∧ ((ch_I h a0 6) = 0 → (0 < ((ch_R h a0 2)) ∧ ((0:Int) ≤ x1 ∧ x1 < ch_L h (ch_R h a0 2)) ∧ ((0:Int) ≤ (ch_I h a0 3) ∧ (ch_I h a0 3) < ch_L h (ch_R h a0 2)) ∧ ((0:Int) ≤ (ch_I h a0 5) ∧ (ch_I h a0 5) < ch_L h (ch_R h a0 2)) ∧ (cU d m_Shape_multiply [vR 9 (ch_R h a0 1), vR 20 (ch_R h (ch_R h a0 2) x1), vR 20 (ch_R h (ch_R h a0 2) (ch_I h a0 3)), vR 20 (ch_R h (ch_R h a0 2) (ch_I h a0 5))] h fun h5 => (0 < ((ch_R h5 a0 2)) ∧ ((0:Int) ≤ (ch_I h5 a0 5) ∧ (ch_I h5 a0 5) < ch_L h5 (ch_R h5 a0 2)) ∧ ((0:Int) ≤ x1 ∧ x1 < ch_L h5 (ch_R h5 a0 2)) ∧ (0 < ((ch_R h5 a0 1)) ∧ (0 < ((ch_R h5 (ch_R h5 a0 2) (ch_I h5 a0 5))) ∧ 0 < ((ch_R h5 (ch_R h5 a0 2) x1)) ∧ ((0:Int) ≤ 0 ∧ (0:Int) ≤ 0 ∧ (0:Int) ≤ (ch_I h5 (ch_R h5 a0 1) 1) ∧ 0 + (ch_I h5 (ch_R h5 a0 1) 1) ≤ ch_L h5 (ch_R h5 (ch_R h5 a0 2) (ch_I h5 a0 5)) ∧ 0 + (ch_I h5 (ch_R h5 a0 1) 1) ≤ ch_L h5 (ch_R h5 (ch_R h5 a0 2) x1)) ∧ (∀ h13 : cm_H, h13 = ch_cp h5 (ch_R h5 (ch_R h5 a0 2) (ch_I h5 a0 5)) 0 (ch_R h5 (ch_R h5 a0 2) x1) 0 (ch_I h5 (ch_R h5 a0 1) 1) → Q none h13))))))))) : cw d cd_Sum_multiplyBy Q 40 [some (vR 10 a0), some (vI x1)] [] h := by
  refine w_aload rfl rfl ?_
  refine w_getI 6 rfl rfl rfl p_a0 ?_
  refine w_if rfl (And.intro (fun hc => ?_) (fun hc => ?_))
  · replace H := H.1 hc
    exact w_return rfl H
  · replace H := H.2 hc
    refine w_aload rfl rfl ?_
    refine w_getR 1 9 rfl rfl rfl rfl p_a0 ?_
    refine w_aload rfl rfl ?_
    refine w_getR 2 23 rfl rfl rfl rfl p_a0 ?_
    refine w_iload rfl rfl ?_
    have o1 := H.1
    replace H := H.2
    have o2 := H.1
    replace H := H.2
    refine w_aaload rfl rfl rfl o1 o2 ?_
    refine w_aload rfl rfl ?_
    refine w_getR 2 23 rfl rfl rfl rfl p_a0 ?_
    refine w_aload rfl rfl ?_
    refine w_getI 3 rfl rfl rfl p_a0 ?_
    have o3 := H.1
    replace H := H.2
    refine w_aaload rfl rfl rfl o1 o3 ?_
    refine w_aload rfl rfl ?_
    refine w_getR 2 23 rfl rfl rfl rfl p_a0 ?_
    refine w_aload rfl rfl ?_
    refine w_getI 5 rfl rfl rfl p_a0 ?_
    have o4 := H.1
    replace H := H.2
    refine w_aaload rfl rfl rfl o1 o4 ?_
    refine w_callU rfl (fun _ => rfl) rfl (cU_mono H fun h5 H => ?_)
    refine w_aload rfl rfl ?_
    refine w_getR 2 23 rfl rfl rfl rfl p_a0 ?_
    refine w_aload rfl rfl ?_
    refine w_getI 5 rfl rfl rfl p_a0 ?_
    have o6 := H.1
    replace H := H.2
    have o7 := H.1
    replace H := H.2
    refine w_aaload rfl rfl rfl o6 o7 ?_
    refine w_iconst rfl ⟨by decide, by decide⟩ ?_
    refine w_aload rfl rfl ?_
    refine w_getR 2 23 rfl rfl rfl rfl p_a0 ?_
    refine w_iload rfl rfl ?_
    have o8 := H.1
    replace H := H.2
    refine w_aaload rfl rfl rfl o6 o8 ?_
    refine w_iconst rfl ⟨by decide, by decide⟩ ?_
    refine w_aload rfl rfl ?_
    refine w_getR 1 9 rfl rfl rfl rfl p_a0 ?_
    have o9 := H.1
    replace H := H.2
    refine w_getI 1 rfl rfl rfl o9 ?_
    have o10 := H.1
    replace H := H.2
    have o11 := H.1
    replace H := H.2
    have o12 := H.1
    replace H := H.2
    refine w_copy rfl rfl o10 o11 o12 (fun h13 eh13 => ?_)
    replace H := H h13 eh13
    exact w_return rfl H
set_option maxHeartbeats 4000000 in
set_option maxRecDepth 100000 in
theorem r_Sum_multiplyBy {d : Nat} {Q : cm_Q} {h : cm_H} {a0 : Nat} {x1 : Int} (p_a0 : 0 < a0) (H : (0 < ((ch_R h a0 2)) ∧ ((0:Int) ≤ x1 ∧ x1 < ch_L h (ch_R h a0 2)) ∧ (cI d m_Shape_degreeOf [vR 9 (ch_R h a0 1), vR 20 (ch_R h (ch_R h a0 2) x1)] h fun v4 h3 => (0 < ((ch_R h3 a0 2)) ∧ ((0:Int) ≤ (ch_I h3 a0 3) ∧ (ch_I h3 a0 3) < ch_L h3 (ch_R h3 a0 2)) ∧ (cI d m_Shape_degreeOf [vR 9 (ch_R h3 a0 1), vR 20 (ch_R h3 (ch_R h3 a0 2) (ch_I h3 a0 3))] h3 fun v8 h7 => (cm_i (v4 + v8) ∧ (((v4 + v8) ≤ 15 → cw d cd_Sum_multiplyBy Q 40 [some (vR 10 a0), some (vI x1)] [] h7) ∧ (15 < (v4 + v8) → (∀ h10 : cm_H, h10 = ch_u h7 a0 6 1 → cw d cd_Sum_multiplyBy Q 40 [some (vR 10 a0), some (vI x1)] [] h10))))))))) : cm_call (d + 1) m_Sum_multiplyBy [vR 10 a0, vI x1] h Q := by
  refine cm_call_in (C := cd_Sum_multiplyBy) (ls := [some (vR 10 a0), some (vI x1)]) rfl rfl p_a0 rfl ?_
  refine w_aload rfl rfl ?_
  refine w_getR 1 9 rfl rfl rfl rfl p_a0 ?_
  refine w_aload rfl rfl ?_
  refine w_getR 2 23 rfl rfl rfl rfl p_a0 ?_
  refine w_iload rfl rfl ?_
  have o1 := H.1
  replace H := H.2
  have o2 := H.1
  replace H := H.2
  refine w_aaload rfl rfl rfl o1 o2 ?_
  refine w_callI rfl (fun _ => rfl) rfl (cI_mono H fun v4 h3 H => ?_)
  refine w_aload rfl rfl ?_
  refine w_getR 1 9 rfl rfl rfl rfl p_a0 ?_
  refine w_aload rfl rfl ?_
  refine w_getR 2 23 rfl rfl rfl rfl p_a0 ?_
  refine w_aload rfl rfl ?_
  refine w_getI 3 rfl rfl rfl p_a0 ?_
  have o5 := H.1
  replace H := H.2
  have o6 := H.1
  replace H := H.2
  refine w_aaload rfl rfl rfl o5 o6 ?_
  refine w_callI rfl (fun _ => rfl) rfl (cI_mono H fun v8 h7 H => ?_)
  have o9 := H.1
  replace H := H.2
  refine w_iadd rfl o9 ?_
  refine w_iconst rfl ⟨by decide, by decide⟩ ?_
  refine w_icmp rfl (And.intro (fun hc => ?_) (fun hc => ?_))
  · replace H := H.1 hc
    exact H
  · replace H := H.2 hc
    refine w_aload rfl rfl ?_
    refine w_iconst rfl ⟨by decide, by decide⟩ ?_
    refine w_putZ 6 rfl rfl rfl (by decide) p_a0 (fun h10 eh10 => ?_)
    replace H := H h10 eh10
    exact H
set_option maxHeartbeats 4000000 in
set_option maxRecDepth 100000 in
theorem r_Sum_raisePart_28 {d : Nat} {Q : cm_Q} {h : cm_H} {a0 : Nat} {x1 : Int} {z2 : Option cm_V} {z3 : Option cm_V} (p_a0 : 0 < a0) (H : (((ch_I h a0 6) = 0 → (0 < ((ch_R h a0 2)) ∧ ((0:Int) ≤ (ch_I h a0 5) ∧ (ch_I h a0 5) < ch_L h (ch_R h a0 2)) ∧ (cU d m_Arr_fill [vR 20 (ch_R h (ch_R h a0 2) (ch_I h a0 5)), vI 0] h fun h3 => (0 < ((ch_R h3 a0 2)) ∧ ((0:Int) ≤ (ch_I h3 a0 5) ∧ (ch_I h3 a0 5) < ch_L h3 (ch_R h3 a0 2)) ∧ (0 < ((ch_R h3 (ch_R h3 a0 2) (ch_I h3 a0 5))) ∧ ((0:Int) ≤ 0 ∧ 0 < ch_L h3 (ch_R h3 (ch_R h3 a0 2) (ch_I h3 a0 5))) ∧ (∀ h8 : cm_H, h8 = ch_u h3 (ch_R h3 (ch_R h3 a0 2) (ch_I h3 a0 5)) 0 1 → cw d cd_Sum_raisePart Q 63 [some (vR 10 a0), some (vI x1), some (vI 0), z3] [] h8)))))) ∧ (¬ (ch_I h a0 6) = 0 → Q none h))) : cw d cd_Sum_raisePart Q 28 [some (vR 10 a0), some (vI x1), z2, z3] [] h := by
  refine w_aload rfl rfl ?_
  refine w_getI 6 rfl rfl rfl p_a0 ?_
  refine w_if rfl (And.intro (fun hc => ?_) (fun hc => ?_))
  · replace H := H.1 hc
    refine w_aload rfl rfl ?_
    refine w_getR 2 23 rfl rfl rfl rfl p_a0 ?_
    refine w_aload rfl rfl ?_
    refine w_getI 5 rfl rfl rfl p_a0 ?_
    have o1 := H.1
    replace H := H.2
    have o2 := H.1
    replace H := H.2
    refine w_aaload rfl rfl rfl o1 o2 ?_
    refine w_iconst rfl ⟨by decide, by decide⟩ ?_
    refine w_callU rfl (fun _ => rfl) rfl (cU_mono H fun h3 H => ?_)
    refine w_aload rfl rfl ?_
    refine w_getR 2 23 rfl rfl rfl rfl p_a0 ?_
    refine w_aload rfl rfl ?_
    refine w_getI 5 rfl rfl rfl p_a0 ?_
    have o4 := H.1
    replace H := H.2
    have o5 := H.1
    replace H := H.2
    refine w_aaload rfl rfl rfl o4 o5 ?_
    refine w_iconst rfl ⟨by decide, by decide⟩ ?_
    refine w_iconst rfl ⟨by decide, by decide⟩ ?_
    have o6 := H.1
    replace H := H.2
    have o7 := H.1
    replace H := H.2
    refine w_iastore rfl o6 o7 (fun h8 eh8 => ?_)
    replace H := H h8 eh8
    refine w_iconst rfl ⟨by decide, by decide⟩ ?_
    refine w_istore rfl rfl ?_
    exact H
  · replace H := H.2 hc
    exact w_return rfl H
set_option maxHeartbeats 4000000 in
set_option maxRecDepth 100000 in
theorem r_Sum_raisePart_63 {d : Nat} {Q : cm_Q} {h : cm_H} {a0 : Nat} {x1 : Int} {x2 : Int} {z3 : Option cm_V} (p_a0 : 0 < a0) (H : ((x1 ≤ x2 → (∀ h1 : cm_H, h1 = ch_u h a0 5 (ch_I h a0 3) → (∀ h2 : cm_H, h2 = ch_u h1 a0 3 (ch_I h a0 5) → Q none h2))) ∧ (x2 < x1 → (∀ h3 : cm_H, h3 = ch_u h a0 5 (ch_I h a0 4) → (∀ h4 : cm_H, h4 = ch_u h3 a0 4 (ch_I h a0 5) → (0 < ((ch_R h4 a0 2)) ∧ ((0:Int) ≤ (ch_I h4 a0 3) ∧ (ch_I h4 a0 3) < ch_L h4 (ch_R h4 a0 2)) ∧ ((0:Int) ≤ (ch_I h4 a0 4) ∧ (ch_I h4 a0 4) < ch_L h4 (ch_R h4 a0 2)) ∧ ((0:Int) ≤ (ch_I h4 a0 5) ∧ (ch_I h4 a0 5) < ch_L h4 (ch_R h4 a0 2)) ∧ (cU d m_Shape_multiply [vR 9 (ch_R h4 a0 1), vR 20 (ch_R h4 (ch_R h4 a0 2) (ch_I h4 a0 3)), vR 20 (ch_R h4 (ch_R h4 a0 2) (ch_I h4 a0 4)), vR 20 (ch_R h4 (ch_R h4 a0 2) (ch_I h4 a0 5))] h4 fun h9 => (cm_i (x2 + 1) ∧ cw d cd_Sum_raisePart Q 63 [some (vR 10 a0), some (vI x1), some (vI (x2 + 1)), some (vI (ch_I h a0 5))] [] h9)))))))) : cw d cd_Sum_raisePart Q 63 [some (vR 10 a0), some (vI x1), some (vI x2), z3] [] h := by
  refine w_iload rfl rfl ?_
  refine w_iload rfl rfl ?_
  refine w_icmp rfl (And.intro (fun hc => ?_) (fun hc => ?_))
  · replace H := H.1 hc
    refine w_aload rfl rfl ?_
    refine w_getI 5 rfl rfl rfl p_a0 ?_
    refine w_istore rfl rfl ?_
    refine w_aload rfl rfl ?_
    refine w_aload rfl rfl ?_
    refine w_getI 3 rfl rfl rfl p_a0 ?_
    refine w_putI 5 rfl rfl rfl p_a0 (fun h1 eh1 => ?_)
    replace H := H h1 eh1
    refine w_aload rfl rfl ?_
    refine w_iload rfl rfl ?_
    refine w_putI 3 rfl rfl rfl p_a0 (fun h2 eh2 => ?_)
    replace H := H h2 eh2
    exact w_return rfl H
  · replace H := H.2 hc
    refine w_aload rfl rfl ?_
    refine w_getI 5 rfl rfl rfl p_a0 ?_
    refine w_istore rfl rfl ?_
    refine w_aload rfl rfl ?_
    refine w_aload rfl rfl ?_
    refine w_getI 4 rfl rfl rfl p_a0 ?_
    refine w_putI 5 rfl rfl rfl p_a0 (fun h3 eh3 => ?_)
    replace H := H h3 eh3
    refine w_aload rfl rfl ?_
    refine w_iload rfl rfl ?_
    refine w_putI 4 rfl rfl rfl p_a0 (fun h4 eh4 => ?_)
    replace H := H h4 eh4
    refine w_aload rfl rfl ?_
    refine w_getR 1 9 rfl rfl rfl rfl p_a0 ?_
    refine w_aload rfl rfl ?_
    refine w_getR 2 23 rfl rfl rfl rfl p_a0 ?_
    refine w_aload rfl rfl ?_
    refine w_getI 3 rfl rfl rfl p_a0 ?_
    have o5 := H.1
    replace H := H.2
    have o6 := H.1
    replace H := H.2
    refine w_aaload rfl rfl rfl o5 o6 ?_
    refine w_aload rfl rfl ?_
    refine w_getR 2 23 rfl rfl rfl rfl p_a0 ?_
    refine w_aload rfl rfl ?_
    refine w_getI 4 rfl rfl rfl p_a0 ?_
    have o7 := H.1
    replace H := H.2
    refine w_aaload rfl rfl rfl o5 o7 ?_
    refine w_aload rfl rfl ?_
    refine w_getR 2 23 rfl rfl rfl rfl p_a0 ?_
    refine w_aload rfl rfl ?_
    refine w_getI 5 rfl rfl rfl p_a0 ?_
    have o8 := H.1
    replace H := H.2
    refine w_aaload rfl rfl rfl o5 o8 ?_
    refine w_callU rfl (fun _ => rfl) rfl (cU_mono H fun h9 H => ?_)
    have o10 := H.1
    replace H := H.2
    refine w_iinc rfl rfl rfl o10 ?_
    refine w_goto rfl ?_
    exact H
set_option maxHeartbeats 4000000 in
set_option maxRecDepth 100000 in
theorem r_Sum_raisePart {d : Nat} {Q : cm_Q} {h : cm_H} {a0 : Nat} {x1 : Int} (p_a0 : 0 < a0) (H : (0 < ((ch_R h a0 2)) ∧ ((0:Int) ≤ (ch_I h a0 3) ∧ (ch_I h a0 3) < ch_L h (ch_R h a0 2)) ∧ (cI d m_Shape_degreeOf [vR 9 (ch_R h a0 1), vR 20 (ch_R h (ch_R h a0 2) (ch_I h a0 3))] h fun v4 h3 => (cm_i (v4 * x1) ∧ (((v4 * x1) ≤ 15 → cw d cd_Sum_raisePart Q 28 [some (vR 10 a0), some (vI x1), none, none] [] h3) ∧ (15 < (v4 * x1) → (∀ h6 : cm_H, h6 = ch_u h3 a0 6 1 → cw d cd_Sum_raisePart Q 28 [some (vR 10 a0), some (vI x1), none, none] [] h6))))))) : cm_call (d + 1) m_Sum_raisePart [vR 10 a0, vI x1] h Q := by
  refine cm_call_in (C := cd_Sum_raisePart) (ls := [some (vR 10 a0), some (vI x1), none, none]) rfl rfl p_a0 rfl ?_
  refine w_aload rfl rfl ?_
  refine w_getR 1 9 rfl rfl rfl rfl p_a0 ?_
  refine w_aload rfl rfl ?_
  refine w_getR 2 23 rfl rfl rfl rfl p_a0 ?_
  refine w_aload rfl rfl ?_
  refine w_getI 3 rfl rfl rfl p_a0 ?_
  have o1 := H.1
  replace H := H.2
  have o2 := H.1
  replace H := H.2
  refine w_aaload rfl rfl rfl o1 o2 ?_
  refine w_callI rfl (fun _ => rfl) rfl (cI_mono H fun v4 h3 H => ?_)
  refine w_iload rfl rfl ?_
  have o5 := H.1
  replace H := H.2
  refine w_imul rfl o5 ?_
  refine w_iconst rfl ⟨by decide, by decide⟩ ?_
  refine w_icmp rfl (And.intro (fun hc => ?_) (fun hc => ?_))
  · replace H := H.1 hc
    exact H
  · replace H := H.2 hc
    refine w_aload rfl rfl ?_
    refine w_iconst rfl ⟨by decide, by decide⟩ ?_
    refine w_putZ 6 rfl rfl rfl (by decide) p_a0 (fun h6 eh6 => ?_)
    replace H := H h6 eh6
    exact H
set_option maxHeartbeats 4000000 in
set_option maxRecDepth 100000 in
theorem r_Mover_init {d : Nat} {Q : cm_Q} {h : cm_H} {a0 : Nat} (p_a0 : 0 < a0) (H : (∀ h1 : cm_H, h1 = ch_new h 20 9 (Int.toNat 9) → (∀ h2 : cm_H, h2 = ch_r h1 a0 2 (ch_n h) → (∀ h3 : cm_H, h3 = ch_new h2 20 3 (Int.toNat 3) → (∀ h4 : cm_H, h4 = ch_r h3 a0 4 (ch_n h2) → (∀ h5 : cm_H, h5 = ch_new h4 20 3 (Int.toNat 3) → (∀ h6 : cm_H, h6 = ch_r h5 a0 5 (ch_n h4) → (∀ h7 : cm_H, h7 = ch_new h6 20 3 (Int.toNat 3) → (∀ h8 : cm_H, h8 = ch_r h7 a0 6 (ch_n h6) → (∀ h9 : cm_H, h9 = ch_new h8 20 136 (Int.toNat 136) → (∀ h10 : cm_H, h10 = ch_r h9 a0 7 (ch_n h8) → (∀ h11 : cm_H, h11 = ch_new h10 20 136 (Int.toNat 136) → (∀ h12 : cm_H, h12 = ch_r h11 a0 8 (ch_n h10) → (∀ h13 : cm_H, h13 = ch_new h12 20 816 (Int.toNat 816) → (∀ h14 : cm_H, h14 = ch_r h13 a0 9 (ch_n h12) → (∀ h15 : cm_H, h15 = ch_new h14 5 0 3 → (cU d m_Piece_init [vR 5 (ch_n h14)] h15 fun h16 => (∀ h17 : cm_H, h17 = ch_r h16 a0 11 (ch_n h14) → Q none h17)))))))))))))))))) : cm_call (d + 1) m_Mover_init [vR 4 a0] h Q := by
  refine cm_call_in (C := cd_Mover_init) (ls := [some (vR 4 a0)]) rfl rfl p_a0 rfl ?_
  refine w_aload rfl rfl ?_
  refine w_objInit rfl rfl p_a0 ?_
  refine w_aload rfl rfl ?_
  refine w_iconst rfl ⟨by decide, by decide⟩ ?_
  refine w_newI rfl (by decide) (fun h1 eh1 => ?_)
  replace H := H h1 eh1
  refine w_putR 2 rfl rfl rfl rfl p_a0 (fun h2 eh2 => ?_)
  replace H := H h2 eh2
  refine w_aload rfl rfl ?_
  refine w_iconst rfl ⟨by decide, by decide⟩ ?_
  refine w_newI rfl (by decide) (fun h3 eh3 => ?_)
  replace H := H h3 eh3
  refine w_putR 4 rfl rfl rfl rfl p_a0 (fun h4 eh4 => ?_)
  replace H := H h4 eh4
  refine w_aload rfl rfl ?_
  refine w_iconst rfl ⟨by decide, by decide⟩ ?_
  refine w_newI rfl (by decide) (fun h5 eh5 => ?_)
  replace H := H h5 eh5
  refine w_putR 5 rfl rfl rfl rfl p_a0 (fun h6 eh6 => ?_)
  replace H := H h6 eh6
  refine w_aload rfl rfl ?_
  refine w_iconst rfl ⟨by decide, by decide⟩ ?_
  refine w_newI rfl (by decide) (fun h7 eh7 => ?_)
  replace H := H h7 eh7
  refine w_putR 6 rfl rfl rfl rfl p_a0 (fun h8 eh8 => ?_)
  replace H := H h8 eh8
  refine w_aload rfl rfl ?_
  refine w_iconst rfl ⟨by decide, by decide⟩ ?_
  refine w_newI rfl (by decide) (fun h9 eh9 => ?_)
  replace H := H h9 eh9
  refine w_putR 7 rfl rfl rfl rfl p_a0 (fun h10 eh10 => ?_)
  replace H := H h10 eh10
  refine w_aload rfl rfl ?_
  refine w_iconst rfl ⟨by decide, by decide⟩ ?_
  refine w_newI rfl (by decide) (fun h11 eh11 => ?_)
  replace H := H h11 eh11
  refine w_putR 8 rfl rfl rfl rfl p_a0 (fun h12 eh12 => ?_)
  replace H := H h12 eh12
  refine w_aload rfl rfl ?_
  refine w_iconst rfl ⟨by decide, by decide⟩ ?_
  refine w_newI rfl (by decide) (fun h13 eh13 => ?_)
  replace H := H h13 eh13
  refine w_putR 9 rfl rfl rfl rfl p_a0 (fun h14 eh14 => ?_)
  replace H := H h14 eh14
  refine w_aload rfl rfl ?_
  refine w_new 5 3 rfl rfl rfl (fun h15 eh15 => ?_)
  replace H := H h15 eh15
  refine w_dup rfl rfl ?_
  refine w_callU rfl (fun _ => rfl) rfl (cU_mono H fun h16 H => ?_)
  refine w_putR 11 rfl rfl rfl rfl p_a0 (fun h17 eh17 => ?_)
  replace H := H h17 eh17
  exact w_return rfl H
set_option maxHeartbeats 4000000 in
set_option maxRecDepth 100000 in
theorem r_Mover_begin {d : Nat} {Q : cm_Q} {h : cm_H} {a0 : Nat} {a1 : Nat} {a2 : Nat} (p_a0 : 0 < a0) (H : (∀ h1 : cm_H, h1 = ch_r h a0 0 a1 → (∀ h2 : cm_H, h2 = ch_r h1 a0 1 a2 → Q none h2))) : cm_call (d + 1) m_Mover_begin [vR 4 a0, vR 9 a1, vR 3 a2] h Q := by
  refine cm_call_in (C := cd_Mover_begin) (ls := [some (vR 4 a0), some (vR 9 a1), some (vR 3 a2)]) rfl rfl p_a0 rfl ?_
  refine w_aload rfl rfl ?_
  refine w_aload rfl rfl ?_
  refine w_putR 0 rfl rfl rfl rfl p_a0 (fun h1 eh1 => ?_)
  replace H := H h1 eh1
  refine w_aload rfl rfl ?_
  refine w_aload rfl rfl ?_
  refine w_putR 1 rfl rfl rfl rfl p_a0 (fun h2 eh2 => ?_)
  replace H := H h2 eh2
  exact w_return rfl H
set_option maxHeartbeats 4000000 in
set_option maxRecDepth 100000 in
theorem r_Mover_use_15 {d : Nat} {Q : cm_Q} {h : cm_H} {a0 : Nat} {x1 : Int} {x2 : Int} {x3 : Int} {z4 : Option cm_V} {z5 : Option cm_V} {z6 : Option cm_V} (p_a0 : 0 < a0) (H : ((3 ≤ x3 → (0 < ((ch_R h a0 9)) ∧ ((0:Int) ≤ 0 ∧ 0 < ch_L h (ch_R h a0 9)) ∧ (∀ h3 : cm_H, h3 = ch_u h (ch_R h a0 9) 0 1 → (∀ h4 : cm_H, h4 = ch_u h3 a0 10 0 → Q none h4)))) ∧ (x3 < 3 → cw d cd_Mover_use Q 26 [some (vR 4 a0), some (vI x1), some (vI x2), some (vI x3), some (vI 0), some (vI 0), z6] [] h))) : cw d cd_Mover_use Q 15 [some (vR 4 a0), some (vI x1), some (vI x2), some (vI x3), z4, z5, z6] [] h := by
  refine w_iload rfl rfl ?_
  refine w_iconst rfl ⟨by decide, by decide⟩ ?_
  refine w_icmp rfl (And.intro (fun hc => ?_) (fun hc => ?_))
  · replace H := H.1 hc
    refine w_aload rfl rfl ?_
    refine w_getR 9 20 rfl rfl rfl rfl p_a0 ?_
    refine w_iconst rfl ⟨by decide, by decide⟩ ?_
    refine w_iconst rfl ⟨by decide, by decide⟩ ?_
    have o1 := H.1
    replace H := H.2
    have o2 := H.1
    replace H := H.2
    refine w_iastore rfl o1 o2 (fun h3 eh3 => ?_)
    replace H := H h3 eh3
    refine w_aload rfl rfl ?_
    refine w_iconst rfl ⟨by decide, by decide⟩ ?_
    refine w_putI 10 rfl rfl rfl p_a0 (fun h4 eh4 => ?_)
    replace H := H h4 eh4
    exact w_return rfl H
  · replace H := H.2 hc
    refine w_iconst rfl ⟨by decide, by decide⟩ ?_
    refine w_istore rfl rfl ?_
    refine w_iconst rfl ⟨by decide, by decide⟩ ?_
    refine w_istore rfl rfl ?_
    exact H
set_option maxHeartbeats 4000000 in
set_option maxRecDepth 100000 in
theorem r_Mover_use_26 {d : Nat} {Q : cm_Q} {h : cm_H} {a0 : Nat} {x1 : Int} {x2 : Int} {x3 : Int} {x4 : Int} {x5 : Int} {z6 : Option cm_V} (p_a0 : 0 < a0) (H : ((3 ≤ x5 → (((ch_I h a0 3) = 0 → (∀ h1 : cm_H, h1 = ch_u h a0 3 0 → (cm_i (x3 + 1) ∧ cw d cd_Mover_use Q 15 [some (vR 4 a0), some (vI x1), some (vI x2), some (vI (x3 + 1)), some (vI x4), some (vI x5), z6] [] h1))) ∧ (¬ (ch_I h a0 3) = 0 → ((¬ x4 = 1 → (∀ h3 : cm_H, h3 = ch_u h a0 3 0 → (cm_i (x3 + 1) ∧ cw d cd_Mover_use Q 15 [some (vR 4 a0), some (vI x1), some (vI x2), some (vI (x3 + 1)), some (vI x4), some (vI x5), z6] [] h3))) ∧ (x4 = 1 → (∀ h5 : cm_H, h5 = ch_u h a0 3 1 → (cm_i (x3 + 1) ∧ cw d cd_Mover_use Q 15 [some (vR 4 a0), some (vI x1), some (vI x2), some (vI (x3 + 1)), some (vI x4), some (vI x5), z6] [] h5))))))) ∧ (x5 < 3 → ((¬ x3 = x5 → cw d cd_Mover_use Q 43 [some (vR 4 a0), some (vI x1), some (vI x2), some (vI x3), some (vI x4), some (vI x5), z6] [vI 0] h) ∧ (x3 = x5 → cw d cd_Mover_use Q 43 [some (vR 4 a0), some (vI x1), some (vI x2), some (vI x3), some (vI x4), some (vI x5), z6] [vI 1] h))))) : cw d cd_Mover_use Q 26 [some (vR 4 a0), some (vI x1), some (vI x2), some (vI x3), some (vI x4), some (vI x5), z6] [] h := by
  refine w_iload rfl rfl ?_
  refine w_iconst rfl ⟨by decide, by decide⟩ ?_
  refine w_icmp rfl (And.intro (fun hc => ?_) (fun hc => ?_))
  · replace H := H.1 hc
    refine w_aload rfl rfl ?_
    refine w_aload rfl rfl ?_
    refine w_getI 3 rfl rfl rfl p_a0 ?_
    refine w_if rfl (And.intro (fun hc => ?_) (fun hc => ?_))
    · replace H := H.1 hc
      refine w_iconst rfl ⟨by decide, by decide⟩ ?_
      refine w_putZ 3 rfl rfl rfl (by decide) p_a0 (fun h1 eh1 => ?_)
      replace H := H h1 eh1
      have o2 := H.1
      replace H := H.2
      refine w_iinc rfl rfl rfl o2 ?_
      refine w_goto rfl ?_
      exact H
    · replace H := H.2 hc
      refine w_iload rfl rfl ?_
      refine w_iconst rfl ⟨by decide, by decide⟩ ?_
      refine w_icmp rfl (And.intro (fun hc => ?_) (fun hc => ?_))
      · replace H := H.1 hc
        refine w_iconst rfl ⟨by decide, by decide⟩ ?_
        refine w_putZ 3 rfl rfl rfl (by decide) p_a0 (fun h3 eh3 => ?_)
        replace H := H h3 eh3
        have o4 := H.1
        replace H := H.2
        refine w_iinc rfl rfl rfl o4 ?_
        refine w_goto rfl ?_
        exact H
      · replace H := H.2 hc
        refine w_iconst rfl ⟨by decide, by decide⟩ ?_
        refine w_goto rfl ?_
        refine w_putZ 3 rfl rfl rfl (by decide) p_a0 (fun h5 eh5 => ?_)
        replace H := H h5 eh5
        have o6 := H.1
        replace H := H.2
        refine w_iinc rfl rfl rfl o6 ?_
        refine w_goto rfl ?_
        exact H
  · replace H := H.2 hc
    refine w_iload rfl rfl ?_
    refine w_iload rfl rfl ?_
    refine w_icmp rfl (And.intro (fun hc => ?_) (fun hc => ?_))
    · replace H := H.1 hc
      refine w_iconst rfl ⟨by decide, by decide⟩ ?_
      exact H
    · replace H := H.2 hc
      refine w_iconst rfl ⟨by decide, by decide⟩ ?_
      refine w_goto rfl ?_
      exact H
set_option maxHeartbeats 4000000 in
set_option maxRecDepth 100000 in
theorem r_Mover_use_43 {d : Nat} {Q : cm_Q} {h : cm_H} {a0 : Nat} {x1 : Int} {x2 : Int} {x3 : Int} {x4 : Int} {x5 : Int} {z6 : Option cm_V} {s0 : Int}  (H : ((x2 = 3 → cw d cd_Mover_use Q 61 [some (vR 4 a0), some (vI x1), some (vI x2), some (vI x3), some (vI x4), some (vI x5), some (vI s0)] [] h) ∧ (¬ x2 = 3 → ((2 ≤ x3 → cw d cd_Mover_use Q 82 [some (vR 4 a0), some (vI x1), some (vI x2), some (vI x3), some (vI x4), some (vI x5), some (vI s0)] [] h) ∧ (x3 < 2 → ((2 ≤ x5 → cw d cd_Mover_use Q 82 [some (vR 4 a0), some (vI x1), some (vI x2), some (vI x3), some (vI x4), some (vI x5), some (vI s0)] [] h) ∧ (x5 < 2 → cw d cd_Mover_use Q 61 [some (vR 4 a0), some (vI x1), some (vI x2), some (vI x3), some (vI x4), some (vI x5), some (vI s0)] [] h))))))) : cw d cd_Mover_use Q 43 [some (vR 4 a0), some (vI x1), some (vI x2), some (vI x3), some (vI x4), some (vI x5), z6] [vI s0] h := by
  refine w_istore rfl rfl ?_
  refine w_iload rfl rfl ?_
  refine w_iconst rfl ⟨by decide, by decide⟩ ?_
  refine w_icmp rfl (And.intro (fun hc => ?_) (fun hc => ?_))
  · replace H := H.1 hc
    exact H
  · replace H := H.2 hc
    refine w_iload rfl rfl ?_
    refine w_iconst rfl ⟨by decide, by decide⟩ ?_
    refine w_icmp rfl (And.intro (fun hc => ?_) (fun hc => ?_))
    · replace H := H.1 hc
      exact H
    · replace H := H.2 hc
      refine w_iload rfl rfl ?_
      refine w_iconst rfl ⟨by decide, by decide⟩ ?_
      refine w_icmp rfl (And.intro (fun hc => ?_) (fun hc => ?_))
      · replace H := H.1 hc
        exact H
      · replace H := H.2 hc
        exact H
set_option maxHeartbeats 4000000 in
set_option maxRecDepth 100000 in
theorem r_Mover_use_61 {d : Nat} {Q : cm_Q} {h : cm_H} {a0 : Nat} {x1 : Int} {x2 : Int} {x3 : Int} {x4 : Int} {x5 : Int} {z6 : Option cm_V} (p_a0 : 0 < a0) (H : (0 < ((ch_R h a0 1)) ∧ (cm_i (9 * x1) ∧ (cm_i (x2 * x3) ∧ (cm_i ((9 * x1) + (x2 * x3)) ∧ (cm_i (((9 * x1) + (x2 * x3)) + x5) ∧ (0 < ((ch_R h (ch_R h a0 1) 4)) ∧ ((0:Int) ≤ (((9 * x1) + (x2 * x3)) + x5) ∧ (((9 * x1) + (x2 * x3)) + x5) < ch_L h (ch_R h (ch_R h a0 1) 4)) ∧ cw d cd_Mover_use Q 82 [some (vR 4 a0), some (vI x1), some (vI x2), some (vI x3), some (vI x4), some (vI x5), some (vI (ch_I h (ch_R h (ch_R h a0 1) 4) (((9 * x1) + (x2 * x3)) + x5)))] [] h))))))) : cw d cd_Mover_use Q 61 [some (vR 4 a0), some (vI x1), some (vI x2), some (vI x3), some (vI x4), some (vI x5), z6] [] h := by
  refine w_aload rfl rfl ?_
  refine w_getR 1 3 rfl rfl rfl rfl p_a0 ?_
  have o1 := H.1
  replace H := H.2
  refine w_getR 4 20 rfl rfl rfl rfl o1 ?_
  refine w_iconst rfl ⟨by decide, by decide⟩ ?_
  refine w_iload rfl rfl ?_
  have o2 := H.1
  replace H := H.2
  refine w_imul rfl o2 ?_
  refine w_iload rfl rfl ?_
  refine w_iload rfl rfl ?_
  have o3 := H.1
  replace H := H.2
  refine w_imul rfl o3 ?_
  have o4 := H.1
  replace H := H.2
  refine w_iadd rfl o4 ?_
  refine w_iload rfl rfl ?_
  have o5 := H.1
  replace H := H.2
  refine w_iadd rfl o5 ?_
  have o6 := H.1
  replace H := H.2
  have o7 := H.1
  replace H := H.2
  refine w_iaload rfl o6 o7 ?_
  refine w_istore rfl rfl ?_
  exact H
set_option maxHeartbeats 4000000 in
set_option maxRecDepth 100000 in
theorem r_Mover_use_82 {d : Nat} {Q : cm_Q} {h : cm_H} {a0 : Nat} {x1 : Int} {x2 : Int} {x3 : Int} {x4 : Int} {x5 : Int} {x6 : Int} (p_a0 : 0 < a0) (H : (cm_i (3 * x3) ∧ (cm_i ((3 * x3) + x5) ∧ (0 < ((ch_R h a0 2)) ∧ ((0:Int) ≤ ((3 * x3) + x5) ∧ ((3 * x3) + x5) < ch_L h (ch_R h a0 2)) ∧ (∀ h5 : cm_H, h5 = ch_u h (ch_R h a0 2) ((3 * x3) + x5) x6 → ((x6 = 0 → (cm_i (x5 + 1) ∧ cw d cd_Mover_use Q 26 [some (vR 4 a0), some (vI x1), some (vI x2), some (vI x3), some (vI x4), some (vI (x5 + 1)), some (vI x6)] [] h5)) ∧ (¬ x6 = 0 → (cm_i (x4 + 1) ∧ (0 < ((ch_R h5 a0 4)) ∧ ((0:Int) ≤ x3 ∧ x3 < ch_L h5 (ch_R h5 a0 4)) ∧ (∀ h10 : cm_H, h10 = ch_u h5 (ch_R h5 a0 4) x3 x5 → (0 < ((ch_R h10 a0 5)) ∧ ((0:Int) ≤ x3 ∧ x3 < ch_L h10 (ch_R h10 a0 5)) ∧ (∀ h13 : cm_H, h13 = ch_u h10 (ch_R h10 a0 5) x3 x6 → (cm_i (x5 + 1) ∧ cw d cd_Mover_use Q 26 [some (vR 4 a0), some (vI x1), some (vI x2), some (vI x3), some (vI (x4 + 1)), some (vI (x5 + 1)), some (vI x6)] [] h13))))))))))))) : cw d cd_Mover_use Q 82 [some (vR 4 a0), some (vI x1), some (vI x2), some (vI x3), some (vI x4), some (vI x5), some (vI x6)] [] h := by
  refine w_aload rfl rfl ?_
  refine w_getR 2 20 rfl rfl rfl rfl p_a0 ?_
  refine w_iconst rfl ⟨by decide, by decide⟩ ?_
  refine w_iload rfl rfl ?_
  have o1 := H.1
  replace H := H.2
  refine w_imul rfl o1 ?_
  refine w_iload rfl rfl ?_
  have o2 := H.1
  replace H := H.2
  refine w_iadd rfl o2 ?_
  refine w_iload rfl rfl ?_
  have o3 := H.1
  replace H := H.2
  have o4 := H.1
  replace H := H.2
  refine w_iastore rfl o3 o4 (fun h5 eh5 => ?_)
  replace H := H h5 eh5
  refine w_iload rfl rfl ?_
  refine w_if rfl (And.intro (fun hc => ?_) (fun hc => ?_))
  · replace H := H.1 hc
    have o6 := H.1
    replace H := H.2
    refine w_iinc rfl rfl rfl o6 ?_
    refine w_goto rfl ?_
    exact H
  · replace H := H.2 hc
    have o7 := H.1
    replace H := H.2
    refine w_iinc rfl rfl rfl o7 ?_
    refine w_aload rfl rfl ?_
    refine w_getR 4 20 rfl rfl rfl rfl p_a0 ?_
    refine w_iload rfl rfl ?_
    refine w_iload rfl rfl ?_
    have o8 := H.1
    replace H := H.2
    have o9 := H.1
    replace H := H.2
    refine w_iastore rfl o8 o9 (fun h10 eh10 => ?_)
    replace H := H h10 eh10
    refine w_aload rfl rfl ?_
    refine w_getR 5 20 rfl rfl rfl rfl p_a0 ?_
    refine w_iload rfl rfl ?_
    refine w_iload rfl rfl ?_
    have o11 := H.1
    replace H := H.2
    have o12 := H.1
    replace H := H.2
    refine w_iastore rfl o11 o12 (fun h13 eh13 => ?_)
    replace H := H h13 eh13
    have o14 := H.1
    replace H := H.2
    refine w_iinc rfl rfl rfl o14 ?_
    refine w_goto rfl ?_
    exact H
set_option maxHeartbeats 4000000 in
set_option maxRecDepth 100000 in
theorem r_Mover_use {d : Nat} {Q : cm_Q} {h : cm_H} {a0 : Nat} {x1 : Int} (p_a0 : 0 < a0) (H : (0 < ((ch_R h a0 0)) ∧ (∀ h2 : cm_H, h2 = ch_u h a0 3 1 → cw d cd_Mover_use Q 15 [some (vR 4 a0), some (vI x1), some (vI (ch_I h (ch_R h a0 0) 0)), some (vI 0), none, none, none] [] h2))) : cm_call (d + 1) m_Mover_use [vR 4 a0, vI x1] h Q := by
  refine cm_call_in (C := cd_Mover_use) (ls := [some (vR 4 a0), some (vI x1), none, none, none, none, none]) rfl rfl p_a0 rfl ?_
  refine w_aload rfl rfl ?_
  refine w_getR 0 9 rfl rfl rfl rfl p_a0 ?_
  have o1 := H.1
  replace H := H.2
  refine w_getI 0 rfl rfl rfl o1 ?_
  refine w_istore rfl rfl ?_
  refine w_aload rfl rfl ?_
  refine w_iconst rfl ⟨by decide, by decide⟩ ?_
  refine w_putZ 3 rfl rfl rfl (by decide) p_a0 (fun h2 eh2 => ?_)
  replace H := H h2 eh2
  refine w_iconst rfl ⟨by decide, by decide⟩ ?_
  refine w_istore rfl rfl ?_
  exact H
set_option maxHeartbeats 4000000 in
set_option maxRecDepth 100000 in
theorem r_Mover_addAllMoved_2 {d : Nat} {Q : cm_Q} {h : cm_H} {a0 : Nat} {a1 : Nat} {a2 : Nat} {x3 : Int} (p_a0 : 0 < a0) (H : ((15 < x3 → Q none h) ∧ (x3 ≤ 15 → (cI d m_Shape_isZero [vR 9 (ch_R h a0 0), vR 20 a1, vI x3] h fun v2 h1 => ((¬ v2 = 0 → (cm_i (x3 + 1) ∧ cw d cd_Mover_addAllMoved Q 2 [some (vR 4 a0), some (vR 20 a1), some (vR 20 a2), some (vI (x3 + 1))] [] h1)) ∧ (v2 = 0 → (0 < ((ch_R h1 a0 0)) ∧ (0 < ((ch_R h1 (ch_R h1 a0 0) 3)) ∧ ((0:Int) ≤ x3 ∧ x3 < ch_L h1 (ch_R h1 (ch_R h1 a0 0) 3)) ∧ (cU d m_Piece_put [vR 5 (ch_R h1 a0 11), vR 20 a1, vI (ch_I h1 (ch_R h1 (ch_R h1 a0 0) 3) x3), vI x3] h1 fun h7 => (0 < ((ch_R h7 a0 0)) ∧ (0 < ((ch_R h7 (ch_R h7 a0 0) 3)) ∧ ((0:Int) ≤ x3 ∧ x3 < ch_L h7 (ch_R h7 (ch_R h7 a0 0) 3)) ∧ (cU d m_Mover_addMoved [vR 4 a0, vR 5 (ch_R h7 a0 11), vR 20 a2, vI (ch_I h7 (ch_R h7 (ch_R h7 a0 0) 3) x3)] h7 fun h11 => (cm_i (x3 + 1) ∧ cw d cd_Mover_addAllMoved Q 2 [some (vR 4 a0), some (vR 20 a1), some (vR 20 a2), some (vI (x3 + 1))] [] h11))))))))))))) : cw d cd_Mover_addAllMoved Q 2 [some (vR 4 a0), some (vR 20 a1), some (vR 20 a2), some (vI x3)] [] h := by
  refine w_iload rfl rfl ?_
  refine w_iconst rfl ⟨by decide, by decide⟩ ?_
  refine w_icmp rfl (And.intro (fun hc => ?_) (fun hc => ?_))
  · replace H := H.1 hc
    exact w_return rfl H
  · replace H := H.2 hc
    refine w_aload rfl rfl ?_
    refine w_getR 0 9 rfl rfl rfl rfl p_a0 ?_
    refine w_aload rfl rfl ?_
    refine w_iload rfl rfl ?_
    refine w_callI rfl (fun _ => rfl) rfl (cI_mono H fun v2 h1 H => ?_)
    refine w_if rfl (And.intro (fun hc => ?_) (fun hc => ?_))
    · replace H := H.1 hc
      have o3 := H.1
      replace H := H.2
      refine w_iinc rfl rfl rfl o3 ?_
      refine w_goto rfl ?_
      exact H
    · replace H := H.2 hc
      refine w_aload rfl rfl ?_
      refine w_getR 11 5 rfl rfl rfl rfl p_a0 ?_
      refine w_aload rfl rfl ?_
      refine w_aload rfl rfl ?_
      refine w_getR 0 9 rfl rfl rfl rfl p_a0 ?_
      have o4 := H.1
      replace H := H.2
      refine w_getR 3 20 rfl rfl rfl rfl o4 ?_
      refine w_iload rfl rfl ?_
      have o5 := H.1
      replace H := H.2
      have o6 := H.1
      replace H := H.2
      refine w_iaload rfl o5 o6 ?_
      refine w_iload rfl rfl ?_
      refine w_callU rfl (fun _ => rfl) rfl (cU_mono H fun h7 H => ?_)
      refine w_aload rfl rfl ?_
      refine w_aload rfl rfl ?_
      refine w_getR 11 5 rfl rfl rfl rfl p_a0 ?_
      refine w_aload rfl rfl ?_
      refine w_aload rfl rfl ?_
      refine w_getR 0 9 rfl rfl rfl rfl p_a0 ?_
      have o8 := H.1
      replace H := H.2
      refine w_getR 3 20 rfl rfl rfl rfl o8 ?_
      refine w_iload rfl rfl ?_
      have o9 := H.1
      replace H := H.2
      have o10 := H.1
      replace H := H.2
      refine w_iaload rfl o9 o10 ?_
      refine w_callU rfl (fun _ => rfl) rfl (cU_mono H fun h11 H => ?_)
      have o12 := H.1
      replace H := H.2
      refine w_iinc rfl rfl rfl o12 ?_
      refine w_goto rfl ?_
      exact H
set_option maxHeartbeats 4000000 in
set_option maxRecDepth 100000 in
theorem r_Mover_addAllMoved {d : Nat} {Q : cm_Q} {h : cm_H} {a0 : Nat} {a1 : Nat} {a2 : Nat} (p_a0 : 0 < a0) (H : cw d cd_Mover_addAllMoved Q 2 [some (vR 4 a0), some (vR 20 a1), some (vR 20 a2), some (vI 0)] [] h) : cm_call (d + 1) m_Mover_addAllMoved [vR 4 a0, vR 20 a1, vR 20 a2] h Q := by
  refine cm_call_in (C := cd_Mover_addAllMoved) (ls := [some (vR 4 a0), some (vR 20 a1), some (vR 20 a2), none]) rfl rfl p_a0 rfl ?_
  refine w_iconst rfl ⟨by decide, by decide⟩ ?_
  refine w_istore rfl rfl ?_
  exact H
set_option maxHeartbeats 4000000 in
set_option maxRecDepth 100000 in
theorem r_Mover_addMoved_26 {d : Nat} {Q : cm_Q} {h : cm_H} {a0 : Nat} {a1 : Nat} {a2 : Nat} {x3 : Int} {x4 : Int} {x5 : Int} {z6 : Option cm_V} (p_a1 : 0 < a1) (p_a0 : 0 < a0) (H : (((ch_I h a1 2) < x5 → ((x4 = 0 → Q none h) ∧ (¬ x4 = 0 → cw d cd_Mover_addMoved Q 149 [some (vR 4 a0), some (vR 5 a1), some (vR 20 a2), some (vI x3), some (vI x4), some (vI 0), z6] [] h))) ∧ (x5 ≤ (ch_I h a1 2) → ((x4 = 0 → cw d cd_Mover_addMoved Q 54 [some (vR 4 a0), some (vR 5 a1), some (vR 20 a2), some (vI x3), some (vI x4), some (vI x5), z6] [] h) ∧ (¬ x4 = 0 → (cm_i (x5 - 1) ∧ (cU d m_Mover_timesForm [vR 4 a0, vR 20 (ch_R h a0 7), vI 0, vI (x5 - 1), vI 0] h fun h2 => cw d cd_Mover_addMoved Q 54 [some (vR 4 a0), some (vR 5 a1), some (vR 20 a2), some (vI x3), some (vI x4), some (vI x5), z6] [] h2))))))) : cw d cd_Mover_addMoved Q 26 [some (vR 4 a0), some (vR 5 a1), some (vR 20 a2), some (vI x3), some (vI x4), some (vI x5), z6] [] h := by
  refine w_iload rfl rfl ?_
  refine w_aload rfl rfl ?_
  refine w_getI 2 rfl rfl rfl p_a1 ?_
  refine w_icmp rfl (And.intro (fun hc => ?_) (fun hc => ?_))
  · replace H := H.1 hc
    refine w_iload rfl rfl ?_
    refine w_if rfl (And.intro (fun hc => ?_) (fun hc => ?_))
    · replace H := H.1 hc
      exact w_return rfl H
    · replace H := H.2 hc
      refine w_iconst rfl ⟨by decide, by decide⟩ ?_
      refine w_istore rfl rfl ?_
      exact H
  · replace H := H.2 hc
    refine w_iload rfl rfl ?_
    refine w_if rfl (And.intro (fun hc => ?_) (fun hc => ?_))
    · replace H := H.1 hc
      exact H
    · replace H := H.2 hc
      refine w_aload rfl rfl ?_
      refine w_aload rfl rfl ?_
      refine w_getR 7 20 rfl rfl rfl rfl p_a0 ?_
      refine w_iconst rfl ⟨by decide, by decide⟩ ?_
      refine w_iload rfl rfl ?_
      refine w_iconst rfl ⟨by decide, by decide⟩ ?_
      have o1 := H.1
      replace H := H.2
      refine w_isub rfl o1 ?_
      refine w_iconst rfl ⟨by decide, by decide⟩ ?_
      refine w_callU rfl (fun _ => rfl) rfl (cU_mono H fun h2 H => ?_)
      exact H
set_option maxHeartbeats 4000000 in
set_option maxRecDepth 100000 in
theorem r_Mover_addMoved_54 {d : Nat} {Q : cm_Q} {h : cm_H} {a0 : Nat} {a1 : Nat} {a2 : Nat} {x3 : Int} {x4 : Int} {x5 : Int} {z6 : Option cm_V} (p_a0 : 0 < a0) (H : (cI d m_Mover_moveBlock [vR 4 a0, vR 5 a1, vI x5] h fun v2 h1 => ((¬ v2 = 0 → ((¬ x4 = 0 → cw d cd_Mover_addMoved Q 86 [some (vR 4 a0), some (vR 5 a1), some (vR 20 a2), some (vI x3), some (vI x4), some (vI x5), some (vI 0)] [] h1) ∧ (x4 = 0 → (cU d m_Arr_fill [vR 20 (ch_R h1 a0 7), vI 0] h1 fun h3 => cw d cd_Mover_addMoved Q 86 [some (vR 4 a0), some (vR 5 a1), some (vR 20 a2), some (vI x3), some (vI 1), some (vI x5), some (vI 0)] [] h3)))) ∧ (v2 = 0 → (cm_i (x5 + 1) ∧ cw d cd_Mover_addMoved Q 26 [some (vR 4 a0), some (vR 5 a1), some (vR 20 a2), some (vI x3), some (vI x4), some (vI (x5 + 1)), z6] [] h1))))) : cw d cd_Mover_addMoved Q 54 [some (vR 4 a0), some (vR 5 a1), some (vR 20 a2), some (vI x3), some (vI x4), some (vI x5), z6] [] h := by
  refine w_aload rfl rfl ?_
  refine w_aload rfl rfl ?_
  refine w_iload rfl rfl ?_
  refine w_callI rfl (fun _ => rfl) rfl (cI_mono H fun v2 h1 H => ?_)
  refine w_if rfl (And.intro (fun hc => ?_) (fun hc => ?_))
  · replace H := H.1 hc
    refine w_iload rfl rfl ?_
    refine w_if rfl (And.intro (fun hc => ?_) (fun hc => ?_))
    · replace H := H.1 hc
      refine w_iconst rfl ⟨by decide, by decide⟩ ?_
      refine w_istore rfl rfl ?_
      exact H
    · replace H := H.2 hc
      refine w_aload rfl rfl ?_
      refine w_getR 7 20 rfl rfl rfl rfl p_a0 ?_
      refine w_iconst rfl ⟨by decide, by decide⟩ ?_
      refine w_callU rfl (fun _ => rfl) rfl (cU_mono H fun h3 H => ?_)
      refine w_iconst rfl ⟨by decide, by decide⟩ ?_
      refine w_istore rfl rfl ?_
      refine w_iconst rfl ⟨by decide, by decide⟩ ?_
      refine w_istore rfl rfl ?_
      exact H
  · replace H := H.2 hc
    refine w_goto rfl ?_
    have o4 := H.1
    replace H := H.2
    refine w_iinc rfl rfl rfl o4 ?_
    refine w_goto rfl ?_
    exact H
set_option maxHeartbeats 4000000 in
set_option maxRecDepth 100000 in
theorem r_Mover_addMoved_86 {d : Nat} {Q : cm_Q} {h : cm_H} {a0 : Nat} {a1 : Nat} {a2 : Nat} {x3 : Int} {x4 : Int} {x5 : Int} {x6 : Int} (p_a0 : 0 < a0) (H : (0 < ((ch_R h a0 0)) ∧ (cm_i (x5 + 1) ∧ (0 < ((ch_R h (ch_R h a0 0) 2)) ∧ ((0:Int) ≤ (x5 + 1) ∧ (x5 + 1) < ch_L h (ch_R h (ch_R h a0 0) 2)) ∧ (((ch_I h (ch_R h (ch_R h a0 0) 2) (x5 + 1)) ≤ x6 → cw d cd_Mover_addMoved Q 26 [some (vR 4 a0), some (vR 5 a1), some (vR 20 a2), some (vI x3), some (vI x4), some (vI (x5 + 1)), some (vI x6)] [] h) ∧ (x6 < (ch_I h (ch_R h (ch_R h a0 0) 2) (x5 + 1)) → (0 < ((ch_R h a0 7)) ∧ ((0:Int) ≤ x6 ∧ x6 < ch_L h (ch_R h a0 7)) ∧ (0 < ((ch_R h a0 8)) ∧ ((0:Int) ≤ x6 ∧ x6 < ch_L h (ch_R h a0 8)) ∧ (cm_i ((ch_I h (ch_R h a0 7) x6) + (ch_I h (ch_R h a0 8) x6)) ∧ (∀ h10 : cm_H, h10 = ch_u h (ch_R h a0 7) x6 (Int.tmod ((ch_I h (ch_R h a0 7) x6) + (ch_I h (ch_R h a0 8) x6)) 2521) → (cm_i (x6 + 1) ∧ cw d cd_Mover_addMoved Q 86 [some (vR 4 a0), some (vR 5 a1), some (vR 20 a2), some (vI x3), some (vI x4), some (vI x5), some (vI (x6 + 1))] [] h10))))))))))) : cw d cd_Mover_addMoved Q 86 [some (vR 4 a0), some (vR 5 a1), some (vR 20 a2), some (vI x3), some (vI x4), some (vI x5), some (vI x6)] [] h := by
  refine w_iload rfl rfl ?_
  refine w_aload rfl rfl ?_
  refine w_getR 0 9 rfl rfl rfl rfl p_a0 ?_
  have o1 := H.1
  replace H := H.2
  refine w_getR 2 20 rfl rfl rfl rfl o1 ?_
  refine w_iload rfl rfl ?_
  refine w_iconst rfl ⟨by decide, by decide⟩ ?_
  have o2 := H.1
  replace H := H.2
  refine w_iadd rfl o2 ?_
  have o3 := H.1
  replace H := H.2
  have o4 := H.1
  replace H := H.2
  refine w_iaload rfl o3 o4 ?_
  refine w_icmp rfl (And.intro (fun hc => ?_) (fun hc => ?_))
  · replace H := H.1 hc
    refine w_iinc rfl rfl rfl o2 ?_
    refine w_goto rfl ?_
    exact H
  · replace H := H.2 hc
    refine w_aload rfl rfl ?_
    refine w_getR 7 20 rfl rfl rfl rfl p_a0 ?_
    refine w_iload rfl rfl ?_
    refine w_aload rfl rfl ?_
    refine w_getR 7 20 rfl rfl rfl rfl p_a0 ?_
    refine w_iload rfl rfl ?_
    have o5 := H.1
    replace H := H.2
    have o6 := H.1
    replace H := H.2
    refine w_iaload rfl o5 o6 ?_
    refine w_aload rfl rfl ?_
    refine w_getR 8 20 rfl rfl rfl rfl p_a0 ?_
    refine w_iload rfl rfl ?_
    have o7 := H.1
    replace H := H.2
    have o8 := H.1
    replace H := H.2
    refine w_iaload rfl o7 o8 ?_
    have o9 := H.1
    replace H := H.2
    refine w_iadd rfl o9 ?_
    refine w_iconst rfl ⟨by decide, by decide⟩ ?_
    refine w_irem rfl (by decide) ?_
    refine w_iastore rfl o5 o6 (fun h10 eh10 => ?_)
    replace H := H h10 eh10
    have o11 := H.1
    replace H := H.2
    refine w_iinc rfl rfl rfl o11 ?_
    refine w_goto rfl ?_
    exact H
set_option maxHeartbeats 4000000 in
set_option maxRecDepth 100000 in
theorem r_Mover_addMoved_149 {d : Nat} {Q : cm_Q} {h : cm_H} {a0 : Nat} {a1 : Nat} {a2 : Nat} {x3 : Int} {z4 : Option cm_V} {x5 : Int} {z6 : Option cm_V} (p_a0 : 0 < a0) (p_a1 : 0 < a1) (p_a2 : 0 < a2) (H : (0 < ((ch_R h a0 0)) ∧ (cm_i ((ch_I h a1 2) + 1) ∧ (0 < ((ch_R h (ch_R h a0 0) 2)) ∧ ((0:Int) ≤ ((ch_I h a1 2) + 1) ∧ ((ch_I h a1 2) + 1) < ch_L h (ch_R h (ch_R h a0 0) 2)) ∧ (((ch_I h (ch_R h (ch_R h a0 0) 2) ((ch_I h a1 2) + 1)) ≤ x5 → Q none h) ∧ (x5 < (ch_I h (ch_R h (ch_R h a0 0) 2) ((ch_I h a1 2) + 1)) → (cm_i (x3 + x5) ∧ ((0:Int) ≤ (x3 + x5) ∧ (x3 + x5) < ch_L h a2) ∧ (0 < ((ch_R h a0 7)) ∧ ((0:Int) ≤ x5 ∧ x5 < ch_L h (ch_R h a0 7)) ∧ (cm_i ((ch_I h a2 (x3 + x5)) + (ch_I h (ch_R h a0 7) x5)) ∧ (∀ h10 : cm_H, h10 = ch_u h a2 (x3 + x5) ((ch_I h a2 (x3 + x5)) + (ch_I h (ch_R h a0 7) x5)) → (cm_i (x5 + 1) ∧ cw d cd_Mover_addMoved Q 149 [some (vR 4 a0), some (vR 5 a1), some (vR 20 a2), some (vI x3), z4, some (vI (x5 + 1)), z6] [] h10))))))))))) : cw d cd_Mover_addMoved Q 149 [some (vR 4 a0), some (vR 5 a1), some (vR 20 a2), some (vI x3), z4, some (vI x5), z6] [] h := by
  refine w_iload rfl rfl ?_
  refine w_aload rfl rfl ?_
  refine w_getR 0 9 rfl rfl rfl rfl p_a0 ?_
  have o1 := H.1
  replace H := H.2
  refine w_getR 2 20 rfl rfl rfl rfl o1 ?_
  refine w_aload rfl rfl ?_
  refine w_getI 2 rfl rfl rfl p_a1 ?_
  refine w_iconst rfl ⟨by decide, by decide⟩ ?_
  have o2 := H.1
  replace H := H.2
  refine w_iadd rfl o2 ?_
  have o3 := H.1
  replace H := H.2
  have o4 := H.1
  replace H := H.2
  refine w_iaload rfl o3 o4 ?_
  refine w_icmp rfl (And.intro (fun hc => ?_) (fun hc => ?_))
  · replace H := H.1 hc
    exact w_return rfl H
  · replace H := H.2 hc
    refine w_aload rfl rfl ?_
    refine w_iload rfl rfl ?_
    refine w_iload rfl rfl ?_
    have o5 := H.1
    replace H := H.2
    refine w_iadd rfl o5 ?_
    refine w_dup2 rfl rfl ?_
    have o6 := H.1
    replace H := H.2
    refine w_iaload rfl p_a2 o6 ?_
    refine w_aload rfl rfl ?_
    refine w_getR 7 20 rfl rfl rfl rfl p_a0 ?_
    refine w_iload rfl rfl ?_
    have o7 := H.1
    replace H := H.2
    have o8 := H.1
    replace H := H.2
    refine w_iaload rfl o7 o8 ?_
    have o9 := H.1
    replace H := H.2
    refine w_iadd rfl o9 ?_
    refine w_iastore rfl p_a2 o6 (fun h10 eh10 => ?_)
    replace H := H h10 eh10
    have o11 := H.1
    replace H := H.2
    refine w_iinc rfl rfl rfl o11 ?_
    refine w_goto rfl ?_
    exact H
set_option maxHeartbeats 4000000 in
set_option maxRecDepth 100000 in
theorem r_Mover_addMoved {d : Nat} {Q : cm_Q} {h : cm_H} {a0 : Nat} {a1 : Nat} {a2 : Nat} {x3 : Int} (p_a0 : 0 < a0) (H : (((ch_I h a0 3) = 0 → (cU d m_Mover_growLastPowers [vR 4 a0, vR 5 a1] h fun h1 => cw d cd_Mover_addMoved Q 26 [some (vR 4 a0), some (vR 5 a1), some (vR 20 a2), some (vI x3), some (vI 0), some (vI 0), none] [] h1)) ∧ (¬ (ch_I h a0 3) = 0 → (cU d m_Mover_addStraight [vR 4 a0, vR 5 a1, vR 20 a2, vI x3] h fun h2 => Q none h2)))) : cm_call (d + 1) m_Mover_addMoved [vR 4 a0, vR 5 a1, vR 20 a2, vI x3] h Q := by
  refine cm_call_in (C := cd_Mover_addMoved) (ls := [some (vR 4 a0), some (vR 5 a1), some (vR 20 a2), some (vI x3), none, none, none]) rfl rfl p_a0 rfl ?_
  refine w_aload rfl rfl ?_
  refine w_getI 3 rfl rfl rfl p_a0 ?_
  refine w_if rfl (And.intro (fun hc => ?_) (fun hc => ?_))
  · replace H := H.1 hc
    refine w_aload rfl rfl ?_
    refine w_aload rfl rfl ?_
    refine w_callU rfl (fun _ => rfl) rfl (cU_mono H fun h1 H => ?_)
    refine w_iconst rfl ⟨by decide, by decide⟩ ?_
    refine w_istore rfl rfl ?_
    refine w_iconst rfl ⟨by decide, by decide⟩ ?_
    refine w_istore rfl rfl ?_
    exact H
  · replace H := H.2 hc
    refine w_aload rfl rfl ?_
    refine w_aload rfl rfl ?_
    refine w_aload rfl rfl ?_
    refine w_iload rfl rfl ?_
    refine w_callU rfl (fun _ => rfl) rfl (cU_mono H fun h2 H => ?_)
    exact w_return rfl H
set_option maxHeartbeats 4000000 in
set_option maxRecDepth 100000 in
theorem r_Mover_addStraight_12 {d : Nat} {Q : cm_Q} {h : cm_H} {a0 : Nat} {a1 : Nat} {a2 : Nat} {x3 : Int} {a4 : Nat} {x5 : Int} {z6 : Option cm_V} {z7 : Option cm_V} {z8 : Option cm_V} (p_a1 : 0 < a1) (p_a4 : 0 < a4) (p_a0 : 0 < a0) (p_a2 : 0 < a2) (H : (cm_i ((ch_I h a1 2) + 1) ∧ ((0:Int) ≤ ((ch_I h a1 2) + 1) ∧ ((ch_I h a1 2) + 1) < ch_L h a4) ∧ (((ch_I h a4 ((ch_I h a1 2) + 1)) ≤ x5 → Q none h) ∧ (x5 < (ch_I h a4 ((ch_I h a1 2) + 1)) → (cm_i ((ch_I h a1 1) + x5) ∧ (0 < ((ch_R h a1 0)) ∧ ((0:Int) ≤ ((ch_I h a1 1) + x5) ∧ ((ch_I h a1 1) + x5) < ch_L h (ch_R h a1 0)) ∧ ((¬ (ch_I h (ch_R h a1 0) ((ch_I h a1 1) + x5)) = 0 → (0 < ((ch_R h a0 0)) ∧ (0 < ((ch_R h (ch_R h a0 0) 4)) ∧ ((0:Int) ≤ x5 ∧ x5 < ch_L h (ch_R h (ch_R h a0 0) 4)) ∧ ((0:Int) ≤ (ch_I h (ch_R h (ch_R h a0 0) 4) x5) ∧ (ch_I h (ch_R h (ch_R h a0 0) 4) x5) < ch_L h a4) ∧ (cm_i (x5 - (ch_I h a4 (ch_I h (ch_R h (ch_R h a0 0) 4) x5))) ∧ (0 < ((ch_R h a0 4)) ∧ ((0:Int) ≤ 0 ∧ 0 < ch_L h (ch_R h a0 4)) ∧ (cm_i ((ch_I h a1 2) - (ch_I h (ch_R h (ch_R h a0 0) 4) x5)) ∧ (0 < ((ch_R h a0 6)) ∧ ((0:Int) ≤ (ch_I h (ch_R h a0 4) 0) ∧ (ch_I h (ch_R h a0 4) 0) < ch_L h (ch_R h a0 6)) ∧ (∀ h16 : cm_H, h16 = ch_u h (ch_R h a0 6) (ch_I h (ch_R h a0 4) 0) ((ch_I h a1 2) - (ch_I h (ch_R h (ch_R h a0 0) 4) x5)) → (0 < ((ch_R h16 a0 4)) ∧ ((0:Int) ≤ 1 ∧ 1 < ch_L h16 (ch_R h16 a0 4)) ∧ (cm_i ((ch_I h (ch_R h (ch_R h a0 0) 4) x5) - (x5 - (ch_I h a4 (ch_I h (ch_R h (ch_R h a0 0) 4) x5)))) ∧ (0 < ((ch_R h16 a0 6)) ∧ ((0:Int) ≤ (ch_I h16 (ch_R h16 a0 4) 1) ∧ (ch_I h16 (ch_R h16 a0 4) 1) < ch_L h16 (ch_R h16 a0 6)) ∧ (∀ h22 : cm_H, h22 = ch_u h16 (ch_R h16 a0 6) (ch_I h16 (ch_R h16 a0 4) 1) ((ch_I h (ch_R h (ch_R h a0 0) 4) x5) - (x5 - (ch_I h a4 (ch_I h (ch_R h (ch_R h a0 0) 4) x5)))) → (0 < ((ch_R h22 a0 4)) ∧ ((0:Int) ≤ 2 ∧ 2 < ch_L h22 (ch_R h22 a0 4)) ∧ (0 < ((ch_R h22 a0 6)) ∧ ((0:Int) ≤ (ch_I h22 (ch_R h22 a0 4) 2) ∧ (ch_I h22 (ch_R h22 a0 4) 2) < ch_L h22 (ch_R h22 a0 6)) ∧ (∀ h27 : cm_H, h27 = ch_u h22 (ch_R h22 a0 6) (ch_I h22 (ch_R h22 a0 4) 2) (x5 - (ch_I h a4 (ch_I h (ch_R h (ch_R h a0 0) 4) x5))) → (0 < ((ch_R h27 a0 5)) ∧ ((0:Int) ≤ 0 ∧ 0 < ch_L h27 (ch_R h27 a0 5)) ∧ (cm_i ((ch_I h27 a1 2) - (ch_I h (ch_R h (ch_R h a0 0) 4) x5)) ∧ (cI d m_Works_raise [vI (ch_I h27 (ch_R h27 a0 5) 0), vI ((ch_I h27 a1 2) - (ch_I h (ch_R h (ch_R h a0 0) 4) x5))] h27 fun v32 h31 => (cm_i ((ch_I h (ch_R h a1 0) ((ch_I h a1 1) + x5)) * v32) ∧ (0 < ((ch_R h31 a0 5)) ∧ ((0:Int) ≤ 1 ∧ 1 < ch_L h31 (ch_R h31 a0 5)) ∧ (cI d m_Works_raise [vI (ch_I h31 (ch_R h31 a0 5) 1), vI ((ch_I h (ch_R h (ch_R h a0 0) 4) x5) - (x5 - (ch_I h a4 (ch_I h (ch_R h (ch_R h a0 0) 4) x5))))] h31 fun v37 h36 => (cm_i ((Int.tmod ((ch_I h (ch_R h a1 0) ((ch_I h a1 1) + x5)) * v32) 2521) * v37) ∧ (0 < ((ch_R h36 a0 5)) ∧ ((0:Int) ≤ 2 ∧ 2 < ch_L h36 (ch_R h36 a0 5)) ∧ (cI d m_Works_raise [vI (ch_I h36 (ch_R h36 a0 5) 2), vI (x5 - (ch_I h a4 (ch_I h (ch_R h (ch_R h a0 0) 4) x5)))] h36 fun v42 h41 => (cm_i ((Int.tmod ((Int.tmod ((ch_I h (ch_R h a1 0) ((ch_I h a1 1) + x5)) * v32) 2521) * v37) 2521) * v42) ∧ (0 < ((ch_R h41 a0 6)) ∧ ((0:Int) ≤ 0 ∧ 0 < ch_L h41 (ch_R h41 a0 6)) ∧ (cm_i ((ch_I h41 a1 2) - (ch_I h41 (ch_R h41 a0 6) 0)) ∧ ((0:Int) ≤ ((ch_I h41 a1 2) - (ch_I h41 (ch_R h41 a0 6) 0)) ∧ ((ch_I h41 a1 2) - (ch_I h41 (ch_R h41 a0 6) 0)) < ch_L h41 a4) ∧ (cm_i (x3 + (ch_I h41 a4 ((ch_I h41 a1 2) - (ch_I h41 (ch_R h41 a0 6) 0)))) ∧ ((0:Int) ≤ 2 ∧ 2 < ch_L h41 (ch_R h41 a0 6)) ∧ (cm_i ((x3 + (ch_I h41 a4 ((ch_I h41 a1 2) - (ch_I h41 (ch_R h41 a0 6) 0)))) + (ch_I h41 (ch_R h41 a0 6) 2)) ∧ ((0:Int) ≤ ((x3 + (ch_I h41 a4 ((ch_I h41 a1 2) - (ch_I h41 (ch_R h41 a0 6) 0)))) + (ch_I h41 (ch_R h41 a0 6) 2)) ∧ ((x3 + (ch_I h41 a4 ((ch_I h41 a1 2) - (ch_I h41 (ch_R h41 a0 6) 0)))) + (ch_I h41 (ch_R h41 a0 6) 2)) < ch_L h41 a2) ∧ (cm_i ((ch_I h41 a2 ((x3 + (ch_I h41 a4 ((ch_I h41 a1 2) - (ch_I h41 (ch_R h41 a0 6) 0)))) + (ch_I h41 (ch_R h41 a0 6) 2))) + (Int.tmod ((Int.tmod ((Int.tmod ((ch_I h (ch_R h a1 0) ((ch_I h a1 1) + x5)) * v32) 2521) * v37) 2521) * v42) 2521)) ∧ (∀ h53 : cm_H, h53 = ch_u h41 a2 ((x3 + (ch_I h41 a4 ((ch_I h41 a1 2) - (ch_I h41 (ch_R h41 a0 6) 0)))) + (ch_I h41 (ch_R h41 a0 6) 2)) ((ch_I h41 a2 ((x3 + (ch_I h41 a4 ((ch_I h41 a1 2) - (ch_I h41 (ch_R h41 a0 6) 0)))) + (ch_I h41 (ch_R h41 a0 6) 2))) + (Int.tmod ((Int.tmod ((Int.tmod ((ch_I h (ch_R h a1 0) ((ch_I h a1 1) + x5)) * v32) 2521) * v37) 2521) * v42) 2521)) → (cm_i (x5 + 1) ∧ cw d cd_Mover_addStraight Q 12 [some (vR 4 a0), some (vR 5 a1), some (vR 20 a2), some (vI x3), some (vR 20 a4), some (vI (x5 + 1)), some (vI (Int.tmod ((Int.tmod ((Int.tmod ((ch_I h (ch_R h a1 0) ((ch_I h a1 1) + x5)) * v32) 2521) * v37) 2521) * v42) 2521)), some (vI (ch_I h (ch_R h (ch_R h a0 0) 4) x5)), some (vI (x5 - (ch_I h a4 (ch_I h (ch_R h (ch_R h a0 0) 4) x5))))] [] h53)))))))))))))))))))))))))))))))) ∧ ((ch_I h (ch_R h a1 0) ((ch_I h a1 1) + x5)) = 0 → (cm_i (x5 + 1) ∧ cw d cd_Mover_addStraight Q 12 [some (vR 4 a0), some (vR 5 a1), some (vR 20 a2), some (vI x3), some (vR 20 a4), some (vI (x5 + 1)), some (vI (ch_I h (ch_R h a1 0) ((ch_I h a1 1) + x5))), z7, z8] [] h))))))))) : cw d cd_Mover_addStraight Q 12 [some (vR 4 a0), some (vR 5 a1), some (vR 20 a2), some (vI x3), some (vR 20 a4), some (vI x5), z6, z7, z8] [] h := by
  refine w_iload rfl rfl ?_
  refine w_aload rfl rfl ?_
  refine w_aload rfl rfl ?_
  refine w_getI 2 rfl rfl rfl p_a1 ?_
  refine w_iconst rfl ⟨by decide, by decide⟩ ?_
  have o1 := H.1
  replace H := H.2
  refine w_iadd rfl o1 ?_
  have o2 := H.1
  replace H := H.2
  refine w_iaload rfl p_a4 o2 ?_
  refine w_icmp rfl (And.intro (fun hc => ?_) (fun hc => ?_))
  · replace H := H.1 hc
    exact w_return rfl H
  · replace H := H.2 hc
    refine w_aload rfl rfl ?_
    refine w_getR 0 20 rfl rfl rfl rfl p_a1 ?_
    refine w_aload rfl rfl ?_
    refine w_getI 1 rfl rfl rfl p_a1 ?_
    refine w_iload rfl rfl ?_
    have o3 := H.1
    replace H := H.2
    refine w_iadd rfl o3 ?_
    have o4 := H.1
    replace H := H.2
    have o5 := H.1
    replace H := H.2
    refine w_iaload rfl o4 o5 ?_
    refine w_istore rfl rfl ?_
    refine w_iload rfl rfl ?_
    refine w_if rfl (And.intro (fun hc => ?_) (fun hc => ?_))
    · replace H := H.1 hc
      refine w_aload rfl rfl ?_
      refine w_getR 0 9 rfl rfl rfl rfl p_a0 ?_
      have o6 := H.1
      replace H := H.2
      refine w_getR 4 20 rfl rfl rfl rfl o6 ?_
      refine w_iload rfl rfl ?_
      have o7 := H.1
      replace H := H.2
      have o8 := H.1
      replace H := H.2
      refine w_iaload rfl o7 o8 ?_
      refine w_istore rfl rfl ?_
      refine w_iload rfl rfl ?_
      refine w_aload rfl rfl ?_
      refine w_iload rfl rfl ?_
      have o9 := H.1
      replace H := H.2
      refine w_iaload rfl p_a4 o9 ?_
      have o10 := H.1
      replace H := H.2
      refine w_isub rfl o10 ?_
      refine w_istore rfl rfl ?_
      refine w_aload rfl rfl ?_
      refine w_getR 6 20 rfl rfl rfl rfl p_a0 ?_
      refine w_aload rfl rfl ?_
      refine w_getR 4 20 rfl rfl rfl rfl p_a0 ?_
      refine w_iconst rfl ⟨by decide, by decide⟩ ?_
      have o11 := H.1
      replace H := H.2
      have o12 := H.1
      replace H := H.2
      refine w_iaload rfl o11 o12 ?_
      refine w_aload rfl rfl ?_
      refine w_getI 2 rfl rfl rfl p_a1 ?_
      refine w_iload rfl rfl ?_
      have o13 := H.1
      replace H := H.2
      refine w_isub rfl o13 ?_
      have o14 := H.1
      replace H := H.2
      have o15 := H.1
      replace H := H.2
      refine w_iastore rfl o14 o15 (fun h16 eh16 => ?_)
      replace H := H h16 eh16
      refine w_aload rfl rfl ?_
      refine w_getR 6 20 rfl rfl rfl rfl p_a0 ?_
      refine w_aload rfl rfl ?_
      refine w_getR 4 20 rfl rfl rfl rfl p_a0 ?_
      refine w_iconst rfl ⟨by decide, by decide⟩ ?_
      have o17 := H.1
      replace H := H.2
      have o18 := H.1
      replace H := H.2
      refine w_iaload rfl o17 o18 ?_
      refine w_iload rfl rfl ?_
      refine w_iload rfl rfl ?_
      have o19 := H.1
      replace H := H.2
      refine w_isub rfl o19 ?_
      have o20 := H.1
      replace H := H.2
      have o21 := H.1
      replace H := H.2
      refine w_iastore rfl o20 o21 (fun h22 eh22 => ?_)
      replace H := H h22 eh22
      refine w_aload rfl rfl ?_
      refine w_getR 6 20 rfl rfl rfl rfl p_a0 ?_
      refine w_aload rfl rfl ?_
      refine w_getR 4 20 rfl rfl rfl rfl p_a0 ?_
      refine w_iconst rfl ⟨by decide, by decide⟩ ?_
      have o23 := H.1
      replace H := H.2
      have o24 := H.1
      replace H := H.2
      refine w_iaload rfl o23 o24 ?_
      refine w_iload rfl rfl ?_
      have o25 := H.1
      replace H := H.2
      have o26 := H.1
      replace H := H.2
      refine w_iastore rfl o25 o26 (fun h27 eh27 => ?_)
      replace H := H h27 eh27
      refine w_iload rfl rfl ?_
      refine w_aload rfl rfl ?_
      refine w_getR 5 20 rfl rfl rfl rfl p_a0 ?_
      refine w_iconst rfl ⟨by decide, by decide⟩ ?_
      have o28 := H.1
      replace H := H.2
      have o29 := H.1
      replace H := H.2
      refine w_iaload rfl o28 o29 ?_
      refine w_aload rfl rfl ?_
      refine w_getI 2 rfl rfl rfl p_a1 ?_
      refine w_iload rfl rfl ?_
      have o30 := H.1
      replace H := H.2
      refine w_isub rfl o30 ?_
      refine w_callI rfl (fun _ => rfl) rfl (cI_mono H fun v32 h31 H => ?_)
      have o33 := H.1
      replace H := H.2
      refine w_imul rfl o33 ?_
      refine w_iconst rfl ⟨by decide, by decide⟩ ?_
      refine w_irem rfl (by decide) ?_
      refine w_istore rfl rfl ?_
      refine w_iload rfl rfl ?_
      refine w_aload rfl rfl ?_
      refine w_getR 5 20 rfl rfl rfl rfl p_a0 ?_
      refine w_iconst rfl ⟨by decide, by decide⟩ ?_
      have o34 := H.1
      replace H := H.2
      have o35 := H.1
      replace H := H.2
      refine w_iaload rfl o34 o35 ?_
      refine w_iload rfl rfl ?_
      refine w_iload rfl rfl ?_
      refine w_isub rfl o19 ?_
      refine w_callI rfl (fun _ => rfl) rfl (cI_mono H fun v37 h36 H => ?_)
      have o38 := H.1
      replace H := H.2
      refine w_imul rfl o38 ?_
      refine w_iconst rfl ⟨by decide, by decide⟩ ?_
      refine w_irem rfl (by decide) ?_
      refine w_istore rfl rfl ?_
      refine w_iload rfl rfl ?_
      refine w_aload rfl rfl ?_
      refine w_getR 5 20 rfl rfl rfl rfl p_a0 ?_
      refine w_iconst rfl ⟨by decide, by decide⟩ ?_
      have o39 := H.1
      replace H := H.2
      have o40 := H.1
      replace H := H.2
      refine w_iaload rfl o39 o40 ?_
      refine w_iload rfl rfl ?_
      refine w_callI rfl (fun _ => rfl) rfl (cI_mono H fun v42 h41 H => ?_)
      have o43 := H.1
      replace H := H.2
      refine w_imul rfl o43 ?_
      refine w_iconst rfl ⟨by decide, by decide⟩ ?_
      refine w_irem rfl (by decide) ?_
      refine w_istore rfl rfl ?_
      refine w_aload rfl rfl ?_
      refine w_iload rfl rfl ?_
      refine w_aload rfl rfl ?_
      refine w_aload rfl rfl ?_
      refine w_getI 2 rfl rfl rfl p_a1 ?_
      refine w_aload rfl rfl ?_
      refine w_getR 6 20 rfl rfl rfl rfl p_a0 ?_
      refine w_iconst rfl ⟨by decide, by decide⟩ ?_
      have o44 := H.1
      replace H := H.2
      have o45 := H.1
      replace H := H.2
      refine w_iaload rfl o44 o45 ?_
      have o46 := H.1
      replace H := H.2
      refine w_isub rfl o46 ?_
      have o47 := H.1
      replace H := H.2
      refine w_iaload rfl p_a4 o47 ?_
      have o48 := H.1
      replace H := H.2
      refine w_iadd rfl o48 ?_
      refine w_aload rfl rfl ?_
      refine w_getR 6 20 rfl rfl rfl rfl p_a0 ?_
      refine w_iconst rfl ⟨by decide, by decide⟩ ?_
      have o49 := H.1
      replace H := H.2
      refine w_iaload rfl o44 o49 ?_
      have o50 := H.1
      replace H := H.2
      refine w_iadd rfl o50 ?_
      refine w_dup2 rfl rfl ?_
      have o51 := H.1
      replace H := H.2
      refine w_iaload rfl p_a2 o51 ?_
      refine w_iload rfl rfl ?_
      have o52 := H.1
      replace H := H.2
      refine w_iadd rfl o52 ?_
      refine w_iastore rfl p_a2 o51 (fun h53 eh53 => ?_)
      replace H := H h53 eh53
      have o54 := H.1
      replace H := H.2
      refine w_iinc rfl rfl rfl o54 ?_
      refine w_goto rfl ?_
      exact H
    · replace H := H.2 hc
      refine w_goto rfl ?_
      have o55 := H.1
      replace H := H.2
      refine w_iinc rfl rfl rfl o55 ?_
      refine w_goto rfl ?_
      exact H
set_option maxHeartbeats 4000000 in
set_option maxRecDepth 100000 in
theorem r_Mover_addStraight {d : Nat} {Q : cm_Q} {h : cm_H} {a0 : Nat} {a1 : Nat} {a2 : Nat} {x3 : Int} (p_a0 : 0 < a0) (H : (0 < ((ch_R h a0 0)) ∧ cw d cd_Mover_addStraight Q 12 [some (vR 4 a0), some (vR 5 a1), some (vR 20 a2), some (vI x3), some (vR 20 (ch_R h (ch_R h a0 0) 2)), some (vI 0), none, none, none] [] h)) : cm_call (d + 1) m_Mover_addStraight [vR 4 a0, vR 5 a1, vR 20 a2, vI x3] h Q := by
  refine cm_call_in (C := cd_Mover_addStraight) (ls := [some (vR 4 a0), some (vR 5 a1), some (vR 20 a2), some (vI x3), none, none, none, none, none]) rfl rfl p_a0 rfl ?_
  refine w_aload rfl rfl ?_
  refine w_getR 0 9 rfl rfl rfl rfl p_a0 ?_
  have o1 := H.1
  replace H := H.2
  refine w_getR 2 20 rfl rfl rfl rfl o1 ?_
  refine w_astore rfl rfl ?_
  refine w_iconst rfl ⟨by decide, by decide⟩ ?_
  refine w_istore rfl rfl ?_
  exact H
set_option maxHeartbeats 4000000 in
set_option maxRecDepth 100000 in
theorem r_Mover_growLastPowers_4 {d : Nat} {Q : cm_Q} {h : cm_H} {a0 : Nat} {a1 : Nat} {x2 : Int} {x3 : Int} {z4 : Option cm_V} {z5 : Option cm_V} (p_a0 : 0 < a0) (p_a1 : 0 < a1) (H : (0 < ((ch_R h a0 0)) ∧ (cm_i ((ch_I h a1 2) + 1) ∧ (0 < ((ch_R h (ch_R h a0 0) 2)) ∧ ((0:Int) ≤ ((ch_I h a1 2) + 1) ∧ ((ch_I h a1 2) + 1) < ch_L h (ch_R h (ch_R h a0 0) 2)) ∧ (((ch_I h (ch_R h (ch_R h a0 0) 2) ((ch_I h a1 2) + 1)) ≤ x3 → cw d cd_Mover_growLastPowers Q 91 [some (vR 4 a0), some (vR 5 a1), some (vI x2), some (vI (ch_I h a0 10)), z4, z5] [] h) ∧ (x3 < (ch_I h (ch_R h (ch_R h a0 0) 2) ((ch_I h a1 2) + 1)) → (cm_i ((ch_I h a1 1) + x3) ∧ (0 < ((ch_R h a1 0)) ∧ ((0:Int) ≤ ((ch_I h a1 1) + x3) ∧ ((ch_I h a1 1) + x3) < ch_L h (ch_R h a1 0)) ∧ (((ch_I h (ch_R h a1 0) ((ch_I h a1 1) + x3)) = 0 → (cm_i (x3 + 1) ∧ cw d cd_Mover_growLastPowers Q 4 [some (vR 4 a0), some (vR 5 a1), some (vI x2), some (vI (x3 + 1)), z4, z5] [] h)) ∧ (¬ (ch_I h (ch_R h a1 0) ((ch_I h a1 1) + x3)) = 0 → (0 < ((ch_R h (ch_R h a0 0) 4)) ∧ ((0:Int) ≤ x3 ∧ x3 < ch_L h (ch_R h (ch_R h a0 0) 4)) ∧ ((¬ (ch_I h (ch_R h a0 0) 0) = 3 → (cm_i (x3 + 1) ∧ cw d cd_Mover_growLastPowers Q 4 [some (vR 4 a0), some (vR 5 a1), some (vI (max x2 (ch_I h (ch_R h (ch_R h a0 0) 4) x3))), some (vI (x3 + 1)), some (vI (ch_I h (ch_R h (ch_R h a0 0) 4) x3)), z5] [] h)) ∧ ((ch_I h (ch_R h a0 0) 0) = 3 → ((0:Int) ≤ (ch_I h (ch_R h (ch_R h a0 0) 4) x3) ∧ (ch_I h (ch_R h (ch_R h a0 0) 4) x3) < ch_L h (ch_R h (ch_R h a0 0) 2)) ∧ (cm_i (x3 - (ch_I h (ch_R h (ch_R h a0 0) 2) (ch_I h (ch_R h (ch_R h a0 0) 4) x3))) ∧ (cm_i (x3 + 1) ∧ cw d cd_Mover_growLastPowers Q 4 [some (vR 4 a0), some (vR 5 a1), some (vI (max x2 (x3 - (ch_I h (ch_R h (ch_R h a0 0) 2) (ch_I h (ch_R h (ch_R h a0 0) 4) x3))))), some (vI (x3 + 1)), some (vI (ch_I h (ch_R h (ch_R h a0 0) 4) x3)), z5] [] h))))))))))))))) : cw d cd_Mover_growLastPowers Q 4 [some (vR 4 a0), some (vR 5 a1), some (vI x2), some (vI x3), z4, z5] [] h := by
  refine w_iload rfl rfl ?_
  refine w_aload rfl rfl ?_
  refine w_getR 0 9 rfl rfl rfl rfl p_a0 ?_
  have o1 := H.1
  replace H := H.2
  refine w_getR 2 20 rfl rfl rfl rfl o1 ?_
  refine w_aload rfl rfl ?_
  refine w_getI 2 rfl rfl rfl p_a1 ?_
  refine w_iconst rfl ⟨by decide, by decide⟩ ?_
  have o2 := H.1
  replace H := H.2
  refine w_iadd rfl o2 ?_
  have o3 := H.1
  replace H := H.2
  have o4 := H.1
  replace H := H.2
  refine w_iaload rfl o3 o4 ?_
  refine w_icmp rfl (And.intro (fun hc => ?_) (fun hc => ?_))
  · replace H := H.1 hc
    refine w_aload rfl rfl ?_
    refine w_getI 10 rfl rfl rfl p_a0 ?_
    refine w_istore rfl rfl ?_
    exact H
  · replace H := H.2 hc
    refine w_aload rfl rfl ?_
    refine w_getR 0 20 rfl rfl rfl rfl p_a1 ?_
    refine w_aload rfl rfl ?_
    refine w_getI 1 rfl rfl rfl p_a1 ?_
    refine w_iload rfl rfl ?_
    have o5 := H.1
    replace H := H.2
    refine w_iadd rfl o5 ?_
    have o6 := H.1
    replace H := H.2
    have o7 := H.1
    replace H := H.2
    refine w_iaload rfl o6 o7 ?_
    refine w_if rfl (And.intro (fun hc => ?_) (fun hc => ?_))
    · replace H := H.1 hc
      have o8 := H.1
      replace H := H.2
      refine w_iinc rfl rfl rfl o8 ?_
      refine w_goto rfl ?_
      exact H
    · replace H := H.2 hc
      refine w_aload rfl rfl ?_
      refine w_getR 0 9 rfl rfl rfl rfl p_a0 ?_
      refine w_getR 4 20 rfl rfl rfl rfl o1 ?_
      refine w_iload rfl rfl ?_
      have o9 := H.1
      replace H := H.2
      have o10 := H.1
      replace H := H.2
      refine w_iaload rfl o9 o10 ?_
      refine w_istore rfl rfl ?_
      refine w_iload rfl rfl ?_
      refine w_aload rfl rfl ?_
      refine w_getR 0 9 rfl rfl rfl rfl p_a0 ?_
      refine w_getI 0 rfl rfl rfl o1 ?_
      refine w_iconst rfl ⟨by decide, by decide⟩ ?_
      refine w_icmp rfl (And.intro (fun hc => ?_) (fun hc => ?_))
      · replace H := H.1 hc
        refine w_iload rfl rfl ?_
        refine w_max rfl rfl ?_
        refine w_istore rfl rfl ?_
        have o11 := H.1
        replace H := H.2
        refine w_iinc rfl rfl rfl o11 ?_
        refine w_goto rfl ?_
        exact H
      · replace H := H.2 hc
        refine w_iload rfl rfl ?_
        refine w_aload rfl rfl ?_
        refine w_getR 0 9 rfl rfl rfl rfl p_a0 ?_
        refine w_getR 2 20 rfl rfl rfl rfl o1 ?_
        refine w_iload rfl rfl ?_
        have o12 := H.1
        replace H := H.2
        refine w_iaload rfl o3 o12 ?_
        have o13 := H.1
        replace H := H.2
        refine w_isub rfl o13 ?_
        refine w_goto rfl ?_
        refine w_max rfl rfl ?_
        refine w_istore rfl rfl ?_
        have o14 := H.1
        replace H := H.2
        refine w_iinc rfl rfl rfl o14 ?_
        refine w_goto rfl ?_
        exact H
set_option maxHeartbeats 4000000 in
set_option maxRecDepth 100000 in
theorem r_Mover_growLastPowers_91 {d : Nat} {Q : cm_Q} {h : cm_H} {a0 : Nat} {z1 : Option cm_V} {x2 : Int} {x3 : Int} {z4 : Option cm_V} {z5 : Option cm_V} (p_a0 : 0 < a0) (H : ((x2 ≤ x3 → (∀ h1 : cm_H, h1 = ch_u h a0 10 (max (ch_I h a0 10) x2) → Q none h1)) ∧ (x3 < x2 → (0 < ((ch_R h a0 0)) ∧ (0 < ((ch_R h (ch_R h a0 0) 3)) ∧ ((0:Int) ≤ x3 ∧ x3 < ch_L h (ch_R h (ch_R h a0 0) 3)) ∧ (cm_i (x3 + 1) ∧ ((0:Int) ≤ (x3 + 1) ∧ (x3 + 1) < ch_L h (ch_R h (ch_R h a0 0) 3)) ∧ (cm_i ((ch_I h (ch_R h (ch_R h a0 0) 3) (x3 + 1)) - (ch_I h (ch_R h (ch_R h a0 0) 3) x3)) ∧ (0 < ((ch_R h a0 9)) ∧ ((0:Int) ≤ (ch_I h (ch_R h (ch_R h a0 0) 3) x3) ∧ (0:Int) ≤ (ch_I h (ch_R h (ch_R h a0 0) 3) (x3 + 1)) ∧ (0:Int) ≤ ((ch_I h (ch_R h (ch_R h a0 0) 3) (x3 + 1)) - (ch_I h (ch_R h (ch_R h a0 0) 3) x3)) ∧ (ch_I h (ch_R h (ch_R h a0 0) 3) x3) + ((ch_I h (ch_R h (ch_R h a0 0) 3) (x3 + 1)) - (ch_I h (ch_R h (ch_R h a0 0) 3) x3)) ≤ ch_L h (ch_R h a0 9) ∧ (ch_I h (ch_R h (ch_R h a0 0) 3) (x3 + 1)) + ((ch_I h (ch_R h (ch_R h a0 0) 3) (x3 + 1)) - (ch_I h (ch_R h (ch_R h a0 0) 3) x3)) ≤ ch_L h (ch_R h a0 9)) ∧ (∀ h10 : cm_H, h10 = ch_cp h (ch_R h a0 9) (ch_I h (ch_R h (ch_R h a0 0) 3) x3) (ch_R h a0 9) (ch_I h (ch_R h (ch_R h a0 0) 3) (x3 + 1)) ((ch_I h (ch_R h (ch_R h a0 0) 3) (x3 + 1)) - (ch_I h (ch_R h (ch_R h a0 0) 3) x3)) → (0 < ((ch_R h10 a0 0)) ∧ (cm_i ((ch_I h10 (ch_R h10 a0 0) 0) - 1) ∧ (cU d m_Mover_timesForm [vR 4 a0, vR 20 (ch_R h10 a0 9), vI (ch_I h (ch_R h (ch_R h a0 0) 3) (x3 + 1)), vI x3, vI ((ch_I h10 (ch_R h10 a0 0) 0) - 1)] h10 fun h13 => cw d cd_Mover_growLastPowers Q 91 [some (vR 4 a0), z1, some (vI x2), some (vI (x3 + 1)), some (vI (ch_I h (ch_R h (ch_R h a0 0) 3) x3)), some (vI (ch_I h (ch_R h (ch_R h a0 0) 3) (x3 + 1)))] [] h13)))))))))))) : cw d cd_Mover_growLastPowers Q 91 [some (vR 4 a0), z1, some (vI x2), some (vI x3), z4, z5] [] h := by
  refine w_iload rfl rfl ?_
  refine w_iload rfl rfl ?_
  refine w_icmp rfl (And.intro (fun hc => ?_) (fun hc => ?_))
  · replace H := H.1 hc
    refine w_aload rfl rfl ?_
    refine w_aload rfl rfl ?_
    refine w_getI 10 rfl rfl rfl p_a0 ?_
    refine w_iload rfl rfl ?_
    refine w_max rfl rfl ?_
    refine w_putI 10 rfl rfl rfl p_a0 (fun h1 eh1 => ?_)
    replace H := H h1 eh1
    exact w_return rfl H
  · replace H := H.2 hc
    refine w_aload rfl rfl ?_
    refine w_getR 0 9 rfl rfl rfl rfl p_a0 ?_
    have o2 := H.1
    replace H := H.2
    refine w_getR 3 20 rfl rfl rfl rfl o2 ?_
    refine w_iload rfl rfl ?_
    have o3 := H.1
    replace H := H.2
    have o4 := H.1
    replace H := H.2
    refine w_iaload rfl o3 o4 ?_
    refine w_istore rfl rfl ?_
    refine w_aload rfl rfl ?_
    refine w_getR 0 9 rfl rfl rfl rfl p_a0 ?_
    refine w_getR 3 20 rfl rfl rfl rfl o2 ?_
    refine w_iload rfl rfl ?_
    refine w_iconst rfl ⟨by decide, by decide⟩ ?_
    have o5 := H.1
    replace H := H.2
    refine w_iadd rfl o5 ?_
    have o6 := H.1
    replace H := H.2
    refine w_iaload rfl o3 o6 ?_
    refine w_istore rfl rfl ?_
    refine w_aload rfl rfl ?_
    refine w_getR 9 20 rfl rfl rfl rfl p_a0 ?_
    refine w_iload rfl rfl ?_
    refine w_aload rfl rfl ?_
    refine w_getR 9 20 rfl rfl rfl rfl p_a0 ?_
    refine w_iload rfl rfl ?_
    refine w_iload rfl rfl ?_
    refine w_iload rfl rfl ?_
    have o7 := H.1
    replace H := H.2
    refine w_isub rfl o7 ?_
    have o8 := H.1
    replace H := H.2
    have o9 := H.1
    replace H := H.2
    refine w_copy rfl rfl o8 o8 o9 (fun h10 eh10 => ?_)
    replace H := H h10 eh10
    refine w_aload rfl rfl ?_
    refine w_aload rfl rfl ?_
    refine w_getR 9 20 rfl rfl rfl rfl p_a0 ?_
    refine w_iload rfl rfl ?_
    refine w_iload rfl rfl ?_
    refine w_aload rfl rfl ?_
    refine w_getR 0 9 rfl rfl rfl rfl p_a0 ?_
    have o11 := H.1
    replace H := H.2
    refine w_getI 0 rfl rfl rfl o11 ?_
    refine w_iconst rfl ⟨by decide, by decide⟩ ?_
    have o12 := H.1
    replace H := H.2
    refine w_isub rfl o12 ?_
    refine w_callU rfl (fun _ => rfl) rfl (cU_mono H fun h13 H => ?_)
    refine w_iinc rfl rfl rfl o5 ?_
    refine w_goto rfl ?_
    exact H
set_option maxHeartbeats 4000000 in
set_option maxRecDepth 100000 in
theorem r_Mover_growLastPowers {d : Nat} {Q : cm_Q} {h : cm_H} {a0 : Nat} {a1 : Nat} (p_a0 : 0 < a0) (H : cw d cd_Mover_growLastPowers Q 4 [some (vR 4 a0), some (vR 5 a1), some (vI 0), some (vI 0), none, none] [] h) : cm_call (d + 1) m_Mover_growLastPowers [vR 4 a0, vR 5 a1] h Q := by
  refine cm_call_in (C := cd_Mover_growLastPowers) (ls := [some (vR 4 a0), some (vR 5 a1), none, none, none, none]) rfl rfl p_a0 rfl ?_
  refine w_iconst rfl ⟨by decide, by decide⟩ ?_
  refine w_istore rfl rfl ?_
  refine w_iconst rfl ⟨by decide, by decide⟩ ?_
  refine w_istore rfl rfl ?_
  exact H
set_option maxHeartbeats 4000000 in
set_option maxRecDepth 100000 in
theorem r_Mover_moveBlock_23 {d : Nat} {Q : cm_Q} {h : cm_H} {a0 : Nat} {a1 : Nat} {x2 : Int} {x3 : Int} {x4 : Int} {x5 : Int} {z6 : Option cm_V} {z7 : Option cm_V} {z8 : Option cm_V} (p_a0 : 0 < a0) (H : ((x2 < x5 → ((x4 = 0 ∨ x4 = 1) ∧ Q (some (vI x4)) h)) ∧ (x5 ≤ x2 → ((x4 = 0 → cw d cd_Mover_moveBlock Q 48 [some (vR 4 a0), some (vR 5 a1), some (vI x2), some (vI x3), some (vI x4), some (vI x5), z6, z7, z8] [] h) ∧ (¬ x4 = 0 → (cm_i (x5 - 1) ∧ (cU d m_Mover_timesForm [vR 4 a0, vR 20 (ch_R h a0 8), vI 0, vI (x5 - 1), vI 1] h fun h2 => cw d cd_Mover_moveBlock Q 48 [some (vR 4 a0), some (vR 5 a1), some (vI x2), some (vI x3), some (vI x4), some (vI x5), z6, z7, z8] [] h2))))))) : cw d cd_Mover_moveBlock Q 23 [some (vR 4 a0), some (vR 5 a1), some (vI x2), some (vI x3), some (vI x4), some (vI x5), z6, z7, z8] [] h := by
  refine w_iload rfl rfl ?_
  refine w_iload rfl rfl ?_
  refine w_icmp rfl (And.intro (fun hc => ?_) (fun hc => ?_))
  · replace H := H.1 hc
    refine w_iload rfl rfl ?_
    exact w_zreturn rfl H.1 H.2
  · replace H := H.2 hc
    refine w_iload rfl rfl ?_
    refine w_if rfl (And.intro (fun hc => ?_) (fun hc => ?_))
    · replace H := H.1 hc
      exact H
    · replace H := H.2 hc
      refine w_aload rfl rfl ?_
      refine w_aload rfl rfl ?_
      refine w_getR 8 20 rfl rfl rfl rfl p_a0 ?_
      refine w_iconst rfl ⟨by decide, by decide⟩ ?_
      refine w_iload rfl rfl ?_
      refine w_iconst rfl ⟨by decide, by decide⟩ ?_
      have o1 := H.1
      replace H := H.2
      refine w_isub rfl o1 ?_
      refine w_iconst rfl ⟨by decide, by decide⟩ ?_
      refine w_callU rfl (fun _ => rfl) rfl (cU_mono H fun h2 H => ?_)
      exact H
set_option maxHeartbeats 4000000 in
set_option maxRecDepth 100000 in
theorem r_Mover_moveBlock_48 {d : Nat} {Q : cm_Q} {h : cm_H} {a0 : Nat} {a1 : Nat} {x2 : Int} {x3 : Int} {x4 : Int} {x5 : Int} {z6 : Option cm_V} {z7 : Option cm_V} {z8 : Option cm_V} (p_a1 : 0 < a1) (p_a0 : 0 < a0) (H : (0 < ((ch_R h a0 0)) ∧ (0 < ((ch_R h (ch_R h a0 0) 2)) ∧ ((0:Int) ≤ x2 ∧ x2 < ch_L h (ch_R h (ch_R h a0 0) 2)) ∧ (cm_i ((ch_I h a1 1) + (ch_I h (ch_R h (ch_R h a0 0) 2) x2)) ∧ (cm_i (((ch_I h a1 1) + (ch_I h (ch_R h (ch_R h a0 0) 2) x2)) + x5) ∧ (cm_i ((((ch_I h a1 1) + (ch_I h (ch_R h (ch_R h a0 0) 2) x2)) + x5) - x3) ∧ (0 < ((ch_R h a1 0)) ∧ ((0:Int) ≤ ((((ch_I h a1 1) + (ch_I h (ch_R h (ch_R h a0 0) 2) x2)) + x5) - x3) ∧ ((((ch_I h a1 1) + (ch_I h (ch_R h (ch_R h a0 0) 2) x2)) + x5) - x3) < ch_L h (ch_R h a1 0)) ∧ ((¬ (ch_I h (ch_R h a1 0) ((((ch_I h a1 1) + (ch_I h (ch_R h (ch_R h a0 0) 2) x2)) + x5) - x3)) = 0 → ((¬ x4 = 0 → (0 < ((ch_R h (ch_R h a0 0) 3)) ∧ ((0:Int) ≤ x5 ∧ x5 < ch_L h (ch_R h (ch_R h a0 0) 3)) ∧ cw d cd_Mover_moveBlock Q 113 [some (vR 4 a0), some (vR 5 a1), some (vI x2), some (vI x3), some (vI x4), some (vI x5), some (vI (ch_I h (ch_R h a1 0) ((((ch_I h a1 1) + (ch_I h (ch_R h (ch_R h a0 0) 2) x2)) + x5) - x3))), some (vI (ch_I h (ch_R h (ch_R h a0 0) 3) x5)), some (vI 0)] [] h)) ∧ (x4 = 0 → (cU d m_Arr_fill [vR 20 (ch_R h a0 8), vI 0] h fun h11 => (0 < ((ch_R h11 a0 0)) ∧ (0 < ((ch_R h11 (ch_R h11 a0 0) 3)) ∧ ((0:Int) ≤ x5 ∧ x5 < ch_L h11 (ch_R h11 (ch_R h11 a0 0) 3)) ∧ cw d cd_Mover_moveBlock Q 113 [some (vR 4 a0), some (vR 5 a1), some (vI x2), some (vI x3), some (vI 1), some (vI x5), some (vI (ch_I h (ch_R h a1 0) ((((ch_I h a1 1) + (ch_I h (ch_R h (ch_R h a0 0) 2) x2)) + x5) - x3))), some (vI (ch_I h11 (ch_R h11 (ch_R h11 a0 0) 3) x5)), some (vI 0)] [] h11)))))) ∧ ((ch_I h (ch_R h a1 0) ((((ch_I h a1 1) + (ch_I h (ch_R h (ch_R h a0 0) 2) x2)) + x5) - x3)) = 0 → (cm_i (x5 + 1) ∧ cw d cd_Mover_moveBlock Q 23 [some (vR 4 a0), some (vR 5 a1), some (vI x2), some (vI x3), some (vI x4), some (vI (x5 + 1)), some (vI (ch_I h (ch_R h a1 0) ((((ch_I h a1 1) + (ch_I h (ch_R h (ch_R h a0 0) 2) x2)) + x5) - x3))), z7, z8] [] h)))))))))) : cw d cd_Mover_moveBlock Q 48 [some (vR 4 a0), some (vR 5 a1), some (vI x2), some (vI x3), some (vI x4), some (vI x5), z6, z7, z8] [] h := by
  refine w_aload rfl rfl ?_
  refine w_getR 0 20 rfl rfl rfl rfl p_a1 ?_
  refine w_aload rfl rfl ?_
  refine w_getI 1 rfl rfl rfl p_a1 ?_
  refine w_aload rfl rfl ?_
  refine w_getR 0 9 rfl rfl rfl rfl p_a0 ?_
  have o1 := H.1
  replace H := H.2
  refine w_getR 2 20 rfl rfl rfl rfl o1 ?_
  refine w_iload rfl rfl ?_
  have o2 := H.1
  replace H := H.2
  have o3 := H.1
  replace H := H.2
  refine w_iaload rfl o2 o3 ?_
  have o4 := H.1
  replace H := H.2
  refine w_iadd rfl o4 ?_
  refine w_iload rfl rfl ?_
  have o5 := H.1
  replace H := H.2
  refine w_iadd rfl o5 ?_
  refine w_iload rfl rfl ?_
  have o6 := H.1
  replace H := H.2
  refine w_isub rfl o6 ?_
  have o7 := H.1
  replace H := H.2
  have o8 := H.1
  replace H := H.2
  refine w_iaload rfl o7 o8 ?_
  refine w_istore rfl rfl ?_
  refine w_iload rfl rfl ?_
  refine w_if rfl (And.intro (fun hc => ?_) (fun hc => ?_))
  · replace H := H.1 hc
    refine w_iload rfl rfl ?_
    refine w_if rfl (And.intro (fun hc => ?_) (fun hc => ?_))
    · replace H := H.1 hc
      refine w_aload rfl rfl ?_
      refine w_getR 0 9 rfl rfl rfl rfl p_a0 ?_
      refine w_getR 3 20 rfl rfl rfl rfl o1 ?_
      refine w_iload rfl rfl ?_
      have o9 := H.1
      replace H := H.2
      have o10 := H.1
      replace H := H.2
      refine w_iaload rfl o9 o10 ?_
      refine w_istore rfl rfl ?_
      refine w_iconst rfl ⟨by decide, by decide⟩ ?_
      refine w_istore rfl rfl ?_
      exact H
    · replace H := H.2 hc
      refine w_aload rfl rfl ?_
      refine w_getR 8 20 rfl rfl rfl rfl p_a0 ?_
      refine w_iconst rfl ⟨by decide, by decide⟩ ?_
      refine w_callU rfl (fun _ => rfl) rfl (cU_mono H fun h11 H => ?_)
      refine w_iconst rfl ⟨by decide, by decide⟩ ?_
      refine w_istore rfl rfl ?_
      refine w_aload rfl rfl ?_
      refine w_getR 0 9 rfl rfl rfl rfl p_a0 ?_
      have o12 := H.1
      replace H := H.2
      refine w_getR 3 20 rfl rfl rfl rfl o12 ?_
      refine w_iload rfl rfl ?_
      have o13 := H.1
      replace H := H.2
      have o14 := H.1
      replace H := H.2
      refine w_iaload rfl o13 o14 ?_
      refine w_istore rfl rfl ?_
      refine w_iconst rfl ⟨by decide, by decide⟩ ?_
      refine w_istore rfl rfl ?_
      exact H
  · replace H := H.2 hc
    refine w_goto rfl ?_
    have o15 := H.1
    replace H := H.2
    refine w_iinc rfl rfl rfl o15 ?_
    refine w_goto rfl ?_
    exact H
set_option maxHeartbeats 4000000 in
set_option maxRecDepth 100000 in
theorem r_Mover_moveBlock_113 {d : Nat} {Q : cm_Q} {h : cm_H} {a0 : Nat} {a1 : Nat} {x2 : Int} {x3 : Int} {x4 : Int} {x5 : Int} {x6 : Int} {x7 : Int} {x8 : Int} (p_a0 : 0 < a0) (H : (0 < ((ch_R h a0 0)) ∧ (cm_i (x5 + 1) ∧ (0 < ((ch_R h (ch_R h a0 0) 2)) ∧ ((0:Int) ≤ (x5 + 1) ∧ (x5 + 1) < ch_L h (ch_R h (ch_R h a0 0) 2)) ∧ (((ch_I h (ch_R h (ch_R h a0 0) 2) (x5 + 1)) ≤ x8 → cw d cd_Mover_moveBlock Q 23 [some (vR 4 a0), some (vR 5 a1), some (vI x2), some (vI x3), some (vI x4), some (vI (x5 + 1)), some (vI x6), some (vI x7), some (vI x8)] [] h) ∧ (x8 < (ch_I h (ch_R h (ch_R h a0 0) 2) (x5 + 1)) → (0 < ((ch_R h a0 8)) ∧ ((0:Int) ≤ x8 ∧ x8 < ch_L h (ch_R h a0 8)) ∧ (cm_i (x7 + x8) ∧ (0 < ((ch_R h a0 9)) ∧ ((0:Int) ≤ (x7 + x8) ∧ (x7 + x8) < ch_L h (ch_R h a0 9)) ∧ (cm_i (x6 * (ch_I h (ch_R h a0 9) (x7 + x8))) ∧ (cm_i ((ch_I h (ch_R h a0 8) x8) + (x6 * (ch_I h (ch_R h a0 9) (x7 + x8)))) ∧ (∀ h12 : cm_H, h12 = ch_u h (ch_R h a0 8) x8 (Int.tmod ((ch_I h (ch_R h a0 8) x8) + (x6 * (ch_I h (ch_R h a0 9) (x7 + x8)))) 2521) → (cm_i (x8 + 1) ∧ cw d cd_Mover_moveBlock Q 113 [some (vR 4 a0), some (vR 5 a1), some (vI x2), some (vI x3), some (vI x4), some (vI x5), some (vI x6), some (vI x7), some (vI (x8 + 1))] [] h12))))))))))))) : cw d cd_Mover_moveBlock Q 113 [some (vR 4 a0), some (vR 5 a1), some (vI x2), some (vI x3), some (vI x4), some (vI x5), some (vI x6), some (vI x7), some (vI x8)] [] h := by
  refine w_iload rfl rfl ?_
  refine w_aload rfl rfl ?_
  refine w_getR 0 9 rfl rfl rfl rfl p_a0 ?_
  have o1 := H.1
  replace H := H.2
  refine w_getR 2 20 rfl rfl rfl rfl o1 ?_
  refine w_iload rfl rfl ?_
  refine w_iconst rfl ⟨by decide, by decide⟩ ?_
  have o2 := H.1
  replace H := H.2
  refine w_iadd rfl o2 ?_
  have o3 := H.1
  replace H := H.2
  have o4 := H.1
  replace H := H.2
  refine w_iaload rfl o3 o4 ?_
  refine w_icmp rfl (And.intro (fun hc => ?_) (fun hc => ?_))
  · replace H := H.1 hc
    refine w_iinc rfl rfl rfl o2 ?_
    refine w_goto rfl ?_
    exact H
  · replace H := H.2 hc
    refine w_aload rfl rfl ?_
    refine w_getR 8 20 rfl rfl rfl rfl p_a0 ?_
    refine w_iload rfl rfl ?_
    refine w_aload rfl rfl ?_
    refine w_getR 8 20 rfl rfl rfl rfl p_a0 ?_
    refine w_iload rfl rfl ?_
    have o5 := H.1
    replace H := H.2
    have o6 := H.1
    replace H := H.2
    refine w_iaload rfl o5 o6 ?_
    refine w_iload rfl rfl ?_
    refine w_aload rfl rfl ?_
    refine w_getR 9 20 rfl rfl rfl rfl p_a0 ?_
    refine w_iload rfl rfl ?_
    refine w_iload rfl rfl ?_
    have o7 := H.1
    replace H := H.2
    refine w_iadd rfl o7 ?_
    have o8 := H.1
    replace H := H.2
    have o9 := H.1
    replace H := H.2
    refine w_iaload rfl o8 o9 ?_
    have o10 := H.1
    replace H := H.2
    refine w_imul rfl o10 ?_
    have o11 := H.1
    replace H := H.2
    refine w_iadd rfl o11 ?_
    refine w_iconst rfl ⟨by decide, by decide⟩ ?_
    refine w_irem rfl (by decide) ?_
    refine w_iastore rfl o5 o6 (fun h12 eh12 => ?_)
    replace H := H h12 eh12
    have o13 := H.1
    replace H := H.2
    refine w_iinc rfl rfl rfl o13 ?_
    refine w_goto rfl ?_
    exact H
set_option maxHeartbeats 4000000 in
set_option maxRecDepth 100000 in
theorem r_Mover_moveBlock {d : Nat} {Q : cm_Q} {h : cm_H} {a0 : Nat} {a1 : Nat} {x2 : Int} (p_a0 : 0 < a0) (H : (0 < ((ch_R h a0 0)) ∧ ((¬ (ch_I h (ch_R h a0 0) 0) = 3 → cw d cd_Mover_moveBlock Q 23 [some (vR 4 a0), some (vR 5 a1), some (vI x2), some (vI x2), some (vI 0), some (vI x2), none, none, none] [] h) ∧ ((ch_I h (ch_R h a0 0) 0) = 3 → cw d cd_Mover_moveBlock Q 23 [some (vR 4 a0), some (vR 5 a1), some (vI x2), some (vI 0), some (vI 0), some (vI 0), none, none, none] [] h)))) : cm_call (d + 1) m_Mover_moveBlock [vR 4 a0, vR 5 a1, vI x2] h Q := by
  refine cm_call_in (C := cd_Mover_moveBlock) (ls := [some (vR 4 a0), some (vR 5 a1), some (vI x2), none, none, none, none, none, none]) rfl rfl p_a0 rfl ?_
  refine w_aload rfl rfl ?_
  refine w_getR 0 9 rfl rfl rfl rfl p_a0 ?_
  have o1 := H.1
  replace H := H.2
  refine w_getI 0 rfl rfl rfl o1 ?_
  refine w_iconst rfl ⟨by decide, by decide⟩ ?_
  refine w_icmp rfl (And.intro (fun hc => ?_) (fun hc => ?_))
  · replace H := H.1 hc
    refine w_iload rfl rfl ?_
    refine w_istore rfl rfl ?_
    refine w_iconst rfl ⟨by decide, by decide⟩ ?_
    refine w_istore rfl rfl ?_
    refine w_iload rfl rfl ?_
    refine w_istore rfl rfl ?_
    exact H
  · replace H := H.2 hc
    refine w_iconst rfl ⟨by decide, by decide⟩ ?_
    refine w_goto rfl ?_
    refine w_istore rfl rfl ?_
    refine w_iconst rfl ⟨by decide, by decide⟩ ?_
    refine w_istore rfl rfl ?_
    refine w_iload rfl rfl ?_
    refine w_istore rfl rfl ?_
    exact H
set_option maxHeartbeats 4000000 in
set_option maxRecDepth 100000 in
theorem r_Mover_timesForm_82 {d : Nat} {Q : cm_Q} {h : cm_H} {a0 : Nat} {a1 : Nat} {x2 : Int} {z3 : Option cm_V} {z4 : Option cm_V} {z5 : Option cm_V} {x6 : Int} {x7 : Int} {x8 : Int} {x9 : Int} {x10 : Int} {z11 : Option cm_V} {z12 : Option cm_V} (p_a1 : 0 < a1) (p_a0 : 0 < a0) (H : ((x10 < 0 → cw d cd_Mover_timesForm Q 171 [some (vR 4 a0), some (vR 20 a1), some (vI x2), z3, z4, z5, some (vI x6), some (vI x7), some (vI x8), some (vI x9), some (vI x2), z11, z12] [] h) ∧ (0 ≤ x10 → (cm_i (x2 + x10) ∧ ((0:Int) ≤ (x2 + x10) ∧ (x2 + x10) < ch_L h a1) ∧ ((¬ (ch_I h a1 (x2 + x10)) = 0 → (0 < ((ch_R h a0 0)) ∧ (0 < ((ch_R h (ch_R h a0 0) 5)) ∧ ((0:Int) ≤ x10 ∧ x10 < ch_L h (ch_R h (ch_R h a0 0) 5)) ∧ (cm_i ((x2 + x10) + (ch_I h (ch_R h (ch_R h a0 0) 5) x10)) ∧ (cm_i (x7 * (ch_I h a1 (x2 + x10))) ∧ (∀ h8 : cm_H, h8 = ch_u h a1 (x2 + x10) (x7 * (ch_I h a1 (x2 + x10))) → ((0:Int) ≤ ((x2 + x10) + (ch_I h (ch_R h (ch_R h a0 0) 5) x10)) ∧ ((x2 + x10) + (ch_I h (ch_R h (ch_R h a0 0) 5) x10)) < ch_L h8 a1) ∧ (cm_i (x8 * (ch_I h a1 (x2 + x10))) ∧ (cm_i ((ch_I h8 a1 ((x2 + x10) + (ch_I h (ch_R h (ch_R h a0 0) 5) x10))) + (x8 * (ch_I h a1 (x2 + x10)))) ∧ (∀ h12 : cm_H, h12 = ch_u h8 a1 ((x2 + x10) + (ch_I h (ch_R h (ch_R h a0 0) 5) x10)) ((ch_I h8 a1 ((x2 + x10) + (ch_I h (ch_R h (ch_R h a0 0) 5) x10))) + (x8 * (ch_I h a1 (x2 + x10)))) → ((x9 = 0 → (cm_i (x10 + (-1)) ∧ cw d cd_Mover_timesForm Q 82 [some (vR 4 a0), some (vR 20 a1), some (vI x2), z3, z4, z5, some (vI x6), some (vI x7), some (vI x8), some (vI x9), some (vI (x10 + (-1))), some (vI (ch_I h a1 (x2 + x10))), some (vI ((x2 + x10) + (ch_I h (ch_R h (ch_R h a0 0) 5) x10)))] [] h12)) ∧ (¬ x9 = 0 → (cm_i (((x2 + x10) + (ch_I h (ch_R h (ch_R h a0 0) 5) x10)) + 1) ∧ ((0:Int) ≤ (((x2 + x10) + (ch_I h (ch_R h (ch_R h a0 0) 5) x10)) + 1) ∧ (((x2 + x10) + (ch_I h (ch_R h (ch_R h a0 0) 5) x10)) + 1) < ch_L h12 a1) ∧ (cm_i (x9 * (ch_I h a1 (x2 + x10))) ∧ (cm_i ((ch_I h12 a1 (((x2 + x10) + (ch_I h (ch_R h (ch_R h a0 0) 5) x10)) + 1)) + (x9 * (ch_I h a1 (x2 + x10)))) ∧ (∀ h18 : cm_H, h18 = ch_u h12 a1 (((x2 + x10) + (ch_I h (ch_R h (ch_R h a0 0) 5) x10)) + 1) ((ch_I h12 a1 (((x2 + x10) + (ch_I h (ch_R h (ch_R h a0 0) 5) x10)) + 1)) + (x9 * (ch_I h a1 (x2 + x10)))) → (cm_i (x10 + (-1)) ∧ cw d cd_Mover_timesForm Q 82 [some (vR 4 a0), some (vR 20 a1), some (vI x2), z3, z4, z5, some (vI x6), some (vI x7), some (vI x8), some (vI x9), some (vI (x10 + (-1))), some (vI (ch_I h a1 (x2 + x10))), some (vI ((x2 + x10) + (ch_I h (ch_R h (ch_R h a0 0) 5) x10)))] [] h18)))))))))))))))) ∧ ((ch_I h a1 (x2 + x10)) = 0 → (cm_i (x10 + (-1)) ∧ cw d cd_Mover_timesForm Q 82 [some (vR 4 a0), some (vR 20 a1), some (vI x2), z3, z4, z5, some (vI x6), some (vI x7), some (vI x8), some (vI x9), some (vI (x10 + (-1))), some (vI (ch_I h a1 (x2 + x10))), z12] [] h))))))) : cw d cd_Mover_timesForm Q 82 [some (vR 4 a0), some (vR 20 a1), some (vI x2), z3, z4, z5, some (vI x6), some (vI x7), some (vI x8), some (vI x9), some (vI x10), z11, z12] [] h := by
  refine w_iload rfl rfl ?_
  refine w_if rfl (And.intro (fun hc => ?_) (fun hc => ?_))
  · replace H := H.1 hc
    refine w_iload rfl rfl ?_
    refine w_istore rfl rfl ?_
    exact H
  · replace H := H.2 hc
    refine w_aload rfl rfl ?_
    refine w_iload rfl rfl ?_
    refine w_iload rfl rfl ?_
    have o1 := H.1
    replace H := H.2
    refine w_iadd rfl o1 ?_
    have o2 := H.1
    replace H := H.2
    refine w_iaload rfl p_a1 o2 ?_
    refine w_istore rfl rfl ?_
    refine w_iload rfl rfl ?_
    refine w_if rfl (And.intro (fun hc => ?_) (fun hc => ?_))
    · replace H := H.1 hc
      refine w_iload rfl rfl ?_
      refine w_iload rfl rfl ?_
      refine w_iadd rfl o1 ?_
      refine w_aload rfl rfl ?_
      refine w_getR 0 9 rfl rfl rfl rfl p_a0 ?_
      have o3 := H.1
      replace H := H.2
      refine w_getR 5 20 rfl rfl rfl rfl o3 ?_
      refine w_iload rfl rfl ?_
      have o4 := H.1
      replace H := H.2
      have o5 := H.1
      replace H := H.2
      refine w_iaload rfl o4 o5 ?_
      have o6 := H.1
      replace H := H.2
      refine w_iadd rfl o6 ?_
      refine w_istore rfl rfl ?_
      refine w_aload rfl rfl ?_
      refine w_iload rfl rfl ?_
      refine w_iload rfl rfl ?_
      refine w_iadd rfl o1 ?_
      refine w_iload rfl rfl ?_
      refine w_iload rfl rfl ?_
      have o7 := H.1
      replace H := H.2
      refine w_imul rfl o7 ?_
      refine w_iastore rfl p_a1 o2 (fun h8 eh8 => ?_)
      replace H := H h8 eh8
      refine w_aload rfl rfl ?_
      refine w_iload rfl rfl ?_
      refine w_dup2 rfl rfl ?_
      have o9 := H.1
      replace H := H.2
      refine w_iaload rfl p_a1 o9 ?_
      refine w_iload rfl rfl ?_
      refine w_iload rfl rfl ?_
      have o10 := H.1
      replace H := H.2
      refine w_imul rfl o10 ?_
      have o11 := H.1
      replace H := H.2
      refine w_iadd rfl o11 ?_
      refine w_iastore rfl p_a1 o9 (fun h12 eh12 => ?_)
      replace H := H h12 eh12
      refine w_iload rfl rfl ?_
      refine w_if rfl (And.intro (fun hc => ?_) (fun hc => ?_))
      · replace H := H.1 hc
        have o13 := H.1
        replace H := H.2
        refine w_iinc rfl rfl rfl o13 ?_
        refine w_goto rfl ?_
        exact H
      · replace H := H.2 hc
        refine w_aload rfl rfl ?_
        refine w_iload rfl rfl ?_
        refine w_iconst rfl ⟨by decide, by decide⟩ ?_
        have o14 := H.1
        replace H := H.2
        refine w_iadd rfl o14 ?_
        refine w_dup2 rfl rfl ?_
        have o15 := H.1
        replace H := H.2
        refine w_iaload rfl p_a1 o15 ?_
        refine w_iload rfl rfl ?_
        refine w_iload rfl rfl ?_
        have o16 := H.1
        replace H := H.2
        refine w_imul rfl o16 ?_
        have o17 := H.1
        replace H := H.2
        refine w_iadd rfl o17 ?_
        refine w_iastore rfl p_a1 o15 (fun h18 eh18 => ?_)
        replace H := H h18 eh18
        have o19 := H.1
        replace H := H.2
        refine w_iinc rfl rfl rfl o19 ?_
        refine w_goto rfl ?_
        exact H
    · replace H := H.2 hc
      refine w_goto rfl ?_
      have o20 := H.1
      replace H := H.2
      refine w_iinc rfl rfl rfl o20 ?_
      refine w_goto rfl ?_
      exact H
set_option maxHeartbeats 4000000 in
set_option maxRecDepth 100000 in
theorem r_Mover_timesForm_171 {d : Nat} {Q : cm_Q} {h : cm_H} {z0 : Option cm_V} {a1 : Nat} {x2 : Int} {z3 : Option cm_V} {z4 : Option cm_V} {z5 : Option cm_V} {x6 : Int} {z7 : Option cm_V} {z8 : Option cm_V} {z9 : Option cm_V} {x10 : Int} {z11 : Option cm_V} {z12 : Option cm_V} (p_a1 : 0 < a1) (H : (cm_i (x2 + x6) ∧ (((x2 + x6) ≤ x10 → Q none h) ∧ (x10 < (x2 + x6) → ((0:Int) ≤ x10 ∧ x10 < ch_L h a1) ∧ (∀ h3 : cm_H, h3 = ch_u h a1 x10 (Int.tmod (ch_I h a1 x10) 2521) → (cm_i (x10 + 1) ∧ cw d cd_Mover_timesForm Q 171 [z0, some (vR 20 a1), some (vI x2), z3, z4, z5, some (vI x6), z7, z8, z9, some (vI (x10 + 1)), z11, z12] [] h3)))))) : cw d cd_Mover_timesForm Q 171 [z0, some (vR 20 a1), some (vI x2), z3, z4, z5, some (vI x6), z7, z8, z9, some (vI x10), z11, z12] [] h := by
  refine w_iload rfl rfl ?_
  refine w_iload rfl rfl ?_
  refine w_iload rfl rfl ?_
  have o1 := H.1
  replace H := H.2
  refine w_iadd rfl o1 ?_
  refine w_icmp rfl (And.intro (fun hc => ?_) (fun hc => ?_))
  · replace H := H.1 hc
    exact w_return rfl H
  · replace H := H.2 hc
    refine w_aload rfl rfl ?_
    refine w_iload rfl rfl ?_
    refine w_dup2 rfl rfl ?_
    have o2 := H.1
    replace H := H.2
    refine w_iaload rfl p_a1 o2 ?_
    refine w_iconst rfl ⟨by decide, by decide⟩ ?_
    refine w_irem rfl (by decide) ?_
    refine w_iastore rfl p_a1 o2 (fun h3 eh3 => ?_)
    replace H := H h3 eh3
    have o4 := H.1
    replace H := H.2
    refine w_iinc rfl rfl rfl o4 ?_
    refine w_goto rfl ?_
    exact H
set_option maxHeartbeats 4000000 in
set_option maxRecDepth 100000 in
theorem r_Mover_timesForm {d : Nat} {Q : cm_Q} {h : cm_H} {a0 : Nat} {a1 : Nat} {x2 : Int} {x3 : Int} {x4 : Int} (p_a0 : 0 < a0) (H : (0 < ((ch_R h a0 0)) ∧ (cm_i (x3 + 1) ∧ (0 < ((ch_R h (ch_R h a0 0) 2)) ∧ ((0:Int) ≤ (x3 + 1) ∧ (x3 + 1) < ch_L h (ch_R h (ch_R h a0 0) 2)) ∧ (cm_i (x3 + 2) ∧ ((0:Int) ≤ (x3 + 2) ∧ (x3 + 2) < ch_L h (ch_R h (ch_R h a0 0) 2)) ∧ (cm_i (3 * x4) ∧ (0 < ((ch_R h a0 2)) ∧ ((0:Int) ≤ (3 * x4) ∧ (3 * x4) < ch_L h (ch_R h a0 2)) ∧ (cm_i ((3 * x4) + 1) ∧ ((0:Int) ≤ ((3 * x4) + 1) ∧ ((3 * x4) + 1) < ch_L h (ch_R h a0 2)) ∧ (cm_i ((3 * x4) + 2) ∧ ((0:Int) ≤ ((3 * x4) + 2) ∧ ((3 * x4) + 2) < ch_L h (ch_R h a0 2)) ∧ (cm_i (x2 + (ch_I h (ch_R h (ch_R h a0 0) 2) (x3 + 1))) ∧ (cm_i (x2 + (ch_I h (ch_R h (ch_R h a0 0) 2) (x3 + 2))) ∧ (cU d m_Arr_fill4 [vR 20 a1, vI (x2 + (ch_I h (ch_R h (ch_R h a0 0) 2) (x3 + 1))), vI (x2 + (ch_I h (ch_R h (ch_R h a0 0) 2) (x3 + 2))), vI 0] h fun h16 => (cm_i ((ch_I h (ch_R h (ch_R h a0 0) 2) (x3 + 1)) - 1) ∧ cw d cd_Mover_timesForm Q 82 [some (vR 4 a0), some (vR 20 a1), some (vI x2), some (vI x3), some (vI x4), some (vI (ch_I h (ch_R h (ch_R h a0 0) 2) (x3 + 1))), some (vI (ch_I h (ch_R h (ch_R h a0 0) 2) (x3 + 2))), some (vI (ch_I h (ch_R h a0 2) (3 * x4))), some (vI (ch_I h (ch_R h a0 2) ((3 * x4) + 1))), some (vI (ch_I h (ch_R h a0 2) ((3 * x4) + 2))), some (vI ((ch_I h (ch_R h (ch_R h a0 0) 2) (x3 + 1)) - 1)), none, none] [] h16))))))))))))) : cm_call (d + 1) m_Mover_timesForm [vR 4 a0, vR 20 a1, vI x2, vI x3, vI x4] h Q := by
  refine cm_call_in (C := cd_Mover_timesForm) (ls := [some (vR 4 a0), some (vR 20 a1), some (vI x2), some (vI x3), some (vI x4), none, none, none, none, none, none, none, none]) rfl rfl p_a0 rfl ?_
  refine w_aload rfl rfl ?_
  refine w_getR 0 9 rfl rfl rfl rfl p_a0 ?_
  have o1 := H.1
  replace H := H.2
  refine w_getR 2 20 rfl rfl rfl rfl o1 ?_
  refine w_iload rfl rfl ?_
  refine w_iconst rfl ⟨by decide, by decide⟩ ?_
  have o2 := H.1
  replace H := H.2
  refine w_iadd rfl o2 ?_
  have o3 := H.1
  replace H := H.2
  have o4 := H.1
  replace H := H.2
  refine w_iaload rfl o3 o4 ?_
  refine w_istore rfl rfl ?_
  refine w_aload rfl rfl ?_
  refine w_getR 0 9 rfl rfl rfl rfl p_a0 ?_
  refine w_getR 2 20 rfl rfl rfl rfl o1 ?_
  refine w_iload rfl rfl ?_
  refine w_iconst rfl ⟨by decide, by decide⟩ ?_
  have o5 := H.1
  replace H := H.2
  refine w_iadd rfl o5 ?_
  have o6 := H.1
  replace H := H.2
  refine w_iaload rfl o3 o6 ?_
  refine w_istore rfl rfl ?_
  refine w_aload rfl rfl ?_
  refine w_getR 2 20 rfl rfl rfl rfl p_a0 ?_
  refine w_iconst rfl ⟨by decide, by decide⟩ ?_
  refine w_iload rfl rfl ?_
  have o7 := H.1
  replace H := H.2
  refine w_imul rfl o7 ?_
  have o8 := H.1
  replace H := H.2
  have o9 := H.1
  replace H := H.2
  refine w_iaload rfl o8 o9 ?_
  refine w_istore rfl rfl ?_
  refine w_aload rfl rfl ?_
  refine w_getR 2 20 rfl rfl rfl rfl p_a0 ?_
  refine w_iconst rfl ⟨by decide, by decide⟩ ?_
  refine w_iload rfl rfl ?_
  refine w_imul rfl o7 ?_
  refine w_iconst rfl ⟨by decide, by decide⟩ ?_
  have o10 := H.1
  replace H := H.2
  refine w_iadd rfl o10 ?_
  have o11 := H.1
  replace H := H.2
  refine w_iaload rfl o8 o11 ?_
  refine w_istore rfl rfl ?_
  refine w_aload rfl rfl ?_
  refine w_getR 2 20 rfl rfl rfl rfl p_a0 ?_
  refine w_iconst rfl ⟨by decide, by decide⟩ ?_
  refine w_iload rfl rfl ?_
  refine w_imul rfl o7 ?_
  refine w_iconst rfl ⟨by decide, by decide⟩ ?_
  have o12 := H.1
  replace H := H.2
  refine w_iadd rfl o12 ?_
  have o13 := H.1
  replace H := H.2
  refine w_iaload rfl o8 o13 ?_
  refine w_istore rfl rfl ?_
  refine w_aload rfl rfl ?_
  refine w_iload rfl rfl ?_
  refine w_iload rfl rfl ?_
  have o14 := H.1
  replace H := H.2
  refine w_iadd rfl o14 ?_
  refine w_iload rfl rfl ?_
  refine w_iload rfl rfl ?_
  have o15 := H.1
  replace H := H.2
  refine w_iadd rfl o15 ?_
  refine w_iconst rfl ⟨by decide, by decide⟩ ?_
  refine w_callU rfl (fun _ => rfl) rfl (cU_mono H fun h16 H => ?_)
  refine w_iload rfl rfl ?_
  refine w_iconst rfl ⟨by decide, by decide⟩ ?_
  have o17 := H.1
  replace H := H.2
  refine w_isub rfl o17 ?_
  refine w_istore rfl rfl ?_
  exact H
set_option maxHeartbeats 4000000 in
set_option maxRecDepth 100000 in
theorem r_Bases_init_62 {d : Nat} {Q : cm_Q} {h : cm_H} {a0 : Nat} {z1 : Option cm_V} {z2 : Option cm_V} {x3 : Int} (p_a0 : 0 < a0) (H : ((16 ≤ x3 → Q none h) ∧ (x3 < 16 → (∀ h1 : cm_H, h1 = ch_new h 2 0 11 → (cU d m_Grade_init [vR 2 (ch_n h), vI x3] h1 fun h2 => (0 < ((ch_n h)) ∧ 0 < ((ch_R h a0 5)) ∧ ((0:Int) ≤ x3 ∧ x3 < ch_L h2 (ch_R h a0 5)) ∧ (∀ h6 : cm_H, h6 = ch_r h2 (ch_R h a0 5) x3 (ch_n h) → (cm_i (x3 + 1) ∧ cw d cd_Bases_init Q 62 [some (vR 0 a0), z1, z2, some (vI (x3 + 1))] [] h6)))))))) : cw d cd_Bases_init Q 62 [some (vR 0 a0), z1, z2, some (vI x3)] [] h := by
  refine w_iload rfl rfl ?_
  refine w_iconst rfl ⟨by decide, by decide⟩ ?_
  refine w_icmp rfl (And.intro (fun hc => ?_) (fun hc => ?_))
  · replace H := H.1 hc
    exact w_return rfl H
  · replace H := H.2 hc
    refine w_aload rfl rfl ?_
    refine w_getR 5 24 rfl rfl rfl rfl p_a0 ?_
    refine w_iload rfl rfl ?_
    refine w_new 2 11 rfl rfl rfl (fun h1 eh1 => ?_)
    replace H := H h1 eh1
    refine w_dup rfl rfl ?_
    refine w_iload rfl rfl ?_
    refine w_callU rfl (fun _ => rfl) rfl (cU_mono H fun h2 H => ?_)
    have o3 := H.1
    replace H := H.2
    have o4 := H.1
    replace H := H.2
    have o5 := H.1
    replace H := H.2
    refine w_aastore rfl rfl rfl o3 o4 o5 (fun h6 eh6 => ?_)
    replace H := H h6 eh6
    have o7 := H.1
    replace H := H.2
    refine w_iinc rfl rfl rfl o7 ?_
    refine w_goto rfl ?_
    exact H
set_option maxHeartbeats 4000000 in
set_option maxRecDepth 100000 in
theorem r_Bases_init {d : Nat} {Q : cm_Q} {h : cm_H} {a0 : Nat} {a1 : Nat} {a2 : Nat} (p_a0 : 0 < a0) (H : (∀ h1 : cm_H, h1 = ch_new h 20 16 (Int.toNat 16) → (∀ h2 : cm_H, h2 = ch_r h1 a0 4 (ch_n h) → (∀ h3 : cm_H, h3 = ch_new h2 24 16 (Int.toNat 16) → (∀ h4 : cm_H, h4 = ch_r h3 a0 5 (ch_n h2) → (∀ h5 : cm_H, h5 = ch_new h4 20 136 (Int.toNat 136) → (∀ h6 : cm_H, h6 = ch_r h5 a0 6 (ch_n h4) → (∀ h7 : cm_H, h7 = ch_new h6 20 136 (Int.toNat 136) → (∀ h8 : cm_H, h8 = ch_r h7 a0 7 (ch_n h6) → (∀ h9 : cm_H, h9 = ch_new h8 5 0 3 → (cU d m_Piece_init [vR 5 (ch_n h8)] h9 fun h10 => (∀ h11 : cm_H, h11 = ch_r h10 a0 8 (ch_n h8) → (∀ h12 : cm_H, h12 = ch_r h11 a0 0 a1 → (∀ h13 : cm_H, h13 = ch_r h12 a0 1 a2 → cw d cd_Bases_init Q 62 [some (vR 0 a0), some (vR 4 a1), some (vR 1 a2), some (vI 0)] [] h13)))))))))))))) : cm_call (d + 1) m_Bases_init [vR 0 a0, vR 4 a1, vR 1 a2] h Q := by
  refine cm_call_in (C := cd_Bases_init) (ls := [some (vR 0 a0), some (vR 4 a1), some (vR 1 a2), none]) rfl rfl p_a0 rfl ?_
  refine w_aload rfl rfl ?_
  refine w_objInit rfl rfl p_a0 ?_
  refine w_aload rfl rfl ?_
  refine w_iconst rfl ⟨by decide, by decide⟩ ?_
  refine w_newI rfl (by decide) (fun h1 eh1 => ?_)
  replace H := H h1 eh1
  refine w_putR 4 rfl rfl rfl rfl p_a0 (fun h2 eh2 => ?_)
  replace H := H h2 eh2
  refine w_aload rfl rfl ?_
  refine w_iconst rfl ⟨by decide, by decide⟩ ?_
  refine w_newA rfl (by decide) (fun h3 eh3 => ?_)
  replace H := H h3 eh3
  refine w_putR 5 rfl rfl rfl rfl p_a0 (fun h4 eh4 => ?_)
  replace H := H h4 eh4
  refine w_aload rfl rfl ?_
  refine w_iconst rfl ⟨by decide, by decide⟩ ?_
  refine w_newI rfl (by decide) (fun h5 eh5 => ?_)
  replace H := H h5 eh5
  refine w_putR 6 rfl rfl rfl rfl p_a0 (fun h6 eh6 => ?_)
  replace H := H h6 eh6
  refine w_aload rfl rfl ?_
  refine w_iconst rfl ⟨by decide, by decide⟩ ?_
  refine w_newI rfl (by decide) (fun h7 eh7 => ?_)
  replace H := H h7 eh7
  refine w_putR 7 rfl rfl rfl rfl p_a0 (fun h8 eh8 => ?_)
  replace H := H h8 eh8
  refine w_aload rfl rfl ?_
  refine w_new 5 3 rfl rfl rfl (fun h9 eh9 => ?_)
  replace H := H h9 eh9
  refine w_dup rfl rfl ?_
  refine w_callU rfl (fun _ => rfl) rfl (cU_mono H fun h10 H => ?_)
  refine w_putR 8 rfl rfl rfl rfl p_a0 (fun h11 eh11 => ?_)
  replace H := H h11 eh11
  refine w_aload rfl rfl ?_
  refine w_aload rfl rfl ?_
  refine w_putR 0 rfl rfl rfl rfl p_a0 (fun h12 eh12 => ?_)
  replace H := H h12 eh12
  refine w_aload rfl rfl ?_
  refine w_aload rfl rfl ?_
  refine w_putR 1 rfl rfl rfl rfl p_a0 (fun h13 eh13 => ?_)
  replace H := H h13 eh13
  refine w_iconst rfl ⟨by decide, by decide⟩ ?_
  refine w_istore rfl rfl ?_
  exact H
set_option maxHeartbeats 4000000 in
set_option maxRecDepth 100000 in
theorem r_Bases_begin_12 {d : Nat} {Q : cm_Q} {h : cm_H} {a0 : Nat} {z1 : Option cm_V} {z2 : Option cm_V} {x3 : Int} (p_a0 : 0 < a0) (H : ((16 ≤ x3 → (cU d m_Bases_fillSizes [vR 0 a0] h fun h1 => Q none h1)) ∧ (x3 < 16 → (0 < ((ch_R h a0 5)) ∧ ((0:Int) ≤ x3 ∧ x3 < ch_L h (ch_R h a0 5)) ∧ (0 < ((ch_R h (ch_R h a0 5) x3)) ∧ (∀ h5 : cm_H, h5 = ch_u h (ch_R h (ch_R h a0 5) x3) 1 0 → (cm_i (x3 + 1) ∧ cw d cd_Bases_begin Q 12 [some (vR 0 a0), z1, z2, some (vI (x3 + 1))] [] h5))))))) : cw d cd_Bases_begin Q 12 [some (vR 0 a0), z1, z2, some (vI x3)] [] h := by
  refine w_iload rfl rfl ?_
  refine w_iconst rfl ⟨by decide, by decide⟩ ?_
  refine w_icmp rfl (And.intro (fun hc => ?_) (fun hc => ?_))
  · replace H := H.1 hc
    refine w_aload rfl rfl ?_
    refine w_callU rfl (fun _ => rfl) rfl (cU_mono H fun h1 H => ?_)
    exact w_return rfl H
  · replace H := H.2 hc
    refine w_aload rfl rfl ?_
    refine w_getR 5 24 rfl rfl rfl rfl p_a0 ?_
    refine w_iload rfl rfl ?_
    have o2 := H.1
    replace H := H.2
    have o3 := H.1
    replace H := H.2
    refine w_aaload rfl rfl rfl o2 o3 ?_
    refine w_iconst rfl ⟨by decide, by decide⟩ ?_
    have o4 := H.1
    replace H := H.2
    refine w_putZ 1 rfl rfl rfl (by decide) o4 (fun h5 eh5 => ?_)
    replace H := H h5 eh5
    have o6 := H.1
    replace H := H.2
    refine w_iinc rfl rfl rfl o6 ?_
    refine w_goto rfl ?_
    exact H
set_option maxHeartbeats 4000000 in
set_option maxRecDepth 100000 in
theorem r_Bases_begin {d : Nat} {Q : cm_Q} {h : cm_H} {a0 : Nat} {a1 : Nat} {a2 : Nat} (p_a0 : 0 < a0) (H : (∀ h1 : cm_H, h1 = ch_r h a0 2 a1 → (∀ h2 : cm_H, h2 = ch_r h1 a0 3 a2 → cw d cd_Bases_begin Q 12 [some (vR 0 a0), some (vR 9 a1), some (vR 3 a2), some (vI 0)] [] h2))) : cm_call (d + 1) m_Bases_begin [vR 0 a0, vR 9 a1, vR 3 a2] h Q := by
  refine cm_call_in (C := cd_Bases_begin) (ls := [some (vR 0 a0), some (vR 9 a1), some (vR 3 a2), none]) rfl rfl p_a0 rfl ?_
  refine w_aload rfl rfl ?_
  refine w_aload rfl rfl ?_
  refine w_putR 2 rfl rfl rfl rfl p_a0 (fun h1 eh1 => ?_)
  replace H := H h1 eh1
  refine w_aload rfl rfl ?_
  refine w_aload rfl rfl ?_
  refine w_putR 3 rfl rfl rfl rfl p_a0 (fun h2 eh2 => ?_)
  replace H := H h2 eh2
  refine w_iconst rfl ⟨by decide, by decide⟩ ?_
  refine w_istore rfl rfl ?_
  exact H
set_option maxHeartbeats 4000000 in
set_option maxRecDepth 100000 in
theorem r_Bases_fillSizes_10 {d : Nat} {Q : cm_Q} {h : cm_H} {a0 : Nat} {x1 : Int} {z2 : Option cm_V} {z3 : Option cm_V} {z4 : Option cm_V} {z5 : Option cm_V} {z6 : Option cm_V} {z7 : Option cm_V} {z8 : Option cm_V} {z9 : Option cm_V} (p_a0 : 0 < a0) (H : (0 < ((ch_R h a0 3)) ∧ (((ch_I h (ch_R h a0 3) 2) ≤ x1 → (cI d m_Works_raise [vI (ch_I h (ch_R h a0 3) 2), vI 2519] h fun v3 h2 => cw d cd_Bases_fillSizes Q 177 [some (vR 0 a0), some (vI v3), some (vI 0), z3, z4, z5, z6, z7, z8, z9] [] h2)) ∧ (x1 < (ch_I h (ch_R h a0 3) 2) → (cI d m_Members_trace [vR 3 (ch_R h a0 3), vI x1] h fun v5 h4 => (cI d m_Members_middle [vR 3 (ch_R h4 a0 3), vI x1] h4 fun v7 h6 => (cm_i (2521 - v7) ∧ (0 < ((ch_R h6 a0 2)) ∧ ((¬ (ch_I h6 (ch_R h6 a0 2) 0) = 3 → cw d cd_Bases_fillSizes Q 73 [some (vR 0 a0), some (vI x1), some (vI v5), some (vI (2521 - v7)), z4, z5, z6, z7, z8, z9] [vI 0] h6) ∧ ((ch_I h6 (ch_R h6 a0 2) 0) = 3 → (0 < ((ch_R h6 a0 3)) ∧ (cm_i (9 * x1) ∧ (cI d m_Works_determinant [vR 20 (ch_R h6 (ch_R h6 a0 3) 4), vI (9 * x1), vI 3] h6 fun v13 h12 => cw d cd_Bases_fillSizes Q 73 [some (vR 0 a0), some (vI x1), some (vI v5), some (vI (2521 - v7)), z4, z5, z6, z7, z8, z9] [vI v13] h12))))))))))))) : cw d cd_Bases_fillSizes Q 10 [some (vR 0 a0), some (vI x1), z2, z3, z4, z5, z6, z7, z8, z9] [] h := by
  refine w_iload rfl rfl ?_
  refine w_aload rfl rfl ?_
  refine w_getR 3 3 rfl rfl rfl rfl p_a0 ?_
  have o1 := H.1
  replace H := H.2
  refine w_getI 2 rfl rfl rfl o1 ?_
  refine w_icmp rfl (And.intro (fun hc => ?_) (fun hc => ?_))
  · replace H := H.1 hc
    refine w_aload rfl rfl ?_
    refine w_getR 3 3 rfl rfl rfl rfl p_a0 ?_
    refine w_getI 2 rfl rfl rfl o1 ?_
    refine w_iconst rfl ⟨by decide, by decide⟩ ?_
    refine w_callI rfl (fun _ => rfl) rfl (cI_mono H fun v3 h2 H => ?_)
    refine w_istore rfl rfl ?_
    refine w_iconst rfl ⟨by decide, by decide⟩ ?_
    refine w_istore rfl rfl ?_
    exact H
  · replace H := H.2 hc
    refine w_aload rfl rfl ?_
    refine w_getR 3 3 rfl rfl rfl rfl p_a0 ?_
    refine w_iload rfl rfl ?_
    refine w_callI rfl (fun _ => rfl) rfl (cI_mono H fun v5 h4 H => ?_)
    refine w_istore rfl rfl ?_
    refine w_iconst rfl ⟨by decide, by decide⟩ ?_
    refine w_aload rfl rfl ?_
    refine w_getR 3 3 rfl rfl rfl rfl p_a0 ?_
    refine w_iload rfl rfl ?_
    refine w_callI rfl (fun _ => rfl) rfl (cI_mono H fun v7 h6 H => ?_)
    have o8 := H.1
    replace H := H.2
    refine w_isub rfl o8 ?_
    refine w_istore rfl rfl ?_
    refine w_aload rfl rfl ?_
    refine w_getR 2 9 rfl rfl rfl rfl p_a0 ?_
    have o9 := H.1
    replace H := H.2
    refine w_getI 0 rfl rfl rfl o9 ?_
    refine w_iconst rfl ⟨by decide, by decide⟩ ?_
    refine w_icmp rfl (And.intro (fun hc => ?_) (fun hc => ?_))
    · replace H := H.1 hc
      refine w_iconst rfl ⟨by decide, by decide⟩ ?_
      exact H
    · replace H := H.2 hc
      refine w_aload rfl rfl ?_
      refine w_getR 3 3 rfl rfl rfl rfl p_a0 ?_
      have o10 := H.1
      replace H := H.2
      refine w_getR 4 20 rfl rfl rfl rfl o10 ?_
      refine w_iconst rfl ⟨by decide, by decide⟩ ?_
      refine w_iload rfl rfl ?_
      have o11 := H.1
      replace H := H.2
      refine w_imul rfl o11 ?_
      refine w_iconst rfl ⟨by decide, by decide⟩ ?_
      refine w_callI rfl (fun _ => rfl) rfl (cI_mono H fun v13 h12 H => ?_)
      refine w_goto rfl ?_
      exact H
set_option maxHeartbeats 4000000 in
set_option maxRecDepth 100000 in
theorem r_Bases_fillSizes_73 {d : Nat} {Q : cm_Q} {h : cm_H} {a0 : Nat} {x1 : Int} {x2 : Int} {x3 : Int} {z4 : Option cm_V} {z5 : Option cm_V} {z6 : Option cm_V} {z7 : Option cm_V} {z8 : Option cm_V} {z9 : Option cm_V} {s0 : Int} (p_a0 : 0 < a0) (H : (0 < ((ch_R h a0 4)) ∧ ((0:Int) ≤ 0 ∧ 0 < ch_L h (ch_R h a0 4)) ∧ (cm_i ((ch_I h (ch_R h a0 4) 0) + 1) ∧ (∀ h4 : cm_H, h4 = ch_u h (ch_R h a0 4) 0 ((ch_I h (ch_R h a0 4) 0) + 1) → cw d cd_Bases_fillSizes Q 97 [some (vR 0 a0), some (vI x1), some (vI x2), some (vI x3), some (vI s0), some (vI 1), some (vI 0), some (vI 0), some (vI 1), z9] [] h4)))) : cw d cd_Bases_fillSizes Q 73 [some (vR 0 a0), some (vI x1), some (vI x2), some (vI x3), z4, z5, z6, z7, z8, z9] [vI s0] h := by
  refine w_istore rfl rfl ?_
  refine w_iconst rfl ⟨by decide, by decide⟩ ?_
  refine w_istore rfl rfl ?_
  refine w_iconst rfl ⟨by decide, by decide⟩ ?_
  refine w_istore rfl rfl ?_
  refine w_iconst rfl ⟨by decide, by decide⟩ ?_
  refine w_istore rfl rfl ?_
  refine w_aload rfl rfl ?_
  refine w_getR 4 20 rfl rfl rfl rfl p_a0 ?_
  refine w_iconst rfl ⟨by decide, by decide⟩ ?_
  refine w_dup2 rfl rfl ?_
  have o1 := H.1
  replace H := H.2
  have o2 := H.1
  replace H := H.2
  refine w_iaload rfl o1 o2 ?_
  refine w_iconst rfl ⟨by decide, by decide⟩ ?_
  have o3 := H.1
  replace H := H.2
  refine w_iadd rfl o3 ?_
  refine w_iastore rfl o1 o2 (fun h4 eh4 => ?_)
  replace H := H h4 eh4
  refine w_iconst rfl ⟨by decide, by decide⟩ ?_
  refine w_istore rfl rfl ?_
  exact H
set_option maxHeartbeats 4000000 in
set_option maxRecDepth 100000 in
theorem r_Bases_fillSizes_97 {d : Nat} {Q : cm_Q} {h : cm_H} {a0 : Nat} {x1 : Int} {x2 : Int} {x3 : Int} {x4 : Int} {x5 : Int} {x6 : Int} {x7 : Int} {x8 : Int} {z9 : Option cm_V} (p_a0 : 0 < a0) (H : ((16 ≤ x8 → (cm_i (x1 + 1) ∧ cw d cd_Bases_fillSizes Q 10 [some (vR 0 a0), some (vI (x1 + 1)), some (vI x2), some (vI x3), some (vI x4), some (vI x5), some (vI x6), some (vI x7), some (vI x8), z9] [] h)) ∧ (x8 < 16 → (cm_i (x2 * x5) ∧ (cm_i (x3 * x6) ∧ (cm_i ((x2 * x5) + (x3 * x6)) ∧ (cm_i (x4 * x7) ∧ (cm_i (((x2 * x5) + (x3 * x6)) + (x4 * x7)) ∧ (0 < ((ch_R h a0 4)) ∧ ((0:Int) ≤ x8 ∧ x8 < ch_L h (ch_R h a0 4)) ∧ (cm_i ((ch_I h (ch_R h a0 4) x8) + (Int.tmod (((x2 * x5) + (x3 * x6)) + (x4 * x7)) 2521)) ∧ (∀ h10 : cm_H, h10 = ch_u h (ch_R h a0 4) x8 ((ch_I h (ch_R h a0 4) x8) + (Int.tmod (((x2 * x5) + (x3 * x6)) + (x4 * x7)) 2521)) → (cm_i (x8 + 1) ∧ cw d cd_Bases_fillSizes Q 97 [some (vR 0 a0), some (vI x1), some (vI x2), some (vI x3), some (vI x4), some (vI (Int.tmod (((x2 * x5) + (x3 * x6)) + (x4 * x7)) 2521)), some (vI x5), some (vI x6), some (vI (x8 + 1)), some (vI (Int.tmod (((x2 * x5) + (x3 * x6)) + (x4 * x7)) 2521))] [] h10)))))))))))) : cw d cd_Bases_fillSizes Q 97 [some (vR 0 a0), some (vI x1), some (vI x2), some (vI x3), some (vI x4), some (vI x5), some (vI x6), some (vI x7), some (vI x8), z9] [] h := by
  refine w_iload rfl rfl ?_
  refine w_iconst rfl ⟨by decide, by decide⟩ ?_
  refine w_icmp rfl (And.intro (fun hc => ?_) (fun hc => ?_))
  · replace H := H.1 hc
    have o1 := H.1
    replace H := H.2
    refine w_iinc rfl rfl rfl o1 ?_
    refine w_goto rfl ?_
    exact H
  · replace H := H.2 hc
    refine w_iload rfl rfl ?_
    refine w_iload rfl rfl ?_
    have o2 := H.1
    replace H := H.2
    refine w_imul rfl o2 ?_
    refine w_iload rfl rfl ?_
    refine w_iload rfl rfl ?_
    have o3 := H.1
    replace H := H.2
    refine w_imul rfl o3 ?_
    have o4 := H.1
    replace H := H.2
    refine w_iadd rfl o4 ?_
    refine w_iload rfl rfl ?_
    refine w_iload rfl rfl ?_
    have o5 := H.1
    replace H := H.2
    refine w_imul rfl o5 ?_
    have o6 := H.1
    replace H := H.2
    refine w_iadd rfl o6 ?_
    refine w_iconst rfl ⟨by decide, by decide⟩ ?_
    refine w_irem rfl (by decide) ?_
    refine w_istore rfl rfl ?_
    refine w_iload rfl rfl ?_
    refine w_istore rfl rfl ?_
    refine w_iload rfl rfl ?_
    refine w_istore rfl rfl ?_
    refine w_iload rfl rfl ?_
    refine w_istore rfl rfl ?_
    refine w_aload rfl rfl ?_
    refine w_getR 4 20 rfl rfl rfl rfl p_a0 ?_
    refine w_iload rfl rfl ?_
    refine w_dup2 rfl rfl ?_
    have o7 := H.1
    replace H := H.2
    have o8 := H.1
    replace H := H.2
    refine w_iaload rfl o7 o8 ?_
    refine w_iload rfl rfl ?_
    have o9 := H.1
    replace H := H.2
    refine w_iadd rfl o9 ?_
    refine w_iastore rfl o7 o8 (fun h10 eh10 => ?_)
    replace H := H h10 eh10
    have o11 := H.1
    replace H := H.2
    refine w_iinc rfl rfl rfl o11 ?_
    refine w_goto rfl ?_
    exact H
set_option maxHeartbeats 4000000 in
set_option maxRecDepth 100000 in
theorem r_Bases_fillSizes_177 {d : Nat} {Q : cm_Q} {h : cm_H} {a0 : Nat} {x1 : Int} {x2 : Int} {z3 : Option cm_V} {z4 : Option cm_V} {z5 : Option cm_V} {z6 : Option cm_V} {z7 : Option cm_V} {z8 : Option cm_V} {z9 : Option cm_V} (p_a0 : 0 < a0) (H : ((16 ≤ x2 → Q none h) ∧ (x2 < 16 → (0 < ((ch_R h a0 4)) ∧ ((0:Int) ≤ x2 ∧ x2 < ch_L h (ch_R h a0 4)) ∧ (cm_i ((Int.tmod (ch_I h (ch_R h a0 4) x2) 2521) * x1) ∧ (0 < ((ch_R h a0 2)) ∧ (cm_i (x2 + 1) ∧ (0 < ((ch_R h (ch_R h a0 2) 2)) ∧ ((0:Int) ≤ (x2 + 1) ∧ (x2 + 1) < ch_L h (ch_R h (ch_R h a0 2) 2)) ∧ (∀ h8 : cm_H, h8 = ch_u h (ch_R h a0 4) x2 (min (Int.tmod ((Int.tmod (ch_I h (ch_R h a0 4) x2) 2521) * x1) 2521) (ch_I h (ch_R h (ch_R h a0 2) 2) (x2 + 1))) → cw d cd_Bases_fillSizes Q 177 [some (vR 0 a0), some (vI x1), some (vI (x2 + 1)), some (vI (Int.tmod ((Int.tmod (ch_I h (ch_R h a0 4) x2) 2521) * x1) 2521)), z4, z5, z6, z7, z8, z9] [] h8))))))))) : cw d cd_Bases_fillSizes Q 177 [some (vR 0 a0), some (vI x1), some (vI x2), z3, z4, z5, z6, z7, z8, z9] [] h := by
  refine w_iload rfl rfl ?_
  refine w_iconst rfl ⟨by decide, by decide⟩ ?_
  refine w_icmp rfl (And.intro (fun hc => ?_) (fun hc => ?_))
  · replace H := H.1 hc
    exact w_return rfl H
  · replace H := H.2 hc
    refine w_aload rfl rfl ?_
    refine w_getR 4 20 rfl rfl rfl rfl p_a0 ?_
    refine w_iload rfl rfl ?_
    have o1 := H.1
    replace H := H.2
    have o2 := H.1
    replace H := H.2
    refine w_iaload rfl o1 o2 ?_
    refine w_iconst rfl ⟨by decide, by decide⟩ ?_
    refine w_irem rfl (by decide) ?_
    refine w_iload rfl rfl ?_
    have o3 := H.1
    replace H := H.2
    refine w_imul rfl o3 ?_
    refine w_iconst rfl ⟨by decide, by decide⟩ ?_
    refine w_irem rfl (by decide) ?_
    refine w_istore rfl rfl ?_
    refine w_aload rfl rfl ?_
    refine w_getR 4 20 rfl rfl rfl rfl p_a0 ?_
    refine w_iload rfl rfl ?_
    refine w_iload rfl rfl ?_
    refine w_aload rfl rfl ?_
    refine w_getR 2 9 rfl rfl rfl rfl p_a0 ?_
    have o4 := H.1
    replace H := H.2
    refine w_getR 2 20 rfl rfl rfl rfl o4 ?_
    refine w_iload rfl rfl ?_
    refine w_iconst rfl ⟨by decide, by decide⟩ ?_
    have o5 := H.1
    replace H := H.2
    refine w_iadd rfl o5 ?_
    have o6 := H.1
    replace H := H.2
    have o7 := H.1
    replace H := H.2
    refine w_iaload rfl o6 o7 ?_
    refine w_min rfl rfl ?_
    refine w_iastore rfl o1 o2 (fun h8 eh8 => ?_)
    replace H := H h8 eh8
    refine w_iinc rfl rfl rfl o5 ?_
    refine w_goto rfl ?_
    exact H
set_option maxHeartbeats 4000000 in
set_option maxRecDepth 100000 in
theorem r_Bases_fillSizes {d : Nat} {Q : cm_Q} {h : cm_H} {a0 : Nat} (p_a0 : 0 < a0) (H : (cU d m_Arr_fill [vR 20 (ch_R h a0 4), vI 0] h fun h1 => cw d cd_Bases_fillSizes Q 10 [some (vR 0 a0), some (vI 0), none, none, none, none, none, none, none, none] [] h1)) : cm_call (d + 1) m_Bases_fillSizes [vR 0 a0] h Q := by
  refine cm_call_in (C := cd_Bases_fillSizes) (ls := [some (vR 0 a0), none, none, none, none, none, none, none, none, none]) rfl rfl p_a0 rfl ?_
  refine w_aload rfl rfl ?_
  refine w_getR 4 20 rfl rfl rfl rfl p_a0 ?_
  refine w_iconst rfl ⟨by decide, by decide⟩ ?_
  refine w_callU rfl (fun _ => rfl) rfl (cU_mono H fun h1 H => ?_)
  refine w_iconst rfl ⟨by decide, by decide⟩ ?_
  refine w_istore rfl rfl ?_
  exact H
set_option maxHeartbeats 4000000 in
set_option maxRecDepth 100000 in
theorem r_Bases_grade {d : Nat} {Q : cm_Q} {h : cm_H} {a0 : Nat} {x1 : Int} (p_a0 : 0 < a0) (H : (0 < ((ch_R h a0 5)) ∧ ((0:Int) ≤ x1 ∧ x1 < ch_L h (ch_R h a0 5)) ∧ (0 < ((ch_R h (ch_R h a0 5) x1)) ∧ ((¬ (ch_I h (ch_R h (ch_R h a0 5) x1) 1) = 0 → Q (some (vR 2 (ch_R h (ch_R h a0 5) x1))) h) ∧ ((ch_I h (ch_R h (ch_R h a0 5) x1) 1) = 0 → (cU d m_Bases_build [vR 0 a0, vR 2 (ch_R h (ch_R h a0 5) x1)] h fun h4 => Q (some (vR 2 (ch_R h (ch_R h a0 5) x1))) h4)))))) : cm_call (d + 1) m_Bases_grade [vR 0 a0, vI x1] h Q := by
  refine cm_call_in (C := cd_Bases_grade) (ls := [some (vR 0 a0), some (vI x1), none]) rfl rfl p_a0 rfl ?_
  refine w_aload rfl rfl ?_
  refine w_getR 5 24 rfl rfl rfl rfl p_a0 ?_
  refine w_iload rfl rfl ?_
  have o1 := H.1
  replace H := H.2
  have o2 := H.1
  replace H := H.2
  refine w_aaload rfl rfl rfl o1 o2 ?_
  refine w_astore rfl rfl ?_
  refine w_aload rfl rfl ?_
  have o3 := H.1
  replace H := H.2
  refine w_getI 1 rfl rfl rfl o3 ?_
  refine w_if rfl (And.intro (fun hc => ?_) (fun hc => ?_))
  · replace H := H.1 hc
    refine w_aload rfl rfl ?_
    exact w_areturn rfl o3 H
  · replace H := H.2 hc
    refine w_aload rfl rfl ?_
    refine w_aload rfl rfl ?_
    refine w_callU rfl (fun _ => rfl) rfl (cU_mono H fun h4 H => ?_)
    refine w_aload rfl rfl ?_
    exact w_areturn rfl o3 H
set_option maxHeartbeats 4000000 in
set_option maxRecDepth 100000 in
theorem r_Bases_build_49 {d : Nat} {Q : cm_Q} {h : cm_H} {a0 : Nat} {a1 : Nat} {x2 : Int} {x3 : Int} {z4 : Option cm_V} {z5 : Option cm_V} {s0 : Int} {s1 : Int} {b2 : Nat} (p_a0 : 0 < a0) (H : (cU d m_Echelon_begin [vR 1 b2, vI s1, vI s0] h fun h1 => (cU d m_Piece_put [vR 5 (ch_R h1 a0 8), vR 20 (ch_R h1 a0 6), vI 0, vI x2] h1 fun h2 => cw d cd_Bases_build Q 68 [some (vR 0 a0), some (vR 2 a1), some (vI x2), some (vI x3), some (vI 0), z5] [] h2))) : cw d cd_Bases_build Q 49 [some (vR 0 a0), some (vR 2 a1), some (vI x2), some (vI x3), z4, z5] [vI s0, vI s1, vR 1 b2] h := by
  refine w_callU rfl (fun _ => rfl) rfl (cU_mono H fun h1 H => ?_)
  refine w_aload rfl rfl ?_
  refine w_getR 8 5 rfl rfl rfl rfl p_a0 ?_
  refine w_aload rfl rfl ?_
  refine w_getR 6 20 rfl rfl rfl rfl p_a0 ?_
  refine w_iconst rfl ⟨by decide, by decide⟩ ?_
  refine w_iload rfl rfl ?_
  refine w_callU rfl (fun _ => rfl) rfl (cU_mono H fun h2 H => ?_)
  refine w_iconst rfl ⟨by decide, by decide⟩ ?_
  refine w_istore rfl rfl ?_
  exact H
set_option maxHeartbeats 4000000 in
set_option maxRecDepth 100000 in
theorem r_Bases_build_68 {d : Nat} {Q : cm_Q} {h : cm_H} {a0 : Nat} {a1 : Nat} {z2 : Option cm_V} {x3 : Int} {x4 : Int} {z5 : Option cm_V} (p_a0 : 0 < a0) (p_a1 : 0 < a1) (H : ((x3 ≤ x4 → cw d cd_Bases_build Q 175 [some (vR 0 a0), some (vR 2 a1), z2, some (vI x3), some (vI x4), z5] [] h) ∧ (x4 < x3 → (0 < ((ch_R h a0 1)) ∧ (((ch_I h a1 3) ≤ (ch_I h (ch_R h a0 1) 1) → cw d cd_Bases_build Q 175 [some (vR 0 a0), some (vR 2 a1), z2, some (vI x3), some (vI x4), z5] [] h) ∧ ((ch_I h (ch_R h a0 1) 1) < (ch_I h a1 3) → (cU d m_Arr_fill [vR 20 (ch_R h a0 7), vI 0] h fun h2 => (0 < ((ch_R h2 a0 6)) ∧ ((0:Int) ≤ x4 ∧ x4 < ch_L h2 (ch_R h2 a0 6)) ∧ (∀ h5 : cm_H, h5 = ch_u h2 (ch_R h2 a0 6) x4 1 → cw d cd_Bases_build Q 107 [some (vR 0 a0), some (vR 2 a1), z2, some (vI x3), some (vI x4), some (vI 0)] [] h5))))))))) : cw d cd_Bases_build Q 68 [some (vR 0 a0), some (vR 2 a1), z2, some (vI x3), some (vI x4), z5] [] h := by
  refine w_iload rfl rfl ?_
  refine w_iload rfl rfl ?_
  refine w_icmp rfl (And.intro (fun hc => ?_) (fun hc => ?_))
  · replace H := H.1 hc
    exact H
  · replace H := H.2 hc
    refine w_aload rfl rfl ?_
    refine w_getR 1 1 rfl rfl rfl rfl p_a0 ?_
    have o1 := H.1
    replace H := H.2
    refine w_getI 1 rfl rfl rfl o1 ?_
    refine w_aload rfl rfl ?_
    refine w_getI 3 rfl rfl rfl p_a1 ?_
    refine w_icmp rfl (And.intro (fun hc => ?_) (fun hc => ?_))
    · replace H := H.1 hc
      exact H
    · replace H := H.2 hc
      refine w_aload rfl rfl ?_
      refine w_getR 7 20 rfl rfl rfl rfl p_a0 ?_
      refine w_iconst rfl ⟨by decide, by decide⟩ ?_
      refine w_callU rfl (fun _ => rfl) rfl (cU_mono H fun h2 H => ?_)
      refine w_aload rfl rfl ?_
      refine w_getR 6 20 rfl rfl rfl rfl p_a0 ?_
      refine w_iload rfl rfl ?_
      refine w_iconst rfl ⟨by decide, by decide⟩ ?_
      have o3 := H.1
      replace H := H.2
      have o4 := H.1
      replace H := H.2
      refine w_iastore rfl o3 o4 (fun h5 eh5 => ?_)
      replace H := H h5 eh5
      refine w_iconst rfl ⟨by decide, by decide⟩ ?_
      refine w_istore rfl rfl ?_
      exact H
set_option maxHeartbeats 4000000 in
set_option maxRecDepth 100000 in
theorem r_Bases_build_107 {d : Nat} {Q : cm_Q} {h : cm_H} {a0 : Nat} {a1 : Nat} {z2 : Option cm_V} {x3 : Int} {x4 : Int} {x5 : Int} (p_a0 : 0 < a0) (H : (0 < ((ch_R h a0 3)) ∧ (((ch_I h (ch_R h a0 3) 2) ≤ x5 → (0 < ((ch_R h a0 6)) ∧ ((0:Int) ≤ x4 ∧ x4 < ch_L h (ch_R h a0 6)) ∧ (∀ h4 : cm_H, h4 = ch_u h (ch_R h a0 6) x4 0 → (cU d m_Echelon_insert [vR 1 (ch_R h4 a0 1), vR 20 (ch_R h4 a0 7)] h4 fun h5 => (cm_i (x4 + 1) ∧ cw d cd_Bases_build Q 68 [some (vR 0 a0), some (vR 2 a1), z2, some (vI x3), some (vI (x4 + 1)), some (vI x5)] [] h5))))) ∧ (x5 < (ch_I h (ch_R h a0 3) 2) → (cU d m_Mover_use [vR 4 (ch_R h a0 0), vI x5] h fun h7 => (cU d m_Mover_addMoved [vR 4 (ch_R h7 a0 0), vR 5 (ch_R h7 a0 8), vR 20 (ch_R h7 a0 7), vI 0] h7 fun h8 => (cm_i (x5 + 1) ∧ cw d cd_Bases_build Q 107 [some (vR 0 a0), some (vR 2 a1), z2, some (vI x3), some (vI x4), some (vI (x5 + 1))] [] h8))))))) : cw d cd_Bases_build Q 107 [some (vR 0 a0), some (vR 2 a1), z2, some (vI x3), some (vI x4), some (vI x5)] [] h := by
  refine w_iload rfl rfl ?_
  refine w_aload rfl rfl ?_
  refine w_getR 3 3 rfl rfl rfl rfl p_a0 ?_
  have o1 := H.1
  replace H := H.2
  refine w_getI 2 rfl rfl rfl o1 ?_
  refine w_icmp rfl (And.intro (fun hc => ?_) (fun hc => ?_))
  · replace H := H.1 hc
    refine w_aload rfl rfl ?_
    refine w_getR 6 20 rfl rfl rfl rfl p_a0 ?_
    refine w_iload rfl rfl ?_
    refine w_iconst rfl ⟨by decide, by decide⟩ ?_
    have o2 := H.1
    replace H := H.2
    have o3 := H.1
    replace H := H.2
    refine w_iastore rfl o2 o3 (fun h4 eh4 => ?_)
    replace H := H h4 eh4
    refine w_aload rfl rfl ?_
    refine w_getR 1 1 rfl rfl rfl rfl p_a0 ?_
    refine w_aload rfl rfl ?_
    refine w_getR 7 20 rfl rfl rfl rfl p_a0 ?_
    refine w_callU rfl (fun _ => rfl) rfl (cU_mono H fun h5 H => ?_)
    have o6 := H.1
    replace H := H.2
    refine w_iinc rfl rfl rfl o6 ?_
    refine w_goto rfl ?_
    exact H
  · replace H := H.2 hc
    refine w_aload rfl rfl ?_
    refine w_getR 0 4 rfl rfl rfl rfl p_a0 ?_
    refine w_iload rfl rfl ?_
    refine w_callU rfl (fun _ => rfl) rfl (cU_mono H fun h7 H => ?_)
    refine w_aload rfl rfl ?_
    refine w_getR 0 4 rfl rfl rfl rfl p_a0 ?_
    refine w_aload rfl rfl ?_
    refine w_getR 8 5 rfl rfl rfl rfl p_a0 ?_
    refine w_aload rfl rfl ?_
    refine w_getR 7 20 rfl rfl rfl rfl p_a0 ?_
    refine w_iconst rfl ⟨by decide, by decide⟩ ?_
    refine w_callU rfl (fun _ => rfl) rfl (cU_mono H fun h8 H => ?_)
    have o9 := H.1
    replace H := H.2
    refine w_iinc rfl rfl rfl o9 ?_
    refine w_goto rfl ?_
    exact H
set_option maxHeartbeats 4000000 in
set_option maxRecDepth 100000 in
theorem r_Bases_build_175 {d : Nat} {Q : cm_Q} {h : cm_H} {a0 : Nat} {a1 : Nat} {z2 : Option cm_V} {z3 : Option cm_V} {z4 : Option cm_V} {z5 : Option cm_V} (p_a0 : 0 < a0) (p_a1 : 0 < a1) (H : (cU d m_Echelon_finish [vR 1 (ch_R h a0 1)] h fun h1 => (cU d m_Grade_takeBase [vR 2 a1, vR 1 (ch_R h1 a0 1)] h1 fun h2 => (∀ h3 : cm_H, h3 = ch_u h2 a1 1 1 → Q none h3)))) : cw d cd_Bases_build Q 175 [some (vR 0 a0), some (vR 2 a1), z2, z3, z4, z5] [] h := by
  refine w_aload rfl rfl ?_
  refine w_getR 1 1 rfl rfl rfl rfl p_a0 ?_
  refine w_callU rfl (fun _ => rfl) rfl (cU_mono H fun h1 H => ?_)
  refine w_aload rfl rfl ?_
  refine w_aload rfl rfl ?_
  refine w_getR 1 1 rfl rfl rfl rfl p_a0 ?_
  refine w_callU rfl (fun _ => rfl) rfl (cU_mono H fun h2 H => ?_)
  refine w_aload rfl rfl ?_
  refine w_iconst rfl ⟨by decide, by decide⟩ ?_
  refine w_putZ 1 rfl rfl rfl (by decide) p_a1 (fun h3 eh3 => ?_)
  replace H := H h3 eh3
  exact w_return rfl H
set_option maxHeartbeats 4000000 in
set_option maxRecDepth 100000 in
theorem r_Bases_build {d : Nat} {Q : cm_Q} {h : cm_H} {a0 : Nat} {a1 : Nat} (p_a0 : 0 < a0) (p_a1 : 0 < a1) (H : (0 < ((ch_R h a0 2)) ∧ (cm_i ((ch_I h a1 0) + 1) ∧ (0 < ((ch_R h (ch_R h a0 2) 2)) ∧ ((0:Int) ≤ ((ch_I h a1 0) + 1) ∧ ((ch_I h a1 0) + 1) < ch_L h (ch_R h (ch_R h a0 2) 2)) ∧ (0 < ((ch_R h a0 4)) ∧ ((0:Int) ≤ (ch_I h a1 0) ∧ (ch_I h a1 0) < ch_L h (ch_R h a0 4)) ∧ (cU d m_Grade_beginBase [vR 2 a1, vI (ch_I h (ch_R h (ch_R h a0 2) 2) ((ch_I h a1 0) + 1)), vI (ch_I h (ch_R h a0 4) (ch_I h a1 0))] h fun h7 => (0 < ((ch_R h7 a0 2)) ∧ ((¬ (ch_I h7 (ch_R h7 a0 2) 0) = 2 → cw d cd_Bases_build Q 49 [some (vR 0 a0), some (vR 2 a1), some (vI (ch_I h a1 0)), some (vI (ch_I h (ch_R h (ch_R h a0 2) 2) ((ch_I h a1 0) + 1))), none, none] [vI 0, vI (ch_I h (ch_R h (ch_R h a0 2) 2) ((ch_I h a1 0) + 1)), vR 1 (ch_R h7 a0 1)] h7) ∧ ((ch_I h7 (ch_R h7 a0 2) 0) = 2 → cw d cd_Bases_build Q 49 [some (vR 0 a0), some (vR 2 a1), some (vI (ch_I h a1 0)), some (vI (ch_I h (ch_R h (ch_R h a0 2) 2) ((ch_I h a1 0) + 1))), none, none] [vI 1, vI (ch_I h (ch_R h (ch_R h a0 2) 2) ((ch_I h a1 0) + 1)), vR 1 (ch_R h7 a0 1)] h7))))))))) : cm_call (d + 1) m_Bases_build [vR 0 a0, vR 2 a1] h Q := by
  refine cm_call_in (C := cd_Bases_build) (ls := [some (vR 0 a0), some (vR 2 a1), none, none, none, none]) rfl rfl p_a0 rfl ?_
  refine w_aload rfl rfl ?_
  refine w_getI 0 rfl rfl rfl p_a1 ?_
  refine w_istore rfl rfl ?_
  refine w_aload rfl rfl ?_
  refine w_getR 2 9 rfl rfl rfl rfl p_a0 ?_
  have o1 := H.1
  replace H := H.2
  refine w_getR 2 20 rfl rfl rfl rfl o1 ?_
  refine w_iload rfl rfl ?_
  refine w_iconst rfl ⟨by decide, by decide⟩ ?_
  have o2 := H.1
  replace H := H.2
  refine w_iadd rfl o2 ?_
  have o3 := H.1
  replace H := H.2
  have o4 := H.1
  replace H := H.2
  refine w_iaload rfl o3 o4 ?_
  refine w_istore rfl rfl ?_
  refine w_aload rfl rfl ?_
  refine w_iload rfl rfl ?_
  refine w_aload rfl rfl ?_
  refine w_getR 4 20 rfl rfl rfl rfl p_a0 ?_
  refine w_iload rfl rfl ?_
  have o5 := H.1
  replace H := H.2
  have o6 := H.1
  replace H := H.2
  refine w_iaload rfl o5 o6 ?_
  refine w_callU rfl (fun _ => rfl) rfl (cU_mono H fun h7 H => ?_)
  refine w_aload rfl rfl ?_
  refine w_getR 1 1 rfl rfl rfl rfl p_a0 ?_
  refine w_iload rfl rfl ?_
  refine w_aload rfl rfl ?_
  refine w_getR 2 9 rfl rfl rfl rfl p_a0 ?_
  have o8 := H.1
  replace H := H.2
  refine w_getI 0 rfl rfl rfl o8 ?_
  refine w_iconst rfl ⟨by decide, by decide⟩ ?_
  refine w_icmp rfl (And.intro (fun hc => ?_) (fun hc => ?_))
  · replace H := H.1 hc
    refine w_iconst rfl ⟨by decide, by decide⟩ ?_
    exact H
  · replace H := H.2 hc
    refine w_iconst rfl ⟨by decide, by decide⟩ ?_
    refine w_goto rfl ?_
    exact H
