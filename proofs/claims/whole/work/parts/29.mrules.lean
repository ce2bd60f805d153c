/-! RULES of the reference's methods, its layout put in (wip/whole/genmrules.py) -/
set_option maxHeartbeats 4000000 in
set_option maxRecDepth 100000 in
theorem mr_thrown {d : Nat} {Q : cm_Q} {z : cm_Z} {I : cm_I} (hz : mz z)   (H : Q (some (vI (I 209 0))) (I, z)) : cm_call (d + 1) m_Model_thrown [vR 12 209] (I, z) Q := by
  refine cm_call_in (C := cd_Model_thrown) (ls := [some (vR 12 209)]) rfl rfl (show 0 < 209 by decide) rfl ?_
  refine w_aload rfl rfl ?_
  refine m_getI 0 rfl rfl rfl (by decide) ?_
  exact w_ireturn rfl H
set_option maxHeartbeats 4000000 in
set_option maxRecDepth 100000 in
theorem mr_within {d : Nat} {Q : cm_Q} {z : cm_Z} {I : cm_I} (hz : mz z) {x0 : Int} {x1 : Int} {x2 : Int}  (H : ((x0 < x1 → Q (some (vI 0)) (I, z)) ∧ (x1 ≤ x0 → ((x2 < x0 → Q (some (vI 0)) (I, z)) ∧ (x0 ≤ x2 → Q (some (vI 1)) (I, z)))))) : cm_call (d + 1) m_Model_within [vI x0, vI x1, vI x2] (I, z) Q := by
  refine cm_call_in (C := cd_Model_within) (ls := [some (vI x0), some (vI x1), some (vI x2)]) rfl rfl trivial rfl ?_
  refine w_iload rfl rfl ?_
  refine w_iload rfl rfl ?_
  refine w_icmp rfl (And.intro (fun hc => ?_) (fun hc => ?_))
  · replace H := H.1 hc
    refine w_iconst rfl ⟨by decide, by decide⟩ ?_
    exact w_zreturn rfl (by decide) H
  · replace H := H.2 hc
    refine w_iload rfl rfl ?_
    refine w_iload rfl rfl ?_
    refine w_icmp rfl (And.intro (fun hc => ?_) (fun hc => ?_))
    · replace H := H.1 hc
      refine w_iconst rfl ⟨by decide, by decide⟩ ?_
      exact w_zreturn rfl (by decide) H
    · replace H := H.2 hc
      refine w_iconst rfl ⟨by decide, by decide⟩ ?_
      refine w_goto rfl ?_
      exact w_zreturn rfl (by decide) H
set_option maxHeartbeats 4000000 in
set_option maxRecDepth 100000 in
theorem mr_of {d : Nat} {Q : cm_Q} {z : cm_Z} {I : cm_I} (hz : mz z) {y0 : Int}  (H : ((0 ≤ (if (Int.tmod y0 2521) < 0 then -1 else if (Int.tmod y0 2521) = 0 then 0 else 1) → (cm_i (Int.tmod y0 2521) ∧ Q (some (vI (Int.tmod y0 2521))) (I, z))) ∧ ((if (Int.tmod y0 2521) < 0 then -1 else if (Int.tmod y0 2521) = 0 then 0 else 1) < 0 → (cm_l ((Int.tmod y0 2521) + 2521) ∧ (cm_i ((Int.tmod y0 2521) + 2521) ∧ Q (some (vI ((Int.tmod y0 2521) + 2521))) (I, z)))))) : cm_call (d + 1) m_Model_of [vL y0] (I, z) Q := by
  refine cm_call_in (C := cd_Model_of) (ls := [some (vL y0), none, none, none]) rfl rfl trivial rfl ?_
  refine w_lload rfl rfl ?_
  refine w_lconst rfl ⟨by decide, by decide⟩ ?_
  refine w_lrem rfl (by decide) ?_
  refine w_lstore rfl rfl ?_
  refine w_lload rfl rfl ?_
  refine w_lconst rfl ⟨by decide, by decide⟩ ?_
  refine w_lcmp rfl ?_
  refine w_if rfl (And.intro (fun hc => ?_) (fun hc => ?_))
  · replace H := H.1 hc
    refine w_lload rfl rfl ?_
    have o1 := H.1
    replace H := H.2
    refine w_l2i rfl o1 ?_
    exact w_ireturn rfl H
  · replace H := H.2 hc
    refine w_lload rfl rfl ?_
    refine w_lconst rfl ⟨by decide, by decide⟩ ?_
    have o2 := H.1
    replace H := H.2
    refine w_ladd rfl o2 ?_
    refine w_goto rfl ?_
    have o3 := H.1
    replace H := H.2
    refine w_l2i rfl o3 ?_
    exact w_ireturn rfl H
set_option maxHeartbeats 4000000 in
set_option maxRecDepth 100000 in
theorem mr_inverse_10 {d : Nat} {Q : cm_Q} {z : cm_Z} {I : cm_I} (hz : mz z) {z0 : Option cm_V} {y1 : Int} {z2 : Option cm_V} {y3 : Int} {z4 : Option cm_V} {x5 : Int}  (H : ((x5 ≤ 0 → (cm_i y1 ∧ Q (some (vI y1)) (I, z))) ∧ (0 < x5 → ((¬ (Int.tmod x5 2) = 1 → cw d cd_Model_inverse Q 34 [z0, some (vL y1), z2, some (vL y3), z4, some (vI x5)] [vL y1] (I, z)) ∧ ((Int.tmod x5 2) = 1 → (cm_l (y1 * y3) ∧ cw d cd_Model_inverse Q 34 [z0, some (vL y1), z2, some (vL y3), z4, some (vI x5)] [vL (Int.tmod (y1 * y3) 2521)] (I, z))))))) : cw d cd_Model_inverse Q 10 [z0, some (vL y1), z2, some (vL y3), z4, some (vI x5)] [] (I, z) := by
  refine w_iload rfl rfl ?_
  refine w_if rfl (And.intro (fun hc => ?_) (fun hc => ?_))
  · replace H := H.1 hc
    refine w_lload rfl rfl ?_
    have o1 := H.1
    replace H := H.2
    refine w_l2i rfl o1 ?_
    exact w_ireturn rfl H
  · replace H := H.2 hc
    refine w_iload rfl rfl ?_
    refine w_iconst rfl ⟨by decide, by decide⟩ ?_
    refine w_irem rfl (by decide) ?_
    refine w_iconst rfl ⟨by decide, by decide⟩ ?_
    refine w_icmp rfl (And.intro (fun hc => ?_) (fun hc => ?_))
    · replace H := H.1 hc
      refine w_lload rfl rfl ?_
      exact H
    · replace H := H.2 hc
      refine w_lload rfl rfl ?_
      refine w_lload rfl rfl ?_
      have o2 := H.1
      replace H := H.2
      refine w_lmul rfl o2 ?_
      refine w_lconst rfl ⟨by decide, by decide⟩ ?_
      refine w_lrem rfl (by decide) ?_
      refine w_goto rfl ?_
      exact H
set_option maxHeartbeats 4000000 in
set_option maxRecDepth 100000 in
theorem mr_inverse_34 {d : Nat} {Q : cm_Q} {z : cm_Z} {I : cm_I} (hz : mz z) {z0 : Option cm_V} {z1 : Option cm_V} {z2 : Option cm_V} {y3 : Int} {z4 : Option cm_V} {x5 : Int} {w0 : Int}  (H : (cm_l (y3 * y3) ∧ cw d cd_Model_inverse Q 10 [z0, some (vL w0), none, some (vL (Int.tmod (y3 * y3) 2521)), none, some (vI (Int.tdiv x5 2))] [] (I, z))) : cw d cd_Model_inverse Q 34 [z0, z1, z2, some (vL y3), z4, some (vI x5)] [vL w0] (I, z) := by
  refine w_lstore rfl rfl ?_
  refine w_lload rfl rfl ?_
  refine w_lload rfl rfl ?_
  have o1 := H.1
  replace H := H.2
  refine w_lmul rfl o1 ?_
  refine w_lconst rfl ⟨by decide, by decide⟩ ?_
  refine w_lrem rfl (by decide) ?_
  refine w_lstore rfl rfl ?_
  refine w_iload rfl rfl ?_
  refine w_iconst rfl ⟨by decide, by decide⟩ ?_
  refine w_idiv rfl (by decide) ?_
  refine w_istore rfl rfl ?_
  refine w_goto rfl ?_
  exact H
set_option maxHeartbeats 4000000 in
set_option maxRecDepth 100000 in
theorem mr_inverse {d : Nat} {Q : cm_Q} {z : cm_Z} {I : cm_I} (hz : mz z) {x0 : Int}  (H : cw d cd_Model_inverse Q 10 [some (vI x0), some (vL 1), none, some (vL x0), none, some (vI 2519)] [] (I, z)) : cm_call (d + 1) m_Model_inverse [vI x0] (I, z) Q := by
  refine cm_call_in (C := cd_Model_inverse) (ls := [some (vI x0), none, none, none, none, none]) rfl rfl trivial rfl ?_
  refine w_lconst rfl ⟨by decide, by decide⟩ ?_
  refine w_lstore rfl rfl ?_
  refine w_iload rfl rfl ?_
  refine w_i2l rfl ?_
  refine w_lstore rfl rfl ?_
  refine w_iconst rfl ⟨by decide, by decide⟩ ?_
  refine w_istore rfl rfl ?_
  exact H
set_option maxHeartbeats 4000000 in
set_option maxRecDepth 100000 in
theorem mr_many {d : Nat} {Q : cm_Q} {z : cm_Z} {I : cm_I} (hz : mz z) {x1 : Int}  (H : ((¬ (I 209 1) = 2 → (cm_i (x1 + 1) ∧ (cm_i (x1 + 2) ∧ (cm_i ((x1 + 1) * (x1 + 2)) ∧ Q (some (vI (Int.tdiv ((x1 + 1) * (x1 + 2)) 2))) (I, z))))) ∧ ((I 209 1) = 2 → (cm_i (x1 + 1) ∧ Q (some (vI (x1 + 1))) (I, z))))) : cm_call (d + 1) m_Model_many [vR 12 209, vI x1] (I, z) Q := by
  refine cm_call_in (C := cd_Model_many) (ls := [some (vR 12 209), some (vI x1)]) rfl rfl (show 0 < 209 by decide) rfl ?_
  refine w_aload rfl rfl ?_
  refine m_getI 1 rfl rfl rfl (by decide) ?_
  refine w_iconst rfl ⟨by decide, by decide⟩ ?_
  refine w_icmp rfl (And.intro (fun hc => ?_) (fun hc => ?_))
  · replace H := H.1 hc
    refine w_iload rfl rfl ?_
    refine w_iconst rfl ⟨by decide, by decide⟩ ?_
    have o1 := H.1
    replace H := H.2
    refine w_iadd rfl o1 ?_
    refine w_iload rfl rfl ?_
    refine w_iconst rfl ⟨by decide, by decide⟩ ?_
    have o2 := H.1
    replace H := H.2
    refine w_iadd rfl o2 ?_
    have o3 := H.1
    replace H := H.2
    refine w_imul rfl o3 ?_
    refine w_iconst rfl ⟨by decide, by decide⟩ ?_
    refine w_idiv rfl (by decide) ?_
    exact w_ireturn rfl H
  · replace H := H.2 hc
    refine w_iload rfl rfl ?_
    refine w_iconst rfl ⟨by decide, by decide⟩ ?_
    have o4 := H.1
    replace H := H.2
    refine w_iadd rfl o4 ?_
    refine w_goto rfl ?_
    exact w_ireturn rfl H
set_option maxHeartbeats 4000000 in
set_option maxRecDepth 100000 in
theorem mr_from {d : Nat} {Q : cm_Q} {z : cm_Z} {I : cm_I} (hz : mz z) {x1 : Int}  (H : ((¬ (I 209 1) = 2 → (cm_i (x1 + 1) ∧ (cm_i (x1 * (x1 + 1)) ∧ (cm_i (x1 + 2) ∧ (cm_i ((x1 * (x1 + 1)) * (x1 + 2)) ∧ Q (some (vI (Int.tdiv ((x1 * (x1 + 1)) * (x1 + 2)) 6))) (I, z)))))) ∧ ((I 209 1) = 2 → (cm_i (x1 + 1) ∧ (cm_i (x1 * (x1 + 1)) ∧ Q (some (vI (Int.tdiv (x1 * (x1 + 1)) 2))) (I, z)))))) : cm_call (d + 1) m_Model_from [vR 12 209, vI x1] (I, z) Q := by
  refine cm_call_in (C := cd_Model_from) (ls := [some (vR 12 209), some (vI x1)]) rfl rfl (show 0 < 209 by decide) rfl ?_
  refine w_aload rfl rfl ?_
  refine m_getI 1 rfl rfl rfl (by decide) ?_
  refine w_iconst rfl ⟨by decide, by decide⟩ ?_
  refine w_icmp rfl (And.intro (fun hc => ?_) (fun hc => ?_))
  · replace H := H.1 hc
    refine w_iload rfl rfl ?_
    refine w_iload rfl rfl ?_
    refine w_iconst rfl ⟨by decide, by decide⟩ ?_
    have o1 := H.1
    replace H := H.2
    refine w_iadd rfl o1 ?_
    have o2 := H.1
    replace H := H.2
    refine w_imul rfl o2 ?_
    refine w_iload rfl rfl ?_
    refine w_iconst rfl ⟨by decide, by decide⟩ ?_
    have o3 := H.1
    replace H := H.2
    refine w_iadd rfl o3 ?_
    have o4 := H.1
    replace H := H.2
    refine w_imul rfl o4 ?_
    refine w_iconst rfl ⟨by decide, by decide⟩ ?_
    refine w_idiv rfl (by decide) ?_
    exact w_ireturn rfl H
  · replace H := H.2 hc
    refine w_iload rfl rfl ?_
    refine w_iload rfl rfl ?_
    refine w_iconst rfl ⟨by decide, by decide⟩ ?_
    have o5 := H.1
    replace H := H.2
    refine w_iadd rfl o5 ?_
    have o6 := H.1
    replace H := H.2
    refine w_imul rfl o6 ?_
    refine w_iconst rfl ⟨by decide, by decide⟩ ?_
    refine w_idiv rfl (by decide) ?_
    refine w_goto rfl ?_
    exact w_ireturn rfl H
set_option maxHeartbeats 4000000 in
set_option maxRecDepth 100000 in
theorem mr_at {d : Nat} {Q : cm_Q} {z : cm_Z} {I : cm_I} (hz : mz z) {x1 : Int} {x2 : Int} {x3 : Int}  (H : (cm_i (x1 + x2) ∧ (cm_i ((x1 + x2) + x3) ∧ (cm_i (((x1 + x2) + x3) - x1) ∧ (mI d m_Model_from [vR 12 209, vI ((x1 + x2) + x3)] z I fun v5 I4 => ((¬ (I4 209 1) = 2 → (cm_i ((((x1 + x2) + x3) - x1) + 1) ∧ (cm_i ((((x1 + x2) + x3) - x1) * ((((x1 + x2) + x3) - x1) + 1)) ∧ (cm_i ((Int.tdiv ((((x1 + x2) + x3) - x1) * ((((x1 + x2) + x3) - x1) + 1)) 2) + x3) ∧ (cm_i (v5 + ((Int.tdiv ((((x1 + x2) + x3) - x1) * ((((x1 + x2) + x3) - x1) + 1)) 2) + x3)) ∧ Q (some (vI (v5 + ((Int.tdiv ((((x1 + x2) + x3) - x1) * ((((x1 + x2) + x3) - x1) + 1)) 2) + x3)))) (I4, z)))))) ∧ ((I4 209 1) = 2 → (cm_i (v5 + x2) ∧ Q (some (vI (v5 + x2))) (I4, z))))))))) : cm_call (d + 1) m_Model_at [vR 12 209, vI x1, vI x2, vI x3] (I, z) Q := by
  refine cm_call_in (C := cd_Model_at) (ls := [some (vR 12 209), some (vI x1), some (vI x2), some (vI x3), none, none]) rfl rfl (show 0 < 209 by decide) rfl ?_
  refine w_iload rfl rfl ?_
  refine w_iload rfl rfl ?_
  have o1 := H.1
  replace H := H.2
  refine w_iadd rfl o1 ?_
  refine w_iload rfl rfl ?_
  have o2 := H.1
  replace H := H.2
  refine w_iadd rfl o2 ?_
  refine w_istore rfl rfl ?_
  refine w_iload rfl rfl ?_
  refine w_iload rfl rfl ?_
  have o3 := H.1
  replace H := H.2
  refine w_isub rfl o3 ?_
  refine w_istore rfl rfl ?_
  refine w_aload rfl rfl ?_
  refine w_iload rfl rfl ?_
  refine m_callI rfl (fun _ => rfl) rfl (mI_mono H fun v5 I4 H => ?_)
  refine w_aload rfl rfl ?_
  refine m_getI 1 rfl rfl rfl (by decide) ?_
  refine w_iconst rfl ⟨by decide, by decide⟩ ?_
  refine w_icmp rfl (And.intro (fun hc => ?_) (fun hc => ?_))
  · replace H := H.1 hc
    refine w_iload rfl rfl ?_
    refine w_iload rfl rfl ?_
    refine w_iconst rfl ⟨by decide, by decide⟩ ?_
    have o6 := H.1
    replace H := H.2
    refine w_iadd rfl o6 ?_
    have o7 := H.1
    replace H := H.2
    refine w_imul rfl o7 ?_
    refine w_iconst rfl ⟨by decide, by decide⟩ ?_
    refine w_idiv rfl (by decide) ?_
    refine w_iload rfl rfl ?_
    have o8 := H.1
    replace H := H.2
    refine w_iadd rfl o8 ?_
    have o9 := H.1
    replace H := H.2
    refine w_iadd rfl o9 ?_
    exact w_ireturn rfl H
  · replace H := H.2 hc
    refine w_iload rfl rfl ?_
    refine w_goto rfl ?_
    have o10 := H.1
    replace H := H.2
    refine w_iadd rfl o10 ?_
    exact w_ireturn rfl H
set_option maxHeartbeats 4000000 in
set_option maxRecDepth 100000 in
theorem mr_laysMonomials_2 {d : Nat} {Q : cm_Q} {z : cm_Z} {I : cm_I} (hz : mz z) {x1 : Int} {z2 : Option cm_V} {z3 : Option cm_V} {z4 : Option cm_V}  (H : ((17 < x1 → Q none (I, z)) ∧ (x1 ≤ 17 → cw d cd_Model_laysMonomials Q 10 [some (vR 12 209), some (vI x1), some (vI x1), z3, z4] [] (I, z)))) : cw d cd_Model_laysMonomials Q 2 [some (vR 12 209), some (vI x1), z2, z3, z4] [] (I, z) := by
  refine w_iload rfl rfl ?_
  refine w_iconst rfl ⟨by decide, by decide⟩ ?_
  refine w_icmp rfl (And.intro (fun hc => ?_) (fun hc => ?_))
  · replace H := H.1 hc
    exact w_return rfl H
  · replace H := H.2 hc
    refine w_iload rfl rfl ?_
    refine w_istore rfl rfl ?_
    exact H
set_option maxHeartbeats 4000000 in
set_option maxRecDepth 100000 in
theorem mr_laysMonomials_10 {d : Nat} {Q : cm_Q} {z : cm_Z} {I : cm_I} (hz : mz z) {x1 : Int} {x2 : Int} {z3 : Option cm_V} {z4 : Option cm_V}  (H : ((x2 < 0 → (cm_i (x1 + 1) ∧ cw d cd_Model_laysMonomials Q 2 [some (vR 12 209), some (vI (x1 + 1)), some (vI x2), z3, z4] [] (I, z))) ∧ (0 ≤ x2 → (cm_i (x1 - x2) ∧ cw d cd_Model_laysMonomials Q 18 [some (vR 12 209), some (vI x1), some (vI x2), some (vI (x1 - x2)), z4] [] (I, z))))) : cw d cd_Model_laysMonomials Q 10 [some (vR 12 209), some (vI x1), some (vI x2), z3, z4] [] (I, z) := by
  refine w_iload rfl rfl ?_
  refine w_if rfl (And.intro (fun hc => ?_) (fun hc => ?_))
  · replace H := H.1 hc
    have o1 := H.1
    replace H := H.2
    refine w_iinc rfl rfl rfl o1 ?_
    refine w_goto rfl ?_
    exact H
  · replace H := H.2 hc
    refine w_iload rfl rfl ?_
    refine w_iload rfl rfl ?_
    have o2 := H.1
    replace H := H.2
    refine w_isub rfl o2 ?_
    refine w_istore rfl rfl ?_
    exact H
set_option maxHeartbeats 4000000 in
set_option maxRecDepth 100000 in
theorem mr_laysMonomials_18 {d : Nat} {Q : cm_Q} {z : cm_Z} {I : cm_I} (hz : mz z) {x1 : Int} {x2 : Int} {x3 : Int} {z4 : Option cm_V}  (H : ((¬ (I 209 1) = 2 → cw d cd_Model_laysMonomials Q 34 [some (vR 12 209), some (vI x1), some (vI x2), some (vI x3), z4] [vI 0, vI x3] (I, z)) ∧ ((I 209 1) = 2 → (cm_i (x1 - x2) ∧ cw d cd_Model_laysMonomials Q 34 [some (vR 12 209), some (vI x1), some (vI x2), some (vI x3), z4] [vI (x1 - x2), vI x3] (I, z))))) : cw d cd_Model_laysMonomials Q 18 [some (vR 12 209), some (vI x1), some (vI x2), some (vI x3), z4] [] (I, z) := by
  refine w_iload rfl rfl ?_
  refine w_aload rfl rfl ?_
  refine m_getI 1 rfl rfl rfl (by decide) ?_
  refine w_iconst rfl ⟨by decide, by decide⟩ ?_
  refine w_icmp rfl (And.intro (fun hc => ?_) (fun hc => ?_))
  · replace H := H.1 hc
    refine w_iconst rfl ⟨by decide, by decide⟩ ?_
    exact H
  · replace H := H.2 hc
    refine w_iload rfl rfl ?_
    refine w_iload rfl rfl ?_
    have o1 := H.1
    replace H := H.2
    refine w_isub rfl o1 ?_
    refine w_goto rfl ?_
    exact H
set_option maxHeartbeats 4000000 in
set_option maxRecDepth 100000 in
theorem mr_laysMonomials_34 {d : Nat} {Q : cm_Q} {z : cm_Z} {I : cm_I} (hz : mz z) {x1 : Int} {x2 : Int} {x3 : Int} {z4 : Option cm_V} {s0 : Int} {s1 : Int}  (H : ((s1 < s0 → (cm_i (x2 + (-1)) ∧ cw d cd_Model_laysMonomials Q 10 [some (vR 12 209), some (vI x1), some (vI (x2 + (-1))), some (vI x3), z4] [] (I, z))) ∧ (s0 ≤ s1 → (cm_i (x1 - x2) ∧ (cm_i ((x1 - x2) - x3) ∧ (mI d m_Model_at [vR 12 209, vI x2, vI x3, vI ((x1 - x2) - x3)] z I fun v5 I4 => ((0:Int) ≤ v5 ∧ v5 < 1140) ∧ (∀ I7 : cm_I, I7 = iu I4 210 v5 x2 → (∀ I8 : cm_I, I8 = iu I7 211 v5 x3 → (∀ I9 : cm_I, I9 = iu I8 212 v5 ((x1 - x2) - x3) → (cm_i (x3 + (-1)) ∧ cw d cd_Model_laysMonomials Q 18 [some (vR 12 209), some (vI x1), some (vI x2), some (vI (x3 + (-1))), some (vI v5)] [] (I9, z))))))))))) : cw d cd_Model_laysMonomials Q 34 [some (vR 12 209), some (vI x1), some (vI x2), some (vI x3), z4] [vI s0, vI s1] (I, z) := by
  refine w_icmp rfl (And.intro (fun hc => ?_) (fun hc => ?_))
  · replace H := H.1 hc
    have o1 := H.1
    replace H := H.2
    refine w_iinc rfl rfl rfl o1 ?_
    refine w_goto rfl ?_
    exact H
  · replace H := H.2 hc
    refine w_aload rfl rfl ?_
    refine w_iload rfl rfl ?_
    refine w_iload rfl rfl ?_
    refine w_iload rfl rfl ?_
    refine w_iload rfl rfl ?_
    have o2 := H.1
    replace H := H.2
    refine w_isub rfl o2 ?_
    refine w_iload rfl rfl ?_
    have o3 := H.1
    replace H := H.2
    refine w_isub rfl o3 ?_
    refine m_callI rfl (fun _ => rfl) rfl (mI_mono H fun v5 I4 H => ?_)
    refine w_istore rfl rfl ?_
    refine w_aload rfl rfl ?_
    refine m_getR 2 20 210 hz rfl rfl rfl rfl rfl rfl (by decide) ?_
    refine w_iload rfl rfl ?_
    refine w_iload rfl rfl ?_
    have o6 := H.1
    replace H := H.2
    refine m_iastore hz (by unfold mA; decide) rfl o6 (fun I7 eI7 => ?_)
    replace H := H I7 eI7
    refine w_aload rfl rfl ?_
    refine m_getR 3 20 211 hz rfl rfl rfl rfl rfl rfl (by decide) ?_
    refine w_iload rfl rfl ?_
    refine w_iload rfl rfl ?_
    refine m_iastore hz (by unfold mA; decide) rfl o6 (fun I8 eI8 => ?_)
    replace H := H I8 eI8
    refine w_aload rfl rfl ?_
    refine m_getR 4 20 212 hz rfl rfl rfl rfl rfl rfl (by decide) ?_
    refine w_iload rfl rfl ?_
    refine w_iload rfl rfl ?_
    refine w_iload rfl rfl ?_
    refine w_isub rfl o2 ?_
    refine w_iload rfl rfl ?_
    refine w_isub rfl o3 ?_
    refine m_iastore hz (by unfold mA; decide) rfl o6 (fun I9 eI9 => ?_)
    replace H := H I9 eI9
    have o10 := H.1
    replace H := H.2
    refine w_iinc rfl rfl rfl o10 ?_
    refine w_goto rfl ?_
    exact H
set_option maxHeartbeats 4000000 in
set_option maxRecDepth 100000 in
theorem mr_laysMonomials {d : Nat} {Q : cm_Q} {z : cm_Z} {I : cm_I} (hz : mz z)   (H : cw d cd_Model_laysMonomials Q 2 [some (vR 12 209), some (vI 0), none, none, none] [] (I, z)) : cm_call (d + 1) m_Model_laysMonomials [vR 12 209] (I, z) Q := by
  refine cm_call_in (C := cd_Model_laysMonomials) (ls := [some (vR 12 209), none, none, none, none]) rfl rfl (show 0 < 209 by decide) rfl ?_
  refine w_iconst rfl ⟨by decide, by decide⟩ ?_
  refine w_istore rfl rfl ?_
  exact H
set_option maxHeartbeats 4000000 in
set_option maxRecDepth 100000 in
theorem mr_degreeAt {d : Nat} {Q : cm_Q} {z : cm_Z} {I : cm_I} (hz : mz z) {x1 : Int}  (H : ((0:Int) ≤ x1 ∧ x1 < 1140) ∧ (cm_i ((I 210 x1) + (I 211 x1)) ∧ (cm_i (((I 210 x1) + (I 211 x1)) + (I 212 x1)) ∧ Q (some (vI (((I 210 x1) + (I 211 x1)) + (I 212 x1)))) (I, z)))) : cm_call (d + 1) m_Model_degreeAt [vR 12 209, vI x1] (I, z) Q := by
  refine cm_call_in (C := cd_Model_degreeAt) (ls := [some (vR 12 209), some (vI x1)]) rfl rfl (show 0 < 209 by decide) rfl ?_
  refine w_aload rfl rfl ?_
  refine m_getR 2 20 210 hz rfl rfl rfl rfl rfl rfl (by decide) ?_
  refine w_iload rfl rfl ?_
  have o1 := H.1
  replace H := H.2
  refine m_iaload hz (by unfold mA; decide) rfl o1 ?_
  refine w_aload rfl rfl ?_
  refine m_getR 3 20 211 hz rfl rfl rfl rfl rfl rfl (by decide) ?_
  refine w_iload rfl rfl ?_
  refine m_iaload hz (by unfold mA; decide) rfl o1 ?_
  have o2 := H.1
  replace H := H.2
  refine w_iadd rfl o2 ?_
  refine w_aload rfl rfl ?_
  refine m_getR 4 20 212 hz rfl rfl rfl rfl rfl rfl (by decide) ?_
  refine w_iload rfl rfl ?_
  refine m_iaload hz (by unfold mA; decide) rfl o1 ?_
  have o3 := H.1
  replace H := H.2
  refine w_iadd rfl o3 ?_
  exact w_ireturn rfl H
set_option maxHeartbeats 4000000 in
set_option maxRecDepth 100000 in
theorem mr_all {d : Nat} {Q : cm_Q} {z : cm_Z} {I : cm_I} (hz : mz z)   (H : (mI d m_Model_from [vR 12 209, vI 16] z I fun v2 I1 => Q (some (vI v2)) (I1, z))) : cm_call (d + 1) m_Model_all [vR 12 209] (I, z) Q := by
  refine cm_call_in (C := cd_Model_all) (ls := [some (vR 12 209)]) rfl rfl (show 0 < 209 by decide) rfl ?_
  refine w_aload rfl rfl ?_
  refine w_iconst rfl ⟨by decide, by decide⟩ ?_
  refine m_callI rfl (fun _ => rfl) rfl (mI_mono H fun v2 I1 H => ?_)
  exact w_ireturn rfl H
set_option maxHeartbeats 4000000 in
set_option maxRecDepth 100000 in
theorem mr_copies_3 {d : Nat} {Q : cm_Q} {z : cm_Z} {I : cm_I} (hz : mz z) {a0 : Nat} {x1 : Int} {a2 : Nat} {x3 : Int} {x4 : Int} (p_a0 : mA a0) (p_a2 : mA a2) (H : ((1140 ≤ x4 → Q none (I, z)) ∧ (x4 < 1140 → (cm_i (x3 + x4) ∧ (cm_i (x1 + x4) ∧ ((0:Int) ≤ (x1 + x4) ∧ (x1 + x4) < mLen a0) ∧ ((0:Int) ≤ (x3 + x4) ∧ (x3 + x4) < mLen a2) ∧ (∀ I5 : cm_I, I5 = iu I a2 (x3 + x4) (I a0 (x1 + x4)) → (cm_i (x4 + 1) ∧ cw d cd_Model_copies Q 3 [some (vR 20 a0), some (vI x1), some (vR 20 a2), some (vI x3), some (vI (x4 + 1))] [] (I5, z)))))))) : cw d cd_Model_copies Q 3 [some (vR 20 a0), some (vI x1), some (vR 20 a2), some (vI x3), some (vI x4)] [] (I, z) := by
  refine w_iload rfl rfl ?_
  refine w_iconst rfl ⟨by decide, by decide⟩ ?_
  refine w_icmp rfl (And.intro (fun hc => ?_) (fun hc => ?_))
  · replace H := H.1 hc
    exact w_return rfl H
  · replace H := H.2 hc
    refine w_aload rfl rfl ?_
    refine w_iload rfl rfl ?_
    refine w_iload rfl rfl ?_
    have o1 := H.1
    replace H := H.2
    refine w_iadd rfl o1 ?_
    refine w_aload rfl rfl ?_
    refine w_iload rfl rfl ?_
    refine w_iload rfl rfl ?_
    have o2 := H.1
    replace H := H.2
    refine w_iadd rfl o2 ?_
    have o3 := H.1
    replace H := H.2
    refine m_iaload hz p_a0 rfl o3 ?_
    have o4 := H.1
    replace H := H.2
    refine m_iastore hz p_a2 rfl o4 (fun I5 eI5 => ?_)
    replace H := H I5 eI5
    have o6 := H.1
    replace H := H.2
    refine w_iinc rfl rfl rfl o6 ?_
    refine w_goto rfl ?_
    exact H
set_option maxHeartbeats 4000000 in
set_option maxRecDepth 100000 in
theorem mr_copies {d : Nat} {Q : cm_Q} {z : cm_Z} {I : cm_I} (hz : mz z) {a0 : Nat} {x1 : Int} {a2 : Nat} {x3 : Int}  (H : cw d cd_Model_copies Q 3 [some (vR 20 a0), some (vI x1), some (vR 20 a2), some (vI x3), some (vI 0)] [] (I, z)) : cm_call (d + 1) m_Model_copies [vR 20 a0, vI x1, vR 20 a2, vI x3] (I, z) Q := by
  refine cm_call_in (C := cd_Model_copies) (ls := [some (vR 20 a0), some (vI x1), some (vR 20 a2), some (vI x3), none]) rfl rfl trivial rfl ?_
  refine w_iconst rfl ⟨by decide, by decide⟩ ?_
  refine w_istore rfl rfl ?_
  exact H
set_option maxHeartbeats 4000000 in
set_option maxRecDepth 100000 in
theorem mr_clears_2 {d : Nat} {Q : cm_Q} {z : cm_Z} {I : cm_I} (hz : mz z) {a0 : Nat} {x1 : Int} {x2 : Int} (p_a0 : mA a0) (H : ((1140 ≤ x2 → Q none (I, z)) ∧ (x2 < 1140 → (cm_i (x1 + x2) ∧ ((0:Int) ≤ (x1 + x2) ∧ (x1 + x2) < mLen a0) ∧ (∀ I3 : cm_I, I3 = iu I a0 (x1 + x2) 0 → (cm_i (x2 + 1) ∧ cw d cd_Model_clears Q 2 [some (vR 20 a0), some (vI x1), some (vI (x2 + 1))] [] (I3, z))))))) : cw d cd_Model_clears Q 2 [some (vR 20 a0), some (vI x1), some (vI x2)] [] (I, z) := by
  refine w_iload rfl rfl ?_
  refine w_iconst rfl ⟨by decide, by decide⟩ ?_
  refine w_icmp rfl (And.intro (fun hc => ?_) (fun hc => ?_))
  · replace H := H.1 hc
    exact w_return rfl H
  · replace H := H.2 hc
    refine w_aload rfl rfl ?_
    refine w_iload rfl rfl ?_
    refine w_iload rfl rfl ?_
    have o1 := H.1
    replace H := H.2
    refine w_iadd rfl o1 ?_
    refine w_iconst rfl ⟨by decide, by decide⟩ ?_
    have o2 := H.1
    replace H := H.2
    refine m_iastore hz p_a0 rfl o2 (fun I3 eI3 => ?_)
    replace H := H I3 eI3
    have o4 := H.1
    replace H := H.2
    refine w_iinc rfl rfl rfl o4 ?_
    refine w_goto rfl ?_
    exact H
set_option maxHeartbeats 4000000 in
set_option maxRecDepth 100000 in
theorem mr_clears {d : Nat} {Q : cm_Q} {z : cm_Z} {I : cm_I} (hz : mz z) {a0 : Nat} {x1 : Int}  (H : cw d cd_Model_clears Q 2 [some (vR 20 a0), some (vI x1), some (vI 0)] [] (I, z)) : cm_call (d + 1) m_Model_clears [vR 20 a0, vI x1] (I, z) Q := by
  refine cm_call_in (C := cd_Model_clears) (ls := [some (vR 20 a0), some (vI x1), none]) rfl rfl trivial rfl ?_
  refine w_iconst rfl ⟨by decide, by decide⟩ ?_
  refine w_istore rfl rfl ?_
  exact H
set_option maxHeartbeats 4000000 in
set_option maxRecDepth 100000 in
theorem mr_degree_9 {d : Nat} {Q : cm_Q} {z : cm_Z} {I : cm_I} (hz : mz z) {a1 : Nat} {x2 : Int} {x3 : Int} (p_a1 : mA a1) (H : ((x3 ≤ 0 → Q (some (vI 0)) (I, z)) ∧ (0 < x3 → (cm_i (x2 + x3) ∧ ((0:Int) ≤ (x2 + x3) ∧ (x2 + x3) < mLen a1) ∧ (((I a1 (x2 + x3)) = 0 → (cm_i (x3 + (-1)) ∧ cw d cd_Model_degree Q 9 [some (vR 12 209), some (vR 20 a1), some (vI x2), some (vI (x3 + (-1)))] [] (I, z))) ∧ (¬ (I a1 (x2 + x3)) = 0 → (mI d m_Model_degreeAt [vR 12 209, vI x3] z I fun v5 I4 => Q (some (vI v5)) (I4, z)))))))) : cw d cd_Model_degree Q 9 [some (vR 12 209), some (vR 20 a1), some (vI x2), some (vI x3)] [] (I, z) := by
  refine w_iload rfl rfl ?_
  refine w_if rfl (And.intro (fun hc => ?_) (fun hc => ?_))
  · replace H := H.1 hc
    refine w_iconst rfl ⟨by decide, by decide⟩ ?_
    exact w_ireturn rfl H
  · replace H := H.2 hc
    refine w_aload rfl rfl ?_
    refine w_iload rfl rfl ?_
    refine w_iload rfl rfl ?_
    have o1 := H.1
    replace H := H.2
    refine w_iadd rfl o1 ?_
    have o2 := H.1
    replace H := H.2
    refine m_iaload hz p_a1 rfl o2 ?_
    refine w_if rfl (And.intro (fun hc => ?_) (fun hc => ?_))
    · replace H := H.1 hc
      have o3 := H.1
      replace H := H.2
      refine w_iinc rfl rfl rfl o3 ?_
      refine w_goto rfl ?_
      exact H
    · replace H := H.2 hc
      refine w_aload rfl rfl ?_
      refine w_iload rfl rfl ?_
      refine m_callI rfl (fun _ => rfl) rfl (mI_mono H fun v5 I4 H => ?_)
      exact w_ireturn rfl H
set_option maxHeartbeats 4000000 in
set_option maxRecDepth 100000 in
theorem mr_degree {d : Nat} {Q : cm_Q} {z : cm_Z} {I : cm_I} (hz : mz z) {a1 : Nat} {x2 : Int}  (H : (mI d m_Model_from [vR 12 209, vI 18] z I fun v2 I1 => (cm_i (v2 - 1) ∧ cw d cd_Model_degree Q 9 [some (vR 12 209), some (vR 20 a1), some (vI x2), some (vI (v2 - 1))] [] (I1, z)))) : cm_call (d + 1) m_Model_degree [vR 12 209, vR 20 a1, vI x2] (I, z) Q := by
  refine cm_call_in (C := cd_Model_degree) (ls := [some (vR 12 209), some (vR 20 a1), some (vI x2), none]) rfl rfl (show 0 < 209 by decide) rfl ?_
  refine w_aload rfl rfl ?_
  refine w_iconst rfl ⟨by decide, by decide⟩ ?_
  refine m_callI rfl (fun _ => rfl) rfl (mI_mono H fun v2 I1 H => ?_)
  refine w_iconst rfl ⟨by decide, by decide⟩ ?_
  have o3 := H.1
  replace H := H.2
  refine w_isub rfl o3 ?_
  refine w_istore rfl rfl ?_
  exact H
set_option maxHeartbeats 4000000 in
set_option maxRecDepth 100000 in
theorem mr_isNothing_5 {d : Nat} {Q : cm_Q} {z : cm_Z} {I : cm_I} (hz : mz z) {z0 : Option cm_V} {a1 : Nat} {x2 : Int} {x3 : Int} {x4 : Int} (p_a1 : mA a1) (H : ((1140 ≤ x4 → ((x3 = 0 ∨ x3 = 1) ∧ Q (some (vI x3)) (I, z))) ∧ (x4 < 1140 → ((x3 = 0 → ((x3 = 0 ∨ x3 = 1) ∧ Q (some (vI x3)) (I, z))) ∧ (¬ x3 = 0 → (cm_i (x2 + x4) ∧ ((0:Int) ≤ (x2 + x4) ∧ (x2 + x4) < mLen a1) ∧ ((¬ (I a1 (x2 + x4)) = 0 → (cm_i (x4 + 1) ∧ cw d cd_Model_isNothing Q 5 [z0, some (vR 20 a1), some (vI x2), some (vI 0), some (vI (x4 + 1))] [] (I, z))) ∧ ((I a1 (x2 + x4)) = 0 → (cm_i (x4 + 1) ∧ cw d cd_Model_isNothing Q 5 [z0, some (vR 20 a1), some (vI x2), some (vI 1), some (vI (x4 + 1))] [] (I, z)))))))))) : cw d cd_Model_isNothing Q 5 [z0, some (vR 20 a1), some (vI x2), some (vI x3), some (vI x4)] [] (I, z) := by
  refine w_iload rfl rfl ?_
  refine w_iconst rfl ⟨by decide, by decide⟩ ?_
  refine w_icmp rfl (And.intro (fun hc => ?_) (fun hc => ?_))
  · replace H := H.1 hc
    refine w_iload rfl rfl ?_
    exact w_zreturn rfl H.1 H.2
  · replace H := H.2 hc
    refine w_iload rfl rfl ?_
    refine w_if rfl (And.intro (fun hc => ?_) (fun hc => ?_))
    · replace H := H.1 hc
      refine w_iload rfl rfl ?_
      exact w_zreturn rfl H.1 H.2
    · replace H := H.2 hc
      refine w_aload rfl rfl ?_
      refine w_iload rfl rfl ?_
      refine w_iload rfl rfl ?_
      have o1 := H.1
      replace H := H.2
      refine w_iadd rfl o1 ?_
      have o2 := H.1
      replace H := H.2
      refine m_iaload hz p_a1 rfl o2 ?_
      refine w_if rfl (And.intro (fun hc => ?_) (fun hc => ?_))
      · replace H := H.1 hc
        refine w_iconst rfl ⟨by decide, by decide⟩ ?_
        refine w_istore rfl rfl ?_
        have o3 := H.1
        replace H := H.2
        refine w_iinc rfl rfl rfl o3 ?_
        refine w_goto rfl ?_
        exact H
      · replace H := H.2 hc
        refine w_iconst rfl ⟨by decide, by decide⟩ ?_
        refine w_goto rfl ?_
        refine w_istore rfl rfl ?_
        have o4 := H.1
        replace H := H.2
        refine w_iinc rfl rfl rfl o4 ?_
        refine w_goto rfl ?_
        exact H
set_option maxHeartbeats 4000000 in
set_option maxRecDepth 100000 in
theorem mr_isNothing {d : Nat} {Q : cm_Q} {z : cm_Z} {I : cm_I} (hz : mz z) {a1 : Nat} {x2 : Int}  (H : cw d cd_Model_isNothing Q 5 [some (vR 12 209), some (vR 20 a1), some (vI x2), some (vI 1), some (vI 0)] [] (I, z)) : cm_call (d + 1) m_Model_isNothing [vR 12 209, vR 20 a1, vI x2] (I, z) Q := by
  refine cm_call_in (C := cd_Model_isNothing) (ls := [some (vR 12 209), some (vR 20 a1), some (vI x2), none, none]) rfl rfl (show 0 < 209 by decide) rfl ?_
  refine w_iconst rfl ⟨by decide, by decide⟩ ?_
  refine w_istore rfl rfl ?_
  refine w_iconst rfl ⟨by decide, by decide⟩ ?_
  refine w_istore rfl rfl ?_
  exact H
set_option maxHeartbeats 4000000 in
set_option maxRecDepth 100000 in
theorem mr_multiplies_39 {d : Nat} {Q : cm_Q} {z : cm_Z} {I : cm_I} (hz : mz z) {a1 : Nat} {x2 : Int} {a3 : Nat} {x4 : Int} {a5 : Nat} {x6 : Int} {x7 : Int} {x8 : Int} {x9 : Int} {z10 : Option cm_V} {z11 : Option cm_V} (p_a1 : mA a1) (H : ((x7 ≤ x9 → Q none (I, z)) ∧ (x9 < x7 → (cm_i (x2 + x9) ∧ ((0:Int) ≤ (x2 + x9) ∧ (x2 + x9) < mLen a1) ∧ (((I a1 (x2 + x9)) = 0 → (cm_i (x9 + 1) ∧ cw d cd_Model_multiplies Q 39 [some (vR 12 209), some (vR 20 a1), some (vI x2), some (vR 20 a3), some (vI x4), some (vR 20 a5), some (vI x6), some (vI x7), some (vI x8), some (vI (x9 + 1)), z10, z11] [] (I, z))) ∧ (¬ (I a1 (x2 + x9)) = 0 → cw d cd_Model_multiplies Q 58 [some (vR 12 209), some (vR 20 a1), some (vI x2), some (vR 20 a3), some (vI x4), some (vR 20 a5), some (vI x6), some (vI x7), some (vI x8), some (vI x9), some (vI 0), z11] [] (I, z))))))) : cw d cd_Model_multiplies Q 39 [some (vR 12 209), some (vR 20 a1), some (vI x2), some (vR 20 a3), some (vI x4), some (vR 20 a5), some (vI x6), some (vI x7), some (vI x8), some (vI x9), z10, z11] [] (I, z) := by
  refine w_iload rfl rfl ?_
  refine w_iload rfl rfl ?_
  refine w_icmp rfl (And.intro (fun hc => ?_) (fun hc => ?_))
  · replace H := H.1 hc
    exact w_return rfl H
  · replace H := H.2 hc
    refine w_aload rfl rfl ?_
    refine w_iload rfl rfl ?_
    refine w_iload rfl rfl ?_
    have o1 := H.1
    replace H := H.2
    refine w_iadd rfl o1 ?_
    have o2 := H.1
    replace H := H.2
    refine m_iaload hz p_a1 rfl o2 ?_
    refine w_if rfl (And.intro (fun hc => ?_) (fun hc => ?_))
    · replace H := H.1 hc
      have o3 := H.1
      replace H := H.2
      refine w_iinc rfl rfl rfl o3 ?_
      refine w_goto rfl ?_
      exact H
    · replace H := H.2 hc
      refine w_iconst rfl ⟨by decide, by decide⟩ ?_
      refine w_istore rfl rfl ?_
      exact H
set_option maxHeartbeats 4000000 in
set_option maxRecDepth 100000 in
theorem mr_multiplies_58 {d : Nat} {Q : cm_Q} {z : cm_Z} {I : cm_I} (hz : mz z) {a1 : Nat} {x2 : Int} {a3 : Nat} {x4 : Int} {a5 : Nat} {x6 : Int} {x7 : Int} {x8 : Int} {x9 : Int} {x10 : Int} {z11 : Option cm_V} (p_a3 : mA a3) (p_a5 : mA a5) (p_a1 : mA a1) (H : ((x8 ≤ x10 → (cm_i (x9 + 1) ∧ cw d cd_Model_multiplies Q 39 [some (vR 12 209), some (vR 20 a1), some (vI x2), some (vR 20 a3), some (vI x4), some (vR 20 a5), some (vI x6), some (vI x7), some (vI x8), some (vI (x9 + 1)), some (vI x10), z11] [] (I, z))) ∧ (x10 < x8 → (cm_i (x4 + x10) ∧ ((0:Int) ≤ (x4 + x10) ∧ (x4 + x10) < mLen a3) ∧ (((I a3 (x4 + x10)) = 0 → (cm_i (x10 + 1) ∧ cw d cd_Model_multiplies Q 58 [some (vR 12 209), some (vR 20 a1), some (vI x2), some (vR 20 a3), some (vI x4), some (vR 20 a5), some (vI x6), some (vI x7), some (vI x8), some (vI x9), some (vI (x10 + 1)), z11] [] (I, z))) ∧ (¬ (I a3 (x4 + x10)) = 0 → ((0:Int) ≤ x9 ∧ x9 < 1140) ∧ ((0:Int) ≤ x10 ∧ x10 < 1140) ∧ (cm_i ((I 210 x9) + (I 210 x10)) ∧ (cm_i ((I 211 x9) + (I 211 x10)) ∧ (cm_i ((I 212 x9) + (I 212 x10)) ∧ (mI d m_Model_at [vR 12 209, vI ((I 210 x9) + (I 210 x10)), vI ((I 211 x9) + (I 211 x10)), vI ((I 212 x9) + (I 212 x10))] z I fun v11 I10 => (cm_i (x6 + v11) ∧ ((0:Int) ≤ (x6 + v11) ∧ (x6 + v11) < mLen a5) ∧ (cm_i (x2 + x9) ∧ ((0:Int) ≤ (x2 + x9) ∧ (x2 + x9) < mLen a1) ∧ (cm_i ((I10 a1 (x2 + x9)) * (I10 a3 (x4 + x10))) ∧ (cm_i ((I10 a5 (x6 + v11)) + ((I10 a1 (x2 + x9)) * (I10 a3 (x4 + x10)))) ∧ (∀ I18 : cm_I, I18 = iu I10 a5 (x6 + v11) (Int.tmod ((I10 a5 (x6 + v11)) + ((I10 a1 (x2 + x9)) * (I10 a3 (x4 + x10)))) 2521) → (cm_i (x10 + 1) ∧ cw d cd_Model_multiplies Q 58 [some (vR 12 209), some (vR 20 a1), some (vI x2), some (vR 20 a3), some (vI x4), some (vR 20 a5), some (vI x6), some (vI x7), some (vI x8), some (vI x9), some (vI (x10 + 1)), some (vI (x6 + v11))] [] (I18, z))))))))))))))))) : cw d cd_Model_multiplies Q 58 [some (vR 12 209), some (vR 20 a1), some (vI x2), some (vR 20 a3), some (vI x4), some (vR 20 a5), some (vI x6), some (vI x7), some (vI x8), some (vI x9), some (vI x10), z11] [] (I, z) := by
  refine w_iload rfl rfl ?_
  refine w_iload rfl rfl ?_
  refine w_icmp rfl (And.intro (fun hc => ?_) (fun hc => ?_))
  · replace H := H.1 hc
    have o1 := H.1
    replace H := H.2
    refine w_iinc rfl rfl rfl o1 ?_
    refine w_goto rfl ?_
    exact H
  · replace H := H.2 hc
    refine w_aload rfl rfl ?_
    refine w_iload rfl rfl ?_
    refine w_iload rfl rfl ?_
    have o2 := H.1
    replace H := H.2
    refine w_iadd rfl o2 ?_
    have o3 := H.1
    replace H := H.2
    refine m_iaload hz p_a3 rfl o3 ?_
    refine w_if rfl (And.intro (fun hc => ?_) (fun hc => ?_))
    · replace H := H.1 hc
      have o4 := H.1
      replace H := H.2
      refine w_iinc rfl rfl rfl o4 ?_
      refine w_goto rfl ?_
      exact H
    · replace H := H.2 hc
      refine w_iload rfl rfl ?_
      refine w_aload rfl rfl ?_
      refine w_aload rfl rfl ?_
      refine m_getR 2 20 210 hz rfl rfl rfl rfl rfl rfl (by decide) ?_
      refine w_iload rfl rfl ?_
      have o5 := H.1
      replace H := H.2
      refine m_iaload hz (by unfold mA; decide) rfl o5 ?_
      refine w_aload rfl rfl ?_
      refine m_getR 2 20 210 hz rfl rfl rfl rfl rfl rfl (by decide) ?_
      refine w_iload rfl rfl ?_
      have o6 := H.1
      replace H := H.2
      refine m_iaload hz (by unfold mA; decide) rfl o6 ?_
      have o7 := H.1
      replace H := H.2
      refine w_iadd rfl o7 ?_
      refine w_aload rfl rfl ?_
      refine m_getR 3 20 211 hz rfl rfl rfl rfl rfl rfl (by decide) ?_
      refine w_iload rfl rfl ?_
      refine m_iaload hz (by unfold mA; decide) rfl o5 ?_
      refine w_aload rfl rfl ?_
      refine m_getR 3 20 211 hz rfl rfl rfl rfl rfl rfl (by decide) ?_
      refine w_iload rfl rfl ?_
      refine m_iaload hz (by unfold mA; decide) rfl o6 ?_
      have o8 := H.1
      replace H := H.2
      refine w_iadd rfl o8 ?_
      refine w_aload rfl rfl ?_
      refine m_getR 4 20 212 hz rfl rfl rfl rfl rfl rfl (by decide) ?_
      refine w_iload rfl rfl ?_
      refine m_iaload hz (by unfold mA; decide) rfl o5 ?_
      refine w_aload rfl rfl ?_
      refine m_getR 4 20 212 hz rfl rfl rfl rfl rfl rfl (by decide) ?_
      refine w_iload rfl rfl ?_
      refine m_iaload hz (by unfold mA; decide) rfl o6 ?_
      have o9 := H.1
      replace H := H.2
      refine w_iadd rfl o9 ?_
      refine m_callI rfl (fun _ => rfl) rfl (mI_mono H fun v11 I10 H => ?_)
      have o12 := H.1
      replace H := H.2
      refine w_iadd rfl o12 ?_
      refine w_istore rfl rfl ?_
      refine w_aload rfl rfl ?_
      refine w_iload rfl rfl ?_
      refine w_aload rfl rfl ?_
      refine w_iload rfl rfl ?_
      have o13 := H.1
      replace H := H.2
      refine m_iaload hz p_a5 rfl o13 ?_
      refine w_aload rfl rfl ?_
      refine w_iload rfl rfl ?_
      refine w_iload rfl rfl ?_
      have o14 := H.1
      replace H := H.2
      refine w_iadd rfl o14 ?_
      have o15 := H.1
      replace H := H.2
      refine m_iaload hz p_a1 rfl o15 ?_
      refine w_aload rfl rfl ?_
      refine w_iload rfl rfl ?_
      refine w_iload rfl rfl ?_
      refine w_iadd rfl o2 ?_
      refine m_iaload hz p_a3 rfl o3 ?_
      have o16 := H.1
      replace H := H.2
      refine w_imul rfl o16 ?_
      have o17 := H.1
      replace H := H.2
      refine w_iadd rfl o17 ?_
      refine w_iconst rfl ⟨by decide, by decide⟩ ?_
      refine w_irem rfl (by decide) ?_
      refine m_iastore hz p_a5 rfl o13 (fun I18 eI18 => ?_)
      replace H := H I18 eI18
      have o19 := H.1
      replace H := H.2
      refine w_iinc rfl rfl rfl o19 ?_
      refine w_goto rfl ?_
      exact H
set_option maxHeartbeats 4000000 in
set_option maxRecDepth 100000 in
theorem mr_multiplies {d : Nat} {Q : cm_Q} {z : cm_Z} {I : cm_I} (hz : mz z) {a1 : Nat} {x2 : Int} {a3 : Nat} {x4 : Int} {a5 : Nat} {x6 : Int}  (H : (mU d m_Model_clears [vR 20 a5, vI x6] z I fun I1 => (mI d m_Model_degree [vR 12 209, vR 20 a1, vI x2] z I1 fun v3 I2 => (cm_i (v3 + 1) ∧ (mI d m_Model_from [vR 12 209, vI (v3 + 1)] z I2 fun v6 I5 => (mI d m_Model_degree [vR 12 209, vR 20 a3, vI x4] z I5 fun v8 I7 => (cm_i (v8 + 1) ∧ (mI d m_Model_from [vR 12 209, vI (v8 + 1)] z I7 fun v11 I10 => cw d cd_Model_multiplies Q 39 [some (vR 12 209), some (vR 20 a1), some (vI x2), some (vR 20 a3), some (vI x4), some (vR 20 a5), some (vI x6), some (vI v6), some (vI v11), some (vI 0), none, none] [] (I10, z))))))))) : cm_call (d + 1) m_Model_multiplies [vR 12 209, vR 20 a1, vI x2, vR 20 a3, vI x4, vR 20 a5, vI x6] (I, z) Q := by
  refine cm_call_in (C := cd_Model_multiplies) (ls := [some (vR 12 209), some (vR 20 a1), some (vI x2), some (vR 20 a3), some (vI x4), some (vR 20 a5), some (vI x6), none, none, none, none, none]) rfl rfl (show 0 < 209 by decide) rfl ?_
  refine w_aload rfl rfl ?_
  refine w_iload rfl rfl ?_
  refine m_callU rfl (fun _ => rfl) rfl (mU_mono H fun I1 H => ?_)
  refine w_aload rfl rfl ?_
  refine w_aload rfl rfl ?_
  refine w_aload rfl rfl ?_
  refine w_iload rfl rfl ?_
  refine m_callI rfl (fun _ => rfl) rfl (mI_mono H fun v3 I2 H => ?_)
  refine w_iconst rfl ⟨by decide, by decide⟩ ?_
  have o4 := H.1
  replace H := H.2
  refine w_iadd rfl o4 ?_
  refine m_callI rfl (fun _ => rfl) rfl (mI_mono H fun v6 I5 H => ?_)
  refine w_istore rfl rfl ?_
  refine w_aload rfl rfl ?_
  refine w_aload rfl rfl ?_
  refine w_aload rfl rfl ?_
  refine w_iload rfl rfl ?_
  refine m_callI rfl (fun _ => rfl) rfl (mI_mono H fun v8 I7 H => ?_)
  refine w_iconst rfl ⟨by decide, by decide⟩ ?_
  have o9 := H.1
  replace H := H.2
  refine w_iadd rfl o9 ?_
  refine m_callI rfl (fun _ => rfl) rfl (mI_mono H fun v11 I10 H => ?_)
  refine w_istore rfl rfl ?_
  refine w_iconst rfl ⟨by decide, by decide⟩ ?_
  refine w_istore rfl rfl ?_
  exact H
set_option maxHeartbeats 4000000 in
set_option maxRecDepth 100000 in
theorem mr_terms_4 {d : Nat} {Q : cm_Q} {z : cm_Z} {I : cm_I} (hz : mz z) {x1 : Int} {x2 : Int} {x3 : Int}  (H : ((1140 ≤ x3 → Q (some (vI x2)) (I, z)) ∧ (x3 < 1140 → (cm_i (x1 + x3) ∧ ((0:Int) ≤ (x1 + x3) ∧ (x1 + x3) < 6840) ∧ ((¬ (I 213 (x1 + x3)) = 0 → (cm_i (x2 + 1) ∧ (cm_i (x3 + 1) ∧ cw d cd_Model_terms Q 4 [some (vR 12 209), some (vI x1), some (vI (x2 + 1)), some (vI (x3 + 1))] [] (I, z)))) ∧ ((I 213 (x1 + x3)) = 0 → (cm_i (x2 + 0) ∧ (cm_i (x3 + 1) ∧ cw d cd_Model_terms Q 4 [some (vR 12 209), some (vI x1), some (vI (x2 + 0)), some (vI (x3 + 1))] [] (I, z))))))))) : cw d cd_Model_terms Q 4 [some (vR 12 209), some (vI x1), some (vI x2), some (vI x3)] [] (I, z) := by
  refine w_iload rfl rfl ?_
  refine w_iconst rfl ⟨by decide, by decide⟩ ?_
  refine w_icmp rfl (And.intro (fun hc => ?_) (fun hc => ?_))
  · replace H := H.1 hc
    refine w_iload rfl rfl ?_
    exact w_ireturn rfl H
  · replace H := H.2 hc
    refine w_iload rfl rfl ?_
    refine w_aload rfl rfl ?_
    refine m_getR 5 20 213 hz rfl rfl rfl rfl rfl rfl (by decide) ?_
    refine w_iload rfl rfl ?_
    refine w_iload rfl rfl ?_
    have o1 := H.1
    replace H := H.2
    refine w_iadd rfl o1 ?_
    have o2 := H.1
    replace H := H.2
    refine m_iaload hz (by unfold mA; decide) rfl o2 ?_
    refine w_if rfl (And.intro (fun hc => ?_) (fun hc => ?_))
    · replace H := H.1 hc
      refine w_iconst rfl ⟨by decide, by decide⟩ ?_
      have o3 := H.1
      replace H := H.2
      refine w_iadd rfl o3 ?_
      refine w_istore rfl rfl ?_
      have o4 := H.1
      replace H := H.2
      refine w_iinc rfl rfl rfl o4 ?_
      refine w_goto rfl ?_
      exact H
    · replace H := H.2 hc
      refine w_iconst rfl ⟨by decide, by decide⟩ ?_
      refine w_goto rfl ?_
      have o5 := H.1
      replace H := H.2
      refine w_iadd rfl o5 ?_
      refine w_istore rfl rfl ?_
      have o6 := H.1
      replace H := H.2
      refine w_iinc rfl rfl rfl o6 ?_
      refine w_goto rfl ?_
      exact H
set_option maxHeartbeats 4000000 in
set_option maxRecDepth 100000 in
theorem mr_terms {d : Nat} {Q : cm_Q} {z : cm_Z} {I : cm_I} (hz : mz z) {x1 : Int}  (H : cw d cd_Model_terms Q 4 [some (vR 12 209), some (vI x1), some (vI 0), some (vI 0)] [] (I, z)) : cm_call (d + 1) m_Model_terms [vR 12 209, vI x1] (I, z) Q := by
  refine cm_call_in (C := cd_Model_terms) (ls := [some (vR 12 209), some (vI x1), none, none]) rfl rfl (show 0 < 209 by decide) rfl ?_
  refine w_iconst rfl ⟨by decide, by decide⟩ ?_
  refine w_istore rfl rfl ?_
  refine w_iconst rfl ⟨by decide, by decide⟩ ?_
  refine w_istore rfl rfl ?_
  exact H
set_option maxHeartbeats 4000000 in
set_option maxRecDepth 100000 in
theorem mr_entry {d : Nat} {Q : cm_Q} {z : cm_Z} {I : cm_I} (hz : mz z) {a1 : Nat} {x2 : Int} {x3 : Int} {x4 : Int} (p_a1 : mA a1) (H : (cm_i (9 * x2) ∧ (cm_i (3 * x3) ∧ (cm_i ((9 * x2) + (3 * x3)) ∧ (cm_i (((9 * x2) + (3 * x3)) + x4) ∧ ((0:Int) ≤ (((9 * x2) + (3 * x3)) + x4) ∧ (((9 * x2) + (3 * x3)) + x4) < mLen a1) ∧ Q (some (vI (I a1 (((9 * x2) + (3 * x3)) + x4)))) (I, z)))))) : cm_call (d + 1) m_Model_entry [vR 12 209, vR 20 a1, vI x2, vI x3, vI x4] (I, z) Q := by
  refine cm_call_in (C := cd_Model_entry) (ls := [some (vR 12 209), some (vR 20 a1), some (vI x2), some (vI x3), some (vI x4)]) rfl rfl (show 0 < 209 by decide) rfl ?_
  refine w_aload rfl rfl ?_
  refine w_iconst rfl ⟨by decide, by decide⟩ ?_
  refine w_iload rfl rfl ?_
  have o1 := H.1
  replace H := H.2
  refine w_imul rfl o1 ?_
  refine w_iconst rfl ⟨by decide, by decide⟩ ?_
  refine w_iload rfl rfl ?_
  have o2 := H.1
  replace H := H.2
  refine w_imul rfl o2 ?_
  have o3 := H.1
  replace H := H.2
  refine w_iadd rfl o3 ?_
  refine w_iload rfl rfl ?_
  have o4 := H.1
  replace H := H.2
  refine w_iadd rfl o4 ?_
  have o5 := H.1
  replace H := H.2
  refine m_iaload hz p_a1 rfl o5 ?_
  exact w_ireturn rfl H
set_option maxHeartbeats 4000000 in
set_option maxRecDepth 100000 in
theorem mr_times_3 {d : Nat} {Q : cm_Q} {z : cm_Z} {I : cm_I} (hz : mz z) {a1 : Nat} {x2 : Int} {a3 : Nat} {x4 : Int} {a5 : Nat} {x6 : Int} {x7 : Int} {z8 : Option cm_V} {z9 : Option cm_V} {z10 : Option cm_V} {z11 : Option cm_V}  (H : (((I 209 1) ≤ x7 → Q none (I, z)) ∧ (x7 < (I 209 1) → cw d cd_Model_times Q 15 [some (vR 12 209), some (vR 20 a1), some (vI x2), some (vR 20 a3), some (vI x4), some (vR 20 a5), some (vI x6), some (vI x7), some (vI 0), z9, z10, z11] [] (I, z)))) : cw d cd_Model_times Q 3 [some (vR 12 209), some (vR 20 a1), some (vI x2), some (vR 20 a3), some (vI x4), some (vR 20 a5), some (vI x6), some (vI x7), z8, z9, z10, z11] [] (I, z) := by
  refine w_iload rfl rfl ?_
  refine w_aload rfl rfl ?_
  refine m_getI 1 rfl rfl rfl (by decide) ?_
  refine w_icmp rfl (And.intro (fun hc => ?_) (fun hc => ?_))
  · replace H := H.1 hc
    exact w_return rfl H
  · replace H := H.2 hc
    refine w_iconst rfl ⟨by decide, by decide⟩ ?_
    refine w_istore rfl rfl ?_
    exact H
set_option maxHeartbeats 4000000 in
set_option maxRecDepth 100000 in
theorem mr_times_15 {d : Nat} {Q : cm_Q} {z : cm_Z} {I : cm_I} (hz : mz z) {a1 : Nat} {x2 : Int} {a3 : Nat} {x4 : Int} {a5 : Nat} {x6 : Int} {x7 : Int} {x8 : Int} {z9 : Option cm_V} {z10 : Option cm_V} {z11 : Option cm_V}  (H : (((I 209 1) ≤ x8 → (cm_i (x7 + 1) ∧ cw d cd_Model_times Q 3 [some (vR 12 209), some (vR 20 a1), some (vI x2), some (vR 20 a3), some (vI x4), some (vR 20 a5), some (vI x6), some (vI (x7 + 1)), some (vI x8), z9, z10, z11] [] (I, z))) ∧ (x8 < (I 209 1) → cw d cd_Model_times Q 30 [some (vR 12 209), some (vR 20 a1), some (vI x2), some (vR 20 a3), some (vI x4), some (vR 20 a5), some (vI x6), some (vI x7), some (vI x8), some (vL 0), none, some (vI 0)] [] (I, z)))) : cw d cd_Model_times Q 15 [some (vR 12 209), some (vR 20 a1), some (vI x2), some (vR 20 a3), some (vI x4), some (vR 20 a5), some (vI x6), some (vI x7), some (vI x8), z9, z10, z11] [] (I, z) := by
  refine w_iload rfl rfl ?_
  refine w_aload rfl rfl ?_
  refine m_getI 1 rfl rfl rfl (by decide) ?_
  refine w_icmp rfl (And.intro (fun hc => ?_) (fun hc => ?_))
  · replace H := H.1 hc
    have o1 := H.1
    replace H := H.2
    refine w_iinc rfl rfl rfl o1 ?_
    refine w_goto rfl ?_
    exact H
  · replace H := H.2 hc
    refine w_lconst rfl ⟨by decide, by decide⟩ ?_
    refine w_lstore rfl rfl ?_
    refine w_iconst rfl ⟨by decide, by decide⟩ ?_
    refine w_istore rfl rfl ?_
    exact H
set_option maxHeartbeats 4000000 in
set_option maxRecDepth 100000 in
theorem mr_times_30 {d : Nat} {Q : cm_Q} {z : cm_Z} {I : cm_I} (hz : mz z) {a1 : Nat} {x2 : Int} {a3 : Nat} {x4 : Int} {a5 : Nat} {x6 : Int} {x7 : Int} {x8 : Int} {y9 : Int} {z10 : Option cm_V} {x11 : Int} (p_a5 : mA a5) (H : (((I 209 1) ≤ x11 → (cm_i (9 * x6) ∧ (cm_i (3 * x7) ∧ (cm_i ((9 * x6) + (3 * x7)) ∧ (cm_i (((9 * x6) + (3 * x7)) + x8) ∧ (mI d m_Model_of [vL y9] z I fun v6 I5 => ((0:Int) ≤ (((9 * x6) + (3 * x7)) + x8) ∧ (((9 * x6) + (3 * x7)) + x8) < mLen a5) ∧ (∀ I8 : cm_I, I8 = iu I5 a5 (((9 * x6) + (3 * x7)) + x8) v6 → (cm_i (x8 + 1) ∧ cw d cd_Model_times Q 15 [some (vR 12 209), some (vR 20 a1), some (vI x2), some (vR 20 a3), some (vI x4), some (vR 20 a5), some (vI x6), some (vI x7), some (vI (x8 + 1)), some (vL y9), z10, some (vI x11)] [] (I8, z))))))))) ∧ (x11 < (I 209 1) → (mI d m_Model_entry [vR 12 209, vR 20 a1, vI x2, vI x7, vI x11] z I fun v11 I10 => (mI d m_Model_entry [vR 12 209, vR 20 a3, vI x4, vI x11, vI x8] z I10 fun v13 I12 => (cm_l (v11 * v13) ∧ (cm_l (y9 + (v11 * v13)) ∧ (cm_i (x11 + 1) ∧ cw d cd_Model_times Q 30 [some (vR 12 209), some (vR 20 a1), some (vI x2), some (vR 20 a3), some (vI x4), some (vR 20 a5), some (vI x6), some (vI x7), some (vI x8), some (vL (y9 + (v11 * v13))), none, some (vI (x11 + 1))] [] (I12, z))))))))) : cw d cd_Model_times Q 30 [some (vR 12 209), some (vR 20 a1), some (vI x2), some (vR 20 a3), some (vI x4), some (vR 20 a5), some (vI x6), some (vI x7), some (vI x8), some (vL y9), z10, some (vI x11)] [] (I, z) := by
  refine w_iload rfl rfl ?_
  refine w_aload rfl rfl ?_
  refine m_getI 1 rfl rfl rfl (by decide) ?_
  refine w_icmp rfl (And.intro (fun hc => ?_) (fun hc => ?_))
  · replace H := H.1 hc
    refine w_aload rfl rfl ?_
    refine w_iconst rfl ⟨by decide, by decide⟩ ?_
    refine w_iload rfl rfl ?_
    have o1 := H.1
    replace H := H.2
    refine w_imul rfl o1 ?_
    refine w_iconst rfl ⟨by decide, by decide⟩ ?_
    refine w_iload rfl rfl ?_
    have o2 := H.1
    replace H := H.2
    refine w_imul rfl o2 ?_
    have o3 := H.1
    replace H := H.2
    refine w_iadd rfl o3 ?_
    refine w_iload rfl rfl ?_
    have o4 := H.1
    replace H := H.2
    refine w_iadd rfl o4 ?_
    refine w_lload rfl rfl ?_
    refine m_callI rfl (fun _ => rfl) rfl (mI_mono H fun v6 I5 H => ?_)
    have o7 := H.1
    replace H := H.2
    refine m_iastore hz p_a5 rfl o7 (fun I8 eI8 => ?_)
    replace H := H I8 eI8
    have o9 := H.1
    replace H := H.2
    refine w_iinc rfl rfl rfl o9 ?_
    refine w_goto rfl ?_
    exact H
  · replace H := H.2 hc
    refine w_lload rfl rfl ?_
    refine w_aload rfl rfl ?_
    refine w_aload rfl rfl ?_
    refine w_iload rfl rfl ?_
    refine w_iload rfl rfl ?_
    refine w_iload rfl rfl ?_
    refine m_callI rfl (fun _ => rfl) rfl (mI_mono H fun v11 I10 H => ?_)
    refine w_i2l rfl ?_
    refine w_aload rfl rfl ?_
    refine w_aload rfl rfl ?_
    refine w_iload rfl rfl ?_
    refine w_iload rfl rfl ?_
    refine w_iload rfl rfl ?_
    refine m_callI rfl (fun _ => rfl) rfl (mI_mono H fun v13 I12 H => ?_)
    refine w_i2l rfl ?_
    have o14 := H.1
    replace H := H.2
    refine w_lmul rfl o14 ?_
    have o15 := H.1
    replace H := H.2
    refine w_ladd rfl o15 ?_
    refine w_lstore rfl rfl ?_
    have o16 := H.1
    replace H := H.2
    refine w_iinc rfl rfl rfl o16 ?_
    refine w_goto rfl ?_
    exact H
set_option maxHeartbeats 4000000 in
set_option maxRecDepth 100000 in
theorem mr_times {d : Nat} {Q : cm_Q} {z : cm_Z} {I : cm_I} (hz : mz z) {a1 : Nat} {x2 : Int} {a3 : Nat} {x4 : Int} {a5 : Nat} {x6 : Int}  (H : cw d cd_Model_times Q 3 [some (vR 12 209), some (vR 20 a1), some (vI x2), some (vR 20 a3), some (vI x4), some (vR 20 a5), some (vI x6), some (vI 0), none, none, none, none] [] (I, z)) : cm_call (d + 1) m_Model_times [vR 12 209, vR 20 a1, vI x2, vR 20 a3, vI x4, vR 20 a5, vI x6] (I, z) Q := by
  refine cm_call_in (C := cd_Model_times) (ls := [some (vR 12 209), some (vR 20 a1), some (vI x2), some (vR 20 a3), some (vI x4), some (vR 20 a5), some (vI x6), none, none, none, none, none]) rfl rfl (show 0 < 209 by decide) rfl ?_
  refine w_iconst rfl ⟨by decide, by decide⟩ ?_
  refine w_istore rfl rfl ?_
  exact H
set_option maxHeartbeats 4000000 in
set_option maxRecDepth 100000 in
theorem mr_areSame_6 {d : Nat} {Q : cm_Q} {z : cm_Z} {I : cm_I} (hz : mz z) {a1 : Nat} {x2 : Int} {a3 : Nat} {x4 : Int} {x5 : Int} {x6 : Int} {z7 : Option cm_V}  (H : (((I 209 1) ≤ x6 → ((x5 = 0 ∨ x5 = 1) ∧ Q (some (vI x5)) (I, z))) ∧ (x6 < (I 209 1) → cw d cd_Model_areSame Q 18 [some (vR 12 209), some (vR 20 a1), some (vI x2), some (vR 20 a3), some (vI x4), some (vI x5), some (vI x6), some (vI 0)] [] (I, z)))) : cw d cd_Model_areSame Q 6 [some (vR 12 209), some (vR 20 a1), some (vI x2), some (vR 20 a3), some (vI x4), some (vI x5), some (vI x6), z7] [] (I, z) := by
  refine w_iload rfl rfl ?_
  refine w_aload rfl rfl ?_
  refine m_getI 1 rfl rfl rfl (by decide) ?_
  refine w_icmp rfl (And.intro (fun hc => ?_) (fun hc => ?_))
  · replace H := H.1 hc
    refine w_iload rfl rfl ?_
    exact w_zreturn rfl H.1 H.2
  · replace H := H.2 hc
    refine w_iconst rfl ⟨by decide, by decide⟩ ?_
    refine w_istore rfl rfl ?_
    exact H
set_option maxHeartbeats 4000000 in
set_option maxRecDepth 100000 in
theorem mr_areSame_18 {d : Nat} {Q : cm_Q} {z : cm_Z} {I : cm_I} (hz : mz z) {a1 : Nat} {x2 : Int} {a3 : Nat} {x4 : Int} {x5 : Int} {x6 : Int} {x7 : Int}  (H : (((I 209 1) ≤ x7 → (cm_i (x6 + 1) ∧ cw d cd_Model_areSame Q 6 [some (vR 12 209), some (vR 20 a1), some (vI x2), some (vR 20 a3), some (vI x4), some (vI x5), some (vI (x6 + 1)), some (vI x7)] [] (I, z))) ∧ (x7 < (I 209 1) → ((x5 = 0 → (cm_i (x7 + 1) ∧ cw d cd_Model_areSame Q 18 [some (vR 12 209), some (vR 20 a1), some (vI x2), some (vR 20 a3), some (vI x4), some (vI 0), some (vI x6), some (vI (x7 + 1))] [] (I, z))) ∧ (¬ x5 = 0 → (mI d m_Model_entry [vR 12 209, vR 20 a1, vI x2, vI x6, vI x7] z I fun v4 I3 => (mI d m_Model_entry [vR 12 209, vR 20 a3, vI x4, vI x6, vI x7] z I3 fun v6 I5 => ((¬ v4 = v6 → (cm_i (x7 + 1) ∧ cw d cd_Model_areSame Q 18 [some (vR 12 209), some (vR 20 a1), some (vI x2), some (vR 20 a3), some (vI x4), some (vI 0), some (vI x6), some (vI (x7 + 1))] [] (I5, z))) ∧ (v4 = v6 → (cm_i (x7 + 1) ∧ cw d cd_Model_areSame Q 18 [some (vR 12 209), some (vR 20 a1), some (vI x2), some (vR 20 a3), some (vI x4), some (vI 1), some (vI x6), some (vI (x7 + 1))] [] (I5, z))))))))))) : cw d cd_Model_areSame Q 18 [some (vR 12 209), some (vR 20 a1), some (vI x2), some (vR 20 a3), some (vI x4), some (vI x5), some (vI x6), some (vI x7)] [] (I, z) := by
  refine w_iload rfl rfl ?_
  refine w_aload rfl rfl ?_
  refine m_getI 1 rfl rfl rfl (by decide) ?_
  refine w_icmp rfl (And.intro (fun hc => ?_) (fun hc => ?_))
  · replace H := H.1 hc
    have o1 := H.1
    replace H := H.2
    refine w_iinc rfl rfl rfl o1 ?_
    refine w_goto rfl ?_
    exact H
  · replace H := H.2 hc
    refine w_iload rfl rfl ?_
    refine w_if rfl (And.intro (fun hc => ?_) (fun hc => ?_))
    · replace H := H.1 hc
      refine w_iconst rfl ⟨by decide, by decide⟩ ?_
      refine w_istore rfl rfl ?_
      have o2 := H.1
      replace H := H.2
      refine w_iinc rfl rfl rfl o2 ?_
      refine w_goto rfl ?_
      exact H
    · replace H := H.2 hc
      refine w_aload rfl rfl ?_
      refine w_aload rfl rfl ?_
      refine w_iload rfl rfl ?_
      refine w_iload rfl rfl ?_
      refine w_iload rfl rfl ?_
      refine m_callI rfl (fun _ => rfl) rfl (mI_mono H fun v4 I3 H => ?_)
      refine w_aload rfl rfl ?_
      refine w_aload rfl rfl ?_
      refine w_iload rfl rfl ?_
      refine w_iload rfl rfl ?_
      refine w_iload rfl rfl ?_
      refine m_callI rfl (fun _ => rfl) rfl (mI_mono H fun v6 I5 H => ?_)
      refine w_icmp rfl (And.intro (fun hc => ?_) (fun hc => ?_))
      · replace H := H.1 hc
        refine w_iconst rfl ⟨by decide, by decide⟩ ?_
        refine w_istore rfl rfl ?_
        have o7 := H.1
        replace H := H.2
        refine w_iinc rfl rfl rfl o7 ?_
        refine w_goto rfl ?_
        exact H
      · replace H := H.2 hc
        refine w_iconst rfl ⟨by decide, by decide⟩ ?_
        refine w_goto rfl ?_
        refine w_istore rfl rfl ?_
        have o8 := H.1
        replace H := H.2
        refine w_iinc rfl rfl rfl o8 ?_
        refine w_goto rfl ?_
        exact H
set_option maxHeartbeats 4000000 in
set_option maxRecDepth 100000 in
theorem mr_areSame {d : Nat} {Q : cm_Q} {z : cm_Z} {I : cm_I} (hz : mz z) {a1 : Nat} {x2 : Int} {a3 : Nat} {x4 : Int}  (H : cw d cd_Model_areSame Q 6 [some (vR 12 209), some (vR 20 a1), some (vI x2), some (vR 20 a3), some (vI x4), some (vI 1), some (vI 0), none] [] (I, z)) : cm_call (d + 1) m_Model_areSame [vR 12 209, vR 20 a1, vI x2, vR 20 a3, vI x4] (I, z) Q := by
  refine cm_call_in (C := cd_Model_areSame) (ls := [some (vR 12 209), some (vR 20 a1), some (vI x2), some (vR 20 a3), some (vI x4), none, none, none]) rfl rfl (show 0 < 209 by decide) rfl ?_
  refine w_iconst rfl ⟨by decide, by decide⟩ ?_
  refine w_istore rfl rfl ?_
  refine w_iconst rfl ⟨by decide, by decide⟩ ?_
  refine w_istore rfl rfl ?_
  exact H
set_option maxHeartbeats 4000000 in
set_option maxRecDepth 100000 in
theorem mr_find_2 {d : Nat} {Q : cm_Q} {z : cm_Z} {I : cm_I} (hz : mz z) {x1 : Int}  (H : (mI d m_Model_areSame [vR 12 209, vR 20 218, vI x1, vR 20 218, vI (I 209 11)] z I fun v2 I1 => ((¬ v2 = 0 → Q (some (vI x1)) (I1, z)) ∧ (v2 = 0 → (cm_i (x1 + 1) ∧ cw d cd_Model_find Q 2 [some (vR 12 209), some (vI (x1 + 1))] [] (I1, z)))))) : cw d cd_Model_find Q 2 [some (vR 12 209), some (vI x1)] [] (I, z) := by
  refine w_aload rfl rfl ?_
  refine w_aload rfl rfl ?_
  refine m_getR 12 20 218 hz rfl rfl rfl rfl rfl rfl (by decide) ?_
  refine w_iload rfl rfl ?_
  refine w_aload rfl rfl ?_
  refine m_getR 12 20 218 hz rfl rfl rfl rfl rfl rfl (by decide) ?_
  refine w_aload rfl rfl ?_
  refine m_getI 11 rfl rfl rfl (by decide) ?_
  refine m_callI rfl (fun _ => rfl) rfl (mI_mono H fun v2 I1 H => ?_)
  refine w_if rfl (And.intro (fun hc => ?_) (fun hc => ?_))
  · replace H := H.1 hc
    refine w_iload rfl rfl ?_
    exact w_ireturn rfl H
  · replace H := H.2 hc
    have o3 := H.1
    replace H := H.2
    refine w_iinc rfl rfl rfl o3 ?_
    refine w_goto rfl ?_
    exact H
set_option maxHeartbeats 4000000 in
set_option maxRecDepth 100000 in
theorem mr_find {d : Nat} {Q : cm_Q} {z : cm_Z} {I : cm_I} (hz : mz z)   (H : cw d cd_Model_find Q 2 [some (vR 12 209), some (vI 0)] [] (I, z)) : cm_call (d + 1) m_Model_find [vR 12 209] (I, z) Q := by
  refine cm_call_in (C := cd_Model_find) (ls := [some (vR 12 209), none]) rfl rfl (show 0 < 209 by decide) rfl ?_
  refine w_iconst rfl ⟨by decide, by decide⟩ ?_
  refine w_istore rfl rfl ?_
  exact H
set_option maxHeartbeats 4000000 in
set_option maxRecDepth 100000 in
theorem mr_laysGroup_7 {d : Nat} {Q : cm_Q} {z : cm_Z} {I : cm_I} (hz : mz z) {x1 : Int} {z2 : Option cm_V}  (H : ((3 ≤ x1 → cw d cd_Model_laysGroup Q 53 [some (vR 12 209), some (vI 0), z2] [] (I, z)) ∧ (x1 < 3 → cw d cd_Model_laysGroup Q 14 [some (vR 12 209), some (vI x1), some (vI 0)] [] (I, z)))) : cw d cd_Model_laysGroup Q 7 [some (vR 12 209), some (vI x1), z2] [] (I, z) := by
  refine w_iload rfl rfl ?_
  refine w_iconst rfl ⟨by decide, by decide⟩ ?_
  refine w_icmp rfl (And.intro (fun hc => ?_) (fun hc => ?_))
  · replace H := H.1 hc
    refine w_iconst rfl ⟨by decide, by decide⟩ ?_
    refine w_istore rfl rfl ?_
    exact H
  · replace H := H.2 hc
    refine w_iconst rfl ⟨by decide, by decide⟩ ?_
    refine w_istore rfl rfl ?_
    exact H
set_option maxHeartbeats 4000000 in
set_option maxRecDepth 100000 in
theorem mr_laysGroup_14 {d : Nat} {Q : cm_Q} {z : cm_Z} {I : cm_I} (hz : mz z) {x1 : Int} {x2 : Int}  (H : ((3 ≤ x2 → (cm_i (x1 + 1) ∧ cw d cd_Model_laysGroup Q 7 [some (vR 12 209), some (vI (x1 + 1)), some (vI x2)] [] (I, z))) ∧ (x2 < 3 → (cm_i (3 * x1) ∧ (cm_i ((3 * x1) + x2) ∧ ((¬ x1 = x2 → ((0:Int) ≤ ((3 * x1) + x2) ∧ ((3 * x1) + x2) < 441) ∧ (∀ I5 : cm_I, I5 = iu I 218 ((3 * x1) + x2) 0 → (cm_i (x2 + 1) ∧ cw d cd_Model_laysGroup Q 14 [some (vR 12 209), some (vI x1), some (vI (x2 + 1))] [] (I5, z)))) ∧ (x1 = x2 → ((0:Int) ≤ ((3 * x1) + x2) ∧ ((3 * x1) + x2) < 441) ∧ (∀ I8 : cm_I, I8 = iu I 218 ((3 * x1) + x2) 1 → (cm_i (x2 + 1) ∧ cw d cd_Model_laysGroup Q 14 [some (vR 12 209), some (vI x1), some (vI (x2 + 1))] [] (I8, z)))))))))) : cw d cd_Model_laysGroup Q 14 [some (vR 12 209), some (vI x1), some (vI x2)] [] (I, z) := by
  refine w_iload rfl rfl ?_
  refine w_iconst rfl ⟨by decide, by decide⟩ ?_
  refine w_icmp rfl (And.intro (fun hc => ?_) (fun hc => ?_))
  · replace H := H.1 hc
    have o1 := H.1
    replace H := H.2
    refine w_iinc rfl rfl rfl o1 ?_
    refine w_goto rfl ?_
    exact H
  · replace H := H.2 hc
    refine w_aload rfl rfl ?_
    refine m_getR 12 20 218 hz rfl rfl rfl rfl rfl rfl (by decide) ?_
    refine w_iconst rfl ⟨by decide, by decide⟩ ?_
    refine w_iload rfl rfl ?_
    have o2 := H.1
    replace H := H.2
    refine w_imul rfl o2 ?_
    refine w_iload rfl rfl ?_
    have o3 := H.1
    replace H := H.2
    refine w_iadd rfl o3 ?_
    refine w_iload rfl rfl ?_
    refine w_iload rfl rfl ?_
    refine w_icmp rfl (And.intro (fun hc => ?_) (fun hc => ?_))
    · replace H := H.1 hc
      refine w_iconst rfl ⟨by decide, by decide⟩ ?_
      have o4 := H.1
      replace H := H.2
      refine m_iastore hz (by unfold mA; decide) rfl o4 (fun I5 eI5 => ?_)
      replace H := H I5 eI5
      have o6 := H.1
      replace H := H.2
      refine w_iinc rfl rfl rfl o6 ?_
      refine w_goto rfl ?_
      exact H
    · replace H := H.2 hc
      refine w_iconst rfl ⟨by decide, by decide⟩ ?_
      refine w_goto rfl ?_
      have o7 := H.1
      replace H := H.2
      refine m_iastore hz (by unfold mA; decide) rfl o7 (fun I8 eI8 => ?_)
      replace H := H I8 eI8
      have o9 := H.1
      replace H := H.2
      refine w_iinc rfl rfl rfl o9 ?_
      refine w_goto rfl ?_
      exact H
set_option maxHeartbeats 4000000 in
set_option maxRecDepth 100000 in
theorem mr_laysGroup_53 {d : Nat} {Q : cm_Q} {z : cm_Z} {I : cm_I} (hz : mz z) {x1 : Int} {z2 : Option cm_V}  (H : (((I 209 11) ≤ x1 → Q (some (vI 1)) (I, z)) ∧ (x1 < (I 209 11) → cw d cd_Model_laysGroup Q 63 [some (vR 12 209), some (vI x1), some (vI 0)] [] (I, z)))) : cw d cd_Model_laysGroup Q 53 [some (vR 12 209), some (vI x1), z2] [] (I, z) := by
  refine w_iload rfl rfl ?_
  refine w_aload rfl rfl ?_
  refine m_getI 11 rfl rfl rfl (by decide) ?_
  refine w_icmp rfl (And.intro (fun hc => ?_) (fun hc => ?_))
  · replace H := H.1 hc
    refine w_iconst rfl ⟨by decide, by decide⟩ ?_
    exact w_zreturn rfl (by decide) H
  · replace H := H.2 hc
    refine w_iconst rfl ⟨by decide, by decide⟩ ?_
    refine w_istore rfl rfl ?_
    exact H
set_option maxHeartbeats 4000000 in
set_option maxRecDepth 100000 in
theorem mr_laysGroup_63 {d : Nat} {Q : cm_Q} {z : cm_Z} {I : cm_I} (hz : mz z) {x1 : Int} {x2 : Int}  (H : (((I 209 9) ≤ x2 → (cm_i (x1 + 1) ∧ cw d cd_Model_laysGroup Q 53 [some (vR 12 209), some (vI (x1 + 1)), some (vI x2)] [] (I, z))) ∧ (x2 < (I 209 9) → (mU d m_Model_times [vR 12 209, vR 20 218, vI x1, vR 20 217, vI x2, vR 20 218, vI (I 209 11)] z I fun I2 => (mI d m_Model_find [vR 12 209] z I2 fun v4 I3 => ((¬ v4 = (I3 209 11) → (cm_i (x2 + 1) ∧ cw d cd_Model_laysGroup Q 63 [some (vR 12 209), some (vI x1), some (vI (x2 + 1))] [] (I3, z))) ∧ (v4 = (I3 209 11) → ((¬ (I3 209 11) = 48 → (cm_i ((I3 209 11) + 1) ∧ (∀ I7 : cm_I, I7 = iu I3 209 11 ((I3 209 11) + 1) → (cm_i (x2 + 1) ∧ cw d cd_Model_laysGroup Q 63 [some (vR 12 209), some (vI x1), some (vI (x2 + 1))] [] (I7, z))))) ∧ ((I3 209 11) = 48 → Q (some (vI 0)) (I3, z)))))))))) : cw d cd_Model_laysGroup Q 63 [some (vR 12 209), some (vI x1), some (vI x2)] [] (I, z) := by
  refine w_iload rfl rfl ?_
  refine w_aload rfl rfl ?_
  refine m_getI 9 rfl rfl rfl (by decide) ?_
  refine w_icmp rfl (And.intro (fun hc => ?_) (fun hc => ?_))
  · replace H := H.1 hc
    have o1 := H.1
    replace H := H.2
    refine w_iinc rfl rfl rfl o1 ?_
    refine w_goto rfl ?_
    exact H
  · replace H := H.2 hc
    refine w_aload rfl rfl ?_
    refine w_aload rfl rfl ?_
    refine m_getR 12 20 218 hz rfl rfl rfl rfl rfl rfl (by decide) ?_
    refine w_iload rfl rfl ?_
    refine w_aload rfl rfl ?_
    refine m_getR 10 20 217 hz rfl rfl rfl rfl rfl rfl (by decide) ?_
    refine w_iload rfl rfl ?_
    refine w_aload rfl rfl ?_
    refine m_getR 12 20 218 hz rfl rfl rfl rfl rfl rfl (by decide) ?_
    refine w_aload rfl rfl ?_
    refine m_getI 11 rfl rfl rfl (by decide) ?_
    refine m_callU rfl (fun _ => rfl) rfl (mU_mono H fun I2 H => ?_)
    refine w_aload rfl rfl ?_
    refine m_callI rfl (fun _ => rfl) rfl (mI_mono H fun v4 I3 H => ?_)
    refine w_aload rfl rfl ?_
    refine m_getI 11 rfl rfl rfl (by decide) ?_
    refine w_icmp rfl (And.intro (fun hc => ?_) (fun hc => ?_))
    · replace H := H.1 hc
      have o5 := H.1
      replace H := H.2
      refine w_iinc rfl rfl rfl o5 ?_
      refine w_goto rfl ?_
      exact H
    · replace H := H.2 hc
      refine w_aload rfl rfl ?_
      refine m_getI 11 rfl rfl rfl (by decide) ?_
      refine w_iconst rfl ⟨by decide, by decide⟩ ?_
      refine w_icmp rfl (And.intro (fun hc => ?_) (fun hc => ?_))
      · replace H := H.1 hc
        refine w_aload rfl rfl ?_
        refine w_dup rfl rfl ?_
        refine m_getI 11 rfl rfl rfl (by decide) ?_
        refine w_iconst rfl ⟨by decide, by decide⟩ ?_
        have o6 := H.1
        replace H := H.2
        refine w_iadd rfl o6 ?_
        refine m_putI 11 rfl rfl rfl (by decide) (fun I7 eI7 => ?_)
        replace H := H I7 eI7
        have o8 := H.1
        replace H := H.2
        refine w_iinc rfl rfl rfl o8 ?_
        refine w_goto rfl ?_
        exact H
      · replace H := H.2 hc
        refine w_iconst rfl ⟨by decide, by decide⟩ ?_
        exact w_zreturn rfl (by decide) H
set_option maxHeartbeats 4000000 in
set_option maxRecDepth 100000 in
theorem mr_laysGroup {d : Nat} {Q : cm_Q} {z : cm_Z} {I : cm_I} (hz : mz z)   (H : (∀ I1 : cm_I, I1 = iu I 209 11 1 → cw d cd_Model_laysGroup Q 7 [some (vR 12 209), some (vI 0), none] [] (I1, z))) : cm_call (d + 1) m_Model_laysGroup [vR 12 209] (I, z) Q := by
  refine cm_call_in (C := cd_Model_laysGroup) (ls := [some (vR 12 209), none, none]) rfl rfl (show 0 < 209 by decide) rfl ?_
  refine w_aload rfl rfl ?_
  refine w_iconst rfl ⟨by decide, by decide⟩ ?_
  refine m_putI 11 rfl rfl rfl (by decide) (fun I1 eI1 => ?_)
  replace H := H I1 eI1
  refine w_iconst rfl ⟨by decide, by decide⟩ ?_
  refine w_istore rfl rfl ?_
  exact H
set_option maxHeartbeats 4000000 in
set_option maxRecDepth 100000 in
theorem mr_determinant_56 {d : Nat} {Q : cm_Q} {z : cm_Z} {I : cm_I} (hz : mz z) {a1 : Nat} {x2 : Int} {y3 : Int} {z4 : Option cm_V} {x5 : Int} {z6 : Option cm_V} {z7 : Option cm_V} {z8 : Option cm_V} {z9 : Option cm_V}  (H : ((3 ≤ x5 → (mI d m_Model_of [vL y3] z I fun v2 I1 => Q (some (vI v2)) (I1, z))) ∧ (x5 < 3 → (cm_i (x5 + 1) ∧ (cm_i (x5 + 2) ∧ (mI d m_Model_entry [vR 12 209, vR 20 a1, vI x2, vI 1, vI (Int.tmod (x5 + 1) 3)] z I fun v6 I5 => (mI d m_Model_entry [vR 12 209, vR 20 a1, vI x2, vI 2, vI (Int.tmod (x5 + 2) 3)] z I5 fun v8 I7 => (cm_l (v6 * v8) ∧ (mI d m_Model_entry [vR 12 209, vR 20 a1, vI x2, vI 1, vI (Int.tmod (x5 + 2) 3)] z I7 fun v11 I10 => (mI d m_Model_entry [vR 12 209, vR 20 a1, vI x2, vI 2, vI (Int.tmod (x5 + 1) 3)] z I10 fun v13 I12 => (cm_l (v11 * v13) ∧ (cm_l ((v6 * v8) - (v11 * v13)) ∧ (mI d m_Model_of [vL ((v6 * v8) - (v11 * v13))] z I12 fun v17 I16 => (mI d m_Model_entry [vR 12 209, vR 20 a1, vI x2, vI 0, vI x5] z I16 fun v19 I18 => (cm_l (v19 * v17) ∧ (cm_l (y3 + (v19 * v17)) ∧ cw d cd_Model_determinant Q 56 [some (vR 12 209), some (vR 20 a1), some (vI x2), some (vL (y3 + (v19 * v17))), none, some (vI (x5 + 1)), some (vI (Int.tmod (x5 + 1) 3)), some (vI (Int.tmod (x5 + 2) 3)), some (vL v17), none] [] (I18, z))))))))))))))))) : cw d cd_Model_determinant Q 56 [some (vR 12 209), some (vR 20 a1), some (vI x2), some (vL y3), z4, some (vI x5), z6, z7, z8, z9] [] (I, z) := by
  refine w_iload rfl rfl ?_
  refine w_iconst rfl ⟨by decide, by decide⟩ ?_
  refine w_icmp rfl (And.intro (fun hc => ?_) (fun hc => ?_))
  · replace H := H.1 hc
    refine w_lload rfl rfl ?_
    refine m_callI rfl (fun _ => rfl) rfl (mI_mono H fun v2 I1 H => ?_)
    exact w_ireturn rfl H
  · replace H := H.2 hc
    refine w_iload rfl rfl ?_
    refine w_iconst rfl ⟨by decide, by decide⟩ ?_
    have o3 := H.1
    replace H := H.2
    refine w_iadd rfl o3 ?_
    refine w_iconst rfl ⟨by decide, by decide⟩ ?_
    refine w_irem rfl (by decide) ?_
    refine w_istore rfl rfl ?_
    refine w_iload rfl rfl ?_
    refine w_iconst rfl ⟨by decide, by decide⟩ ?_
    have o4 := H.1
    replace H := H.2
    refine w_iadd rfl o4 ?_
    refine w_iconst rfl ⟨by decide, by decide⟩ ?_
    refine w_irem rfl (by decide) ?_
    refine w_istore rfl rfl ?_
    refine w_aload rfl rfl ?_
    refine w_aload rfl rfl ?_
    refine w_iload rfl rfl ?_
    refine w_iconst rfl ⟨by decide, by decide⟩ ?_
    refine w_iload rfl rfl ?_
    refine m_callI rfl (fun _ => rfl) rfl (mI_mono H fun v6 I5 H => ?_)
    refine w_i2l rfl ?_
    refine w_aload rfl rfl ?_
    refine w_aload rfl rfl ?_
    refine w_iload rfl rfl ?_
    refine w_iconst rfl ⟨by decide, by decide⟩ ?_
    refine w_iload rfl rfl ?_
    refine m_callI rfl (fun _ => rfl) rfl (mI_mono H fun v8 I7 H => ?_)
    refine w_i2l rfl ?_
    have o9 := H.1
    replace H := H.2
    refine w_lmul rfl o9 ?_
    refine w_aload rfl rfl ?_
    refine w_aload rfl rfl ?_
    refine w_iload rfl rfl ?_
    refine w_iconst rfl ⟨by decide, by decide⟩ ?_
    refine w_iload rfl rfl ?_
    refine m_callI rfl (fun _ => rfl) rfl (mI_mono H fun v11 I10 H => ?_)
    refine w_i2l rfl ?_
    refine w_aload rfl rfl ?_
    refine w_aload rfl rfl ?_
    refine w_iload rfl rfl ?_
    refine w_iconst rfl ⟨by decide, by decide⟩ ?_
    refine w_iload rfl rfl ?_
    refine m_callI rfl (fun _ => rfl) rfl (mI_mono H fun v13 I12 H => ?_)
    refine w_i2l rfl ?_
    have o14 := H.1
    replace H := H.2
    refine w_lmul rfl o14 ?_
    have o15 := H.1
    replace H := H.2
    refine w_lsub rfl o15 ?_
    refine m_callI rfl (fun _ => rfl) rfl (mI_mono H fun v17 I16 H => ?_)
    refine w_i2l rfl ?_
    refine w_lstore rfl rfl ?_
    refine w_lload rfl rfl ?_
    refine w_aload rfl rfl ?_
    refine w_aload rfl rfl ?_
    refine w_iload rfl rfl ?_
    refine w_iconst rfl ⟨by decide, by decide⟩ ?_
    refine w_iload rfl rfl ?_
    refine m_callI rfl (fun _ => rfl) rfl (mI_mono H fun v19 I18 H => ?_)
    refine w_i2l rfl ?_
    refine w_lload rfl rfl ?_
    have o20 := H.1
    replace H := H.2
    refine w_lmul rfl o20 ?_
    have o21 := H.1
    replace H := H.2
    refine w_ladd rfl o21 ?_
    refine w_lstore rfl rfl ?_
    refine w_iinc rfl rfl rfl o3 ?_
    refine w_goto rfl ?_
    exact H
set_option maxHeartbeats 4000000 in
set_option maxRecDepth 100000 in
theorem mr_determinant {d : Nat} {Q : cm_Q} {z : cm_Z} {I : cm_I} (hz : mz z) {a1 : Nat} {x2 : Int}  (H : ((¬ (I 209 1) = 2 → cw d cd_Model_determinant Q 56 [some (vR 12 209), some (vR 20 a1), some (vI x2), some (vL 0), none, some (vI 0), none, none, none, none] [] (I, z)) ∧ ((I 209 1) = 2 → (mI d m_Model_entry [vR 12 209, vR 20 a1, vI x2, vI 0, vI 0] z I fun v2 I1 => (mI d m_Model_entry [vR 12 209, vR 20 a1, vI x2, vI 1, vI 1] z I1 fun v4 I3 => (cm_l (v2 * v4) ∧ (mI d m_Model_entry [vR 12 209, vR 20 a1, vI x2, vI 0, vI 1] z I3 fun v7 I6 => (mI d m_Model_entry [vR 12 209, vR 20 a1, vI x2, vI 1, vI 0] z I6 fun v9 I8 => (cm_l (v7 * v9) ∧ (cm_l ((v2 * v4) - (v7 * v9)) ∧ (mI d m_Model_of [vL ((v2 * v4) - (v7 * v9))] z I8 fun v13 I12 => Q (some (vI v13)) (I12, z)))))))))))) : cm_call (d + 1) m_Model_determinant [vR 12 209, vR 20 a1, vI x2] (I, z) Q := by
  refine cm_call_in (C := cd_Model_determinant) (ls := [some (vR 12 209), some (vR 20 a1), some (vI x2), none, none, none, none, none, none, none]) rfl rfl (show 0 < 209 by decide) rfl ?_
  refine w_aload rfl rfl ?_
  refine m_getI 1 rfl rfl rfl (by decide) ?_
  refine w_iconst rfl ⟨by decide, by decide⟩ ?_
  refine w_icmp rfl (And.intro (fun hc => ?_) (fun hc => ?_))
  · replace H := H.1 hc
    refine w_lconst rfl ⟨by decide, by decide⟩ ?_
    refine w_lstore rfl rfl ?_
    refine w_iconst rfl ⟨by decide, by decide⟩ ?_
    refine w_istore rfl rfl ?_
    exact H
  · replace H := H.2 hc
    refine w_aload rfl rfl ?_
    refine w_aload rfl rfl ?_
    refine w_iload rfl rfl ?_
    refine w_iconst rfl ⟨by decide, by decide⟩ ?_
    refine w_iconst rfl ⟨by decide, by decide⟩ ?_
    refine m_callI rfl (fun _ => rfl) rfl (mI_mono H fun v2 I1 H => ?_)
    refine w_i2l rfl ?_
    refine w_aload rfl rfl ?_
    refine w_aload rfl rfl ?_
    refine w_iload rfl rfl ?_
    refine w_iconst rfl ⟨by decide, by decide⟩ ?_
    refine w_iconst rfl ⟨by decide, by decide⟩ ?_
    refine m_callI rfl (fun _ => rfl) rfl (mI_mono H fun v4 I3 H => ?_)
    refine w_i2l rfl ?_
    have o5 := H.1
    replace H := H.2
    refine w_lmul rfl o5 ?_
    refine w_aload rfl rfl ?_
    refine w_aload rfl rfl ?_
    refine w_iload rfl rfl ?_
    refine w_iconst rfl ⟨by decide, by decide⟩ ?_
    refine w_iconst rfl ⟨by decide, by decide⟩ ?_
    refine m_callI rfl (fun _ => rfl) rfl (mI_mono H fun v7 I6 H => ?_)
    refine w_i2l rfl ?_
    refine w_aload rfl rfl ?_
    refine w_aload rfl rfl ?_
    refine w_iload rfl rfl ?_
    refine w_iconst rfl ⟨by decide, by decide⟩ ?_
    refine w_iconst rfl ⟨by decide, by decide⟩ ?_
    refine m_callI rfl (fun _ => rfl) rfl (mI_mono H fun v9 I8 H => ?_)
    refine w_i2l rfl ?_
    have o10 := H.1
    replace H := H.2
    refine w_lmul rfl o10 ?_
    have o11 := H.1
    replace H := H.2
    refine w_lsub rfl o11 ?_
    refine m_callI rfl (fun _ => rfl) rfl (mI_mono H fun v13 I12 H => ?_)
    exact w_ireturn rfl H
set_option maxHeartbeats 4000000 in
set_option maxRecDepth 100000 in
theorem mr_product {d : Nat} {Q : cm_Q} {z : cm_Z} {I : cm_I} (hz : mz z) {x1 : Int} {x2 : Int}  (H : (mU d m_Model_times [vR 12 209, vR 20 218, vI x1, vR 20 218, vI x2, vR 20 218, vI (I 209 11)] z I fun I1 => (mI d m_Model_find [vR 12 209] z I1 fun v3 I2 => Q (some (vI v3)) (I2, z)))) : cm_call (d + 1) m_Model_product [vR 12 209, vI x1, vI x2] (I, z) Q := by
  refine cm_call_in (C := cd_Model_product) (ls := [some (vR 12 209), some (vI x1), some (vI x2)]) rfl rfl (show 0 < 209 by decide) rfl ?_
  refine w_aload rfl rfl ?_
  refine w_aload rfl rfl ?_
  refine m_getR 12 20 218 hz rfl rfl rfl rfl rfl rfl (by decide) ?_
  refine w_iload rfl rfl ?_
  refine w_aload rfl rfl ?_
  refine m_getR 12 20 218 hz rfl rfl rfl rfl rfl rfl (by decide) ?_
  refine w_iload rfl rfl ?_
  refine w_aload rfl rfl ?_
  refine m_getR 12 20 218 hz rfl rfl rfl rfl rfl rfl (by decide) ?_
  refine w_aload rfl rfl ?_
  refine m_getI 11 rfl rfl rfl (by decide) ?_
  refine m_callU rfl (fun _ => rfl) rfl (mU_mono H fun I1 H => ?_)
  refine w_aload rfl rfl ?_
  refine m_callI rfl (fun _ => rfl) rfl (mI_mono H fun v3 I2 H => ?_)
  exact w_ireturn rfl H
set_option maxHeartbeats 4000000 in
set_option maxRecDepth 100000 in
theorem mr_inverseOf_2 {d : Nat} {Q : cm_Q} {z : cm_Z} {I : cm_I} (hz : mz z) {x1 : Int} {x2 : Int}  (H : (mI d m_Model_product [vR 12 209, vI x1, vI x2] z I fun v2 I1 => ((v2 = 0 → Q (some (vI x2)) (I1, z)) ∧ (¬ v2 = 0 → (cm_i (x2 + 1) ∧ cw d cd_Model_inverseOf Q 2 [some (vR 12 209), some (vI x1), some (vI (x2 + 1))] [] (I1, z)))))) : cw d cd_Model_inverseOf Q 2 [some (vR 12 209), some (vI x1), some (vI x2)] [] (I, z) := by
  refine w_aload rfl rfl ?_
  refine w_iload rfl rfl ?_
  refine w_iload rfl rfl ?_
  refine m_callI rfl (fun _ => rfl) rfl (mI_mono H fun v2 I1 H => ?_)
  refine w_if rfl (And.intro (fun hc => ?_) (fun hc => ?_))
  · replace H := H.1 hc
    refine w_iload rfl rfl ?_
    exact w_ireturn rfl H
  · replace H := H.2 hc
    have o3 := H.1
    replace H := H.2
    refine w_iinc rfl rfl rfl o3 ?_
    refine w_goto rfl ?_
    exact H
set_option maxHeartbeats 4000000 in
set_option maxRecDepth 100000 in
theorem mr_inverseOf {d : Nat} {Q : cm_Q} {z : cm_Z} {I : cm_I} (hz : mz z) {x1 : Int}  (H : cw d cd_Model_inverseOf Q 2 [some (vR 12 209), some (vI x1), some (vI 0)] [] (I, z)) : cm_call (d + 1) m_Model_inverseOf [vR 12 209, vI x1] (I, z) Q := by
  refine cm_call_in (C := cd_Model_inverseOf) (ls := [some (vR 12 209), some (vI x1), none]) rfl rfl (show 0 < 209 by decide) rfl ?_
  refine w_iconst rfl ⟨by decide, by decide⟩ ?_
  refine w_istore rfl rfl ?_
  exact H
set_option maxHeartbeats 4000000 in
set_option maxRecDepth 100000 in
theorem mr_orderOf_4 {d : Nat} {Q : cm_Q} {z : cm_Z} {I : cm_I} (hz : mz z) {x1 : Int} {x2 : Int} {x3 : Int}  (H : ((x3 = 0 → Q (some (vI x2)) (I, z)) ∧ (¬ x3 = 0 → (cm_i (x2 + 1) ∧ (mI d m_Model_product [vR 12 209, vI x3, vI x1] z I fun v3 I2 => cw d cd_Model_orderOf Q 4 [some (vR 12 209), some (vI x1), some (vI (x2 + 1)), some (vI v3)] [] (I2, z)))))) : cw d cd_Model_orderOf Q 4 [some (vR 12 209), some (vI x1), some (vI x2), some (vI x3)] [] (I, z) := by
  refine w_iload rfl rfl ?_
  refine w_if rfl (And.intro (fun hc => ?_) (fun hc => ?_))
  · replace H := H.1 hc
    refine w_iload rfl rfl ?_
    exact w_ireturn rfl H
  · replace H := H.2 hc
    have o1 := H.1
    replace H := H.2
    refine w_iinc rfl rfl rfl o1 ?_
    refine w_aload rfl rfl ?_
    refine w_iload rfl rfl ?_
    refine w_iload rfl rfl ?_
    refine m_callI rfl (fun _ => rfl) rfl (mI_mono H fun v3 I2 H => ?_)
    refine w_istore rfl rfl ?_
    refine w_goto rfl ?_
    exact H
set_option maxHeartbeats 4000000 in
set_option maxRecDepth 100000 in
theorem mr_orderOf {d : Nat} {Q : cm_Q} {z : cm_Z} {I : cm_I} (hz : mz z) {x1 : Int}  (H : cw d cd_Model_orderOf Q 4 [some (vR 12 209), some (vI x1), some (vI 1), some (vI x1)] [] (I, z)) : cm_call (d + 1) m_Model_orderOf [vR 12 209, vI x1] (I, z) Q := by
  refine cm_call_in (C := cd_Model_orderOf) (ls := [some (vR 12 209), some (vI x1), none, none]) rfl rfl (show 0 < 209 by decide) rfl ?_
  refine w_iconst rfl ⟨by decide, by decide⟩ ?_
  refine w_istore rfl rfl ?_
  refine w_iload rfl rfl ?_
  refine w_istore rfl rfl ?_
  exact H
set_option maxHeartbeats 4000000 in
set_option maxRecDepth 100000 in
theorem mr_isMember {d : Nat} {Q : cm_Q} {z : cm_Z} {I : cm_I} (hz : mz z) {x1 : Int}  (H : (cm_i ((I 209 11) - 1) ∧ (mI d m_Model_within [vI x1, vI 0, vI ((I 209 11) - 1)] z I fun v3 I2 => ((v3 = 0 ∨ v3 = 1) ∧ Q (some (vI v3)) (I2, z))))) : cm_call (d + 1) m_Model_isMember [vR 12 209, vI x1] (I, z) Q := by
  refine cm_call_in (C := cd_Model_isMember) (ls := [some (vR 12 209), some (vI x1)]) rfl rfl (show 0 < 209 by decide) rfl ?_
  refine w_iload rfl rfl ?_
  refine w_iconst rfl ⟨by decide, by decide⟩ ?_
  refine w_aload rfl rfl ?_
  refine m_getI 11 rfl rfl rfl (by decide) ?_
  refine w_iconst rfl ⟨by decide, by decide⟩ ?_
  have o1 := H.1
  replace H := H.2
  refine w_isub rfl o1 ?_
  refine m_callI rfl (fun _ => rfl) rfl (mI_mono H fun v3 I2 H => ?_)
  exact w_zreturn rfl H.1 H.2
set_option maxHeartbeats 4000000 in
set_option maxRecDepth 100000 in
theorem mr_divisor_4 {d : Nat} {Q : cm_Q} {z : cm_Z} {I : cm_I} (hz : mz z) {z0 : Option cm_V} {z1 : Option cm_V} {x2 : Int} {x3 : Int} {z4 : Option cm_V}  (H : ((x3 = 0 → Q (some (vI x2)) (I, z)) ∧ (¬ x3 = 0 → (0 < x3 ∧ cw d cd_Model_divisor Q 4 [z0, z1, some (vI x3), some (vI (Int.tmod x2 x3)), some (vI (Int.tmod x2 x3))] [] (I, z))))) : cw d cd_Model_divisor Q 4 [z0, z1, some (vI x2), some (vI x3), z4] [] (I, z) := by
  refine w_iload rfl rfl ?_
  refine w_if rfl (And.intro (fun hc => ?_) (fun hc => ?_))
  · replace H := H.1 hc
    refine w_iload rfl rfl ?_
    exact w_ireturn rfl H
  · replace H := H.2 hc
    refine w_iload rfl rfl ?_
    refine w_iload rfl rfl ?_
    have o1 := H.1
    replace H := H.2
    refine w_irem rfl o1 ?_
    refine w_istore rfl rfl ?_
    refine w_iload rfl rfl ?_
    refine w_istore rfl rfl ?_
    refine w_iload rfl rfl ?_
    refine w_istore rfl rfl ?_
    refine w_goto rfl ?_
    exact H
set_option maxHeartbeats 4000000 in
set_option maxRecDepth 100000 in
theorem mr_divisor {d : Nat} {Q : cm_Q} {z : cm_Z} {I : cm_I} (hz : mz z) {x0 : Int} {x1 : Int}  (H : cw d cd_Model_divisor Q 4 [some (vI x0), some (vI x1), some (vI x0), some (vI x1), none] [] (I, z)) : cm_call (d + 1) m_Model_divisor [vI x0, vI x1] (I, z) Q := by
  refine cm_call_in (C := cd_Model_divisor) (ls := [some (vI x0), some (vI x1), none, none, none]) rfl rfl trivial rfl ?_
  refine w_iload rfl rfl ?_
  refine w_istore rfl rfl ?_
  refine w_iload rfl rfl ?_
  refine w_istore rfl rfl ?_
  exact H
set_option maxHeartbeats 4000000 in
set_option maxRecDepth 100000 in
theorem mr_classes_4 {d : Nat} {Q : cm_Q} {z : cm_Z} {I : cm_I} (hz : mz z) {x1 : Int} {x2 : Int} {z3 : Option cm_V} {z4 : Option cm_V}  (H : (((I 209 11) ≤ x2 → Q (some (vI x1)) (I, z)) ∧ (x2 < (I 209 11) → cw d cd_Model_classes Q 17 [some (vR 12 209), some (vI x1), some (vI x2), some (vI 1), some (vI 0)] [] (I, z)))) : cw d cd_Model_classes Q 4 [some (vR 12 209), some (vI x1), some (vI x2), z3, z4] [] (I, z) := by
  refine w_iload rfl rfl ?_
  refine w_aload rfl rfl ?_
  refine m_getI 11 rfl rfl rfl (by decide) ?_
  refine w_icmp rfl (And.intro (fun hc => ?_) (fun hc => ?_))
  · replace H := H.1 hc
    refine w_iload rfl rfl ?_
    exact w_ireturn rfl H
  · replace H := H.2 hc
    refine w_iconst rfl ⟨by decide, by decide⟩ ?_
    refine w_istore rfl rfl ?_
    refine w_iconst rfl ⟨by decide, by decide⟩ ?_
    refine w_istore rfl rfl ?_
    exact H
set_option maxHeartbeats 4000000 in
set_option maxRecDepth 100000 in
theorem mr_classes_17 {d : Nat} {Q : cm_Q} {z : cm_Z} {I : cm_I} (hz : mz z) {x1 : Int} {x2 : Int} {x3 : Int} {x4 : Int}  (H : (((I 209 11) ≤ x4 → ((x3 = 0 → (cm_i (x1 + 0) ∧ (cm_i (x2 + 1) ∧ cw d cd_Model_classes Q 4 [some (vR 12 209), some (vI (x1 + 0)), some (vI (x2 + 1)), some (vI x3), some (vI x4)] [] (I, z)))) ∧ (¬ x3 = 0 → (cm_i (x1 + 1) ∧ (cm_i (x2 + 1) ∧ cw d cd_Model_classes Q 4 [some (vR 12 209), some (vI (x1 + 1)), some (vI (x2 + 1)), some (vI x3), some (vI x4)] [] (I, z)))))) ∧ (x4 < (I 209 11) → ((x3 = 0 → (cm_i (x4 + 1) ∧ cw d cd_Model_classes Q 17 [some (vR 12 209), some (vI x1), some (vI x2), some (vI 0), some (vI (x4 + 1))] [] (I, z))) ∧ (¬ x3 = 0 → (mI d m_Model_inverseOf [vR 12 209, vI x4] z I fun v7 I6 => (mI d m_Model_product [vR 12 209, vI v7, vI x2] z I6 fun v9 I8 => (mI d m_Model_product [vR 12 209, vI v9, vI x4] z I8 fun v11 I10 => ((v11 < x2 → (cm_i (x4 + 1) ∧ cw d cd_Model_classes Q 17 [some (vR 12 209), some (vI x1), some (vI x2), some (vI 0), some (vI (x4 + 1))] [] (I10, z))) ∧ (x2 ≤ v11 → (cm_i (x4 + 1) ∧ cw d cd_Model_classes Q 17 [some (vR 12 209), some (vI x1), some (vI x2), some (vI 1), some (vI (x4 + 1))] [] (I10, z)))))))))))) : cw d cd_Model_classes Q 17 [some (vR 12 209), some (vI x1), some (vI x2), some (vI x3), some (vI x4)] [] (I, z) := by
  refine w_iload rfl rfl ?_
  refine w_aload rfl rfl ?_
  refine m_getI 11 rfl rfl rfl (by decide) ?_
  refine w_icmp rfl (And.intro (fun hc => ?_) (fun hc => ?_))
  · replace H := H.1 hc
    refine w_iload rfl rfl ?_
    refine w_iload rfl rfl ?_
    refine w_if rfl (And.intro (fun hc => ?_) (fun hc => ?_))
    · replace H := H.1 hc
      refine w_iconst rfl ⟨by decide, by decide⟩ ?_
      have o1 := H.1
      replace H := H.2
      refine w_iadd rfl o1 ?_
      refine w_istore rfl rfl ?_
      have o2 := H.1
      replace H := H.2
      refine w_iinc rfl rfl rfl o2 ?_
      refine w_goto rfl ?_
      exact H
    · replace H := H.2 hc
      refine w_iconst rfl ⟨by decide, by decide⟩ ?_
      refine w_goto rfl ?_
      have o3 := H.1
      replace H := H.2
      refine w_iadd rfl o3 ?_
      refine w_istore rfl rfl ?_
      have o4 := H.1
      replace H := H.2
      refine w_iinc rfl rfl rfl o4 ?_
      refine w_goto rfl ?_
      exact H
  · replace H := H.2 hc
    refine w_iload rfl rfl ?_
    refine w_if rfl (And.intro (fun hc => ?_) (fun hc => ?_))
    · replace H := H.1 hc
      refine w_iconst rfl ⟨by decide, by decide⟩ ?_
      refine w_istore rfl rfl ?_
      have o5 := H.1
      replace H := H.2
      refine w_iinc rfl rfl rfl o5 ?_
      refine w_goto rfl ?_
      exact H
    · replace H := H.2 hc
      refine w_aload rfl rfl ?_
      refine w_aload rfl rfl ?_
      refine w_aload rfl rfl ?_
      refine w_iload rfl rfl ?_
      refine m_callI rfl (fun _ => rfl) rfl (mI_mono H fun v7 I6 H => ?_)
      refine w_iload rfl rfl ?_
      refine m_callI rfl (fun _ => rfl) rfl (mI_mono H fun v9 I8 H => ?_)
      refine w_iload rfl rfl ?_
      refine m_callI rfl (fun _ => rfl) rfl (mI_mono H fun v11 I10 H => ?_)
      refine w_iload rfl rfl ?_
      refine w_icmp rfl (And.intro (fun hc => ?_) (fun hc => ?_))
      · replace H := H.1 hc
        refine w_iconst rfl ⟨by decide, by decide⟩ ?_
        refine w_istore rfl rfl ?_
        have o12 := H.1
        replace H := H.2
        refine w_iinc rfl rfl rfl o12 ?_
        refine w_goto rfl ?_
        exact H
      · replace H := H.2 hc
        refine w_iconst rfl ⟨by decide, by decide⟩ ?_
        refine w_goto rfl ?_
        refine w_istore rfl rfl ?_
        have o13 := H.1
        replace H := H.2
        refine w_iinc rfl rfl rfl o13 ?_
        refine w_goto rfl ?_
        exact H
set_option maxHeartbeats 4000000 in
set_option maxRecDepth 100000 in
theorem mr_classes {d : Nat} {Q : cm_Q} {z : cm_Z} {I : cm_I} (hz : mz z)   (H : cw d cd_Model_classes Q 4 [some (vR 12 209), some (vI 0), some (vI 0), none, none] [] (I, z)) : cm_call (d + 1) m_Model_classes [vR 12 209] (I, z) Q := by
  refine cm_call_in (C := cd_Model_classes) (ls := [some (vR 12 209), none, none, none, none]) rfl rfl (show 0 < 209 by decide) rfl ?_
  refine w_iconst rfl ⟨by decide, by decide⟩ ?_
  refine w_istore rfl rfl ?_
  refine w_iconst rfl ⟨by decide, by decide⟩ ?_
  refine w_istore rfl rfl ?_
  exact H
set_option maxHeartbeats 4000000 in
set_option maxRecDepth 100000 in
theorem mr_power_4 {d : Nat} {Q : cm_Q} {z : cm_Z} {I : cm_I} (hz : mz z) {x1 : Int} {x2 : Int}  (H : (((I 209 11) ≤ x2 → Q (some (vI x1)) (I, z)) ∧ (x2 < (I 209 11) → (mI d m_Model_orderOf [vR 12 209, vI x2] z I fun v2 I1 => (mI d m_Model_divisor [vI x1, vI v2] z I1 fun v4 I3 => (0 < v4 ∧ (mI d m_Model_orderOf [vR 12 209, vI x2] z I3 fun v7 I6 => (cm_i ((Int.tdiv x1 v4) * v7) ∧ (cm_i (x2 + 1) ∧ cw d cd_Model_power Q 4 [some (vR 12 209), some (vI ((Int.tdiv x1 v4) * v7)), some (vI (x2 + 1))] [] (I6, z)))))))))) : cw d cd_Model_power Q 4 [some (vR 12 209), some (vI x1), some (vI x2)] [] (I, z) := by
  refine w_iload rfl rfl ?_
  refine w_aload rfl rfl ?_
  refine m_getI 11 rfl rfl rfl (by decide) ?_
  refine w_icmp rfl (And.intro (fun hc => ?_) (fun hc => ?_))
  · replace H := H.1 hc
    refine w_iload rfl rfl ?_
    exact w_ireturn rfl H
  · replace H := H.2 hc
    refine w_iload rfl rfl ?_
    refine w_iload rfl rfl ?_
    refine w_aload rfl rfl ?_
    refine w_iload rfl rfl ?_
    refine m_callI rfl (fun _ => rfl) rfl (mI_mono H fun v2 I1 H => ?_)
    refine m_callI rfl (fun _ => rfl) rfl (mI_mono H fun v4 I3 H => ?_)
    have o5 := H.1
    replace H := H.2
    refine w_idiv rfl o5 ?_
    refine w_aload rfl rfl ?_
    refine w_iload rfl rfl ?_
    refine m_callI rfl (fun _ => rfl) rfl (mI_mono H fun v7 I6 H => ?_)
    have o8 := H.1
    replace H := H.2
    refine w_imul rfl o8 ?_
    refine w_istore rfl rfl ?_
    have o9 := H.1
    replace H := H.2
    refine w_iinc rfl rfl rfl o9 ?_
    refine w_goto rfl ?_
    exact H
set_option maxHeartbeats 4000000 in
set_option maxRecDepth 100000 in
theorem mr_power {d : Nat} {Q : cm_Q} {z : cm_Z} {I : cm_I} (hz : mz z)   (H : cw d cd_Model_power Q 4 [some (vR 12 209), some (vI 1), some (vI 0)] [] (I, z)) : cm_call (d + 1) m_Model_power [vR 12 209] (I, z) Q := by
  refine cm_call_in (C := cd_Model_power) (ls := [some (vR 12 209), none, none]) rfl rfl (show 0 < 209 by decide) rfl ?_
  refine w_iconst rfl ⟨by decide, by decide⟩ ?_
  refine w_istore rfl rfl ?_
  refine w_iconst rfl ⟨by decide, by decide⟩ ?_
  refine w_istore rfl rfl ?_
  exact H
set_option maxHeartbeats 4000000 in
set_option maxRecDepth 100000 in
theorem mr_commutes_2 {d : Nat} {Q : cm_Q} {z : cm_Z} {I : cm_I} (hz : mz z) {x1 : Int} {z2 : Option cm_V}  (H : (((I 209 11) ≤ x1 → Q (some (vI 1)) (I, z)) ∧ (x1 < (I 209 11) → cw d cd_Model_commutes Q 12 [some (vR 12 209), some (vI x1), some (vI 0)] [] (I, z)))) : cw d cd_Model_commutes Q 2 [some (vR 12 209), some (vI x1), z2] [] (I, z) := by
  refine w_iload rfl rfl ?_
  refine w_aload rfl rfl ?_
  refine m_getI 11 rfl rfl rfl (by decide) ?_
  refine w_icmp rfl (And.intro (fun hc => ?_) (fun hc => ?_))
  · replace H := H.1 hc
    refine w_iconst rfl ⟨by decide, by decide⟩ ?_
    exact w_ireturn rfl H
  · replace H := H.2 hc
    refine w_iconst rfl ⟨by decide, by decide⟩ ?_
    refine w_istore rfl rfl ?_
    exact H
set_option maxHeartbeats 4000000 in
set_option maxRecDepth 100000 in
theorem mr_commutes_12 {d : Nat} {Q : cm_Q} {z : cm_Z} {I : cm_I} (hz : mz z) {x1 : Int} {x2 : Int}  (H : ((x1 ≤ x2 → (cm_i (x1 + 1) ∧ cw d cd_Model_commutes Q 2 [some (vR 12 209), some (vI (x1 + 1)), some (vI x2)] [] (I, z))) ∧ (x2 < x1 → (mI d m_Model_product [vR 12 209, vI x1, vI x2] z I fun v3 I2 => (mI d m_Model_product [vR 12 209, vI x2, vI x1] z I2 fun v5 I4 => ((v3 = v5 → (cm_i (x2 + 1) ∧ cw d cd_Model_commutes Q 12 [some (vR 12 209), some (vI x1), some (vI (x2 + 1))] [] (I4, z))) ∧ (¬ v3 = v5 → Q (some (vI 0)) (I4, z)))))))) : cw d cd_Model_commutes Q 12 [some (vR 12 209), some (vI x1), some (vI x2)] [] (I, z) := by
  refine w_iload rfl rfl ?_
  refine w_iload rfl rfl ?_
  refine w_icmp rfl (And.intro (fun hc => ?_) (fun hc => ?_))
  · replace H := H.1 hc
    have o1 := H.1
    replace H := H.2
    refine w_iinc rfl rfl rfl o1 ?_
    refine w_goto rfl ?_
    exact H
  · replace H := H.2 hc
    refine w_aload rfl rfl ?_
    refine w_iload rfl rfl ?_
    refine w_iload rfl rfl ?_
    refine m_callI rfl (fun _ => rfl) rfl (mI_mono H fun v3 I2 H => ?_)
    refine w_aload rfl rfl ?_
    refine w_iload rfl rfl ?_
    refine w_iload rfl rfl ?_
    refine m_callI rfl (fun _ => rfl) rfl (mI_mono H fun v5 I4 H => ?_)
    refine w_icmp rfl (And.intro (fun hc => ?_) (fun hc => ?_))
    · replace H := H.1 hc
      have o6 := H.1
      replace H := H.2
      refine w_iinc rfl rfl rfl o6 ?_
      refine w_goto rfl ?_
      exact H
    · replace H := H.2 hc
      refine w_iconst rfl ⟨by decide, by decide⟩ ?_
      exact w_ireturn rfl H
set_option maxHeartbeats 4000000 in
set_option maxRecDepth 100000 in
theorem mr_commutes {d : Nat} {Q : cm_Q} {z : cm_Z} {I : cm_I} (hz : mz z)   (H : cw d cd_Model_commutes Q 2 [some (vR 12 209), some (vI 0), none] [] (I, z)) : cm_call (d + 1) m_Model_commutes [vR 12 209] (I, z) Q := by
  refine cm_call_in (C := cd_Model_commutes) (ls := [some (vR 12 209), none, none]) rfl rfl (show 0 < 209 by decide) rfl ?_
  refine w_iconst rfl ⟨by decide, by decide⟩ ?_
  refine w_istore rfl rfl ?_
  exact H
set_option maxHeartbeats 4000000 in
set_option maxRecDepth 100000 in
theorem mr_group {d : Nat} {Q : cm_Q} {z : cm_Z} {I : cm_I} (hz : mz z) {x1 : Int}  (H : (∀ I1 : cm_I, I1 = iu I 209 0 0 → ((x1 = 0 → Q (some (vI (I1 209 11))) (I1, z)) ∧ (¬ x1 = 0 → ((x1 = 1 → Q (some (vI (I1 209 1))) (I1, z)) ∧ (¬ x1 = 1 → ((x1 = 2 → Q (some (vI (I1 209 9))) (I1, z)) ∧ (¬ x1 = 2 → ((x1 = 3 → (mI d m_Model_classes [vR 12 209] z I1 fun v3 I2 => Q (some (vI v3)) (I2, z))) ∧ (¬ x1 = 3 → ((x1 = 4 → (mI d m_Model_power [vR 12 209] z I1 fun v5 I4 => Q (some (vI v5)) (I4, z))) ∧ (¬ x1 = 4 → ((x1 = 5 → (mI d m_Model_commutes [vR 12 209] z I1 fun v7 I6 => Q (some (vI v7)) (I6, z))) ∧ (¬ x1 = 5 → Q (some (vI (-1))) (I1, z))))))))))))))) : cm_call (d + 1) m_Model_group [vR 12 209, vI x1] (I, z) Q := by
  refine cm_call_in (C := cd_Model_group) (ls := [some (vR 12 209), some (vI x1)]) rfl rfl (show 0 < 209 by decide) rfl ?_
  refine w_aload rfl rfl ?_
  refine w_iconst rfl ⟨by decide, by decide⟩ ?_
  refine m_putI 0 rfl rfl rfl (by decide) (fun I1 eI1 => ?_)
  replace H := H I1 eI1
  refine w_iload rfl rfl ?_
  refine w_switch rfl ?_
  refine And.intro (fun hc => ?_) (fun hc => ?_)
  · replace H := H.1 hc
    show cw _ _ _ 44 _ _ _
    refine w_aload rfl rfl ?_
    refine m_getI 11 rfl rfl rfl (by decide) ?_
    exact w_ireturn rfl H
  · replace H := H.2 hc
    refine And.intro (fun hc => ?_) (fun hc => ?_)
    · replace H := H.1 hc
      show cw _ _ _ 49 _ _ _
      refine w_aload rfl rfl ?_
      refine m_getI 1 rfl rfl rfl (by decide) ?_
      exact w_ireturn rfl H
    · replace H := H.2 hc
      refine And.intro (fun hc => ?_) (fun hc => ?_)
      · replace H := H.1 hc
        show cw _ _ _ 54 _ _ _
        refine w_aload rfl rfl ?_
        refine m_getI 9 rfl rfl rfl (by decide) ?_
        exact w_ireturn rfl H
      · replace H := H.2 hc
        refine And.intro (fun hc => ?_) (fun hc => ?_)
        · replace H := H.1 hc
          show cw _ _ _ 59 _ _ _
          refine w_aload rfl rfl ?_
          refine m_callI rfl (fun _ => rfl) rfl (mI_mono H fun v3 I2 H => ?_)
          exact w_ireturn rfl H
        · replace H := H.2 hc
          refine And.intro (fun hc => ?_) (fun hc => ?_)
          · replace H := H.1 hc
            show cw _ _ _ 64 _ _ _
            refine w_aload rfl rfl ?_
            refine m_callI rfl (fun _ => rfl) rfl (mI_mono H fun v5 I4 H => ?_)
            exact w_ireturn rfl H
          · replace H := H.2 hc
            refine And.intro (fun hc => ?_) (fun hc => ?_)
            · replace H := H.1 hc
              show cw _ _ _ 69 _ _ _
              refine w_aload rfl rfl ?_
              refine m_callI rfl (fun _ => rfl) rfl (mI_mono H fun v7 I6 H => ?_)
              exact w_ireturn rfl H
            · replace H := H.2 hc
              show cw _ _ _ 74 _ _ _
              refine w_iconst rfl ⟨by decide, by decide⟩ ?_
              exact w_ireturn rfl H
set_option maxHeartbeats 4000000 in
set_option maxRecDepth 100000 in
theorem mr_member {d : Nat} {Q : cm_Q} {z : cm_Z} {I : cm_I} (hz : mz z) {x1 : Int} {x2 : Int} {x3 : Int}  (H : (∀ I1 : cm_I, I1 = iu I 209 0 0 → (mI d m_Model_isMember [vR 12 209, vI x1] z I1 fun v3 I2 => ((v3 = 0 → Q (some (vI (-1))) (I2, z)) ∧ (¬ v3 = 0 → (cm_i ((I2 209 1) - 1) ∧ (mI d m_Model_within [vI x2, vI 0, vI ((I2 209 1) - 1)] z I2 fun v6 I5 => ((v6 = 0 → Q (some (vI (-1))) (I5, z)) ∧ (¬ v6 = 0 → (cm_i ((I5 209 1) - 1) ∧ (mI d m_Model_within [vI x3, vI 0, vI ((I5 209 1) - 1)] z I5 fun v9 I8 => ((v9 = 0 → Q (some (vI (-1))) (I8, z)) ∧ (¬ v9 = 0 → (mI d m_Model_entry [vR 12 209, vR 20 218, vI x1, vI x2, vI x3] z I8 fun v11 I10 => Q (some (vI v11)) (I10, z))))))))))))))) : cm_call (d + 1) m_Model_member [vR 12 209, vI x1, vI x2, vI x3] (I, z) Q := by
  refine cm_call_in (C := cd_Model_member) (ls := [some (vR 12 209), some (vI x1), some (vI x2), some (vI x3)]) rfl rfl (show 0 < 209 by decide) rfl ?_
  refine w_aload rfl rfl ?_
  refine w_iconst rfl ⟨by decide, by decide⟩ ?_
  refine m_putI 0 rfl rfl rfl (by decide) (fun I1 eI1 => ?_)
  replace H := H I1 eI1
  refine w_aload rfl rfl ?_
  refine w_iload rfl rfl ?_
  refine m_callI rfl (fun _ => rfl) rfl (mI_mono H fun v3 I2 H => ?_)
  refine w_if rfl (And.intro (fun hc => ?_) (fun hc => ?_))
  · replace H := H.1 hc
    refine w_iconst rfl ⟨by decide, by decide⟩ ?_
    exact w_ireturn rfl H
  · replace H := H.2 hc
    refine w_iload rfl rfl ?_
    refine w_iconst rfl ⟨by decide, by decide⟩ ?_
    refine w_aload rfl rfl ?_
    refine m_getI 1 rfl rfl rfl (by decide) ?_
    refine w_iconst rfl ⟨by decide, by decide⟩ ?_
    have o4 := H.1
    replace H := H.2
    refine w_isub rfl o4 ?_
    refine m_callI rfl (fun _ => rfl) rfl (mI_mono H fun v6 I5 H => ?_)
    refine w_if rfl (And.intro (fun hc => ?_) (fun hc => ?_))
    · replace H := H.1 hc
      refine w_iconst rfl ⟨by decide, by decide⟩ ?_
      exact w_ireturn rfl H
    · replace H := H.2 hc
      refine w_iload rfl rfl ?_
      refine w_iconst rfl ⟨by decide, by decide⟩ ?_
      refine w_aload rfl rfl ?_
      refine m_getI 1 rfl rfl rfl (by decide) ?_
      refine w_iconst rfl ⟨by decide, by decide⟩ ?_
      have o7 := H.1
      replace H := H.2
      refine w_isub rfl o7 ?_
      refine m_callI rfl (fun _ => rfl) rfl (mI_mono H fun v9 I8 H => ?_)
      refine w_if rfl (And.intro (fun hc => ?_) (fun hc => ?_))
      · replace H := H.1 hc
        refine w_iconst rfl ⟨by decide, by decide⟩ ?_
        exact w_ireturn rfl H
      · replace H := H.2 hc
        refine w_aload rfl rfl ?_
        refine w_aload rfl rfl ?_
        refine m_getR 12 20 218 hz rfl rfl rfl rfl rfl rfl (by decide) ?_
        refine w_iload rfl rfl ?_
        refine w_iload rfl rfl ?_
        refine w_iload rfl rfl ?_
        refine m_callI rfl (fun _ => rfl) rfl (mI_mono H fun v11 I10 H => ?_)
        refine w_goto rfl ?_
        exact w_ireturn rfl H
set_option maxHeartbeats 4000000 in
set_option maxRecDepth 100000 in
theorem mr_times_ {d : Nat} {Q : cm_Q} {z : cm_Z} {I : cm_I} (hz : mz z) {x1 : Int} {x2 : Int}  (H : (∀ I1 : cm_I, I1 = iu I 209 0 0 → (mI d m_Model_isMember [vR 12 209, vI x1] z I1 fun v3 I2 => ((v3 = 0 → Q (some (vI (-1))) (I2, z)) ∧ (¬ v3 = 0 → (mI d m_Model_isMember [vR 12 209, vI x2] z I2 fun v5 I4 => ((v5 = 0 → Q (some (vI (-1))) (I4, z)) ∧ (¬ v5 = 0 → (mI d m_Model_product [vR 12 209, vI x1, vI x2] z I4 fun v7 I6 => Q (some (vI v7)) (I6, z)))))))))) : cm_call (d + 1) m_Model_times_ [vR 12 209, vI x1, vI x2] (I, z) Q := by
  refine cm_call_in (C := cd_Model_times_) (ls := [some (vR 12 209), some (vI x1), some (vI x2)]) rfl rfl (show 0 < 209 by decide) rfl ?_
  refine w_aload rfl rfl ?_
  refine w_iconst rfl ⟨by decide, by decide⟩ ?_
  refine m_putI 0 rfl rfl rfl (by decide) (fun I1 eI1 => ?_)
  replace H := H I1 eI1
  refine w_aload rfl rfl ?_
  refine w_iload rfl rfl ?_
  refine m_callI rfl (fun _ => rfl) rfl (mI_mono H fun v3 I2 H => ?_)
  refine w_if rfl (And.intro (fun hc => ?_) (fun hc => ?_))
  · replace H := H.1 hc
    refine w_iconst rfl ⟨by decide, by decide⟩ ?_
    exact w_ireturn rfl H
  · replace H := H.2 hc
    refine w_aload rfl rfl ?_
    refine w_iload rfl rfl ?_
    refine m_callI rfl (fun _ => rfl) rfl (mI_mono H fun v5 I4 H => ?_)
    refine w_if rfl (And.intro (fun hc => ?_) (fun hc => ?_))
    · replace H := H.1 hc
      refine w_iconst rfl ⟨by decide, by decide⟩ ?_
      exact w_ireturn rfl H
    · replace H := H.2 hc
      refine w_aload rfl rfl ?_
      refine w_iload rfl rfl ?_
      refine w_iload rfl rfl ?_
      refine m_callI rfl (fun _ => rfl) rfl (mI_mono H fun v7 I6 H => ?_)
      refine w_goto rfl ?_
      exact w_ireturn rfl H
set_option maxHeartbeats 4000000 in
set_option maxRecDepth 100000 in
theorem mr_about_20 {d : Nat} {Q : cm_Q} {z : cm_Z} {I : cm_I} (hz : mz z) {x1 : Int} {x2 : Int} {x3 : Int} {x4 : Int}  (H : (((I 209 1) ≤ x4 → ((x2 = 0 → (mI d m_Model_inverseOf [vR 12 209, vI x1] z I fun v2 I1 => Q (some (vI v2)) (I1, z))) ∧ (¬ x2 = 0 → ((x2 = 1 → (mI d m_Model_orderOf [vR 12 209, vI x1] z I fun v4 I3 => Q (some (vI v4)) (I3, z))) ∧ (¬ x2 = 1 → ((x2 = 2 → (mI d m_Model_determinant [vR 12 209, vR 20 218, vI x1] z I fun v6 I5 => Q (some (vI v6)) (I5, z))) ∧ (¬ x2 = 2 → ((x2 = 3 → Q (some (vI (Int.tmod x3 2521))) (I, z)) ∧ (¬ x2 = 3 → Q (some (vI (-1))) (I, z)))))))))) ∧ (x4 < (I 209 1) → (mI d m_Model_entry [vR 12 209, vR 20 218, vI x1, vI x4, vI x4] z I fun v8 I7 => (cm_i (x3 + v8) ∧ (cm_i (x4 + 1) ∧ cw d cd_Model_about Q 20 [some (vR 12 209), some (vI x1), some (vI x2), some (vI (x3 + v8)), some (vI (x4 + 1))] [] (I7, z))))))) : cw d cd_Model_about Q 20 [some (vR 12 209), some (vI x1), some (vI x2), some (vI x3), some (vI x4)] [] (I, z) := by
  refine w_iload rfl rfl ?_
  refine w_aload rfl rfl ?_
  refine m_getI 1 rfl rfl rfl (by decide) ?_
  refine w_icmp rfl (And.intro (fun hc => ?_) (fun hc => ?_))
  · replace H := H.1 hc
    refine w_iload rfl rfl ?_
    refine w_switch rfl ?_
    refine And.intro (fun hc => ?_) (fun hc => ?_)
    · replace H := H.1 hc
      show cw _ _ _ 84 _ _ _
      refine w_aload rfl rfl ?_
      refine w_iload rfl rfl ?_
      refine m_callI rfl (fun _ => rfl) rfl (mI_mono H fun v2 I1 H => ?_)
      exact w_ireturn rfl H
    · replace H := H.2 hc
      refine And.intro (fun hc => ?_) (fun hc => ?_)
      · replace H := H.1 hc
        show cw _ _ _ 90 _ _ _
        refine w_aload rfl rfl ?_
        refine w_iload rfl rfl ?_
        refine m_callI rfl (fun _ => rfl) rfl (mI_mono H fun v4 I3 H => ?_)
        exact w_ireturn rfl H
      · replace H := H.2 hc
        refine And.intro (fun hc => ?_) (fun hc => ?_)
        · replace H := H.1 hc
          show cw _ _ _ 96 _ _ _
          refine w_aload rfl rfl ?_
          refine w_aload rfl rfl ?_
          refine m_getR 12 20 218 hz rfl rfl rfl rfl rfl rfl (by decide) ?_
          refine w_iload rfl rfl ?_
          refine m_callI rfl (fun _ => rfl) rfl (mI_mono H fun v6 I5 H => ?_)
          exact w_ireturn rfl H
        · replace H := H.2 hc
          refine And.intro (fun hc => ?_) (fun hc => ?_)
          · replace H := H.1 hc
            show cw _ _ _ 106 _ _ _
            refine w_iload rfl rfl ?_
            refine w_iconst rfl ⟨by decide, by decide⟩ ?_
            refine w_irem rfl (by decide) ?_
            exact w_ireturn rfl H
          · replace H := H.2 hc
            show cw _ _ _ 112 _ _ _
            refine w_iconst rfl ⟨by decide, by decide⟩ ?_
            exact w_ireturn rfl H
  · replace H := H.2 hc
    refine w_iload rfl rfl ?_
    refine w_aload rfl rfl ?_
    refine w_aload rfl rfl ?_
    refine m_getR 12 20 218 hz rfl rfl rfl rfl rfl rfl (by decide) ?_
    refine w_iload rfl rfl ?_
    refine w_iload rfl rfl ?_
    refine w_iload rfl rfl ?_
    refine m_callI rfl (fun _ => rfl) rfl (mI_mono H fun v8 I7 H => ?_)
    have o9 := H.1
    replace H := H.2
    refine w_iadd rfl o9 ?_
    refine w_istore rfl rfl ?_
    have o10 := H.1
    replace H := H.2
    refine w_iinc rfl rfl rfl o10 ?_
    refine w_goto rfl ?_
    exact H
set_option maxHeartbeats 4000000 in
set_option maxRecDepth 100000 in
theorem mr_about {d : Nat} {Q : cm_Q} {z : cm_Z} {I : cm_I} (hz : mz z) {x1 : Int} {x2 : Int}  (H : (∀ I1 : cm_I, I1 = iu I 209 0 0 → (mI d m_Model_isMember [vR 12 209, vI x1] z I1 fun v3 I2 => ((¬ v3 = 0 → cw d cd_Model_about Q 20 [some (vR 12 209), some (vI x1), some (vI x2), some (vI 0), some (vI 0)] [] (I2, z)) ∧ (v3 = 0 → Q (some (vI (-1))) (I2, z)))))) : cm_call (d + 1) m_Model_about [vR 12 209, vI x1, vI x2] (I, z) Q := by
  refine cm_call_in (C := cd_Model_about) (ls := [some (vR 12 209), some (vI x1), some (vI x2), none, none]) rfl rfl (show 0 < 209 by decide) rfl ?_
  refine w_aload rfl rfl ?_
  refine w_iconst rfl ⟨by decide, by decide⟩ ?_
  refine m_putI 0 rfl rfl rfl (by decide) (fun I1 eI1 => ?_)
  replace H := H I1 eI1
  refine w_aload rfl rfl ?_
  refine w_iload rfl rfl ?_
  refine m_callI rfl (fun _ => rfl) rfl (mI_mono H fun v3 I2 H => ?_)
  refine w_if rfl (And.intro (fun hc => ?_) (fun hc => ?_))
  · replace H := H.1 hc
    refine w_iconst rfl ⟨by decide, by decide⟩ ?_
    refine w_istore rfl rfl ?_
    refine w_iconst rfl ⟨by decide, by decide⟩ ?_
    refine w_istore rfl rfl ?_
    exact H
  · replace H := H.2 hc
    refine w_iconst rfl ⟨by decide, by decide⟩ ?_
    exact w_ireturn rfl H
set_option maxHeartbeats 4000000 in
set_option maxRecDepth 100000 in
theorem mr_feed {d : Nat} {Q : cm_Q} {z : cm_Z} {I : cm_I} (hz : mz z) {x1 : Int} {x2 : Int} {x3 : Int} {x4 : Int} {x5 : Int}  (H : (∀ I1 : cm_I, I1 = iu I 209 0 0 → (cm_i ((I1 209 14) + 20) ∧ ((((I1 209 14) + 20) ≤ 400 → (mU d m_Model_puts [vR 12 209, vI x1] z I1 fun I3 => (mU d m_Model_puts [vR 12 209, vI x2] z I3 fun I4 => (mU d m_Model_puts [vR 12 209, vI x3] z I4 fun I5 => (mU d m_Model_puts [vR 12 209, vI x4] z I5 fun I6 => (mU d m_Model_puts [vR 12 209, vI x5] z I6 fun I7 => Q (some (vI (I7 209 14))) (I7, z))))))) ∧ (400 < ((I1 209 14) + 20) → Q (some (vI (-1))) (I1, z)))))) : cm_call (d + 1) m_Model_feed [vR 12 209, vI x1, vI x2, vI x3, vI x4, vI x5] (I, z) Q := by
  refine cm_call_in (C := cd_Model_feed) (ls := [some (vR 12 209), some (vI x1), some (vI x2), some (vI x3), some (vI x4), some (vI x5)]) rfl rfl (show 0 < 209 by decide) rfl ?_
  refine w_aload rfl rfl ?_
  refine w_iconst rfl ⟨by decide, by decide⟩ ?_
  refine m_putI 0 rfl rfl rfl (by decide) (fun I1 eI1 => ?_)
  replace H := H I1 eI1
  refine w_aload rfl rfl ?_
  refine m_getI 14 rfl rfl rfl (by decide) ?_
  refine w_iconst rfl ⟨by decide, by decide⟩ ?_
  have o2 := H.1
  replace H := H.2
  refine w_iadd rfl o2 ?_
  refine w_iconst rfl ⟨by decide, by decide⟩ ?_
  refine w_icmp rfl (And.intro (fun hc => ?_) (fun hc => ?_))
  · replace H := H.1 hc
    refine w_aload rfl rfl ?_
    refine w_iload rfl rfl ?_
    refine m_callU rfl (fun _ => rfl) rfl (mU_mono H fun I3 H => ?_)
    refine w_aload rfl rfl ?_
    refine w_iload rfl rfl ?_
    refine m_callU rfl (fun _ => rfl) rfl (mU_mono H fun I4 H => ?_)
    refine w_aload rfl rfl ?_
    refine w_iload rfl rfl ?_
    refine m_callU rfl (fun _ => rfl) rfl (mU_mono H fun I5 H => ?_)
    refine w_aload rfl rfl ?_
    refine w_iload rfl rfl ?_
    refine m_callU rfl (fun _ => rfl) rfl (mU_mono H fun I6 H => ?_)
    refine w_aload rfl rfl ?_
    refine w_iload rfl rfl ?_
    refine m_callU rfl (fun _ => rfl) rfl (mU_mono H fun I7 H => ?_)
    refine w_aload rfl rfl ?_
    refine m_getI 14 rfl rfl rfl (by decide) ?_
    exact w_ireturn rfl H
  · replace H := H.2 hc
    refine w_iconst rfl ⟨by decide, by decide⟩ ?_
    exact w_ireturn rfl H
set_option maxHeartbeats 4000000 in
set_option maxRecDepth 100000 in
theorem mr_puts_3 {d : Nat} {Q : cm_Q} {z : cm_Z} {I : cm_I} (hz : mz z) {x1 : Int} {x2 : Int}  (H : ((x2 < 0 → Q none (I, z)) ∧ (0 ≤ x2 → ((0:Int) ≤ x2 ∧ x2 < 32) ∧ ((0:Int) ≤ (I 209 14) ∧ (I 209 14) < 400) ∧ (-128 ≤ (((x1 / 2 ^ (Int.toNat x2)) + 128) % 256 - 128) ∧ (((x1 / 2 ^ (Int.toNat x2)) + 128) % 256 - 128) ≤ 127) ∧ (∀ I4 : cm_I, I4 = iu I 219 (I 209 14) (((x1 / 2 ^ (Int.toNat x2)) + 128) % 256 - 128) → (cm_i ((I4 209 14) + 1) ∧ (∀ I6 : cm_I, I6 = iu I4 209 14 ((I4 209 14) + 1) → (cm_i (x2 + (-8)) ∧ cw d cd_Model_puts Q 3 [some (vR 12 209), some (vI x1), some (vI (x2 + (-8)))] [] (I6, z)))))))) : cw d cd_Model_puts Q 3 [some (vR 12 209), some (vI x1), some (vI x2)] [] (I, z) := by
  refine w_iload rfl rfl ?_
  refine w_if rfl (And.intro (fun hc => ?_) (fun hc => ?_))
  · replace H := H.1 hc
    exact w_return rfl H
  · replace H := H.2 hc
    refine w_aload rfl rfl ?_
    refine m_getR 13 21 219 hz rfl rfl rfl rfl rfl rfl (by decide) ?_
    refine w_aload rfl rfl ?_
    refine m_getI 14 rfl rfl rfl (by decide) ?_
    refine w_iload rfl rfl ?_
    refine w_iload rfl rfl ?_
    have o1 := H.1
    replace H := H.2
    refine w_ishr rfl o1 ?_
    refine w_i2b rfl ?_
    have o2 := H.1
    replace H := H.2
    have o3 := H.1
    replace H := H.2
    refine m_bastore hz (by unfold mA; decide) rfl rfl (Or.inl ⟨rfl, o3⟩) o2 (fun I4 eI4 => ?_)
    replace H := H I4 eI4
    refine w_aload rfl rfl ?_
    refine w_dup rfl rfl ?_
    refine m_getI 14 rfl rfl rfl (by decide) ?_
    refine w_iconst rfl ⟨by decide, by decide⟩ ?_
    have o5 := H.1
    replace H := H.2
    refine w_iadd rfl o5 ?_
    refine m_putI 14 rfl rfl rfl (by decide) (fun I6 eI6 => ?_)
    replace H := H I6 eI6
    have o7 := H.1
    replace H := H.2
    refine w_iinc rfl rfl rfl o7 ?_
    refine w_goto rfl ?_
    exact H
set_option maxHeartbeats 4000000 in
set_option maxRecDepth 100000 in
theorem mr_puts {d : Nat} {Q : cm_Q} {z : cm_Z} {I : cm_I} (hz : mz z) {x1 : Int}  (H : cw d cd_Model_puts Q 3 [some (vR 12 209), some (vI x1), some (vI 24)] [] (I, z)) : cm_call (d + 1) m_Model_puts [vR 12 209, vI x1] (I, z) Q := by
  refine cm_call_in (C := cd_Model_puts) (ls := [some (vR 12 209), some (vI x1), none]) rfl rfl (show 0 < 209 by decide) rfl ?_
  refine w_iconst rfl ⟨by decide, by decide⟩ ?_
  refine w_istore rfl rfl ?_
  exact H
set_option maxHeartbeats 4000000 in
set_option maxRecDepth 100000 in
theorem mr_byteAt {d : Nat} {Q : cm_Q} {z : cm_Z} {I : cm_I} (hz : mz z) {x1 : Int}  (H : (((I 209 15) ≤ x1 → Q (some (vI (-1))) (I, z)) ∧ (x1 < (I 209 15) → ((0:Int) ≤ x1 ∧ x1 < 400) ∧ Q (some (vI ((I 219 x1) % (255 + 1)))) (I, z)))) : cm_call (d + 1) m_Model_byteAt [vR 12 209, vI x1] (I, z) Q := by
  refine cm_call_in (C := cd_Model_byteAt) (ls := [some (vR 12 209), some (vI x1)]) rfl rfl (show 0 < 209 by decide) rfl ?_
  refine w_iload rfl rfl ?_
  refine w_aload rfl rfl ?_
  refine m_getI 15 rfl rfl rfl (by decide) ?_
  refine w_icmp rfl (And.intro (fun hc => ?_) (fun hc => ?_))
  · replace H := H.1 hc
    refine w_iconst rfl ⟨by decide, by decide⟩ ?_
    exact w_ireturn rfl H
  · replace H := H.2 hc
    refine w_aload rfl rfl ?_
    refine m_getR 13 21 219 hz rfl rfl rfl rfl rfl rfl (by decide) ?_
    refine w_iload rfl rfl ?_
    have o1 := H.1
    replace H := H.2
    refine m_baload hz (by unfold mA; decide) rfl rfl o1 ?_
    refine w_iconst rfl ⟨by decide, by decide⟩ ?_
    refine w_iand rfl (by decide) ?_
    refine w_goto rfl ?_
    exact w_ireturn rfl H
set_option maxHeartbeats 4000000 in
set_option maxRecDepth 100000 in
theorem mr_go_0 {d : Nat} {Q : cm_Q} {z : cm_Z} {I : cm_I} (hz : mz z) {z1 : Option cm_V}  (H : (mI d m_Model_byteAt [vR 12 209, vI (I 209 17)] z I fun v2 I1 => ((v2 = 32 → (cm_i ((I1 209 17) + 1) ∧ (∀ I4 : cm_I, I4 = iu I1 209 17 ((I1 209 17) + 1) → cw d cd_Model_go Q 0 [some (vR 12 209), z1] [] (I4, z)))) ∧ (¬ v2 = 32 → (mI d m_Model_byteAt [vR 12 209, vI (I1 209 17)] z I1 fun v6 I5 => ((¬ v6 = 10 → (∀ I7 : cm_I, I7 = iu I5 209 16 (I5 209 17) → (mI d m_Model_byteAt [vR 12 209, vI (I7 209 17)] z I7 fun v9 I8 => ((0 ≤ v9 → (mI d m_Model_within [vI v9, vI 48, vI 57] z I8 fun v11 I10 => ((v11 = 0 → (∀ I12 : cm_I, I12 = iu I10 209 18 2 → (∀ I13 : cm_I, I13 = iu I12 209 19 v9 → (cm_i ((I13 209 17) + 1) ∧ (∀ I15 : cm_I, I15 = iu I13 209 17 ((I13 209 17) + 1) → Q none (I15, z)))))) ∧ (¬ v11 = 0 → (∀ I16 : cm_I, I16 = iu I10 209 18 1 → (∀ I17 : cm_I, I17 = iu I16 209 19 0 → cw d cd_Model_go Q 89 [some (vR 12 209), some (vI v9)] [] (I17, z))))))) ∧ (v9 < 0 → (∀ I18 : cm_I, I18 = iu I8 209 18 0 → Q none (I18, z))))))) ∧ (v6 = 10 → (cm_i ((I5 209 17) + 1) ∧ (∀ I20 : cm_I, I20 = iu I5 209 17 ((I5 209 17) + 1) → cw d cd_Model_go Q 0 [some (vR 12 209), z1] [] (I20, z)))))))))) : cw d cd_Model_go Q 0 [some (vR 12 209), z1] [] (I, z) := by
  refine w_aload rfl rfl ?_
  refine w_aload rfl rfl ?_
  refine m_getI 17 rfl rfl rfl (by decide) ?_
  refine m_callI rfl (fun _ => rfl) rfl (mI_mono H fun v2 I1 H => ?_)
  refine w_iconst rfl ⟨by decide, by decide⟩ ?_
  refine w_icmp rfl (And.intro (fun hc => ?_) (fun hc => ?_))
  · replace H := H.1 hc
    refine w_aload rfl rfl ?_
    refine w_dup rfl rfl ?_
    refine m_getI 17 rfl rfl rfl (by decide) ?_
    refine w_iconst rfl ⟨by decide, by decide⟩ ?_
    have o3 := H.1
    replace H := H.2
    refine w_iadd rfl o3 ?_
    refine m_putI 17 rfl rfl rfl (by decide) (fun I4 eI4 => ?_)
    replace H := H I4 eI4
    refine w_goto rfl ?_
    exact H
  · replace H := H.2 hc
    refine w_aload rfl rfl ?_
    refine w_aload rfl rfl ?_
    refine m_getI 17 rfl rfl rfl (by decide) ?_
    refine m_callI rfl (fun _ => rfl) rfl (mI_mono H fun v6 I5 H => ?_)
    refine w_iconst rfl ⟨by decide, by decide⟩ ?_
    refine w_icmp rfl (And.intro (fun hc => ?_) (fun hc => ?_))
    · replace H := H.1 hc
      refine w_aload rfl rfl ?_
      refine w_aload rfl rfl ?_
      refine m_getI 17 rfl rfl rfl (by decide) ?_
      refine m_putI 16 rfl rfl rfl (by decide) (fun I7 eI7 => ?_)
      replace H := H I7 eI7
      refine w_aload rfl rfl ?_
      refine w_aload rfl rfl ?_
      refine m_getI 17 rfl rfl rfl (by decide) ?_
      refine m_callI rfl (fun _ => rfl) rfl (mI_mono H fun v9 I8 H => ?_)
      refine w_istore rfl rfl ?_
      refine w_iload rfl rfl ?_
      refine w_if rfl (And.intro (fun hc => ?_) (fun hc => ?_))
      · replace H := H.1 hc
        refine w_iload rfl rfl ?_
        refine w_iconst rfl ⟨by decide, by decide⟩ ?_
        refine w_iconst rfl ⟨by decide, by decide⟩ ?_
        refine m_callI rfl (fun _ => rfl) rfl (mI_mono H fun v11 I10 H => ?_)
        refine w_if rfl (And.intro (fun hc => ?_) (fun hc => ?_))
        · replace H := H.1 hc
          refine w_aload rfl rfl ?_
          refine w_iconst rfl ⟨by decide, by decide⟩ ?_
          refine m_putI 18 rfl rfl rfl (by decide) (fun I12 eI12 => ?_)
          replace H := H I12 eI12
          refine w_aload rfl rfl ?_
          refine w_iload rfl rfl ?_
          refine m_putI 19 rfl rfl rfl (by decide) (fun I13 eI13 => ?_)
          replace H := H I13 eI13
          refine w_aload rfl rfl ?_
          refine w_dup rfl rfl ?_
          refine m_getI 17 rfl rfl rfl (by decide) ?_
          refine w_iconst rfl ⟨by decide, by decide⟩ ?_
          have o14 := H.1
          replace H := H.2
          refine w_iadd rfl o14 ?_
          refine m_putI 17 rfl rfl rfl (by decide) (fun I15 eI15 => ?_)
          replace H := H I15 eI15
          exact w_return rfl H
        · replace H := H.2 hc
          refine w_aload rfl rfl ?_
          refine w_iconst rfl ⟨by decide, by decide⟩ ?_
          refine m_putI 18 rfl rfl rfl (by decide) (fun I16 eI16 => ?_)
          replace H := H I16 eI16
          refine w_aload rfl rfl ?_
          refine w_iconst rfl ⟨by decide, by decide⟩ ?_
          refine m_putI 19 rfl rfl rfl (by decide) (fun I17 eI17 => ?_)
          replace H := H I17 eI17
          exact H
      · replace H := H.2 hc
        refine w_aload rfl rfl ?_
        refine w_iconst rfl ⟨by decide, by decide⟩ ?_
        refine m_putI 18 rfl rfl rfl (by decide) (fun I18 eI18 => ?_)
        replace H := H I18 eI18
        refine w_goto rfl ?_
        exact w_return rfl H
    · replace H := H.2 hc
      refine w_aload rfl rfl ?_
      refine w_dup rfl rfl ?_
      refine m_getI 17 rfl rfl rfl (by decide) ?_
      refine w_iconst rfl ⟨by decide, by decide⟩ ?_
      have o19 := H.1
      replace H := H.2
      refine w_iadd rfl o19 ?_
      refine m_putI 17 rfl rfl rfl (by decide) (fun I20 eI20 => ?_)
      replace H := H I20 eI20
      refine w_goto rfl ?_
      exact H
set_option maxHeartbeats 4000000 in
set_option maxRecDepth 100000 in
theorem mr_go_89 {d : Nat} {Q : cm_Q} {z : cm_Z} {I : cm_I} (hz : mz z) {z1 : Option cm_V}  (H : (mI d m_Model_byteAt [vR 12 209, vI (I 209 17)] z I fun v2 I1 => (mI d m_Model_within [vI v2, vI 48, vI 57] z I1 fun v4 I3 => ((v4 = 0 → Q none (I3, z)) ∧ (¬ v4 = 0 → (cm_i ((I3 209 17) - (I3 209 16)) ∧ ((4 ≤ ((I3 209 17) - (I3 209 16)) → (∀ I6 : cm_I, I6 = iu I3 209 19 (I3 209 19) → (cm_i ((I6 209 17) + 1) ∧ (∀ I8 : cm_I, I8 = iu I6 209 17 ((I6 209 17) + 1) → cw d cd_Model_go Q 89 [some (vR 12 209), z1] [] (I8, z))))) ∧ (((I3 209 17) - (I3 209 16)) < 4 → (cm_i (10 * (I3 209 19)) ∧ (mI d m_Model_byteAt [vR 12 209, vI (I3 209 17)] z I3 fun v11 I10 => (cm_i ((10 * (I3 209 19)) + v11) ∧ (cm_i (((10 * (I3 209 19)) + v11) - 48) ∧ (∀ I14 : cm_I, I14 = iu I10 209 19 (((10 * (I3 209 19)) + v11) - 48) → (cm_i ((I14 209 17) + 1) ∧ (∀ I16 : cm_I, I16 = iu I14 209 17 ((I14 209 17) + 1) → cw d cd_Model_go Q 89 [some (vR 12 209), z1] [] (I16, z)))))))))))))))) : cw d cd_Model_go Q 89 [some (vR 12 209), z1] [] (I, z) := by
  refine w_aload rfl rfl ?_
  refine w_aload rfl rfl ?_
  refine m_getI 17 rfl rfl rfl (by decide) ?_
  refine m_callI rfl (fun _ => rfl) rfl (mI_mono H fun v2 I1 H => ?_)
  refine w_iconst rfl ⟨by decide, by decide⟩ ?_
  refine w_iconst rfl ⟨by decide, by decide⟩ ?_
  refine m_callI rfl (fun _ => rfl) rfl (mI_mono H fun v4 I3 H => ?_)
  refine w_if rfl (And.intro (fun hc => ?_) (fun hc => ?_))
  · replace H := H.1 hc
    exact w_return rfl H
  · replace H := H.2 hc
    refine w_aload rfl rfl ?_
    refine w_aload rfl rfl ?_
    refine m_getI 17 rfl rfl rfl (by decide) ?_
    refine w_aload rfl rfl ?_
    refine m_getI 16 rfl rfl rfl (by decide) ?_
    have o5 := H.1
    replace H := H.2
    refine w_isub rfl o5 ?_
    refine w_iconst rfl ⟨by decide, by decide⟩ ?_
    refine w_icmp rfl (And.intro (fun hc => ?_) (fun hc => ?_))
    · replace H := H.1 hc
      refine w_aload rfl rfl ?_
      refine m_getI 19 rfl rfl rfl (by decide) ?_
      refine m_putI 19 rfl rfl rfl (by decide) (fun I6 eI6 => ?_)
      replace H := H I6 eI6
      refine w_aload rfl rfl ?_
      refine w_dup rfl rfl ?_
      refine m_getI 17 rfl rfl rfl (by decide) ?_
      refine w_iconst rfl ⟨by decide, by decide⟩ ?_
      have o7 := H.1
      replace H := H.2
      refine w_iadd rfl o7 ?_
      refine m_putI 17 rfl rfl rfl (by decide) (fun I8 eI8 => ?_)
      replace H := H I8 eI8
      refine w_goto rfl ?_
      exact H
    · replace H := H.2 hc
      refine w_iconst rfl ⟨by decide, by decide⟩ ?_
      refine w_aload rfl rfl ?_
      refine m_getI 19 rfl rfl rfl (by decide) ?_
      have o9 := H.1
      replace H := H.2
      refine w_imul rfl o9 ?_
      refine w_aload rfl rfl ?_
      refine w_aload rfl rfl ?_
      refine m_getI 17 rfl rfl rfl (by decide) ?_
      refine m_callI rfl (fun _ => rfl) rfl (mI_mono H fun v11 I10 H => ?_)
      have o12 := H.1
      replace H := H.2
      refine w_iadd rfl o12 ?_
      refine w_iconst rfl ⟨by decide, by decide⟩ ?_
      have o13 := H.1
      replace H := H.2
      refine w_isub rfl o13 ?_
      refine w_goto rfl ?_
      refine m_putI 19 rfl rfl rfl (by decide) (fun I14 eI14 => ?_)
      replace H := H I14 eI14
      refine w_aload rfl rfl ?_
      refine w_dup rfl rfl ?_
      refine m_getI 17 rfl rfl rfl (by decide) ?_
      refine w_iconst rfl ⟨by decide, by decide⟩ ?_
      have o15 := H.1
      replace H := H.2
      refine w_iadd rfl o15 ?_
      refine m_putI 17 rfl rfl rfl (by decide) (fun I16 eI16 => ?_)
      replace H := H I16 eI16
      refine w_goto rfl ?_
      exact H
set_option maxHeartbeats 4000000 in
set_option maxRecDepth 100000 in
theorem mr_go {d : Nat} {Q : cm_Q} {z : cm_Z} {I : cm_I} (hz : mz z)   (H : cw d cd_Model_go Q 0 [some (vR 12 209), none] [] (I, z)) : cm_call (d + 1) m_Model_go [vR 12 209] (I, z) Q := by
  refine cm_call_in (C := cd_Model_go) (ls := [some (vR 12 209), none]) rfl rfl (show 0 < 209 by decide) rfl ?_
  exact H
set_option maxHeartbeats 4000000 in
set_option maxRecDepth 100000 in
theorem mr_starts {d : Nat} {Q : cm_Q} {z : cm_Z} {I : cm_I} (hz : mz z) {x1 : Int}  (H : (∀ I1 : cm_I, I1 = iu I 209 15 x1 → (∀ I2 : cm_I, I2 = iu I1 209 14 0 → (∀ I3 : cm_I, I3 = iu I2 209 17 0 → (∀ I4 : cm_I, I4 = iu I3 209 20 0 → (mU d m_Model_go [vR 12 209] z I4 fun I5 => Q none (I5, z))))))) : cm_call (d + 1) m_Model_starts [vR 12 209, vI x1] (I, z) Q := by
  refine cm_call_in (C := cd_Model_starts) (ls := [some (vR 12 209), some (vI x1)]) rfl rfl (show 0 < 209 by decide) rfl ?_
  refine w_aload rfl rfl ?_
  refine w_iload rfl rfl ?_
  refine m_putI 15 rfl rfl rfl (by decide) (fun I1 eI1 => ?_)
  replace H := H I1 eI1
  refine w_aload rfl rfl ?_
  refine w_iconst rfl ⟨by decide, by decide⟩ ?_
  refine m_putI 14 rfl rfl rfl (by decide) (fun I2 eI2 => ?_)
  replace H := H I2 eI2
  refine w_aload rfl rfl ?_
  refine w_iconst rfl ⟨by decide, by decide⟩ ?_
  refine m_putI 17 rfl rfl rfl (by decide) (fun I3 eI3 => ?_)
  replace H := H I3 eI3
  refine w_aload rfl rfl ?_
  refine w_iconst rfl ⟨by decide, by decide⟩ ?_
  refine m_putI 20 rfl rfl rfl (by decide) (fun I4 eI4 => ?_)
  replace H := H I4 eI4
  refine w_aload rfl rfl ?_
  refine m_callU rfl (fun _ => rfl) rfl (mU_mono H fun I5 H => ?_)
  exact w_return rfl H
set_option maxHeartbeats 4000000 in
set_option maxRecDepth 100000 in
theorem mr_bad {d : Nat} {Q : cm_Q} {z : cm_Z} {I : cm_I} (hz : mz z) {x1 : Int}  (H : ((¬ (I 209 20) = 0 → (∀ I1 : cm_I, I1 = iu I 209 20 (I 209 20) → Q (some (vI 0)) (I1, z))) ∧ ((I 209 20) = 0 → (cm_i (8 * (I 209 16)) ∧ (cm_i ((8 * (I 209 16)) + x1) ∧ (∀ I4 : cm_I, I4 = iu I 209 20 ((8 * (I 209 16)) + x1) → Q (some (vI 0)) (I4, z))))))) : cm_call (d + 1) m_Model_bad [vR 12 209, vI x1] (I, z) Q := by
  refine cm_call_in (C := cd_Model_bad) (ls := [some (vR 12 209), some (vI x1)]) rfl rfl (show 0 < 209 by decide) rfl ?_
  refine w_aload rfl rfl ?_
  refine w_aload rfl rfl ?_
  refine m_getI 20 rfl rfl rfl (by decide) ?_
  refine w_if rfl (And.intro (fun hc => ?_) (fun hc => ?_))
  · replace H := H.1 hc
    refine w_aload rfl rfl ?_
    refine m_getI 20 rfl rfl rfl (by decide) ?_
    refine m_putI 20 rfl rfl rfl (by decide) (fun I1 eI1 => ?_)
    replace H := H I1 eI1
    refine w_iconst rfl ⟨by decide, by decide⟩ ?_
    exact w_zreturn rfl (by decide) H
  · replace H := H.2 hc
    refine w_iconst rfl ⟨by decide, by decide⟩ ?_
    refine w_aload rfl rfl ?_
    refine m_getI 16 rfl rfl rfl (by decide) ?_
    have o2 := H.1
    replace H := H.2
    refine w_imul rfl o2 ?_
    refine w_iload rfl rfl ?_
    have o3 := H.1
    replace H := H.2
    refine w_iadd rfl o3 ?_
    refine w_goto rfl ?_
    refine m_putI 20 rfl rfl rfl (by decide) (fun I4 eI4 => ?_)
    replace H := H I4 eI4
    refine w_iconst rfl ⟨by decide, by decide⟩ ?_
    exact w_zreturn rfl (by decide) H
set_option maxHeartbeats 4000000 in
set_option maxRecDepth 100000 in
theorem mr_is {d : Nat} {Q : cm_Q} {z : cm_Z} {I : cm_I} (hz : mz z) {x1 : Int}  (H : ((¬ (I 209 18) = 2 → Q (some (vI 0)) (I, z)) ∧ ((I 209 18) = 2 → ((¬ (I 209 19) = x1 → Q (some (vI 0)) (I, z)) ∧ ((I 209 19) = x1 → Q (some (vI 1)) (I, z)))))) : cm_call (d + 1) m_Model_is [vR 12 209, vI x1] (I, z) Q := by
  refine cm_call_in (C := cd_Model_is) (ls := [some (vR 12 209), some (vI x1)]) rfl rfl (show 0 < 209 by decide) rfl ?_
  refine w_aload rfl rfl ?_
  refine m_getI 18 rfl rfl rfl (by decide) ?_
  refine w_iconst rfl ⟨by decide, by decide⟩ ?_
  refine w_icmp rfl (And.intro (fun hc => ?_) (fun hc => ?_))
  · replace H := H.1 hc
    refine w_iconst rfl ⟨by decide, by decide⟩ ?_
    exact w_zreturn rfl (by decide) H
  · replace H := H.2 hc
    refine w_aload rfl rfl ?_
    refine m_getI 19 rfl rfl rfl (by decide) ?_
    refine w_iload rfl rfl ?_
    refine w_icmp rfl (And.intro (fun hc => ?_) (fun hc => ?_))
    · replace H := H.1 hc
      refine w_iconst rfl ⟨by decide, by decide⟩ ?_
      exact w_zreturn rfl (by decide) H
    · replace H := H.2 hc
      refine w_iconst rfl ⟨by decide, by decide⟩ ?_
      refine w_goto rfl ?_
      exact w_zreturn rfl (by decide) H
set_option maxHeartbeats 4000000 in
set_option maxRecDepth 100000 in
theorem mr_sign {d : Nat} {Q : cm_Q} {z : cm_Z} {I : cm_I} (hz : mz z) {x1 : Int}  (H : (mI d m_Model_is [vR 12 209, vI x1] z I fun v2 I1 => ((¬ v2 = 0 → (mU d m_Model_go [vR 12 209] z I1 fun I3 => Q (some (vI 1)) (I3, z))) ∧ (v2 = 0 → (mI d m_Model_bad [vR 12 209, vI 1] z I1 fun v5 I4 => ((v5 = 0 ∨ v5 = 1) ∧ Q (some (vI v5)) (I4, z))))))) : cm_call (d + 1) m_Model_sign [vR 12 209, vI x1] (I, z) Q := by
  refine cm_call_in (C := cd_Model_sign) (ls := [some (vR 12 209), some (vI x1)]) rfl rfl (show 0 < 209 by decide) rfl ?_
  refine w_aload rfl rfl ?_
  refine w_iload rfl rfl ?_
  refine m_callI rfl (fun _ => rfl) rfl (mI_mono H fun v2 I1 H => ?_)
  refine w_if rfl (And.intro (fun hc => ?_) (fun hc => ?_))
  · replace H := H.1 hc
    refine w_aload rfl rfl ?_
    refine m_callU rfl (fun _ => rfl) rfl (mU_mono H fun I3 H => ?_)
    refine w_iconst rfl ⟨by decide, by decide⟩ ?_
    exact w_zreturn rfl (by decide) H
  · replace H := H.2 hc
    refine w_aload rfl rfl ?_
    refine w_iconst rfl ⟨by decide, by decide⟩ ?_
    refine m_callI rfl (fun _ => rfl) rfl (mI_mono H fun v5 I4 H => ?_)
    exact w_zreturn rfl H.1 H.2
set_option maxHeartbeats 4000000 in
set_option maxRecDepth 100000 in
theorem mr_tableNumber_15 {d : Nat} {Q : cm_Q} {z : cm_Z} {I : cm_I} (hz : mz z) {x1 : Int} {x2 : Int}  (H : ((¬ (I 209 18) = 1 → (mI d m_Model_bad [vR 12 209, vI 1] z I fun v2 I1 => ((v2 = 0 ∨ v2 = 1) ∧ Q (some (vI v2)) (I1, z)))) ∧ ((I 209 18) = 1 → (cm_i ((I 209 17) - (I 209 16)) ∧ ((((I 209 17) - (I 209 16)) ≤ 4 → ((x2 = 0 → (mI d m_Model_of [vL (I 209 19)] z I fun v5 I4 => ((0:Int) ≤ x1 ∧ x1 < 36) ∧ (∀ I7 : cm_I, I7 = iu I4 220 x1 v5 → (mU d m_Model_go [vR 12 209] z I7 fun I8 => Q (some (vI 1)) (I8, z))))) ∧ (¬ x2 = 0 → (cm_i (-(I 209 19)) ∧ (mI d m_Model_of [vL (-(I 209 19))] z I fun v11 I10 => ((0:Int) ≤ x1 ∧ x1 < 36) ∧ (∀ I13 : cm_I, I13 = iu I10 220 x1 v11 → (mU d m_Model_go [vR 12 209] z I13 fun I14 => Q (some (vI 1)) (I14, z)))))))) ∧ (4 < ((I 209 17) - (I 209 16)) → (mI d m_Model_bad [vR 12 209, vI 1] z I fun v16 I15 => ((v16 = 0 ∨ v16 = 1) ∧ Q (some (vI v16)) (I15, z))))))))) : cw d cd_Model_tableNumber Q 15 [some (vR 12 209), some (vI x1), some (vI x2)] [] (I, z) := by
  refine w_aload rfl rfl ?_
  refine m_getI 18 rfl rfl rfl (by decide) ?_
  refine w_iconst rfl ⟨by decide, by decide⟩ ?_
  refine w_icmp rfl (And.intro (fun hc => ?_) (fun hc => ?_))
  · replace H := H.1 hc
    refine w_aload rfl rfl ?_
    refine w_iconst rfl ⟨by decide, by decide⟩ ?_
    refine m_callI rfl (fun _ => rfl) rfl (mI_mono H fun v2 I1 H => ?_)
    exact w_zreturn rfl H.1 H.2
  · replace H := H.2 hc
    refine w_aload rfl rfl ?_
    refine m_getI 17 rfl rfl rfl (by decide) ?_
    refine w_aload rfl rfl ?_
    refine m_getI 16 rfl rfl rfl (by decide) ?_
    have o3 := H.1
    replace H := H.2
    refine w_isub rfl o3 ?_
    refine w_iconst rfl ⟨by decide, by decide⟩ ?_
    refine w_icmp rfl (And.intro (fun hc => ?_) (fun hc => ?_))
    · replace H := H.1 hc
      refine w_aload rfl rfl ?_
      refine m_getR 21 20 220 hz rfl rfl rfl rfl rfl rfl (by decide) ?_
      refine w_iload rfl rfl ?_
      refine w_iload rfl rfl ?_
      refine w_if rfl (And.intro (fun hc => ?_) (fun hc => ?_))
      · replace H := H.1 hc
        refine w_aload rfl rfl ?_
        refine m_getI 19 rfl rfl rfl (by decide) ?_
        refine w_i2l rfl ?_
        refine m_callI rfl (fun _ => rfl) rfl (mI_mono H fun v5 I4 H => ?_)
        have o6 := H.1
        replace H := H.2
        refine m_iastore hz (by unfold mA; decide) rfl o6 (fun I7 eI7 => ?_)
        replace H := H I7 eI7
        refine w_aload rfl rfl ?_
        refine m_callU rfl (fun _ => rfl) rfl (mU_mono H fun I8 H => ?_)
        refine w_iconst rfl ⟨by decide, by decide⟩ ?_
        exact w_zreturn rfl (by decide) H
      · replace H := H.2 hc
        refine w_aload rfl rfl ?_
        refine m_getI 19 rfl rfl rfl (by decide) ?_
        have o9 := H.1
        replace H := H.2
        refine w_ineg rfl o9 ?_
        refine w_i2l rfl ?_
        refine w_goto rfl ?_
        refine m_callI rfl (fun _ => rfl) rfl (mI_mono H fun v11 I10 H => ?_)
        have o12 := H.1
        replace H := H.2
        refine m_iastore hz (by unfold mA; decide) rfl o12 (fun I13 eI13 => ?_)
        replace H := H I13 eI13
        refine w_aload rfl rfl ?_
        refine m_callU rfl (fun _ => rfl) rfl (mU_mono H fun I14 H => ?_)
        refine w_iconst rfl ⟨by decide, by decide⟩ ?_
        exact w_zreturn rfl (by decide) H
    · replace H := H.2 hc
      refine w_aload rfl rfl ?_
      refine w_iconst rfl ⟨by decide, by decide⟩ ?_
      refine m_callI rfl (fun _ => rfl) rfl (mI_mono H fun v16 I15 H => ?_)
      exact w_zreturn rfl H.1 H.2
set_option maxHeartbeats 4000000 in
set_option maxRecDepth 100000 in
theorem mr_tableNumber {d : Nat} {Q : cm_Q} {z : cm_Z} {I : cm_I} (hz : mz z) {x1 : Int}  (H : (mI d m_Model_is [vR 12 209, vI 45] z I fun v2 I1 => ((v2 = 0 → cw d cd_Model_tableNumber Q 15 [some (vR 12 209), some (vI x1), some (vI v2)] [] (I1, z)) ∧ (¬ v2 = 0 → (mU d m_Model_go [vR 12 209] z I1 fun I3 => cw d cd_Model_tableNumber Q 15 [some (vR 12 209), some (vI x1), some (vI v2)] [] (I3, z)))))) : cm_call (d + 1) m_Model_tableNumber [vR 12 209, vI x1] (I, z) Q := by
  refine cm_call_in (C := cd_Model_tableNumber) (ls := [some (vR 12 209), some (vI x1), none]) rfl rfl (show 0 < 209 by decide) rfl ?_
  refine w_aload rfl rfl ?_
  refine w_iconst rfl ⟨by decide, by decide⟩ ?_
  refine m_callI rfl (fun _ => rfl) rfl (mI_mono H fun v2 I1 H => ?_)
  refine w_istore rfl rfl ?_
  refine w_iload rfl rfl ?_
  refine w_if rfl (And.intro (fun hc => ?_) (fun hc => ?_))
  · replace H := H.1 hc
    exact H
  · replace H := H.2 hc
    refine w_aload rfl rfl ?_
    refine m_callU rfl (fun _ => rfl) rfl (mU_mono H fun I3 H => ?_)
    exact H
set_option maxHeartbeats 4000000 in
set_option maxRecDepth 100000 in
theorem mr_isNumberNext {d : Nat} {Q : cm_Q} {z : cm_Z} {I : cm_I} (hz : mz z)   (H : (((I 209 18) = 1 → Q (some (vI 1)) (I, z)) ∧ (¬ (I 209 18) = 1 → (mI d m_Model_is [vR 12 209, vI 45] z I fun v2 I1 => ((v2 = 0 → Q (some (vI 0)) (I1, z)) ∧ (¬ v2 = 0 → Q (some (vI 1)) (I1, z))))))) : cm_call (d + 1) m_Model_isNumberNext [vR 12 209] (I, z) Q := by
  refine cm_call_in (C := cd_Model_isNumberNext) (ls := [some (vR 12 209)]) rfl rfl (show 0 < 209 by decide) rfl ?_
  refine w_aload rfl rfl ?_
  refine m_getI 18 rfl rfl rfl (by decide) ?_
  refine w_iconst rfl ⟨by decide, by decide⟩ ?_
  refine w_icmp rfl (And.intro (fun hc => ?_) (fun hc => ?_))
  · replace H := H.1 hc
    refine w_iconst rfl ⟨by decide, by decide⟩ ?_
    refine w_goto rfl ?_
    exact w_zreturn rfl (by decide) H
  · replace H := H.2 hc
    refine w_aload rfl rfl ?_
    refine w_iconst rfl ⟨by decide, by decide⟩ ?_
    refine m_callI rfl (fun _ => rfl) rfl (mI_mono H fun v2 I1 H => ?_)
    refine w_if rfl (And.intro (fun hc => ?_) (fun hc => ?_))
    · replace H := H.1 hc
      refine w_iconst rfl ⟨by decide, by decide⟩ ?_
      exact w_zreturn rfl (by decide) H
    · replace H := H.2 hc
      refine w_iconst rfl ⟨by decide, by decide⟩ ?_
      refine w_goto rfl ?_
      exact w_zreturn rfl (by decide) H
set_option maxHeartbeats 4000000 in
set_option maxRecDepth 100000 in
theorem mr_rowOf_4 {d : Nat} {Q : cm_Q} {z : cm_Z} {I : cm_I} (hz : mz z) {x1 : Int} {x2 : Int} {x3 : Int}  (H : ((x3 = 0 → cw d cd_Model_rowOf Q 57 [some (vR 12 209), some (vI x1), some (vI x2), some (vI x3)] [] (I, z)) ∧ (¬ x3 = 0 → ((¬ (I 209 23) = 0 → (((I 209 23) ≤ x2 → cw d cd_Model_rowOf Q 57 [some (vR 12 209), some (vI x1), some (vI x2), some (vI x3)] [] (I, z)) ∧ (x2 < (I 209 23) → (cm_i (x1 + x2) ∧ (mI d m_Model_tableNumber [vR 12 209, vI (x1 + x2)] z I fun v3 I2 => (cm_i (x2 + 1) ∧ cw d cd_Model_rowOf Q 4 [some (vR 12 209), some (vI x1), some (vI (x2 + 1)), some (vI v3)] [] (I2, z))))))) ∧ ((I 209 23) = 0 → ((x2 < 2 → (cm_i (x1 + x2) ∧ (mI d m_Model_tableNumber [vR 12 209, vI (x1 + x2)] z I fun v7 I6 => (cm_i (x2 + 1) ∧ cw d cd_Model_rowOf Q 4 [some (vR 12 209), some (vI x1), some (vI (x2 + 1)), some (vI v7)] [] (I6, z))))) ∧ (2 ≤ x2 → ((¬ x2 = 2 → cw d cd_Model_rowOf Q 57 [some (vR 12 209), some (vI x1), some (vI x2), some (vI x3)] [] (I, z)) ∧ (x2 = 2 → (mI d m_Model_isNumberNext [vR 12 209] z I fun v10 I9 => ((v10 = 0 → cw d cd_Model_rowOf Q 57 [some (vR 12 209), some (vI x1), some (vI x2), some (vI x3)] [] (I9, z)) ∧ (¬ v10 = 0 → (cm_i (x1 + x2) ∧ (mI d m_Model_tableNumber [vR 12 209, vI (x1 + x2)] z I9 fun v13 I12 => (cm_i (x2 + 1) ∧ cw d cd_Model_rowOf Q 4 [some (vR 12 209), some (vI x1), some (vI (x2 + 1)), some (vI v13)] [] (I12, z)))))))))))))))) : cw d cd_Model_rowOf Q 4 [some (vR 12 209), some (vI x1), some (vI x2), some (vI x3)] [] (I, z) := by
  refine w_iload rfl rfl ?_
  refine w_if rfl (And.intro (fun hc => ?_) (fun hc => ?_))
  · replace H := H.1 hc
    exact H
  · replace H := H.2 hc
    refine w_aload rfl rfl ?_
    refine m_getI 23 rfl rfl rfl (by decide) ?_
    refine w_if rfl (And.intro (fun hc => ?_) (fun hc => ?_))
    · replace H := H.1 hc
      refine w_iload rfl rfl ?_
      refine w_aload rfl rfl ?_
      refine m_getI 23 rfl rfl rfl (by decide) ?_
      refine w_icmp rfl (And.intro (fun hc => ?_) (fun hc => ?_))
      · replace H := H.1 hc
        exact H
      · replace H := H.2 hc
        refine w_aload rfl rfl ?_
        refine w_iload rfl rfl ?_
        refine w_iload rfl rfl ?_
        have o1 := H.1
        replace H := H.2
        refine w_iadd rfl o1 ?_
        refine m_callI rfl (fun _ => rfl) rfl (mI_mono H fun v3 I2 H => ?_)
        refine w_istore rfl rfl ?_
        have o4 := H.1
        replace H := H.2
        refine w_iinc rfl rfl rfl o4 ?_
        refine w_goto rfl ?_
        exact H
    · replace H := H.2 hc
      refine w_iload rfl rfl ?_
      refine w_iconst rfl ⟨by decide, by decide⟩ ?_
      refine w_icmp rfl (And.intro (fun hc => ?_) (fun hc => ?_))
      · replace H := H.1 hc
        refine w_aload rfl rfl ?_
        refine w_iload rfl rfl ?_
        refine w_iload rfl rfl ?_
        have o5 := H.1
        replace H := H.2
        refine w_iadd rfl o5 ?_
        refine m_callI rfl (fun _ => rfl) rfl (mI_mono H fun v7 I6 H => ?_)
        refine w_istore rfl rfl ?_
        have o8 := H.1
        replace H := H.2
        refine w_iinc rfl rfl rfl o8 ?_
        refine w_goto rfl ?_
        exact H
      · replace H := H.2 hc
        refine w_iload rfl rfl ?_
        refine w_iconst rfl ⟨by decide, by decide⟩ ?_
        refine w_icmp rfl (And.intro (fun hc => ?_) (fun hc => ?_))
        · replace H := H.1 hc
          exact H
        · replace H := H.2 hc
          refine w_aload rfl rfl ?_
          refine m_callI rfl (fun _ => rfl) rfl (mI_mono H fun v10 I9 H => ?_)
          refine w_if rfl (And.intro (fun hc => ?_) (fun hc => ?_))
          · replace H := H.1 hc
            exact H
          · replace H := H.2 hc
            refine w_goto rfl ?_
            refine w_aload rfl rfl ?_
            refine w_iload rfl rfl ?_
            refine w_iload rfl rfl ?_
            have o11 := H.1
            replace H := H.2
            refine w_iadd rfl o11 ?_
            refine m_callI rfl (fun _ => rfl) rfl (mI_mono H fun v13 I12 H => ?_)
            refine w_istore rfl rfl ?_
            have o14 := H.1
            replace H := H.2
            refine w_iinc rfl rfl rfl o14 ?_
            refine w_goto rfl ?_
            exact H
set_option maxHeartbeats 4000000 in
set_option maxRecDepth 100000 in
theorem mr_rowOf_57 {d : Nat} {Q : cm_Q} {z : cm_Z} {I : cm_I} (hz : mz z) {z1 : Option cm_V} {x2 : Int} {x3 : Int}  (H : ((¬ (I 209 23) = 0 → (∀ I1 : cm_I, I1 = iu I 209 23 (I 209 23) → ((x3 = 0 ∨ x3 = 1) ∧ Q (some (vI x3)) (I1, z)))) ∧ ((I 209 23) = 0 → (∀ I2 : cm_I, I2 = iu I 209 23 x2 → ((x3 = 0 ∨ x3 = 1) ∧ Q (some (vI x3)) (I2, z)))))) : cw d cd_Model_rowOf Q 57 [some (vR 12 209), z1, some (vI x2), some (vI x3)] [] (I, z) := by
  refine w_aload rfl rfl ?_
  refine w_aload rfl rfl ?_
  refine m_getI 23 rfl rfl rfl (by decide) ?_
  refine w_if rfl (And.intro (fun hc => ?_) (fun hc => ?_))
  · replace H := H.1 hc
    refine w_aload rfl rfl ?_
    refine m_getI 23 rfl rfl rfl (by decide) ?_
    refine m_putI 23 rfl rfl rfl (by decide) (fun I1 eI1 => ?_)
    replace H := H I1 eI1
    refine w_iload rfl rfl ?_
    exact w_zreturn rfl H.1 H.2
  · replace H := H.2 hc
    refine w_iload rfl rfl ?_
    refine w_goto rfl ?_
    refine m_putI 23 rfl rfl rfl (by decide) (fun I2 eI2 => ?_)
    replace H := H I2 eI2
    refine w_iload rfl rfl ?_
    exact w_zreturn rfl H.1 H.2
set_option maxHeartbeats 4000000 in
set_option maxRecDepth 100000 in
theorem mr_rowOf {d : Nat} {Q : cm_Q} {z : cm_Z} {I : cm_I} (hz : mz z) {x1 : Int}  (H : cw d cd_Model_rowOf Q 4 [some (vR 12 209), some (vI x1), some (vI 0), some (vI 1)] [] (I, z)) : cm_call (d + 1) m_Model_rowOf [vR 12 209, vI x1] (I, z) Q := by
  refine cm_call_in (C := cd_Model_rowOf) (ls := [some (vR 12 209), some (vI x1), none, none]) rfl rfl (show 0 < 209 by decide) rfl ?_
  refine w_iconst rfl ⟨by decide, by decide⟩ ?_
  refine w_istore rfl rfl ?_
  refine w_iconst rfl ⟨by decide, by decide⟩ ?_
  refine w_istore rfl rfl ?_
  exact H
set_option maxHeartbeats 4000000 in
set_option maxRecDepth 100000 in
theorem mr_table_27 {d : Nat} {Q : cm_Q} {z : cm_Z} {I : cm_I} (hz : mz z) {x1 : Int} {x2 : Int}  (H : ((x1 = 0 → (cm_i ((I 209 24) + 1) ∧ (∀ I2 : cm_I, I2 = iu I 209 24 ((I 209 24) + 1) → ((x1 = 0 ∨ x1 = 1) ∧ Q (some (vI x1)) (I2, z))))) ∧ (¬ x1 = 0 → (((I 209 23) ≤ x2 → (cm_i ((I 209 24) + 1) ∧ (∀ I4 : cm_I, I4 = iu I 209 24 ((I 209 24) + 1) → ((x1 = 0 ∨ x1 = 1) ∧ Q (some (vI x1)) (I4, z))))) ∧ (x2 < (I 209 23) → (mI d m_Model_sign [vR 12 209, vI 47] z I fun v6 I5 => ((v6 = 0 → (cm_i (x2 + 1) ∧ cw d cd_Model_table Q 27 [some (vR 12 209), some (vI 0), some (vI (x2 + 1))] [] (I5, z))) ∧ (¬ v6 = 0 → (cm_i (9 * (I5 209 24)) ∧ (cm_i (3 * x2) ∧ (cm_i ((9 * (I5 209 24)) + (3 * x2)) ∧ (mI d m_Model_rowOf [vR 12 209, vI ((9 * (I5 209 24)) + (3 * x2))] z I5 fun v12 I11 => ((v12 = 0 → (cm_i (x2 + 1) ∧ cw d cd_Model_table Q 27 [some (vR 12 209), some (vI 0), some (vI (x2 + 1))] [] (I11, z))) ∧ (¬ v12 = 0 → (cm_i (x2 + 1) ∧ cw d cd_Model_table Q 27 [some (vR 12 209), some (vI 1), some (vI (x2 + 1))] [] (I11, z)))))))))))))))) : cw d cd_Model_table Q 27 [some (vR 12 209), some (vI x1), some (vI x2)] [] (I, z) := by
  refine w_iload rfl rfl ?_
  refine w_if rfl (And.intro (fun hc => ?_) (fun hc => ?_))
  · replace H := H.1 hc
    refine w_aload rfl rfl ?_
    refine w_dup rfl rfl ?_
    refine m_getI 24 rfl rfl rfl (by decide) ?_
    refine w_iconst rfl ⟨by decide, by decide⟩ ?_
    have o1 := H.1
    replace H := H.2
    refine w_iadd rfl o1 ?_
    refine m_putI 24 rfl rfl rfl (by decide) (fun I2 eI2 => ?_)
    replace H := H I2 eI2
    refine w_iload rfl rfl ?_
    exact w_zreturn rfl H.1 H.2
  · replace H := H.2 hc
    refine w_iload rfl rfl ?_
    refine w_aload rfl rfl ?_
    refine m_getI 23 rfl rfl rfl (by decide) ?_
    refine w_icmp rfl (And.intro (fun hc => ?_) (fun hc => ?_))
    · replace H := H.1 hc
      refine w_aload rfl rfl ?_
      refine w_dup rfl rfl ?_
      refine m_getI 24 rfl rfl rfl (by decide) ?_
      refine w_iconst rfl ⟨by decide, by decide⟩ ?_
      have o3 := H.1
      replace H := H.2
      refine w_iadd rfl o3 ?_
      refine m_putI 24 rfl rfl rfl (by decide) (fun I4 eI4 => ?_)
      replace H := H I4 eI4
      refine w_iload rfl rfl ?_
      exact w_zreturn rfl H.1 H.2
    · replace H := H.2 hc
      refine w_aload rfl rfl ?_
      refine w_iconst rfl ⟨by decide, by decide⟩ ?_
      refine m_callI rfl (fun _ => rfl) rfl (mI_mono H fun v6 I5 H => ?_)
      refine w_if rfl (And.intro (fun hc => ?_) (fun hc => ?_))
      · replace H := H.1 hc
        refine w_iconst rfl ⟨by decide, by decide⟩ ?_
        refine w_istore rfl rfl ?_
        have o7 := H.1
        replace H := H.2
        refine w_iinc rfl rfl rfl o7 ?_
        refine w_goto rfl ?_
        exact H
      · replace H := H.2 hc
        refine w_aload rfl rfl ?_
        refine w_iconst rfl ⟨by decide, by decide⟩ ?_
        refine w_aload rfl rfl ?_
        refine m_getI 24 rfl rfl rfl (by decide) ?_
        have o8 := H.1
        replace H := H.2
        refine w_imul rfl o8 ?_
        refine w_iconst rfl ⟨by decide, by decide⟩ ?_
        refine w_iload rfl rfl ?_
        have o9 := H.1
        replace H := H.2
        refine w_imul rfl o9 ?_
        have o10 := H.1
        replace H := H.2
        refine w_iadd rfl o10 ?_
        refine m_callI rfl (fun _ => rfl) rfl (mI_mono H fun v12 I11 H => ?_)
        refine w_if rfl (And.intro (fun hc => ?_) (fun hc => ?_))
        · replace H := H.1 hc
          refine w_iconst rfl ⟨by decide, by decide⟩ ?_
          refine w_istore rfl rfl ?_
          have o13 := H.1
          replace H := H.2
          refine w_iinc rfl rfl rfl o13 ?_
          refine w_goto rfl ?_
          exact H
        · replace H := H.2 hc
          refine w_iconst rfl ⟨by decide, by decide⟩ ?_
          refine w_goto rfl ?_
          refine w_istore rfl rfl ?_
          have o14 := H.1
          replace H := H.2
          refine w_iinc rfl rfl rfl o14 ?_
          refine w_goto rfl ?_
          exact H
set_option maxHeartbeats 4000000 in
set_option maxRecDepth 100000 in
theorem mr_table {d : Nat} {Q : cm_Q} {z : cm_Z} {I : cm_I} (hz : mz z)   (H : ((0:Int) ≤ (I 209 24) ∧ (I 209 24) < 4) ∧ (∀ I2 : cm_I, I2 = iu I 221 (I 209 24) (I 209 16) → (cm_i (9 * (I2 209 24)) ∧ (mI d m_Model_rowOf [vR 12 209, vI (9 * (I2 209 24))] z I2 fun v5 I4 => cw d cd_Model_table Q 27 [some (vR 12 209), some (vI v5), some (vI 1)] [] (I4, z))))) : cm_call (d + 1) m_Model_table [vR 12 209] (I, z) Q := by
  refine cm_call_in (C := cd_Model_table) (ls := [some (vR 12 209), none, none]) rfl rfl (show 0 < 209 by decide) rfl ?_
  refine w_aload rfl rfl ?_
  refine m_getR 22 20 221 hz rfl rfl rfl rfl rfl rfl (by decide) ?_
  refine w_aload rfl rfl ?_
  refine m_getI 24 rfl rfl rfl (by decide) ?_
  refine w_aload rfl rfl ?_
  refine m_getI 16 rfl rfl rfl (by decide) ?_
  have o1 := H.1
  replace H := H.2
  refine m_iastore hz (by unfold mA; decide) rfl o1 (fun I2 eI2 => ?_)
  replace H := H I2 eI2
  refine w_aload rfl rfl ?_
  refine w_iconst rfl ⟨by decide, by decide⟩ ?_
  refine w_aload rfl rfl ?_
  refine m_getI 24 rfl rfl rfl (by decide) ?_
  have o3 := H.1
  replace H := H.2
  refine w_imul rfl o3 ?_
  refine m_callI rfl (fun _ => rfl) rfl (mI_mono H fun v5 I4 H => ?_)
  refine w_istore rfl rfl ?_
  refine w_iconst rfl ⟨by decide, by decide⟩ ?_
  refine w_istore rfl rfl ?_
  exact H
set_option maxHeartbeats 4000000 in
set_option maxRecDepth 100000 in
theorem mr_tables_39 {d : Nat} {Q : cm_Q} {z : cm_Z} {I : cm_I} (hz : mz z) {z1 : Option cm_V} {x2 : Int}  (H : ((x2 = 0 → cw d cd_Model_tables Q 81 [some (vR 12 209), z1, some (vI x2)] [] (I, z)) ∧ (¬ x2 = 0 → (mI d m_Model_is [vR 12 209, vI 59] z I fun v2 I1 => ((v2 = 0 → cw d cd_Model_tables Q 81 [some (vR 12 209), z1, some (vI x2)] [] (I1, z)) ∧ (¬ v2 = 0 → ((¬ (I1 209 24) = 4 → (mU d m_Model_go [vR 12 209] z I1 fun I3 => (mI d m_Model_table [vR 12 209] z I3 fun v5 I4 => cw d cd_Model_tables Q 39 [some (vR 12 209), z1, some (vI v5)] [] (I4, z)))) ∧ ((I1 209 24) = 4 → (mI d m_Model_bad [vR 12 209, vI 2] z I1 fun v7 I6 => cw d cd_Model_tables Q 39 [some (vR 12 209), z1, some (vI v7)] [] (I6, z)))))))))) : cw d cd_Model_tables Q 39 [some (vR 12 209), z1, some (vI x2)] [] (I, z) := by
  refine w_iload rfl rfl ?_
  refine w_if rfl (And.intro (fun hc => ?_) (fun hc => ?_))
  · replace H := H.1 hc
    exact H
  · replace H := H.2 hc
    refine w_aload rfl rfl ?_
    refine w_iconst rfl ⟨by decide, by decide⟩ ?_
    refine m_callI rfl (fun _ => rfl) rfl (mI_mono H fun v2 I1 H => ?_)
    refine w_if rfl (And.intro (fun hc => ?_) (fun hc => ?_))
    · replace H := H.1 hc
      exact H
    · replace H := H.2 hc
      refine w_aload rfl rfl ?_
      refine m_getI 24 rfl rfl rfl (by decide) ?_
      refine w_iconst rfl ⟨by decide, by decide⟩ ?_
      refine w_icmp rfl (And.intro (fun hc => ?_) (fun hc => ?_))
      · replace H := H.1 hc
        refine w_aload rfl rfl ?_
        refine m_callU rfl (fun _ => rfl) rfl (mU_mono H fun I3 H => ?_)
        refine w_aload rfl rfl ?_
        refine m_callI rfl (fun _ => rfl) rfl (mI_mono H fun v5 I4 H => ?_)
        refine w_istore rfl rfl ?_
        refine w_goto rfl ?_
        exact H
      · replace H := H.2 hc
        refine w_aload rfl rfl ?_
        refine w_iconst rfl ⟨by decide, by decide⟩ ?_
        refine m_callI rfl (fun _ => rfl) rfl (mI_mono H fun v7 I6 H => ?_)
        refine w_istore rfl rfl ?_
        refine w_goto rfl ?_
        exact H
set_option maxHeartbeats 4000000 in
set_option maxRecDepth 100000 in
theorem mr_tables_81 {d : Nat} {Q : cm_Q} {z : cm_Z} {I : cm_I} (hz : mz z) {z1 : Option cm_V} {x2 : Int}  (H : ((x2 = 0 → cw d cd_Model_tables Q 98 [some (vR 12 209), z1, some (vI x2)] [] (I, z)) ∧ (¬ x2 = 0 → (((I 209 18) = 0 → cw d cd_Model_tables Q 98 [some (vR 12 209), z1, some (vI x2)] [] (I, z)) ∧ (¬ (I 209 18) = 0 → (mI d m_Model_bad [vR 12 209, vI 1] z I fun v2 I1 => cw d cd_Model_tables Q 98 [some (vR 12 209), z1, some (vI v2)] [] (I1, z))))))) : cw d cd_Model_tables Q 81 [some (vR 12 209), z1, some (vI x2)] [] (I, z) := by
  refine w_iload rfl rfl ?_
  refine w_if rfl (And.intro (fun hc => ?_) (fun hc => ?_))
  · replace H := H.1 hc
    exact H
  · replace H := H.2 hc
    refine w_aload rfl rfl ?_
    refine m_getI 18 rfl rfl rfl (by decide) ?_
    refine w_if rfl (And.intro (fun hc => ?_) (fun hc => ?_))
    · replace H := H.1 hc
      exact H
    · replace H := H.2 hc
      refine w_aload rfl rfl ?_
      refine w_iconst rfl ⟨by decide, by decide⟩ ?_
      refine m_callI rfl (fun _ => rfl) rfl (mI_mono H fun v2 I1 H => ?_)
      refine w_istore rfl rfl ?_
      exact H
set_option maxHeartbeats 4000000 in
set_option maxRecDepth 100000 in
theorem mr_tables_98 {d : Nat} {Q : cm_Q} {z : cm_Z} {I : cm_I} (hz : mz z) {z1 : Option cm_V} {x2 : Int}  (H : ((x2 = 0 → (cm_i ((-2) - (I 209 20)) ∧ Q (some (vI ((-2) - (I 209 20)))) (I, z))) ∧ (¬ x2 = 0 → (mI d m_Model_takes [vR 12 209] z I fun v3 I2 => Q (some (vI v3)) (I2, z))))) : cw d cd_Model_tables Q 98 [some (vR 12 209), z1, some (vI x2)] [] (I, z) := by
  refine w_iload rfl rfl ?_
  refine w_if rfl (And.intro (fun hc => ?_) (fun hc => ?_))
  · replace H := H.1 hc
    refine w_iconst rfl ⟨by decide, by decide⟩ ?_
    refine w_aload rfl rfl ?_
    refine m_getI 20 rfl rfl rfl (by decide) ?_
    have o1 := H.1
    replace H := H.2
    refine w_isub rfl o1 ?_
    exact w_ireturn rfl H
  · replace H := H.2 hc
    refine w_aload rfl rfl ?_
    refine m_callI rfl (fun _ => rfl) rfl (mI_mono H fun v3 I2 H => ?_)
    refine w_goto rfl ?_
    exact w_ireturn rfl H
set_option maxHeartbeats 4000000 in
set_option maxRecDepth 100000 in
theorem mr_tables {d : Nat} {Q : cm_Q} {z : cm_Z} {I : cm_I} (hz : mz z) {x1 : Int}  (H : (∀ I1 : cm_I, I1 = iu I 209 0 0 → (mI d m_Model_within [vI x1, vI 0, vI (I1 209 14)] z I1 fun v3 I2 => ((¬ v3 = 0 → (mU d m_Model_starts [vR 12 209, vI x1] z I2 fun I4 => (∀ I5 : cm_I, I5 = iu I4 209 23 0 → (∀ I6 : cm_I, I6 = iu I5 209 24 0 → (mI d m_Model_table [vR 12 209] z I6 fun v8 I7 => cw d cd_Model_tables Q 39 [some (vR 12 209), some (vI x1), some (vI v8)] [] (I7, z)))))) ∧ (v3 = 0 → Q (some (vI (-1))) (I2, z)))))) : cm_call (d + 1) m_Model_tables [vR 12 209, vI x1] (I, z) Q := by
  refine cm_call_in (C := cd_Model_tables) (ls := [some (vR 12 209), some (vI x1), none]) rfl rfl (show 0 < 209 by decide) rfl ?_
  refine w_aload rfl rfl ?_
  refine w_iconst rfl ⟨by decide, by decide⟩ ?_
  refine m_putI 0 rfl rfl rfl (by decide) (fun I1 eI1 => ?_)
  replace H := H I1 eI1
  refine w_iload rfl rfl ?_
  refine w_iconst rfl ⟨by decide, by decide⟩ ?_
  refine w_aload rfl rfl ?_
  refine m_getI 14 rfl rfl rfl (by decide) ?_
  refine m_callI rfl (fun _ => rfl) rfl (mI_mono H fun v3 I2 H => ?_)
  refine w_if rfl (And.intro (fun hc => ?_) (fun hc => ?_))
  · replace H := H.1 hc
    refine w_aload rfl rfl ?_
    refine w_iload rfl rfl ?_
    refine m_callU rfl (fun _ => rfl) rfl (mU_mono H fun I4 H => ?_)
    refine w_aload rfl rfl ?_
    refine w_iconst rfl ⟨by decide, by decide⟩ ?_
    refine m_putI 23 rfl rfl rfl (by decide) (fun I5 eI5 => ?_)
    replace H := H I5 eI5
    refine w_aload rfl rfl ?_
    refine w_iconst rfl ⟨by decide, by decide⟩ ?_
    refine m_putI 24 rfl rfl rfl (by decide) (fun I6 eI6 => ?_)
    replace H := H I6 eI6
    refine w_aload rfl rfl ?_
    refine m_callI rfl (fun _ => rfl) rfl (mI_mono H fun v8 I7 H => ?_)
    refine w_istore rfl rfl ?_
    exact H
  · replace H := H.2 hc
    refine w_iconst rfl ⟨by decide, by decide⟩ ?_
    exact w_ireturn rfl H
set_option maxHeartbeats 4000000 in
set_option maxRecDepth 100000 in
theorem mr_takes_12 {d : Nat} {Q : cm_Q} {z : cm_Z} {I : cm_I} (hz : mz z) {x1 : Int} {x2 : Int} {x3 : Int} {z4 : Option cm_V}  (H : ((36 ≤ x3 → (∀ I1 : cm_I, I1 = iu I 209 1 (I 209 23) → (∀ I2 : cm_I, I2 = iu I1 209 9 (I1 209 24) → cw d cd_Model_takes Q 54 [some (vR 12 209), some (vI x1), some (vI x2), some (vI 0), z4] [] (I2, z)))) ∧ (x3 < 36 → ((0:Int) ≤ x3 ∧ x3 < 36) ∧ (∀ I4 : cm_I, I4 = iu I 222 x3 (I 217 x3) → (cm_i (x3 + 1) ∧ cw d cd_Model_takes Q 12 [some (vR 12 209), some (vI x1), some (vI x2), some (vI (x3 + 1)), z4] [] (I4, z)))))) : cw d cd_Model_takes Q 12 [some (vR 12 209), some (vI x1), some (vI x2), some (vI x3), z4] [] (I, z) := by
  refine w_iload rfl rfl ?_
  refine w_iconst rfl ⟨by decide, by decide⟩ ?_
  refine w_icmp rfl (And.intro (fun hc => ?_) (fun hc => ?_))
  · replace H := H.1 hc
    refine w_aload rfl rfl ?_
    refine w_aload rfl rfl ?_
    refine m_getI 23 rfl rfl rfl (by decide) ?_
    refine m_putI 1 rfl rfl rfl (by decide) (fun I1 eI1 => ?_)
    replace H := H I1 eI1
    refine w_aload rfl rfl ?_
    refine w_aload rfl rfl ?_
    refine m_getI 24 rfl rfl rfl (by decide) ?_
    refine m_putI 9 rfl rfl rfl (by decide) (fun I2 eI2 => ?_)
    replace H := H I2 eI2
    refine w_iconst rfl ⟨by decide, by decide⟩ ?_
    refine w_istore rfl rfl ?_
    exact H
  · replace H := H.2 hc
    refine w_aload rfl rfl ?_
    refine m_getR 25 20 222 hz rfl rfl rfl rfl rfl rfl (by decide) ?_
    refine w_iload rfl rfl ?_
    refine w_aload rfl rfl ?_
    refine m_getR 10 20 217 hz rfl rfl rfl rfl rfl rfl (by decide) ?_
    refine w_iload rfl rfl ?_
    have o3 := H.1
    replace H := H.2
    refine m_iaload hz (by unfold mA; decide) rfl o3 ?_
    refine m_iastore hz (by unfold mA; decide) rfl o3 (fun I4 eI4 => ?_)
    replace H := H I4 eI4
    have o5 := H.1
    replace H := H.2
    refine w_iinc rfl rfl rfl o5 ?_
    refine w_goto rfl ?_
    exact H
set_option maxHeartbeats 4000000 in
set_option maxRecDepth 100000 in
theorem mr_takes_54 {d : Nat} {Q : cm_Q} {z : cm_Z} {I : cm_I} (hz : mz z) {x1 : Int} {x2 : Int} {x3 : Int} {z4 : Option cm_V}  (H : ((36 ≤ x3 → (cm_i ((I 209 9) - 1) ∧ cw d cd_Model_takes Q 88 [some (vR 12 209), some (vI x1), some (vI x2), some (vI 0), some (vI ((I 209 9) - 1))] [] (I, z))) ∧ (x3 < 36 → ((0:Int) ≤ x3 ∧ x3 < 36) ∧ (∀ I3 : cm_I, I3 = iu I 217 x3 (I 220 x3) → (cm_i (x3 + 1) ∧ cw d cd_Model_takes Q 54 [some (vR 12 209), some (vI x1), some (vI x2), some (vI (x3 + 1)), z4] [] (I3, z)))))) : cw d cd_Model_takes Q 54 [some (vR 12 209), some (vI x1), some (vI x2), some (vI x3), z4] [] (I, z) := by
  refine w_iload rfl rfl ?_
  refine w_iconst rfl ⟨by decide, by decide⟩ ?_
  refine w_icmp rfl (And.intro (fun hc => ?_) (fun hc => ?_))
  · replace H := H.1 hc
    refine w_iconst rfl ⟨by decide, by decide⟩ ?_
    refine w_istore rfl rfl ?_
    refine w_aload rfl rfl ?_
    refine m_getI 9 rfl rfl rfl (by decide) ?_
    refine w_iconst rfl ⟨by decide, by decide⟩ ?_
    have o1 := H.1
    replace H := H.2
    refine w_isub rfl o1 ?_
    refine w_istore rfl rfl ?_
    exact H
  · replace H := H.2 hc
    refine w_aload rfl rfl ?_
    refine m_getR 10 20 217 hz rfl rfl rfl rfl rfl rfl (by decide) ?_
    refine w_iload rfl rfl ?_
    refine w_aload rfl rfl ?_
    refine m_getR 21 20 220 hz rfl rfl rfl rfl rfl rfl (by decide) ?_
    refine w_iload rfl rfl ?_
    have o2 := H.1
    replace H := H.2
    refine m_iaload hz (by unfold mA; decide) rfl o2 ?_
    refine m_iastore hz (by unfold mA; decide) rfl o2 (fun I3 eI3 => ?_)
    replace H := H I3 eI3
    have o4 := H.1
    replace H := H.2
    refine w_iinc rfl rfl rfl o4 ?_
    refine w_goto rfl ?_
    exact H
set_option maxHeartbeats 4000000 in
set_option maxRecDepth 100000 in
theorem mr_takes_88 {d : Nat} {Q : cm_Q} {z : cm_Z} {I : cm_I} (hz : mz z) {x1 : Int} {x2 : Int} {x3 : Int} {x4 : Int}  (H : ((x4 < 0 → ((¬ x3 = 0 → cw d cd_Model_takes Q 142 [some (vR 12 209), some (vI x1), some (vI x2), some (vI x3), some (vI x4)] [] (I, z)) ∧ (x3 = 0 → (mI d m_Model_laysGroup [vR 12 209] z I fun v2 I1 => ((¬ v2 = 0 → cw d cd_Model_takes Q 142 [some (vR 12 209), some (vI x1), some (vI x2), some (vI x3), some (vI x4)] [] (I1, z)) ∧ (v2 = 0 → cw d cd_Model_takes Q 142 [some (vR 12 209), some (vI x1), some (vI x2), some (vI 4), some (vI x4)] [] (I1, z))))))) ∧ (0 ≤ x4 → (mI d m_Model_determinant [vR 12 209, vR 20 217, vI x4] z I fun v4 I3 => ((¬ v4 = 0 → (cm_i (x4 + (-1)) ∧ cw d cd_Model_takes Q 88 [some (vR 12 209), some (vI x1), some (vI x2), some (vI x3), some (vI (x4 + (-1)))] [] (I3, z))) ∧ (v4 = 0 → ((0:Int) ≤ x4 ∧ x4 < 4) ∧ (cm_i (8 * (I3 221 x4)) ∧ (cm_i ((8 * (I3 221 x4)) + 3) ∧ (cm_i (x4 + (-1)) ∧ cw d cd_Model_takes Q 88 [some (vR 12 209), some (vI x1), some (vI x2), some (vI ((8 * (I3 221 x4)) + 3)), some (vI (x4 + (-1)))] [] (I3, z)))))))))) : cw d cd_Model_takes Q 88 [some (vR 12 209), some (vI x1), some (vI x2), some (vI x3), some (vI x4)] [] (I, z) := by
  refine w_iload rfl rfl ?_
  refine w_if rfl (And.intro (fun hc => ?_) (fun hc => ?_))
  · replace H := H.1 hc
    refine w_iload rfl rfl ?_
    refine w_if rfl (And.intro (fun hc => ?_) (fun hc => ?_))
    · replace H := H.1 hc
      exact H
    · replace H := H.2 hc
      refine w_aload rfl rfl ?_
      refine m_callI rfl (fun _ => rfl) rfl (mI_mono H fun v2 I1 H => ?_)
      refine w_if rfl (And.intro (fun hc => ?_) (fun hc => ?_))
      · replace H := H.1 hc
        exact H
      · replace H := H.2 hc
        refine w_iconst rfl ⟨by decide, by decide⟩ ?_
        refine w_istore rfl rfl ?_
        exact H
  · replace H := H.2 hc
    refine w_aload rfl rfl ?_
    refine w_aload rfl rfl ?_
    refine m_getR 10 20 217 hz rfl rfl rfl rfl rfl rfl (by decide) ?_
    refine w_iload rfl rfl ?_
    refine m_callI rfl (fun _ => rfl) rfl (mI_mono H fun v4 I3 H => ?_)
    refine w_if rfl (And.intro (fun hc => ?_) (fun hc => ?_))
    · replace H := H.1 hc
      refine w_iload rfl rfl ?_
      refine w_istore rfl rfl ?_
      have o5 := H.1
      replace H := H.2
      refine w_iinc rfl rfl rfl o5 ?_
      refine w_goto rfl ?_
      exact H
    · replace H := H.2 hc
      refine w_iconst rfl ⟨by decide, by decide⟩ ?_
      refine w_aload rfl rfl ?_
      refine m_getR 22 20 221 hz rfl rfl rfl rfl rfl rfl (by decide) ?_
      refine w_iload rfl rfl ?_
      have o6 := H.1
      replace H := H.2
      refine m_iaload hz (by unfold mA; decide) rfl o6 ?_
      have o7 := H.1
      replace H := H.2
      refine w_imul rfl o7 ?_
      refine w_iconst rfl ⟨by decide, by decide⟩ ?_
      have o8 := H.1
      replace H := H.2
      refine w_iadd rfl o8 ?_
      refine w_goto rfl ?_
      refine w_istore rfl rfl ?_
      have o9 := H.1
      replace H := H.2
      refine w_iinc rfl rfl rfl o9 ?_
      refine w_goto rfl ?_
      exact H
set_option maxHeartbeats 4000000 in
set_option maxRecDepth 100000 in
theorem mr_takes_142 {d : Nat} {Q : cm_Q} {z : cm_Z} {I : cm_I} (hz : mz z) {x1 : Int} {x2 : Int} {x3 : Int} {z4 : Option cm_V}  (H : ((x3 ≤ 0 → (((I 209 1) = x1 → (mU d m_Model_forgets [vR 12 209] z I fun I1 => Q (some (vI (I1 209 11))) (I1, z))) ∧ (¬ (I 209 1) = x1 → (mU d m_Model_laysMonomials [vR 12 209] z I fun I2 => cw d cd_Model_takes Q 212 [some (vR 12 209), some (vI x1), some (vI x2), some (vI x3), some (vI 0)] [] (I2, z))))) ∧ (0 < x3 → (∀ I3 : cm_I, I3 = iu I 209 1 x1 → (∀ I4 : cm_I, I4 = iu I3 209 9 x2 → cw d cd_Model_takes Q 159 [some (vR 12 209), some (vI x1), some (vI x2), some (vI x3), some (vI 0)] [] (I4, z)))))) : cw d cd_Model_takes Q 142 [some (vR 12 209), some (vI x1), some (vI x2), some (vI x3), z4] [] (I, z) := by
  refine w_iload rfl rfl ?_
  refine w_if rfl (And.intro (fun hc => ?_) (fun hc => ?_))
  · replace H := H.1 hc
    refine w_aload rfl rfl ?_
    refine m_getI 1 rfl rfl rfl (by decide) ?_
    refine w_iload rfl rfl ?_
    refine w_icmp rfl (And.intro (fun hc => ?_) (fun hc => ?_))
    · replace H := H.1 hc
      refine w_aload rfl rfl ?_
      refine m_callU rfl (fun _ => rfl) rfl (mU_mono H fun I1 H => ?_)
      refine w_aload rfl rfl ?_
      refine m_getI 11 rfl rfl rfl (by decide) ?_
      exact w_ireturn rfl H
    · replace H := H.2 hc
      refine w_aload rfl rfl ?_
      refine m_callU rfl (fun _ => rfl) rfl (mU_mono H fun I2 H => ?_)
      refine w_iconst rfl ⟨by decide, by decide⟩ ?_
      refine w_istore rfl rfl ?_
      exact H
  · replace H := H.2 hc
    refine w_aload rfl rfl ?_
    refine w_iload rfl rfl ?_
    refine m_putI 1 rfl rfl rfl (by decide) (fun I3 eI3 => ?_)
    replace H := H I3 eI3
    refine w_aload rfl rfl ?_
    refine w_iload rfl rfl ?_
    refine m_putI 9 rfl rfl rfl (by decide) (fun I4 eI4 => ?_)
    replace H := H I4 eI4
    refine w_iconst rfl ⟨by decide, by decide⟩ ?_
    refine w_istore rfl rfl ?_
    exact H
set_option maxHeartbeats 4000000 in
set_option maxRecDepth 100000 in
theorem mr_takes_159 {d : Nat} {Q : cm_Q} {z : cm_Z} {I : cm_I} (hz : mz z) {z1 : Option cm_V} {z2 : Option cm_V} {x3 : Int} {x4 : Int}  (H : ((36 ≤ x4 → (mI d m_Model_laysGroup [vR 12 209] z I fun v2 I1 => (cm_i ((-2) - x3) ∧ Q (some (vI ((-2) - x3))) (I1, z)))) ∧ (x4 < 36 → ((0:Int) ≤ x4 ∧ x4 < 36) ∧ (∀ I5 : cm_I, I5 = iu I 217 x4 (I 222 x4) → (cm_i (x4 + 1) ∧ cw d cd_Model_takes Q 159 [some (vR 12 209), z1, z2, some (vI x3), some (vI (x4 + 1))] [] (I5, z)))))) : cw d cd_Model_takes Q 159 [some (vR 12 209), z1, z2, some (vI x3), some (vI x4)] [] (I, z) := by
  refine w_iload rfl rfl ?_
  refine w_iconst rfl ⟨by decide, by decide⟩ ?_
  refine w_icmp rfl (And.intro (fun hc => ?_) (fun hc => ?_))
  · replace H := H.1 hc
    refine w_aload rfl rfl ?_
    refine m_callI rfl (fun _ => rfl) rfl (mI_mono H fun v2 I1 H => ?_)
    refine w_istore rfl rfl ?_
    refine w_iconst rfl ⟨by decide, by decide⟩ ?_
    refine w_iload rfl rfl ?_
    have o3 := H.1
    replace H := H.2
    refine w_isub rfl o3 ?_
    exact w_ireturn rfl H
  · replace H := H.2 hc
    refine w_aload rfl rfl ?_
    refine m_getR 10 20 217 hz rfl rfl rfl rfl rfl rfl (by decide) ?_
    refine w_iload rfl rfl ?_
    refine w_aload rfl rfl ?_
    refine m_getR 25 20 222 hz rfl rfl rfl rfl rfl rfl (by decide) ?_
    refine w_iload rfl rfl ?_
    have o4 := H.1
    replace H := H.2
    refine m_iaload hz (by unfold mA; decide) rfl o4 ?_
    refine m_iastore hz (by unfold mA; decide) rfl o4 (fun I5 eI5 => ?_)
    replace H := H I5 eI5
    have o6 := H.1
    replace H := H.2
    refine w_iinc rfl rfl rfl o6 ?_
    refine w_goto rfl ?_
    exact H
set_option maxHeartbeats 4000000 in
set_option maxRecDepth 100000 in
theorem mr_takes_212 {d : Nat} {Q : cm_Q} {z : cm_Z} {I : cm_I} (hz : mz z) {z1 : Option cm_V} {z2 : Option cm_V} {z3 : Option cm_V} {x4 : Int}  (H : ((6840 ≤ x4 → (mU d m_Model_forgets [vR 12 209] z I fun I1 => Q (some (vI (I1 209 11))) (I1, z))) ∧ (x4 < 6840 → ((0:Int) ≤ x4 ∧ x4 < 6840) ∧ (∀ I3 : cm_I, I3 = iu I 213 x4 0 → (cm_i (x4 + 1) ∧ cw d cd_Model_takes Q 212 [some (vR 12 209), z1, z2, z3, some (vI (x4 + 1))] [] (I3, z)))))) : cw d cd_Model_takes Q 212 [some (vR 12 209), z1, z2, z3, some (vI x4)] [] (I, z) := by
  refine w_iload rfl rfl ?_
  refine w_iconst rfl ⟨by decide, by decide⟩ ?_
  refine w_icmp rfl (And.intro (fun hc => ?_) (fun hc => ?_))
  · replace H := H.1 hc
    refine w_aload rfl rfl ?_
    refine m_callU rfl (fun _ => rfl) rfl (mU_mono H fun I1 H => ?_)
    refine w_aload rfl rfl ?_
    refine m_getI 11 rfl rfl rfl (by decide) ?_
    exact w_ireturn rfl H
  · replace H := H.2 hc
    refine w_aload rfl rfl ?_
    refine m_getR 5 20 213 hz rfl rfl rfl rfl rfl rfl (by decide) ?_
    refine w_iload rfl rfl ?_
    refine w_iconst rfl ⟨by decide, by decide⟩ ?_
    have o2 := H.1
    replace H := H.2
    refine m_iastore hz (by unfold mA; decide) rfl o2 (fun I3 eI3 => ?_)
    replace H := H I3 eI3
    have o4 := H.1
    replace H := H.2
    refine w_iinc rfl rfl rfl o4 ?_
    refine w_goto rfl ?_
    exact H
set_option maxHeartbeats 4000000 in
set_option maxRecDepth 100000 in
theorem mr_takes {d : Nat} {Q : cm_Q} {z : cm_Z} {I : cm_I} (hz : mz z)   (H : cw d cd_Model_takes Q 12 [some (vR 12 209), some (vI (I 209 1)), some (vI (I 209 9)), some (vI 0), none] [] (I, z)) : cm_call (d + 1) m_Model_takes [vR 12 209] (I, z) Q := by
  refine cm_call_in (C := cd_Model_takes) (ls := [some (vR 12 209), none, none, none, none]) rfl rfl (show 0 < 209 by decide) rfl ?_
  refine w_aload rfl rfl ?_
  refine m_getI 1 rfl rfl rfl (by decide) ?_
  refine w_istore rfl rfl ?_
  refine w_aload rfl rfl ?_
  refine m_getI 9 rfl rfl rfl (by decide) ?_
  refine w_istore rfl rfl ?_
  refine w_iconst rfl ⟨by decide, by decide⟩ ?_
  refine w_istore rfl rfl ?_
  exact H
set_option maxHeartbeats 4000000 in
set_option maxRecDepth 100000 in
theorem mr_pushes {d : Nat} {Q : cm_Q} {z : cm_Z} {I : cm_I} (hz : mz z) {x1 : Int}  (H : (cm_i (1140 * (I 209 27)) ∧ (mU d m_Model_clears [vR 20 223, vI (1140 * (I 209 27))] z I fun I2 => (cm_i (1140 * (I2 209 27)) ∧ (mI d m_Model_of [vL x1] z I2 fun v5 I4 => ((0:Int) ≤ (1140 * (I2 209 27)) ∧ (1140 * (I2 209 27)) < 34200) ∧ (∀ I7 : cm_I, I7 = iu I4 223 (1140 * (I2 209 27)) v5 → (cm_i ((I7 209 27) + 1) ∧ (∀ I9 : cm_I, I9 = iu I7 209 27 ((I7 209 27) + 1) → Q none (I9, z))))))))) : cm_call (d + 1) m_Model_pushes [vR 12 209, vI x1] (I, z) Q := by
  refine cm_call_in (C := cd_Model_pushes) (ls := [some (vR 12 209), some (vI x1)]) rfl rfl (show 0 < 209 by decide) rfl ?_
  refine w_aload rfl rfl ?_
  refine m_getR 26 20 223 hz rfl rfl rfl rfl rfl rfl (by decide) ?_
  refine w_iconst rfl ⟨by decide, by decide⟩ ?_
  refine w_aload rfl rfl ?_
  refine m_getI 27 rfl rfl rfl (by decide) ?_
  have o1 := H.1
  replace H := H.2
  refine w_imul rfl o1 ?_
  refine m_callU rfl (fun _ => rfl) rfl (mU_mono H fun I2 H => ?_)
  refine w_aload rfl rfl ?_
  refine m_getR 26 20 223 hz rfl rfl rfl rfl rfl rfl (by decide) ?_
  refine w_iconst rfl ⟨by decide, by decide⟩ ?_
  refine w_aload rfl rfl ?_
  refine m_getI 27 rfl rfl rfl (by decide) ?_
  have o3 := H.1
  replace H := H.2
  refine w_imul rfl o3 ?_
  refine w_iload rfl rfl ?_
  refine w_i2l rfl ?_
  refine m_callI rfl (fun _ => rfl) rfl (mI_mono H fun v5 I4 H => ?_)
  have o6 := H.1
  replace H := H.2
  refine m_iastore hz (by unfold mA; decide) rfl o6 (fun I7 eI7 => ?_)
  replace H := H I7 eI7
  refine w_aload rfl rfl ?_
  refine w_dup rfl rfl ?_
  refine m_getI 27 rfl rfl rfl (by decide) ?_
  refine w_iconst rfl ⟨by decide, by decide⟩ ?_
  have o8 := H.1
  replace H := H.2
  refine w_iadd rfl o8 ?_
  refine m_putI 27 rfl rfl rfl (by decide) (fun I9 eI9 => ?_)
  replace H := H I9 eI9
  exact w_return rfl H
set_option maxHeartbeats 4000000 in
set_option maxRecDepth 100000 in
theorem mr_part_60 {d : Nat} {Q : cm_Q} {z : cm_Z} {I : cm_I} (hz : mz z) {z1 : Option cm_V} {z2 : Option cm_V} {s0 : Int}  (H : (cm_i ((I 209 1) - 1) ∧ (mI d m_Model_within [vI s0, vI 0, vI ((I 209 1) - 1)] z I fun v3 I2 => ((v3 = 0 → (mI d m_Model_is [vR 12 209, vI 40] z I2 fun v5 I4 => ((¬ v5 = 0 → ((¬ (I4 209 29) = 8 → (cm_i ((I4 209 29) + 1) ∧ (∀ I7 : cm_I, I7 = iu I4 209 29 ((I4 209 29) + 1) → (mU d m_Model_go [vR 12 209] z I7 fun I8 => (mI d m_Model_sum [vR 12 209] z I8 fun v10 I9 => ((v10 = 0 → (cm_i ((I9 209 29) - 1) ∧ (∀ I12 : cm_I, I12 = iu I9 209 29 ((I9 209 29) - 1) → Q (some (vI 0)) (I12, z)))) ∧ (¬ v10 = 0 → (mI d m_Model_sign [vR 12 209, vI 41] z I9 fun v14 I13 => ((v14 = 0 → (cm_i ((I13 209 29) - 1) ∧ (∀ I16 : cm_I, I16 = iu I13 209 29 ((I13 209 29) - 1) → Q (some (vI 0)) (I16, z)))) ∧ (¬ v14 = 0 → (cm_i ((I13 209 29) - 1) ∧ (∀ I18 : cm_I, I18 = iu I13 209 29 ((I13 209 29) - 1) → Q (some (vI 1)) (I18, z))))))))))))) ∧ ((I4 209 29) = 8 → (mI d m_Model_bad [vR 12 209, vI 2] z I4 fun v20 I19 => ((v20 = 0 ∨ v20 = 1) ∧ Q (some (vI v20)) (I19, z)))))) ∧ (v5 = 0 → (mI d m_Model_bad [vR 12 209, vI 1] z I4 fun v22 I21 => ((v22 = 0 ∨ v22 = 1) ∧ Q (some (vI v22)) (I21, z))))))) ∧ (¬ v3 = 0 → (mU d m_Model_pushes [vR 12 209, vI 0] z I2 fun I23 => (cm_i ((I23 209 27) - 1) ∧ (cm_i (1140 * ((I23 209 27) - 1)) ∧ ((¬ s0 = 0 → cw d cd_Model_part Q 104 [some (vR 12 209), some (vI s0), z2] [vI 0, vR 12 209, vI (1140 * ((I23 209 27) - 1)), vR 20 223] (I23, z)) ∧ (s0 = 0 → cw d cd_Model_part Q 104 [some (vR 12 209), some (vI s0), z2] [vI 1, vR 12 209, vI (1140 * ((I23 209 27) - 1)), vR 20 223] (I23, z))))))))))) : cw d cd_Model_part Q 60 [some (vR 12 209), z1, z2] [vI s0] (I, z) := by
  refine w_istore rfl rfl ?_
  refine w_iload rfl rfl ?_
  refine w_iconst rfl ⟨by decide, by decide⟩ ?_
  refine w_aload rfl rfl ?_
  refine m_getI 1 rfl rfl rfl (by decide) ?_
  refine w_iconst rfl ⟨by decide, by decide⟩ ?_
  have o1 := H.1
  replace H := H.2
  refine w_isub rfl o1 ?_
  refine m_callI rfl (fun _ => rfl) rfl (mI_mono H fun v3 I2 H => ?_)
  refine w_if rfl (And.intro (fun hc => ?_) (fun hc => ?_))
  · replace H := H.1 hc
    refine w_aload rfl rfl ?_
    refine w_iconst rfl ⟨by decide, by decide⟩ ?_
    refine m_callI rfl (fun _ => rfl) rfl (mI_mono H fun v5 I4 H => ?_)
    refine w_if rfl (And.intro (fun hc => ?_) (fun hc => ?_))
    · replace H := H.1 hc
      refine w_aload rfl rfl ?_
      refine m_getI 29 rfl rfl rfl (by decide) ?_
      refine w_iconst rfl ⟨by decide, by decide⟩ ?_
      refine w_icmp rfl (And.intro (fun hc => ?_) (fun hc => ?_))
      · replace H := H.1 hc
        refine w_aload rfl rfl ?_
        refine w_dup rfl rfl ?_
        refine m_getI 29 rfl rfl rfl (by decide) ?_
        refine w_iconst rfl ⟨by decide, by decide⟩ ?_
        have o6 := H.1
        replace H := H.2
        refine w_iadd rfl o6 ?_
        refine m_putI 29 rfl rfl rfl (by decide) (fun I7 eI7 => ?_)
        replace H := H I7 eI7
        refine w_aload rfl rfl ?_
        refine m_callU rfl (fun _ => rfl) rfl (mU_mono H fun I8 H => ?_)
        refine w_aload rfl rfl ?_
        refine m_callI rfl (fun _ => rfl) rfl (mI_mono H fun v10 I9 H => ?_)
        refine w_if rfl (And.intro (fun hc => ?_) (fun hc => ?_))
        · replace H := H.1 hc
          refine w_iconst rfl ⟨by decide, by decide⟩ ?_
          refine w_istore rfl rfl ?_
          refine w_aload rfl rfl ?_
          refine w_dup rfl rfl ?_
          refine m_getI 29 rfl rfl rfl (by decide) ?_
          refine w_iconst rfl ⟨by decide, by decide⟩ ?_
          have o11 := H.1
          replace H := H.2
          refine w_isub rfl o11 ?_
          refine m_putI 29 rfl rfl rfl (by decide) (fun I12 eI12 => ?_)
          replace H := H I12 eI12
          refine w_iload rfl rfl ?_
          exact w_zreturn rfl (by decide) H
        · replace H := H.2 hc
          refine w_aload rfl rfl ?_
          refine w_iconst rfl ⟨by decide, by decide⟩ ?_
          refine m_callI rfl (fun _ => rfl) rfl (mI_mono H fun v14 I13 H => ?_)
          refine w_if rfl (And.intro (fun hc => ?_) (fun hc => ?_))
          · replace H := H.1 hc
            refine w_iconst rfl ⟨by decide, by decide⟩ ?_
            refine w_istore rfl rfl ?_
            refine w_aload rfl rfl ?_
            refine w_dup rfl rfl ?_
            refine m_getI 29 rfl rfl rfl (by decide) ?_
            refine w_iconst rfl ⟨by decide, by decide⟩ ?_
            have o15 := H.1
            replace H := H.2
            refine w_isub rfl o15 ?_
            refine m_putI 29 rfl rfl rfl (by decide) (fun I16 eI16 => ?_)
            replace H := H I16 eI16
            refine w_iload rfl rfl ?_
            exact w_zreturn rfl (by decide) H
          · replace H := H.2 hc
            refine w_iconst rfl ⟨by decide, by decide⟩ ?_
            refine w_goto rfl ?_
            refine w_istore rfl rfl ?_
            refine w_aload rfl rfl ?_
            refine w_dup rfl rfl ?_
            refine m_getI 29 rfl rfl rfl (by decide) ?_
            refine w_iconst rfl ⟨by decide, by decide⟩ ?_
            have o17 := H.1
            replace H := H.2
            refine w_isub rfl o17 ?_
            refine m_putI 29 rfl rfl rfl (by decide) (fun I18 eI18 => ?_)
            replace H := H I18 eI18
            refine w_iload rfl rfl ?_
            exact w_zreturn rfl (by decide) H
      · replace H := H.2 hc
        refine w_aload rfl rfl ?_
        refine w_iconst rfl ⟨by decide, by decide⟩ ?_
        refine m_callI rfl (fun _ => rfl) rfl (mI_mono H fun v20 I19 H => ?_)
        exact w_zreturn rfl H.1 H.2
    · replace H := H.2 hc
      refine w_aload rfl rfl ?_
      refine w_iconst rfl ⟨by decide, by decide⟩ ?_
      refine m_callI rfl (fun _ => rfl) rfl (mI_mono H fun v22 I21 H => ?_)
      exact w_zreturn rfl H.1 H.2
  · replace H := H.2 hc
    refine w_aload rfl rfl ?_
    refine w_iconst rfl ⟨by decide, by decide⟩ ?_
    refine m_callU rfl (fun _ => rfl) rfl (mU_mono H fun I23 H => ?_)
    refine w_aload rfl rfl ?_
    refine m_getR 26 20 223 hz rfl rfl rfl rfl rfl rfl (by decide) ?_
    refine w_iconst rfl ⟨by decide, by decide⟩ ?_
    refine w_aload rfl rfl ?_
    refine m_getI 27 rfl rfl rfl (by decide) ?_
    refine w_iconst rfl ⟨by decide, by decide⟩ ?_
    have o24 := H.1
    replace H := H.2
    refine w_isub rfl o24 ?_
    have o25 := H.1
    replace H := H.2
    refine w_imul rfl o25 ?_
    refine w_aload rfl rfl ?_
    refine w_iload rfl rfl ?_
    refine w_if rfl (And.intro (fun hc => ?_) (fun hc => ?_))
    · replace H := H.1 hc
      refine w_iconst rfl ⟨by decide, by decide⟩ ?_
      exact H
    · replace H := H.2 hc
      refine w_iconst rfl ⟨by decide, by decide⟩ ?_
      refine w_goto rfl ?_
      exact H
set_option maxHeartbeats 4000000 in
set_option maxRecDepth 100000 in
theorem mr_part_104 {d : Nat} {Q : cm_Q} {z : cm_Z} {I : cm_I} (hz : mz z) {x1 : Int} {z2 : Option cm_V} {s0 : Int} {s2 : Int} {b3 : Nat}  (H : ((¬ x1 = 1 → cw d cd_Model_part Q 114 [some (vR 12 209), some (vI x1), z2] [vI 0, vI s0, vR 12 209, vI s2, vR 20 b3] (I, z)) ∧ (x1 = 1 → cw d cd_Model_part Q 114 [some (vR 12 209), some (vI x1), z2] [vI 1, vI s0, vR 12 209, vI s2, vR 20 b3] (I, z)))) : cw d cd_Model_part Q 104 [some (vR 12 209), some (vI x1), z2] [vI s0, vR 12 209, vI s2, vR 20 b3] (I, z) := by
  refine w_iload rfl rfl ?_
  refine w_iconst rfl ⟨by decide, by decide⟩ ?_
  refine w_icmp rfl (And.intro (fun hc => ?_) (fun hc => ?_))
  · replace H := H.1 hc
    refine w_iconst rfl ⟨by decide, by decide⟩ ?_
    exact H
  · replace H := H.2 hc
    refine w_iconst rfl ⟨by decide, by decide⟩ ?_
    refine w_goto rfl ?_
    exact H
set_option maxHeartbeats 4000000 in
set_option maxRecDepth 100000 in
theorem mr_part_114 {d : Nat} {Q : cm_Q} {z : cm_Z} {I : cm_I} (hz : mz z) {x1 : Int} {z2 : Option cm_V} {s0 : Int} {s1 : Int} {s3 : Int} {b4 : Nat} (p_b4 : mA b4) (H : ((¬ x1 = 2 → (mI d m_Model_at [vR 12 209, vI s1, vI s0, vI 0] z I fun v2 I1 => (cm_i (s3 + v2) ∧ ((0:Int) ≤ (s3 + v2) ∧ (s3 + v2) < mLen b4) ∧ (∀ I5 : cm_I, I5 = iu I1 b4 (s3 + v2) 1 → (mU d m_Model_go [vR 12 209] z I5 fun I6 => Q (some (vI 1)) (I6, z)))))) ∧ (x1 = 2 → (mI d m_Model_at [vR 12 209, vI s1, vI s0, vI 1] z I fun v8 I7 => (cm_i (s3 + v8) ∧ ((0:Int) ≤ (s3 + v8) ∧ (s3 + v8) < mLen b4) ∧ (∀ I11 : cm_I, I11 = iu I7 b4 (s3 + v8) 1 → (mU d m_Model_go [vR 12 209] z I11 fun I12 => Q (some (vI 1)) (I12, z)))))))) : cw d cd_Model_part Q 114 [some (vR 12 209), some (vI x1), z2] [vI s0, vI s1, vR 12 209, vI s3, vR 20 b4] (I, z) := by
  refine w_iload rfl rfl ?_
  refine w_iconst rfl ⟨by decide, by decide⟩ ?_
  refine w_icmp rfl (And.intro (fun hc => ?_) (fun hc => ?_))
  · replace H := H.1 hc
    refine w_iconst rfl ⟨by decide, by decide⟩ ?_
    refine m_callI rfl (fun _ => rfl) rfl (mI_mono H fun v2 I1 H => ?_)
    have o3 := H.1
    replace H := H.2
    refine w_iadd rfl o3 ?_
    refine w_iconst rfl ⟨by decide, by decide⟩ ?_
    have o4 := H.1
    replace H := H.2
    refine m_iastore hz p_b4 rfl o4 (fun I5 eI5 => ?_)
    replace H := H I5 eI5
    refine w_aload rfl rfl ?_
    refine m_callU rfl (fun _ => rfl) rfl (mU_mono H fun I6 H => ?_)
    refine w_iconst rfl ⟨by decide, by decide⟩ ?_
    exact w_zreturn rfl (by decide) H
  · replace H := H.2 hc
    refine w_iconst rfl ⟨by decide, by decide⟩ ?_
    refine w_goto rfl ?_
    refine m_callI rfl (fun _ => rfl) rfl (mI_mono H fun v8 I7 H => ?_)
    have o9 := H.1
    replace H := H.2
    refine w_iadd rfl o9 ?_
    refine w_iconst rfl ⟨by decide, by decide⟩ ?_
    have o10 := H.1
    replace H := H.2
    refine m_iastore hz p_b4 rfl o10 (fun I11 eI11 => ?_)
    replace H := H I11 eI11
    refine w_aload rfl rfl ?_
    refine m_callU rfl (fun _ => rfl) rfl (mU_mono H fun I12 H => ?_)
    refine w_iconst rfl ⟨by decide, by decide⟩ ?_
    exact w_zreturn rfl (by decide) H
set_option maxHeartbeats 4000000 in
set_option maxRecDepth 100000 in
theorem mr_part {d : Nat} {Q : cm_Q} {z : cm_Z} {I : cm_I} (hz : mz z)   (H : ((¬ (I 209 18) = 1 → ((¬ (I 209 18) = 2 → cw d cd_Model_part Q 60 [some (vR 12 209), none, none] [vI (-1)] (I, z)) ∧ ((I 209 18) = 2 → (cm_i ((I 209 19) - 120) ∧ cw d cd_Model_part Q 60 [some (vR 12 209), none, none] [vI ((I 209 19) - 120)] (I, z))))) ∧ ((I 209 18) = 1 → (cm_i ((I 209 17) - (I 209 16)) ∧ ((((I 209 17) - (I 209 16)) ≤ 4 → (mU d m_Model_pushes [vR 12 209, vI (I 209 19)] z I fun I3 => (mU d m_Model_go [vR 12 209] z I3 fun I4 => Q (some (vI 1)) (I4, z)))) ∧ (4 < ((I 209 17) - (I 209 16)) → (mI d m_Model_bad [vR 12 209, vI 1] z I fun v6 I5 => ((v6 = 0 ∨ v6 = 1) ∧ Q (some (vI v6)) (I5, z))))))))) : cm_call (d + 1) m_Model_part [vR 12 209] (I, z) Q := by
  refine cm_call_in (C := cd_Model_part) (ls := [some (vR 12 209), none, none]) rfl rfl (show 0 < 209 by decide) rfl ?_
  refine w_aload rfl rfl ?_
  refine m_getI 18 rfl rfl rfl (by decide) ?_
  refine w_iconst rfl ⟨by decide, by decide⟩ ?_
  refine w_icmp rfl (And.intro (fun hc => ?_) (fun hc => ?_))
  · replace H := H.1 hc
    refine w_aload rfl rfl ?_
    refine m_getI 18 rfl rfl rfl (by decide) ?_
    refine w_iconst rfl ⟨by decide, by decide⟩ ?_
    refine w_icmp rfl (And.intro (fun hc => ?_) (fun hc => ?_))
    · replace H := H.1 hc
      refine w_iconst rfl ⟨by decide, by decide⟩ ?_
      exact H
    · replace H := H.2 hc
      refine w_aload rfl rfl ?_
      refine m_getI 19 rfl rfl rfl (by decide) ?_
      refine w_iconst rfl ⟨by decide, by decide⟩ ?_
      have o1 := H.1
      replace H := H.2
      refine w_isub rfl o1 ?_
      refine w_goto rfl ?_
      exact H
  · replace H := H.2 hc
    refine w_aload rfl rfl ?_
    refine m_getI 17 rfl rfl rfl (by decide) ?_
    refine w_aload rfl rfl ?_
    refine m_getI 16 rfl rfl rfl (by decide) ?_
    have o2 := H.1
    replace H := H.2
    refine w_isub rfl o2 ?_
    refine w_iconst rfl ⟨by decide, by decide⟩ ?_
    refine w_icmp rfl (And.intro (fun hc => ?_) (fun hc => ?_))
    · replace H := H.1 hc
      refine w_aload rfl rfl ?_
      refine w_aload rfl rfl ?_
      refine m_getI 19 rfl rfl rfl (by decide) ?_
      refine m_callU rfl (fun _ => rfl) rfl (mU_mono H fun I3 H => ?_)
      refine w_aload rfl rfl ?_
      refine m_callU rfl (fun _ => rfl) rfl (mU_mono H fun I4 H => ?_)
      refine w_iconst rfl ⟨by decide, by decide⟩ ?_
      exact w_zreturn rfl (by decide) H
    · replace H := H.2 hc
      refine w_aload rfl rfl ?_
      refine w_iconst rfl ⟨by decide, by decide⟩ ?_
      refine m_callI rfl (fun _ => rfl) rfl (mI_mono H fun v6 I5 H => ?_)
      exact w_zreturn rfl H.1 H.2
set_option maxHeartbeats 4000000 in
set_option maxRecDepth 100000 in
theorem mr_joins_51 {d : Nat} {Q : cm_Q} {z : cm_Z} {I : cm_I} (hz : mz z) {x1 : Int} {x2 : Int} {z3 : Option cm_V} {z4 : Option cm_V} {s0 : Int}  (H : ((s0 = 0 → (mI d m_Model_degree [vR 12 209, vR 20 223, vI x1] z I fun v2 I1 => (mI d m_Model_degree [vR 12 209, vR 20 223, vI x2] z I1 fun v4 I3 => (cm_i (v2 + v4) ∧ cw d cd_Model_joins Q 79 [some (vR 12 209), some (vI x1), some (vI x2), some (vI s0), z4] [vI (v2 + v4)] (I3, z))))) ∧ (¬ s0 = 0 → cw d cd_Model_joins Q 79 [some (vR 12 209), some (vI x1), some (vI x2), some (vI s0), z4] [vI 0] (I, z)))) : cw d cd_Model_joins Q 51 [some (vR 12 209), some (vI x1), some (vI x2), z3, z4] [vI s0] (I, z) := by
  refine w_istore rfl rfl ?_
  refine w_iload rfl rfl ?_
  refine w_if rfl (And.intro (fun hc => ?_) (fun hc => ?_))
  · replace H := H.1 hc
    refine w_aload rfl rfl ?_
    refine w_aload rfl rfl ?_
    refine m_getR 26 20 223 hz rfl rfl rfl rfl rfl rfl (by decide) ?_
    refine w_iload rfl rfl ?_
    refine m_callI rfl (fun _ => rfl) rfl (mI_mono H fun v2 I1 H => ?_)
    refine w_aload rfl rfl ?_
    refine w_aload rfl rfl ?_
    refine m_getR 26 20 223 hz rfl rfl rfl rfl rfl rfl (by decide) ?_
    refine w_iload rfl rfl ?_
    refine m_callI rfl (fun _ => rfl) rfl (mI_mono H fun v4 I3 H => ?_)
    have o5 := H.1
    replace H := H.2
    refine w_iadd rfl o5 ?_
    exact H
  · replace H := H.2 hc
    refine w_iconst rfl ⟨by decide, by decide⟩ ?_
    refine w_goto rfl ?_
    exact H
set_option maxHeartbeats 4000000 in
set_option maxRecDepth 100000 in
theorem mr_joins_79 {d : Nat} {Q : cm_Q} {z : cm_Z} {I : cm_I} (hz : mz z) {x1 : Int} {x2 : Int} {z3 : Option cm_V} {z4 : Option cm_V} {s0 : Int}  (H : ((¬ (I 209 28) = 0 → cw d cd_Model_joins Q 101 [some (vR 12 209), some (vI x1), some (vI x2), z3, some (vI s0)] [vI 1, vR 12 209] (I, z)) ∧ ((I 209 28) = 0 → ((s0 ≤ 15 → cw d cd_Model_joins Q 101 [some (vR 12 209), some (vI x1), some (vI x2), z3, some (vI s0)] [vI 0, vR 12 209] (I, z)) ∧ (15 < s0 → cw d cd_Model_joins Q 101 [some (vR 12 209), some (vI x1), some (vI x2), z3, some (vI s0)] [vI 1, vR 12 209] (I, z)))))) : cw d cd_Model_joins Q 79 [some (vR 12 209), some (vI x1), some (vI x2), z3, z4] [vI s0] (I, z) := by
  refine w_istore rfl rfl ?_
  refine w_aload rfl rfl ?_
  refine w_aload rfl rfl ?_
  refine m_getI 28 rfl rfl rfl (by decide) ?_
  refine w_if rfl (And.intro (fun hc => ?_) (fun hc => ?_))
  · replace H := H.1 hc
    refine w_iconst rfl ⟨by decide, by decide⟩ ?_
    refine w_goto rfl ?_
    exact H
  · replace H := H.2 hc
    refine w_iload rfl rfl ?_
    refine w_iconst rfl ⟨by decide, by decide⟩ ?_
    refine w_icmp rfl (And.intro (fun hc => ?_) (fun hc => ?_))
    · replace H := H.1 hc
      refine w_iconst rfl ⟨by decide, by decide⟩ ?_
      exact H
    · replace H := H.2 hc
      refine w_iconst rfl ⟨by decide, by decide⟩ ?_
      refine w_goto rfl ?_
      exact H
set_option maxHeartbeats 4000000 in
set_option maxRecDepth 100000 in
theorem mr_joins_101 {d : Nat} {Q : cm_Q} {z : cm_Z} {I : cm_I} (hz : mz z) {x1 : Int} {x2 : Int} {z3 : Option cm_V} {z4 : Option cm_V} {s0 : Int}  (H : (s0 = 0 ∨ s0 = 1) ∧ (∀ I2 : cm_I, I2 = iu I 209 28 s0 → ((¬ (I2 209 28) = 0 → (cm_i ((I2 209 27) - 1) ∧ (∀ I4 : cm_I, I4 = iu I2 209 27 ((I2 209 27) - 1) → Q none (I4, z)))) ∧ ((I2 209 28) = 0 → (mU d m_Model_multiplies [vR 12 209, vR 20 223, vI x1, vR 20 223, vI x2, vR 20 216, vI 0] z I2 fun I5 => (mU d m_Model_copies [vR 20 216, vI 0, vR 20 223, vI x1] z I5 fun I6 => (cm_i ((I6 209 27) - 1) ∧ (∀ I8 : cm_I, I8 = iu I6 209 27 ((I6 209 27) - 1) → Q none (I8, z))))))))) : cw d cd_Model_joins Q 101 [some (vR 12 209), some (vI x1), some (vI x2), z3, z4] [vI s0, vR 12 209] (I, z) := by
  have o1 := H.1
  replace H := H.2
  refine m_putZ 28 rfl rfl rfl o1 (by decide) (fun I2 eI2 => ?_)
  replace H := H I2 eI2
  refine w_aload rfl rfl ?_
  refine m_getI 28 rfl rfl rfl (by decide) ?_
  refine w_if rfl (And.intro (fun hc => ?_) (fun hc => ?_))
  · replace H := H.1 hc
    refine w_aload rfl rfl ?_
    refine w_dup rfl rfl ?_
    refine m_getI 27 rfl rfl rfl (by decide) ?_
    refine w_iconst rfl ⟨by decide, by decide⟩ ?_
    have o3 := H.1
    replace H := H.2
    refine w_isub rfl o3 ?_
    refine m_putI 27 rfl rfl rfl (by decide) (fun I4 eI4 => ?_)
    replace H := H I4 eI4
    exact w_return rfl H
  · replace H := H.2 hc
    refine w_aload rfl rfl ?_
    refine w_aload rfl rfl ?_
    refine m_getR 26 20 223 hz rfl rfl rfl rfl rfl rfl (by decide) ?_
    refine w_iload rfl rfl ?_
    refine w_aload rfl rfl ?_
    refine m_getR 26 20 223 hz rfl rfl rfl rfl rfl rfl (by decide) ?_
    refine w_iload rfl rfl ?_
    refine w_aload rfl rfl ?_
    refine m_getR 8 20 216 hz rfl rfl rfl rfl rfl rfl (by decide) ?_
    refine w_iconst rfl ⟨by decide, by decide⟩ ?_
    refine m_callU rfl (fun _ => rfl) rfl (mU_mono H fun I5 H => ?_)
    refine w_aload rfl rfl ?_
    refine m_getR 8 20 216 hz rfl rfl rfl rfl rfl rfl (by decide) ?_
    refine w_iconst rfl ⟨by decide, by decide⟩ ?_
    refine w_aload rfl rfl ?_
    refine m_getR 26 20 223 hz rfl rfl rfl rfl rfl rfl (by decide) ?_
    refine w_iload rfl rfl ?_
    refine m_callU rfl (fun _ => rfl) rfl (mU_mono H fun I6 H => ?_)
    refine w_aload rfl rfl ?_
    refine w_dup rfl rfl ?_
    refine m_getI 27 rfl rfl rfl (by decide) ?_
    refine w_iconst rfl ⟨by decide, by decide⟩ ?_
    have o7 := H.1
    replace H := H.2
    refine w_isub rfl o7 ?_
    refine m_putI 27 rfl rfl rfl (by decide) (fun I8 eI8 => ?_)
    replace H := H I8 eI8
    exact w_return rfl H
set_option maxHeartbeats 4000000 in
set_option maxRecDepth 100000 in
theorem mr_joins {d : Nat} {Q : cm_Q} {z : cm_Z} {I : cm_I} (hz : mz z)   (H : (cm_i ((I 209 27) - 2) ∧ (cm_i (1140 * ((I 209 27) - 2)) ∧ (cm_i ((I 209 27) - 1) ∧ (cm_i (1140 * ((I 209 27) - 1)) ∧ (mI d m_Model_isNothing [vR 12 209, vR 20 223, vI (1140 * ((I 209 27) - 2))] z I fun v6 I5 => ((¬ v6 = 0 → cw d cd_Model_joins Q 51 [some (vR 12 209), some (vI (1140 * ((I 209 27) - 2))), some (vI (1140 * ((I 209 27) - 1))), none, none] [vI 1] (I5, z)) ∧ (v6 = 0 → (mI d m_Model_isNothing [vR 12 209, vR 20 223, vI (1140 * ((I 209 27) - 1))] z I5 fun v8 I7 => ((v8 = 0 → cw d cd_Model_joins Q 51 [some (vR 12 209), some (vI (1140 * ((I 209 27) - 2))), some (vI (1140 * ((I 209 27) - 1))), none, none] [vI 0] (I7, z)) ∧ (¬ v8 = 0 → cw d cd_Model_joins Q 51 [some (vR 12 209), some (vI (1140 * ((I 209 27) - 2))), some (vI (1140 * ((I 209 27) - 1))), none, none] [vI 1] (I7, z)))))))))))) : cm_call (d + 1) m_Model_joins [vR 12 209] (I, z) Q := by
  refine cm_call_in (C := cd_Model_joins) (ls := [some (vR 12 209), none, none, none, none]) rfl rfl (show 0 < 209 by decide) rfl ?_
  refine w_iconst rfl ⟨by decide, by decide⟩ ?_
  refine w_aload rfl rfl ?_
  refine m_getI 27 rfl rfl rfl (by decide) ?_
  refine w_iconst rfl ⟨by decide, by decide⟩ ?_
  have o1 := H.1
  replace H := H.2
  refine w_isub rfl o1 ?_
  have o2 := H.1
  replace H := H.2
  refine w_imul rfl o2 ?_
  refine w_istore rfl rfl ?_
  refine w_iconst rfl ⟨by decide, by decide⟩ ?_
  refine w_aload rfl rfl ?_
  refine m_getI 27 rfl rfl rfl (by decide) ?_
  refine w_iconst rfl ⟨by decide, by decide⟩ ?_
  have o3 := H.1
  replace H := H.2
  refine w_isub rfl o3 ?_
  have o4 := H.1
  replace H := H.2
  refine w_imul rfl o4 ?_
  refine w_istore rfl rfl ?_
  refine w_aload rfl rfl ?_
  refine w_aload rfl rfl ?_
  refine m_getR 26 20 223 hz rfl rfl rfl rfl rfl rfl (by decide) ?_
  refine w_iload rfl rfl ?_
  refine m_callI rfl (fun _ => rfl) rfl (mI_mono H fun v6 I5 H => ?_)
  refine w_if rfl (And.intro (fun hc => ?_) (fun hc => ?_))
  · replace H := H.1 hc
    refine w_iconst rfl ⟨by decide, by decide⟩ ?_
    refine w_goto rfl ?_
    exact H
  · replace H := H.2 hc
    refine w_aload rfl rfl ?_
    refine w_aload rfl rfl ?_
    refine m_getR 26 20 223 hz rfl rfl rfl rfl rfl rfl (by decide) ?_
    refine w_iload rfl rfl ?_
    refine m_callI rfl (fun _ => rfl) rfl (mI_mono H fun v8 I7 H => ?_)
    refine w_if rfl (And.intro (fun hc => ?_) (fun hc => ?_))
    · replace H := H.1 hc
      refine w_iconst rfl ⟨by decide, by decide⟩ ?_
      exact H
    · replace H := H.2 hc
      refine w_iconst rfl ⟨by decide, by decide⟩ ?_
      refine w_goto rfl ?_
      exact H
set_option maxHeartbeats 4000000 in
set_option maxRecDepth 100000 in
theorem mr_raises_40 {d : Nat} {Q : cm_Q} {z : cm_Z} {I : cm_I} (hz : mz z) {x1 : Int} {x2 : Int} {z3 : Option cm_V} {s0 : Int}  (H : (s0 = 0 ∨ s0 = 1) ∧ (∀ I2 : cm_I, I2 = iu I 209 28 s0 → (((I2 209 28) = 0 → (mU d m_Model_copies [vR 20 223, vI x2, vR 20 214, vI 0] z I2 fun I3 => (mU d m_Model_clears [vR 20 223, vI x2] z I3 fun I4 => ((0:Int) ≤ x2 ∧ x2 < 34200) ∧ (∀ I6 : cm_I, I6 = iu I4 223 x2 1 → cw d cd_Model_raises Q 81 [some (vR 12 209), some (vI x1), some (vI x2), some (vI 0)] [] (I6, z))))) ∧ (¬ (I2 209 28) = 0 → Q none (I2, z))))) : cw d cd_Model_raises Q 40 [some (vR 12 209), some (vI x1), some (vI x2), z3] [vI s0, vR 12 209] (I, z) := by
  have o1 := H.1
  replace H := H.2
  refine m_putZ 28 rfl rfl rfl o1 (by decide) (fun I2 eI2 => ?_)
  replace H := H I2 eI2
  refine w_aload rfl rfl ?_
  refine m_getI 28 rfl rfl rfl (by decide) ?_
  refine w_if rfl (And.intro (fun hc => ?_) (fun hc => ?_))
  · replace H := H.1 hc
    refine w_aload rfl rfl ?_
    refine m_getR 26 20 223 hz rfl rfl rfl rfl rfl rfl (by decide) ?_
    refine w_iload rfl rfl ?_
    refine w_aload rfl rfl ?_
    refine m_getR 6 20 214 hz rfl rfl rfl rfl rfl rfl (by decide) ?_
    refine w_iconst rfl ⟨by decide, by decide⟩ ?_
    refine m_callU rfl (fun _ => rfl) rfl (mU_mono H fun I3 H => ?_)
    refine w_aload rfl rfl ?_
    refine m_getR 26 20 223 hz rfl rfl rfl rfl rfl rfl (by decide) ?_
    refine w_iload rfl rfl ?_
    refine m_callU rfl (fun _ => rfl) rfl (mU_mono H fun I4 H => ?_)
    refine w_aload rfl rfl ?_
    refine m_getR 26 20 223 hz rfl rfl rfl rfl rfl rfl (by decide) ?_
    refine w_iload rfl rfl ?_
    refine w_iconst rfl ⟨by decide, by decide⟩ ?_
    have o5 := H.1
    replace H := H.2
    refine m_iastore hz (by unfold mA; decide) rfl o5 (fun I6 eI6 => ?_)
    replace H := H I6 eI6
    refine w_iconst rfl ⟨by decide, by decide⟩ ?_
    refine w_istore rfl rfl ?_
    exact H
  · replace H := H.2 hc
    exact w_return rfl H
set_option maxHeartbeats 4000000 in
set_option maxRecDepth 100000 in
theorem mr_raises_81 {d : Nat} {Q : cm_Q} {z : cm_Z} {I : cm_I} (hz : mz z) {x1 : Int} {x2 : Int} {x3 : Int}  (H : ((x1 ≤ x3 → Q none (I, z)) ∧ (x3 < x1 → (mU d m_Model_multiplies [vR 12 209, vR 20 223, vI x2, vR 20 214, vI 0, vR 20 216, vI 0] z I fun I1 => (mU d m_Model_copies [vR 20 216, vI 0, vR 20 223, vI x2] z I1 fun I2 => (cm_i (x3 + 1) ∧ cw d cd_Model_raises Q 81 [some (vR 12 209), some (vI x1), some (vI x2), some (vI (x3 + 1))] [] (I2, z))))))) : cw d cd_Model_raises Q 81 [some (vR 12 209), some (vI x1), some (vI x2), some (vI x3)] [] (I, z) := by
  refine w_iload rfl rfl ?_
  refine w_iload rfl rfl ?_
  refine w_icmp rfl (And.intro (fun hc => ?_) (fun hc => ?_))
  · replace H := H.1 hc
    exact w_return rfl H
  · replace H := H.2 hc
    refine w_aload rfl rfl ?_
    refine w_aload rfl rfl ?_
    refine m_getR 26 20 223 hz rfl rfl rfl rfl rfl rfl (by decide) ?_
    refine w_iload rfl rfl ?_
    refine w_aload rfl rfl ?_
    refine m_getR 6 20 214 hz rfl rfl rfl rfl rfl rfl (by decide) ?_
    refine w_iconst rfl ⟨by decide, by decide⟩ ?_
    refine w_aload rfl rfl ?_
    refine m_getR 8 20 216 hz rfl rfl rfl rfl rfl rfl (by decide) ?_
    refine w_iconst rfl ⟨by decide, by decide⟩ ?_
    refine m_callU rfl (fun _ => rfl) rfl (mU_mono H fun I1 H => ?_)
    refine w_aload rfl rfl ?_
    refine m_getR 8 20 216 hz rfl rfl rfl rfl rfl rfl (by decide) ?_
    refine w_iconst rfl ⟨by decide, by decide⟩ ?_
    refine w_aload rfl rfl ?_
    refine m_getR 26 20 223 hz rfl rfl rfl rfl rfl rfl (by decide) ?_
    refine w_iload rfl rfl ?_
    refine m_callU rfl (fun _ => rfl) rfl (mU_mono H fun I2 H => ?_)
    have o3 := H.1
    replace H := H.2
    refine w_iinc rfl rfl rfl o3 ?_
    refine w_goto rfl ?_
    exact H
set_option maxHeartbeats 4000000 in
set_option maxRecDepth 100000 in
theorem mr_raises {d : Nat} {Q : cm_Q} {z : cm_Z} {I : cm_I} (hz : mz z) {x1 : Int}  (H : (cm_i ((I 209 27) - 1) ∧ (cm_i (1140 * ((I 209 27) - 1)) ∧ ((¬ (I 209 28) = 0 → cw d cd_Model_raises Q 40 [some (vR 12 209), some (vI x1), some (vI (1140 * ((I 209 27) - 1))), none] [vI 1, vR 12 209] (I, z)) ∧ ((I 209 28) = 0 → (mI d m_Model_degree [vR 12 209, vR 20 223, vI (1140 * ((I 209 27) - 1))] z I fun v4 I3 => (cm_i (v4 * x1) ∧ (((v4 * x1) ≤ 15 → cw d cd_Model_raises Q 40 [some (vR 12 209), some (vI x1), some (vI (1140 * ((I 209 27) - 1))), none] [vI 0, vR 12 209] (I3, z)) ∧ (15 < (v4 * x1) → cw d cd_Model_raises Q 40 [some (vR 12 209), some (vI x1), some (vI (1140 * ((I 209 27) - 1))), none] [vI 1, vR 12 209] (I3, z)))))))))) : cm_call (d + 1) m_Model_raises [vR 12 209, vI x1] (I, z) Q := by
  refine cm_call_in (C := cd_Model_raises) (ls := [some (vR 12 209), some (vI x1), none, none]) rfl rfl (show 0 < 209 by decide) rfl ?_
  refine w_iconst rfl ⟨by decide, by decide⟩ ?_
  refine w_aload rfl rfl ?_
  refine m_getI 27 rfl rfl rfl (by decide) ?_
  refine w_iconst rfl ⟨by decide, by decide⟩ ?_
  have o1 := H.1
  replace H := H.2
  refine w_isub rfl o1 ?_
  have o2 := H.1
  replace H := H.2
  refine w_imul rfl o2 ?_
  refine w_istore rfl rfl ?_
  refine w_aload rfl rfl ?_
  refine w_aload rfl rfl ?_
  refine m_getI 28 rfl rfl rfl (by decide) ?_
  refine w_if rfl (And.intro (fun hc => ?_) (fun hc => ?_))
  · replace H := H.1 hc
    refine w_iconst rfl ⟨by decide, by decide⟩ ?_
    refine w_goto rfl ?_
    exact H
  · replace H := H.2 hc
    refine w_aload rfl rfl ?_
    refine w_aload rfl rfl ?_
    refine m_getR 26 20 223 hz rfl rfl rfl rfl rfl rfl (by decide) ?_
    refine w_iload rfl rfl ?_
    refine m_callI rfl (fun _ => rfl) rfl (mI_mono H fun v4 I3 H => ?_)
    refine w_iload rfl rfl ?_
    have o5 := H.1
    replace H := H.2
    refine w_imul rfl o5 ?_
    refine w_iconst rfl ⟨by decide, by decide⟩ ?_
    refine w_icmp rfl (And.intro (fun hc => ?_) (fun hc => ?_))
    · replace H := H.1 hc
      refine w_iconst rfl ⟨by decide, by decide⟩ ?_
      exact H
    · replace H := H.2 hc
      refine w_iconst rfl ⟨by decide, by decide⟩ ?_
      refine w_goto rfl ?_
      exact H
set_option maxHeartbeats 4000000 in
set_option maxRecDepth 100000 in
theorem mr_powerOf {d : Nat} {Q : cm_Q} {z : cm_Z} {I : cm_I} (hz : mz z)   (H : (mI d m_Model_part [vR 12 209] z I fun v2 I1 => ((¬ v2 = 0 → (mI d m_Model_is [vR 12 209, vI 94] z I1 fun v4 I3 => ((¬ v4 = 0 → (mU d m_Model_go [vR 12 209] z I3 fun I5 => ((¬ (I5 209 18) = 1 → (mI d m_Model_bad [vR 12 209, vI 1] z I5 fun v7 I6 => ((v7 = 0 ∨ v7 = 1) ∧ Q (some (vI v7)) (I6, z)))) ∧ ((I5 209 18) = 1 → (cm_i ((I5 209 17) - (I5 209 16)) ∧ ((((I5 209 17) - (I5 209 16)) ≤ 2 → (((I5 209 19) ≤ 15 → (mU d m_Model_raises [vR 12 209, vI (I5 209 19)] z I5 fun I9 => (mU d m_Model_go [vR 12 209] z I9 fun I10 => Q (some (vI 1)) (I10, z)))) ∧ (15 < (I5 209 19) → (mI d m_Model_bad [vR 12 209, vI 2] z I5 fun v12 I11 => ((v12 = 0 ∨ v12 = 1) ∧ Q (some (vI v12)) (I11, z)))))) ∧ (2 < ((I5 209 17) - (I5 209 16)) → (mI d m_Model_bad [vR 12 209, vI 1] z I5 fun v14 I13 => ((v14 = 0 ∨ v14 = 1) ∧ Q (some (vI v14)) (I13, z)))))))))) ∧ (v4 = 0 → Q (some (vI 1)) (I3, z))))) ∧ (v2 = 0 → Q (some (vI 0)) (I1, z))))) : cm_call (d + 1) m_Model_powerOf [vR 12 209] (I, z) Q := by
  refine cm_call_in (C := cd_Model_powerOf) (ls := [some (vR 12 209)]) rfl rfl (show 0 < 209 by decide) rfl ?_
  refine w_aload rfl rfl ?_
  refine m_callI rfl (fun _ => rfl) rfl (mI_mono H fun v2 I1 H => ?_)
  refine w_if rfl (And.intro (fun hc => ?_) (fun hc => ?_))
  · replace H := H.1 hc
    refine w_aload rfl rfl ?_
    refine w_iconst rfl ⟨by decide, by decide⟩ ?_
    refine m_callI rfl (fun _ => rfl) rfl (mI_mono H fun v4 I3 H => ?_)
    refine w_if rfl (And.intro (fun hc => ?_) (fun hc => ?_))
    · replace H := H.1 hc
      refine w_aload rfl rfl ?_
      refine m_callU rfl (fun _ => rfl) rfl (mU_mono H fun I5 H => ?_)
      refine w_aload rfl rfl ?_
      refine m_getI 18 rfl rfl rfl (by decide) ?_
      refine w_iconst rfl ⟨by decide, by decide⟩ ?_
      refine w_icmp rfl (And.intro (fun hc => ?_) (fun hc => ?_))
      · replace H := H.1 hc
        refine w_aload rfl rfl ?_
        refine w_iconst rfl ⟨by decide, by decide⟩ ?_
        refine m_callI rfl (fun _ => rfl) rfl (mI_mono H fun v7 I6 H => ?_)
        exact w_zreturn rfl H.1 H.2
      · replace H := H.2 hc
        refine w_aload rfl rfl ?_
        refine m_getI 17 rfl rfl rfl (by decide) ?_
        refine w_aload rfl rfl ?_
        refine m_getI 16 rfl rfl rfl (by decide) ?_
        have o8 := H.1
        replace H := H.2
        refine w_isub rfl o8 ?_
        refine w_iconst rfl ⟨by decide, by decide⟩ ?_
        refine w_icmp rfl (And.intro (fun hc => ?_) (fun hc => ?_))
        · replace H := H.1 hc
          refine w_aload rfl rfl ?_
          refine m_getI 19 rfl rfl rfl (by decide) ?_
          refine w_iconst rfl ⟨by decide, by decide⟩ ?_
          refine w_icmp rfl (And.intro (fun hc => ?_) (fun hc => ?_))
          · replace H := H.1 hc
            refine w_aload rfl rfl ?_
            refine w_aload rfl rfl ?_
            refine m_getI 19 rfl rfl rfl (by decide) ?_
            refine m_callU rfl (fun _ => rfl) rfl (mU_mono H fun I9 H => ?_)
            refine w_aload rfl rfl ?_
            refine m_callU rfl (fun _ => rfl) rfl (mU_mono H fun I10 H => ?_)
            refine w_iconst rfl ⟨by decide, by decide⟩ ?_
            exact w_zreturn rfl (by decide) H
          · replace H := H.2 hc
            refine w_aload rfl rfl ?_
            refine w_iconst rfl ⟨by decide, by decide⟩ ?_
            refine m_callI rfl (fun _ => rfl) rfl (mI_mono H fun v12 I11 H => ?_)
            exact w_zreturn rfl H.1 H.2
        · replace H := H.2 hc
          refine w_aload rfl rfl ?_
          refine w_iconst rfl ⟨by decide, by decide⟩ ?_
          refine m_callI rfl (fun _ => rfl) rfl (mI_mono H fun v14 I13 H => ?_)
          exact w_zreturn rfl H.1 H.2
    · replace H := H.2 hc
      refine w_iconst rfl ⟨by decide, by decide⟩ ?_
      exact w_zreturn rfl (by decide) H
  · replace H := H.2 hc
    refine w_iconst rfl ⟨by decide, by decide⟩ ?_
    exact w_zreturn rfl (by decide) H
set_option maxHeartbeats 4000000 in
set_option maxRecDepth 100000 in
theorem mr_productOf_5 {d : Nat} {Q : cm_Q} {z : cm_Z} {I : cm_I} (hz : mz z) {x1 : Int}  (H : ((x1 = 0 → ((x1 = 0 ∨ x1 = 1) ∧ Q (some (vI x1)) (I, z))) ∧ (¬ x1 = 0 → (mI d m_Model_is [vR 12 209, vI 42] z I fun v2 I1 => ((v2 = 0 → ((x1 = 0 ∨ x1 = 1) ∧ Q (some (vI x1)) (I1, z))) ∧ (¬ v2 = 0 → (mU d m_Model_go [vR 12 209] z I1 fun I3 => (mI d m_Model_powerOf [vR 12 209] z I3 fun v5 I4 => ((v5 = 0 → cw d cd_Model_productOf Q 5 [some (vR 12 209), some (vI v5)] [] (I4, z)) ∧ (¬ v5 = 0 → (mU d m_Model_joins [vR 12 209] z I4 fun I6 => cw d cd_Model_productOf Q 5 [some (vR 12 209), some (vI v5)] [] (I6, z)))))))))))) : cw d cd_Model_productOf Q 5 [some (vR 12 209), some (vI x1)] [] (I, z) := by
  refine w_iload rfl rfl ?_
  refine w_if rfl (And.intro (fun hc => ?_) (fun hc => ?_))
  · replace H := H.1 hc
    refine w_iload rfl rfl ?_
    exact w_zreturn rfl H.1 H.2
  · replace H := H.2 hc
    refine w_aload rfl rfl ?_
    refine w_iconst rfl ⟨by decide, by decide⟩ ?_
    refine m_callI rfl (fun _ => rfl) rfl (mI_mono H fun v2 I1 H => ?_)
    refine w_if rfl (And.intro (fun hc => ?_) (fun hc => ?_))
    · replace H := H.1 hc
      refine w_iload rfl rfl ?_
      exact w_zreturn rfl H.1 H.2
    · replace H := H.2 hc
      refine w_aload rfl rfl ?_
      refine m_callU rfl (fun _ => rfl) rfl (mU_mono H fun I3 H => ?_)
      refine w_aload rfl rfl ?_
      refine m_callI rfl (fun _ => rfl) rfl (mI_mono H fun v5 I4 H => ?_)
      refine w_istore rfl rfl ?_
      refine w_iload rfl rfl ?_
      refine w_if rfl (And.intro (fun hc => ?_) (fun hc => ?_))
      · replace H := H.1 hc
        exact H
      · replace H := H.2 hc
        refine w_aload rfl rfl ?_
        refine m_callU rfl (fun _ => rfl) rfl (mU_mono H fun I6 H => ?_)
        refine w_goto rfl ?_
        exact H
set_option maxHeartbeats 4000000 in
set_option maxRecDepth 100000 in
theorem mr_productOf {d : Nat} {Q : cm_Q} {z : cm_Z} {I : cm_I} (hz : mz z)   (H : (mI d m_Model_powerOf [vR 12 209] z I fun v2 I1 => cw d cd_Model_productOf Q 5 [some (vR 12 209), some (vI v2)] [] (I1, z))) : cm_call (d + 1) m_Model_productOf [vR 12 209] (I, z) Q := by
  refine cm_call_in (C := cd_Model_productOf) (ls := [some (vR 12 209), none]) rfl rfl (show 0 < 209 by decide) rfl ?_
  refine w_aload rfl rfl ?_
  refine m_callI rfl (fun _ => rfl) rfl (mI_mono H fun v2 I1 H => ?_)
  refine w_istore rfl rfl ?_
  exact H
set_option maxHeartbeats 4000000 in
set_option maxRecDepth 100000 in
theorem mr_adds_25 {d : Nat} {Q : cm_Q} {z : cm_Z} {I : cm_I} (hz : mz z) {x1 : Int} {x2 : Int} {x3 : Int} {x4 : Int}  (H : ((1140 ≤ x4 → (cm_i ((I 209 27) - 1) ∧ (∀ I2 : cm_I, I2 = iu I 209 27 ((I 209 27) - 1) → Q none (I2, z)))) ∧ (x4 < 1140 → (cm_i (x2 + x4) ∧ ((0:Int) ≤ (x2 + x4) ∧ (x2 + x4) < 34200) ∧ (cm_i (x3 + x4) ∧ ((0:Int) ≤ (x3 + x4) ∧ (x3 + x4) < 34200) ∧ (cm_i (x1 * (I 223 (x3 + x4))) ∧ (cm_i ((I 223 (x2 + x4)) + (x1 * (I 223 (x3 + x4)))) ∧ (mI d m_Model_of [vL ((I 223 (x2 + x4)) + (x1 * (I 223 (x3 + x4))))] z I fun v10 I9 => (∀ I11 : cm_I, I11 = iu I9 223 (x2 + x4) v10 → (cm_i (x4 + 1) ∧ cw d cd_Model_adds Q 25 [some (vR 12 209), some (vI x1), some (vI x2), some (vI x3), some (vI (x4 + 1))] [] (I11, z))))))))))) : cw d cd_Model_adds Q 25 [some (vR 12 209), some (vI x1), some (vI x2), some (vI x3), some (vI x4)] [] (I, z) := by
  refine w_iload rfl rfl ?_
  refine w_iconst rfl ⟨by decide, by decide⟩ ?_
  refine w_icmp rfl (And.intro (fun hc => ?_) (fun hc => ?_))
  · replace H := H.1 hc
    refine w_aload rfl rfl ?_
    refine w_dup rfl rfl ?_
    refine m_getI 27 rfl rfl rfl (by decide) ?_
    refine w_iconst rfl ⟨by decide, by decide⟩ ?_
    have o1 := H.1
    replace H := H.2
    refine w_isub rfl o1 ?_
    refine m_putI 27 rfl rfl rfl (by decide) (fun I2 eI2 => ?_)
    replace H := H I2 eI2
    exact w_return rfl H
  · replace H := H.2 hc
    refine w_aload rfl rfl ?_
    refine m_getR 26 20 223 hz rfl rfl rfl rfl rfl rfl (by decide) ?_
    refine w_iload rfl rfl ?_
    refine w_iload rfl rfl ?_
    have o3 := H.1
    replace H := H.2
    refine w_iadd rfl o3 ?_
    refine w_aload rfl rfl ?_
    refine m_getR 26 20 223 hz rfl rfl rfl rfl rfl rfl (by decide) ?_
    refine w_iload rfl rfl ?_
    refine w_iload rfl rfl ?_
    refine w_iadd rfl o3 ?_
    have o4 := H.1
    replace H := H.2
    refine m_iaload hz (by unfold mA; decide) rfl o4 ?_
    refine w_iload rfl rfl ?_
    refine w_aload rfl rfl ?_
    refine m_getR 26 20 223 hz rfl rfl rfl rfl rfl rfl (by decide) ?_
    refine w_iload rfl rfl ?_
    refine w_iload rfl rfl ?_
    have o5 := H.1
    replace H := H.2
    refine w_iadd rfl o5 ?_
    have o6 := H.1
    replace H := H.2
    refine m_iaload hz (by unfold mA; decide) rfl o6 ?_
    have o7 := H.1
    replace H := H.2
    refine w_imul rfl o7 ?_
    have o8 := H.1
    replace H := H.2
    refine w_iadd rfl o8 ?_
    refine w_i2l rfl ?_
    refine m_callI rfl (fun _ => rfl) rfl (mI_mono H fun v10 I9 H => ?_)
    refine m_iastore hz (by unfold mA; decide) rfl o4 (fun I11 eI11 => ?_)
    replace H := H I11 eI11
    have o12 := H.1
    replace H := H.2
    refine w_iinc rfl rfl rfl o12 ?_
    refine w_goto rfl ?_
    exact H
set_option maxHeartbeats 4000000 in
set_option maxRecDepth 100000 in
theorem mr_adds {d : Nat} {Q : cm_Q} {z : cm_Z} {I : cm_I} (hz : mz z) {x1 : Int}  (H : (cm_i ((I 209 27) - 2) ∧ (cm_i (1140 * ((I 209 27) - 2)) ∧ (cm_i ((I 209 27) - 1) ∧ (cm_i (1140 * ((I 209 27) - 1)) ∧ cw d cd_Model_adds Q 25 [some (vR 12 209), some (vI x1), some (vI (1140 * ((I 209 27) - 2))), some (vI (1140 * ((I 209 27) - 1))), some (vI 0)] [] (I, z)))))) : cm_call (d + 1) m_Model_adds [vR 12 209, vI x1] (I, z) Q := by
  refine cm_call_in (C := cd_Model_adds) (ls := [some (vR 12 209), some (vI x1), none, none, none]) rfl rfl (show 0 < 209 by decide) rfl ?_
  refine w_iconst rfl ⟨by decide, by decide⟩ ?_
  refine w_aload rfl rfl ?_
  refine m_getI 27 rfl rfl rfl (by decide) ?_
  refine w_iconst rfl ⟨by decide, by decide⟩ ?_
  have o1 := H.1
  replace H := H.2
  refine w_isub rfl o1 ?_
  have o2 := H.1
  replace H := H.2
  refine w_imul rfl o2 ?_
  refine w_istore rfl rfl ?_
  refine w_iconst rfl ⟨by decide, by decide⟩ ?_
  refine w_aload rfl rfl ?_
  refine m_getI 27 rfl rfl rfl (by decide) ?_
  refine w_iconst rfl ⟨by decide, by decide⟩ ?_
  have o3 := H.1
  replace H := H.2
  refine w_isub rfl o3 ?_
  have o4 := H.1
  replace H := H.2
  refine w_imul rfl o4 ?_
  refine w_istore rfl rfl ?_
  refine w_iconst rfl ⟨by decide, by decide⟩ ?_
  refine w_istore rfl rfl ?_
  exact H
set_option maxHeartbeats 4000000 in
set_option maxRecDepth 100000 in
theorem mr_sum_15 {d : Nat} {Q : cm_Q} {z : cm_Z} {I : cm_I} (hz : mz z) {x1 : Int} {z2 : Option cm_V} {z3 : Option cm_V}  (H : (mU d m_Model_pushes [vR 12 209, vI 0] z I fun I1 => (mI d m_Model_productOf [vR 12 209] z I1 fun v3 I2 => ((v3 = 0 → cw d cd_Model_sum Q 42 [some (vR 12 209), some (vI x1), some (vI v3), z3] [] (I2, z)) ∧ (¬ v3 = 0 → ((x1 = 0 → (mU d m_Model_adds [vR 12 209, vI 1] z I2 fun I4 => cw d cd_Model_sum Q 42 [some (vR 12 209), some (vI x1), some (vI v3), z3] [] (I4, z))) ∧ (¬ x1 = 0 → (mU d m_Model_adds [vR 12 209, vI (-1)] z I2 fun I5 => cw d cd_Model_sum Q 42 [some (vR 12 209), some (vI x1), some (vI v3), z3] [] (I5, z))))))))) : cw d cd_Model_sum Q 15 [some (vR 12 209), some (vI x1), z2, z3] [] (I, z) := by
  refine w_aload rfl rfl ?_
  refine w_iconst rfl ⟨by decide, by decide⟩ ?_
  refine m_callU rfl (fun _ => rfl) rfl (mU_mono H fun I1 H => ?_)
  refine w_aload rfl rfl ?_
  refine m_callI rfl (fun _ => rfl) rfl (mI_mono H fun v3 I2 H => ?_)
  refine w_istore rfl rfl ?_
  refine w_iload rfl rfl ?_
  refine w_if rfl (And.intro (fun hc => ?_) (fun hc => ?_))
  · replace H := H.1 hc
    exact H
  · replace H := H.2 hc
    refine w_aload rfl rfl ?_
    refine w_iload rfl rfl ?_
    refine w_if rfl (And.intro (fun hc => ?_) (fun hc => ?_))
    · replace H := H.1 hc
      refine w_iconst rfl ⟨by decide, by decide⟩ ?_
      refine m_callU rfl (fun _ => rfl) rfl (mU_mono H fun I4 H => ?_)
      exact H
    · replace H := H.2 hc
      refine w_iconst rfl ⟨by decide, by decide⟩ ?_
      refine w_goto rfl ?_
      refine m_callU rfl (fun _ => rfl) rfl (mU_mono H fun I5 H => ?_)
      exact H
set_option maxHeartbeats 4000000 in
set_option maxRecDepth 100000 in
theorem mr_sum_42 {d : Nat} {Q : cm_Q} {z : cm_Z} {I : cm_I} (hz : mz z) {z1 : Option cm_V} {x2 : Int} {z3 : Option cm_V}  (H : ((x2 = 0 → ((x2 = 0 ∨ x2 = 1) ∧ Q (some (vI x2)) (I, z))) ∧ (¬ x2 = 0 → (mI d m_Model_is [vR 12 209, vI 43] z I fun v2 I1 => ((¬ v2 = 0 → cw d cd_Model_sum Q 64 [some (vR 12 209), z1, some (vI x2), z3] [] (I1, z)) ∧ (v2 = 0 → (mI d m_Model_is [vR 12 209, vI 45] z I1 fun v4 I3 => ((v4 = 0 → ((x2 = 0 ∨ x2 = 1) ∧ Q (some (vI x2)) (I3, z))) ∧ (¬ v4 = 0 → cw d cd_Model_sum Q 64 [some (vR 12 209), z1, some (vI x2), z3] [] (I3, z)))))))))) : cw d cd_Model_sum Q 42 [some (vR 12 209), z1, some (vI x2), z3] [] (I, z) := by
  refine w_iload rfl rfl ?_
  refine w_if rfl (And.intro (fun hc => ?_) (fun hc => ?_))
  · replace H := H.1 hc
    refine w_iload rfl rfl ?_
    exact w_zreturn rfl H.1 H.2
  · replace H := H.2 hc
    refine w_aload rfl rfl ?_
    refine w_iconst rfl ⟨by decide, by decide⟩ ?_
    refine m_callI rfl (fun _ => rfl) rfl (mI_mono H fun v2 I1 H => ?_)
    refine w_if rfl (And.intro (fun hc => ?_) (fun hc => ?_))
    · replace H := H.1 hc
      exact H
    · replace H := H.2 hc
      refine w_aload rfl rfl ?_
      refine w_iconst rfl ⟨by decide, by decide⟩ ?_
      refine m_callI rfl (fun _ => rfl) rfl (mI_mono H fun v4 I3 H => ?_)
      refine w_if rfl (And.intro (fun hc => ?_) (fun hc => ?_))
      · replace H := H.1 hc
        refine w_iload rfl rfl ?_
        exact w_zreturn rfl H.1 H.2
      · replace H := H.2 hc
        exact H
set_option maxHeartbeats 4000000 in
set_option maxRecDepth 100000 in
theorem mr_sum_64 {d : Nat} {Q : cm_Q} {z : cm_Z} {I : cm_I} (hz : mz z) {z1 : Option cm_V} {z2 : Option cm_V} {z3 : Option cm_V}  (H : (mI d m_Model_is [vR 12 209, vI 43] z I fun v2 I1 => ((v2 = 0 → cw d cd_Model_sum Q 78 [some (vR 12 209), z1, z2, z3] [vI (-1)] (I1, z)) ∧ (¬ v2 = 0 → cw d cd_Model_sum Q 78 [some (vR 12 209), z1, z2, z3] [vI 1] (I1, z))))) : cw d cd_Model_sum Q 64 [some (vR 12 209), z1, z2, z3] [] (I, z) := by
  refine w_aload rfl rfl ?_
  refine w_iconst rfl ⟨by decide, by decide⟩ ?_
  refine m_callI rfl (fun _ => rfl) rfl (mI_mono H fun v2 I1 H => ?_)
  refine w_if rfl (And.intro (fun hc => ?_) (fun hc => ?_))
  · replace H := H.1 hc
    refine w_iconst rfl ⟨by decide, by decide⟩ ?_
    exact H
  · replace H := H.2 hc
    refine w_iconst rfl ⟨by decide, by decide⟩ ?_
    refine w_goto rfl ?_
    exact H
set_option maxHeartbeats 4000000 in
set_option maxRecDepth 100000 in
theorem mr_sum_78 {d : Nat} {Q : cm_Q} {z : cm_Z} {I : cm_I} (hz : mz z) {z1 : Option cm_V} {z2 : Option cm_V} {z3 : Option cm_V} {s0 : Int}  (H : (mU d m_Model_go [vR 12 209] z I fun I1 => (mI d m_Model_productOf [vR 12 209] z I1 fun v3 I2 => ((v3 = 0 → cw d cd_Model_sum Q 42 [some (vR 12 209), z1, some (vI v3), some (vI s0)] [] (I2, z)) ∧ (¬ v3 = 0 → (mU d m_Model_adds [vR 12 209, vI s0] z I2 fun I4 => cw d cd_Model_sum Q 42 [some (vR 12 209), z1, some (vI v3), some (vI s0)] [] (I4, z))))))) : cw d cd_Model_sum Q 78 [some (vR 12 209), z1, z2, z3] [vI s0] (I, z) := by
  refine w_istore rfl rfl ?_
  refine w_aload rfl rfl ?_
  refine m_callU rfl (fun _ => rfl) rfl (mU_mono H fun I1 H => ?_)
  refine w_aload rfl rfl ?_
  refine m_callI rfl (fun _ => rfl) rfl (mI_mono H fun v3 I2 H => ?_)
  refine w_istore rfl rfl ?_
  refine w_iload rfl rfl ?_
  refine w_if rfl (And.intro (fun hc => ?_) (fun hc => ?_))
  · replace H := H.1 hc
    refine w_goto rfl ?_
    exact H
  · replace H := H.2 hc
    refine w_aload rfl rfl ?_
    refine w_iload rfl rfl ?_
    refine m_callU rfl (fun _ => rfl) rfl (mU_mono H fun I4 H => ?_)
    refine w_goto rfl ?_
    exact H
set_option maxHeartbeats 4000000 in
set_option maxRecDepth 100000 in
theorem mr_sum {d : Nat} {Q : cm_Q} {z : cm_Z} {I : cm_I} (hz : mz z)   (H : (mI d m_Model_is [vR 12 209, vI 45] z I fun v2 I1 => ((v2 = 0 → cw d cd_Model_sum Q 15 [some (vR 12 209), some (vI v2), none, none] [] (I1, z)) ∧ (¬ v2 = 0 → (mU d m_Model_go [vR 12 209] z I1 fun I3 => cw d cd_Model_sum Q 15 [some (vR 12 209), some (vI v2), none, none] [] (I3, z)))))) : cm_call (d + 1) m_Model_sum [vR 12 209] (I, z) Q := by
  refine cm_call_in (C := cd_Model_sum) (ls := [some (vR 12 209), none, none, none]) rfl rfl (show 0 < 209 by decide) rfl ?_
  refine w_aload rfl rfl ?_
  refine w_iconst rfl ⟨by decide, by decide⟩ ?_
  refine m_callI rfl (fun _ => rfl) rfl (mI_mono H fun v2 I1 H => ?_)
  refine w_istore rfl rfl ?_
  refine w_iload rfl rfl ?_
  refine w_if rfl (And.intro (fun hc => ?_) (fun hc => ?_))
  · replace H := H.1 hc
    exact H
  · replace H := H.2 hc
    refine w_aload rfl rfl ?_
    refine m_callU rfl (fun _ => rfl) rfl (mU_mono H fun I3 H => ?_)
    exact H
set_option maxHeartbeats 4000000 in
set_option maxRecDepth 100000 in
theorem mr_isKept {d : Nat} {Q : cm_Q} {z : cm_Z} {I : cm_I} (hz : mz z) {x1 : Int}  (H : (mI d m_Model_within [vI x1, vI 0, vI 5] z I fun v2 I1 => ((v2 = 0 ∨ v2 = 1) ∧ Q (some (vI v2)) (I1, z)))) : cm_call (d + 1) m_Model_isKept [vR 12 209, vI x1] (I, z) Q := by
  refine cm_call_in (C := cd_Model_isKept) (ls := [some (vR 12 209), some (vI x1)]) rfl rfl (show 0 < 209 by decide) rfl ?_
  refine w_iload rfl rfl ?_
  refine w_iconst rfl ⟨by decide, by decide⟩ ?_
  refine w_iconst rfl ⟨by decide, by decide⟩ ?_
  refine m_callI rfl (fun _ => rfl) rfl (mI_mono H fun v2 I1 H => ?_)
  exact w_zreturn rfl H.1 H.2
set_option maxHeartbeats 4000000 in
set_option maxRecDepth 100000 in
theorem mr_polynomial_69 {d : Nat} {Q : cm_Q} {z : cm_Z} {I : cm_I} (hz : mz z) {x1 : Int} {z2 : Option cm_V} {x3 : Int}  (H : ((¬ x3 = 0 → (((I 209 28) = 0 → (cm_i (1140 * x1) ∧ (mU d m_Model_copies [vR 20 223, vI 0, vR 20 213, vI (1140 * x1)] z I fun I2 => (mI d m_Model_degree [vR 12 209, vR 20 213, vI (1140 * x1)] z I2 fun v4 I3 => Q (some (vI v4)) (I3, z))))) ∧ (¬ (I 209 28) = 0 → Q (some (vI (-5))) (I, z)))) ∧ (x3 = 0 → (cm_i ((-2) - (I 209 20)) ∧ Q (some (vI ((-2) - (I 209 20)))) (I, z))))) : cw d cd_Model_polynomial Q 69 [some (vR 12 209), some (vI x1), z2, some (vI x3)] [] (I, z) := by
  refine w_iload rfl rfl ?_
  refine w_if rfl (And.intro (fun hc => ?_) (fun hc => ?_))
  · replace H := H.1 hc
    refine w_aload rfl rfl ?_
    refine m_getI 28 rfl rfl rfl (by decide) ?_
    refine w_if rfl (And.intro (fun hc => ?_) (fun hc => ?_))
    · replace H := H.1 hc
      refine w_aload rfl rfl ?_
      refine m_getR 26 20 223 hz rfl rfl rfl rfl rfl rfl (by decide) ?_
      refine w_iconst rfl ⟨by decide, by decide⟩ ?_
      refine w_aload rfl rfl ?_
      refine m_getR 5 20 213 hz rfl rfl rfl rfl rfl rfl (by decide) ?_
      refine w_iconst rfl ⟨by decide, by decide⟩ ?_
      refine w_iload rfl rfl ?_
      have o1 := H.1
      replace H := H.2
      refine w_imul rfl o1 ?_
      refine m_callU rfl (fun _ => rfl) rfl (mU_mono H fun I2 H => ?_)
      refine w_aload rfl rfl ?_
      refine w_aload rfl rfl ?_
      refine m_getR 5 20 213 hz rfl rfl rfl rfl rfl rfl (by decide) ?_
      refine w_iconst rfl ⟨by decide, by decide⟩ ?_
      refine w_iload rfl rfl ?_
      refine w_imul rfl o1 ?_
      refine m_callI rfl (fun _ => rfl) rfl (mI_mono H fun v4 I3 H => ?_)
      exact w_ireturn rfl H
    · replace H := H.2 hc
      refine w_iconst rfl ⟨by decide, by decide⟩ ?_
      exact w_ireturn rfl H
  · replace H := H.2 hc
    refine w_iconst rfl ⟨by decide, by decide⟩ ?_
    refine w_aload rfl rfl ?_
    refine m_getI 20 rfl rfl rfl (by decide) ?_
    have o5 := H.1
    replace H := H.2
    refine w_isub rfl o5 ?_
    exact w_ireturn rfl H
set_option maxHeartbeats 4000000 in
set_option maxRecDepth 100000 in
theorem mr_polynomial {d : Nat} {Q : cm_Q} {z : cm_Z} {I : cm_I} (hz : mz z) {x1 : Int} {x2 : Int}  (H : (∀ I1 : cm_I, I1 = iu I 209 0 0 → (mI d m_Model_isKept [vR 12 209, vI x1] z I1 fun v3 I2 => ((v3 = 0 → Q (some (vI (-1))) (I2, z)) ∧ (¬ v3 = 0 → (mI d m_Model_within [vI x2, vI 0, vI (I2 209 14)] z I2 fun v5 I4 => ((¬ v5 = 0 → (mU d m_Model_starts [vR 12 209, vI x2] z I4 fun I6 => (∀ I7 : cm_I, I7 = iu I6 209 27 0 → (∀ I8 : cm_I, I8 = iu I7 209 28 0 → (∀ I9 : cm_I, I9 = iu I8 209 29 0 → (mI d m_Model_sum [vR 12 209] z I9 fun v11 I10 => ((v11 = 0 → cw d cd_Model_polynomial Q 69 [some (vR 12 209), some (vI x1), some (vI x2), some (vI v11)] [] (I10, z)) ∧ (¬ v11 = 0 → (((I10 209 18) = 0 → cw d cd_Model_polynomial Q 69 [some (vR 12 209), some (vI x1), some (vI x2), some (vI v11)] [] (I10, z)) ∧ (¬ (I10 209 18) = 0 → (mI d m_Model_bad [vR 12 209, vI 1] z I10 fun v13 I12 => cw d cd_Model_polynomial Q 69 [some (vR 12 209), some (vI x1), some (vI x2), some (vI v13)] [] (I12, z)))))))))))) ∧ (v5 = 0 → Q (some (vI (-1))) (I4, z))))))))) : cm_call (d + 1) m_Model_polynomial [vR 12 209, vI x1, vI x2] (I, z) Q := by
  refine cm_call_in (C := cd_Model_polynomial) (ls := [some (vR 12 209), some (vI x1), some (vI x2), none]) rfl rfl (show 0 < 209 by decide) rfl ?_
  refine w_aload rfl rfl ?_
  refine w_iconst rfl ⟨by decide, by decide⟩ ?_
  refine m_putI 0 rfl rfl rfl (by decide) (fun I1 eI1 => ?_)
  replace H := H I1 eI1
  refine w_aload rfl rfl ?_
  refine w_iload rfl rfl ?_
  refine m_callI rfl (fun _ => rfl) rfl (mI_mono H fun v3 I2 H => ?_)
  refine w_if rfl (And.intro (fun hc => ?_) (fun hc => ?_))
  · replace H := H.1 hc
    refine w_iconst rfl ⟨by decide, by decide⟩ ?_
    exact w_ireturn rfl H
  · replace H := H.2 hc
    refine w_iload rfl rfl ?_
    refine w_iconst rfl ⟨by decide, by decide⟩ ?_
    refine w_aload rfl rfl ?_
    refine m_getI 14 rfl rfl rfl (by decide) ?_
    refine m_callI rfl (fun _ => rfl) rfl (mI_mono H fun v5 I4 H => ?_)
    refine w_if rfl (And.intro (fun hc => ?_) (fun hc => ?_))
    · replace H := H.1 hc
      refine w_aload rfl rfl ?_
      refine w_iload rfl rfl ?_
      refine m_callU rfl (fun _ => rfl) rfl (mU_mono H fun I6 H => ?_)
      refine w_aload rfl rfl ?_
      refine w_iconst rfl ⟨by decide, by decide⟩ ?_
      refine m_putI 27 rfl rfl rfl (by decide) (fun I7 eI7 => ?_)
      replace H := H I7 eI7
      refine w_aload rfl rfl ?_
      refine w_iconst rfl ⟨by decide, by decide⟩ ?_
      refine m_putZ 28 rfl rfl rfl (by decide) (by decide) (fun I8 eI8 => ?_)
      replace H := H I8 eI8
      refine w_aload rfl rfl ?_
      refine w_iconst rfl ⟨by decide, by decide⟩ ?_
      refine m_putI 29 rfl rfl rfl (by decide) (fun I9 eI9 => ?_)
      replace H := H I9 eI9
      refine w_aload rfl rfl ?_
      refine m_callI rfl (fun _ => rfl) rfl (mI_mono H fun v11 I10 H => ?_)
      refine w_istore rfl rfl ?_
      refine w_iload rfl rfl ?_
      refine w_if rfl (And.intro (fun hc => ?_) (fun hc => ?_))
      · replace H := H.1 hc
        exact H
      · replace H := H.2 hc
        refine w_aload rfl rfl ?_
        refine m_getI 18 rfl rfl rfl (by decide) ?_
        refine w_if rfl (And.intro (fun hc => ?_) (fun hc => ?_))
        · replace H := H.1 hc
          exact H
        · replace H := H.2 hc
          refine w_aload rfl rfl ?_
          refine w_iconst rfl ⟨by decide, by decide⟩ ?_
          refine m_callI rfl (fun _ => rfl) rfl (mI_mono H fun v13 I12 H => ?_)
          refine w_istore rfl rfl ?_
          exact H
    · replace H := H.2 hc
      refine w_iconst rfl ⟨by decide, by decide⟩ ?_
      exact w_ireturn rfl H
set_option maxHeartbeats 4000000 in
set_option maxRecDepth 100000 in
theorem mr_laysImages_10 {d : Nat} {Q : cm_Q} {z : cm_Z} {I : cm_I} (hz : mz z) {a1 : Nat} {x2 : Int} {x3 : Int} {x4 : Int} {z5 : Option cm_V} {z6 : Option cm_V} {z7 : Option cm_V} {z8 : Option cm_V} {z9 : Option cm_V} {z10 : Option cm_V} {z11 : Option cm_V} {z12 : Option cm_V} {z13 : Option cm_V}  (H : ((x3 < x4 → Q none (I, z)) ∧ (x4 ≤ x3 → (mI d m_Model_many [vR 12 209, vI x4] z I fun v2 I1 => (mI d m_Model_from [vR 12 209, vI x4] z I1 fun v4 I3 => cw d cd_Model_laysImages Q 32 [some (vR 12 209), some (vR 20 a1), some (vI x2), some (vI x3), some (vI x4), some (vI v2), some (vI v4), z7, z8, z9, z10, z11, z12, z13] [] (I3, z)))))) : cw d cd_Model_laysImages Q 10 [some (vR 12 209), some (vR 20 a1), some (vI x2), some (vI x3), some (vI x4), z5, z6, z7, z8, z9, z10, z11, z12, z13] [] (I, z) := by
  refine w_iload rfl rfl ?_
  refine w_iload rfl rfl ?_
  refine w_icmp rfl (And.intro (fun hc => ?_) (fun hc => ?_))
  · replace H := H.1 hc
    exact w_return rfl H
  · replace H := H.2 hc
    refine w_aload rfl rfl ?_
    refine w_iload rfl rfl ?_
    refine m_callI rfl (fun _ => rfl) rfl (mI_mono H fun v2 I1 H => ?_)
    refine w_istore rfl rfl ?_
    refine w_aload rfl rfl ?_
    refine w_iload rfl rfl ?_
    refine m_callI rfl (fun _ => rfl) rfl (mI_mono H fun v4 I3 H => ?_)
    refine w_istore rfl rfl ?_
    exact H
set_option maxHeartbeats 4000000 in
set_option maxRecDepth 100000 in
theorem mr_laysImages_32 {d : Nat} {Q : cm_Q} {z : cm_Z} {I : cm_I} (hz : mz z) {a1 : Nat} {x2 : Int} {x3 : Int} {x4 : Int} {x5 : Int} {x6 : Int} {z7 : Option cm_V} {z8 : Option cm_V} {z9 : Option cm_V} {z10 : Option cm_V} {z11 : Option cm_V} {z12 : Option cm_V} {z13 : Option cm_V}  (H : (cm_i (x4 + 1) ∧ (mI d m_Model_from [vR 12 209, vI (x4 + 1)] z I fun v3 I2 => ((v3 ≤ x6 → cw d cd_Model_laysImages Q 10 [some (vR 12 209), some (vR 20 a1), some (vI x2), some (vI x3), some (vI (x4 + 1)), some (vI x5), some (vI x6), z7, z8, z9, z10, z11, z12, z13] [] (I2, z)) ∧ (x6 < v3 → ((0:Int) ≤ x6 ∧ x6 < 1140) ∧ (((I2 210 x6) ≤ 0 → (((I2 211 x6) ≤ 0 → cw d cd_Model_laysImages Q 74 [some (vR 12 209), some (vR 20 a1), some (vI x2), some (vI x3), some (vI x4), some (vI x5), some (vI x6), z7, z8, z9, z10, z11, z12, z13] [vI 2] (I2, z)) ∧ (0 < (I2 211 x6) → cw d cd_Model_laysImages Q 74 [some (vR 12 209), some (vR 20 a1), some (vI x2), some (vI x3), some (vI x4), some (vI x5), some (vI x6), z7, z8, z9, z10, z11, z12, z13] [vI 1] (I2, z)))) ∧ (0 < (I2 210 x6) → cw d cd_Model_laysImages Q 74 [some (vR 12 209), some (vR 20 a1), some (vI x2), some (vI x3), some (vI x4), some (vI x5), some (vI x6), z7, z8, z9, z10, z11, z12, z13] [vI 0] (I2, z)))))))) : cw d cd_Model_laysImages Q 32 [some (vR 12 209), some (vR 20 a1), some (vI x2), some (vI x3), some (vI x4), some (vI x5), some (vI x6), z7, z8, z9, z10, z11, z12, z13] [] (I, z) := by
  refine w_iload rfl rfl ?_
  refine w_aload rfl rfl ?_
  refine w_iload rfl rfl ?_
  refine w_iconst rfl ⟨by decide, by decide⟩ ?_
  have o1 := H.1
  replace H := H.2
  refine w_iadd rfl o1 ?_
  refine m_callI rfl (fun _ => rfl) rfl (mI_mono H fun v3 I2 H => ?_)
  refine w_icmp rfl (And.intro (fun hc => ?_) (fun hc => ?_))
  · replace H := H.1 hc
    refine w_iinc rfl rfl rfl o1 ?_
    refine w_goto rfl ?_
    exact H
  · replace H := H.2 hc
    refine w_aload rfl rfl ?_
    refine m_getR 2 20 210 hz rfl rfl rfl rfl rfl rfl (by decide) ?_
    refine w_iload rfl rfl ?_
    have o4 := H.1
    replace H := H.2
    refine m_iaload hz (by unfold mA; decide) rfl o4 ?_
    refine w_if rfl (And.intro (fun hc => ?_) (fun hc => ?_))
    · replace H := H.1 hc
      refine w_aload rfl rfl ?_
      refine m_getR 3 20 211 hz rfl rfl rfl rfl rfl rfl (by decide) ?_
      refine w_iload rfl rfl ?_
      refine m_iaload hz (by unfold mA; decide) rfl o4 ?_
      refine w_if rfl (And.intro (fun hc => ?_) (fun hc => ?_))
      · replace H := H.1 hc
        refine w_iconst rfl ⟨by decide, by decide⟩ ?_
        exact H
      · replace H := H.2 hc
        refine w_iconst rfl ⟨by decide, by decide⟩ ?_
        refine w_goto rfl ?_
        exact H
    · replace H := H.2 hc
      refine w_iconst rfl ⟨by decide, by decide⟩ ?_
      refine w_goto rfl ?_
      exact H
set_option maxHeartbeats 4000000 in
set_option maxRecDepth 100000 in
theorem mr_laysImages_74 {d : Nat} {Q : cm_Q} {z : cm_Z} {I : cm_I} (hz : mz z) {a1 : Nat} {x2 : Int} {x3 : Int} {x4 : Int} {x5 : Int} {x6 : Int} {z7 : Option cm_V} {z8 : Option cm_V} {z9 : Option cm_V} {z10 : Option cm_V} {z11 : Option cm_V} {z12 : Option cm_V} {z13 : Option cm_V} {s0 : Int}  (H : ((0:Int) ≤ x6 ∧ x6 < 1140) ∧ ((¬ s0 = 0 → cw d cd_Model_laysImages Q 94 [some (vR 12 209), some (vR 20 a1), some (vI x2), some (vI x3), some (vI x4), some (vI x5), some (vI x6), some (vI s0), z8, z9, z10, z11, z12, z13] [vI 0, vI (I 210 x6), vR 12 209] (I, z)) ∧ (s0 = 0 → cw d cd_Model_laysImages Q 94 [some (vR 12 209), some (vR 20 a1), some (vI x2), some (vI x3), some (vI x4), some (vI x5), some (vI x6), some (vI s0), z8, z9, z10, z11, z12, z13] [vI 1, vI (I 210 x6), vR 12 209] (I, z)))) : cw d cd_Model_laysImages Q 74 [some (vR 12 209), some (vR 20 a1), some (vI x2), some (vI x3), some (vI x4), some (vI x5), some (vI x6), z7, z8, z9, z10, z11, z12, z13] [vI s0] (I, z) := by
  refine w_istore rfl rfl ?_
  refine w_aload rfl rfl ?_
  refine w_aload rfl rfl ?_
  refine m_getR 2 20 210 hz rfl rfl rfl rfl rfl rfl (by decide) ?_
  refine w_iload rfl rfl ?_
  have o1 := H.1
  replace H := H.2
  refine m_iaload hz (by unfold mA; decide) rfl o1 ?_
  refine w_iload rfl rfl ?_
  refine w_if rfl (And.intro (fun hc => ?_) (fun hc => ?_))
  · replace H := H.1 hc
    refine w_iconst rfl ⟨by decide, by decide⟩ ?_
    exact H
  · replace H := H.2 hc
    refine w_iconst rfl ⟨by decide, by decide⟩ ?_
    refine w_goto rfl ?_
    exact H
set_option maxHeartbeats 4000000 in
set_option maxRecDepth 100000 in
theorem mr_laysImages_94 {d : Nat} {Q : cm_Q} {z : cm_Z} {I : cm_I} (hz : mz z) {a1 : Nat} {x2 : Int} {x3 : Int} {x4 : Int} {x5 : Int} {x6 : Int} {x7 : Int} {z8 : Option cm_V} {z9 : Option cm_V} {z10 : Option cm_V} {z11 : Option cm_V} {z12 : Option cm_V} {z13 : Option cm_V} {s0 : Int} {s1 : Int}  (H : (cm_i (s1 - s0) ∧ ((0:Int) ≤ x6 ∧ x6 < 1140) ∧ ((¬ x7 = 1 → cw d cd_Model_laysImages Q 113 [some (vR 12 209), some (vR 20 a1), some (vI x2), some (vI x3), some (vI x4), some (vI x5), some (vI x6), some (vI x7), z8, z9, z10, z11, z12, z13] [vI 0, vI (I 211 x6), vI (s1 - s0), vR 12 209] (I, z)) ∧ (x7 = 1 → cw d cd_Model_laysImages Q 113 [some (vR 12 209), some (vR 20 a1), some (vI x2), some (vI x3), some (vI x4), some (vI x5), some (vI x6), some (vI x7), z8, z9, z10, z11, z12, z13] [vI 1, vI (I 211 x6), vI (s1 - s0), vR 12 209] (I, z))))) : cw d cd_Model_laysImages Q 94 [some (vR 12 209), some (vR 20 a1), some (vI x2), some (vI x3), some (vI x4), some (vI x5), some (vI x6), some (vI x7), z8, z9, z10, z11, z12, z13] [vI s0, vI s1, vR 12 209] (I, z) := by
  have o1 := H.1
  replace H := H.2
  refine w_isub rfl o1 ?_
  refine w_aload rfl rfl ?_
  refine m_getR 3 20 211 hz rfl rfl rfl rfl rfl rfl (by decide) ?_
  refine w_iload rfl rfl ?_
  have o2 := H.1
  replace H := H.2
  refine m_iaload hz (by unfold mA; decide) rfl o2 ?_
  refine w_iload rfl rfl ?_
  refine w_iconst rfl ⟨by decide, by decide⟩ ?_
  refine w_icmp rfl (And.intro (fun hc => ?_) (fun hc => ?_))
  · replace H := H.1 hc
    refine w_iconst rfl ⟨by decide, by decide⟩ ?_
    exact H
  · replace H := H.2 hc
    refine w_iconst rfl ⟨by decide, by decide⟩ ?_
    refine w_goto rfl ?_
    exact H
set_option maxHeartbeats 4000000 in
set_option maxRecDepth 100000 in
theorem mr_laysImages_113 {d : Nat} {Q : cm_Q} {z : cm_Z} {I : cm_I} (hz : mz z) {a1 : Nat} {x2 : Int} {x3 : Int} {x4 : Int} {x5 : Int} {x6 : Int} {x7 : Int} {z8 : Option cm_V} {z9 : Option cm_V} {z10 : Option cm_V} {z11 : Option cm_V} {z12 : Option cm_V} {z13 : Option cm_V} {s0 : Int} {s1 : Int} {s2 : Int}  (H : (cm_i (s1 - s0) ∧ ((0:Int) ≤ x6 ∧ x6 < 1140) ∧ ((¬ x7 = 2 → (cm_i ((I 212 x6) - 0) ∧ (mI d m_Model_at [vR 12 209, vI s2, vI (s1 - s0), vI ((I 212 x6) - 0)] z I fun v5 I4 => cw d cd_Model_laysImages Q 141 [some (vR 12 209), some (vR 20 a1), some (vI x2), some (vI x3), some (vI x4), some (vI x5), some (vI x6), some (vI x7), some (vI v5), some (vI 0), z10, z11, z12, z13] [] (I4, z)))) ∧ (x7 = 2 → (cm_i ((I 212 x6) - 1) ∧ (mI d m_Model_at [vR 12 209, vI s2, vI (s1 - s0), vI ((I 212 x6) - 1)] z I fun v8 I7 => cw d cd_Model_laysImages Q 141 [some (vR 12 209), some (vR 20 a1), some (vI x2), some (vI x3), some (vI x4), some (vI x5), some (vI x6), some (vI x7), some (vI v8), some (vI 0), z10, z11, z12, z13] [] (I7, z))))))) : cw d cd_Model_laysImages Q 113 [some (vR 12 209), some (vR 20 a1), some (vI x2), some (vI x3), some (vI x4), some (vI x5), some (vI x6), some (vI x7), z8, z9, z10, z11, z12, z13] [vI s0, vI s1, vI s2, vR 12 209] (I, z) := by
  have o1 := H.1
  replace H := H.2
  refine w_isub rfl o1 ?_
  refine w_aload rfl rfl ?_
  refine m_getR 4 20 212 hz rfl rfl rfl rfl rfl rfl (by decide) ?_
  refine w_iload rfl rfl ?_
  have o2 := H.1
  replace H := H.2
  refine m_iaload hz (by unfold mA; decide) rfl o2 ?_
  refine w_iload rfl rfl ?_
  refine w_iconst rfl ⟨by decide, by decide⟩ ?_
  refine w_icmp rfl (And.intro (fun hc => ?_) (fun hc => ?_))
  · replace H := H.1 hc
    refine w_iconst rfl ⟨by decide, by decide⟩ ?_
    have o3 := H.1
    replace H := H.2
    refine w_isub rfl o3 ?_
    refine m_callI rfl (fun _ => rfl) rfl (mI_mono H fun v5 I4 H => ?_)
    refine w_istore rfl rfl ?_
    refine w_iconst rfl ⟨by decide, by decide⟩ ?_
    refine w_istore rfl rfl ?_
    exact H
  · replace H := H.2 hc
    refine w_iconst rfl ⟨by decide, by decide⟩ ?_
    refine w_goto rfl ?_
    have o6 := H.1
    replace H := H.2
    refine w_isub rfl o6 ?_
    refine m_callI rfl (fun _ => rfl) rfl (mI_mono H fun v8 I7 H => ?_)
    refine w_istore rfl rfl ?_
    refine w_iconst rfl ⟨by decide, by decide⟩ ?_
    refine w_istore rfl rfl ?_
    exact H
set_option maxHeartbeats 4000000 in
set_option maxRecDepth 100000 in
theorem mr_laysImages_141 {d : Nat} {Q : cm_Q} {z : cm_Z} {I : cm_I} (hz : mz z) {a1 : Nat} {x2 : Int} {x3 : Int} {x4 : Int} {x5 : Int} {x6 : Int} {x7 : Int} {x8 : Int} {x9 : Int} {z10 : Option cm_V} {z11 : Option cm_V} {z12 : Option cm_V} {z13 : Option cm_V}  (H : ((x5 ≤ x9 → cw d cd_Model_laysImages Q 172 [some (vR 12 209), some (vR 20 a1), some (vI x2), some (vI x3), some (vI x4), some (vI x5), some (vI x6), some (vI x7), some (vI x8), some (vI 0), z10, z11, z12, z13] [] (I, z)) ∧ (x9 < x5 → (cm_i (136 * x6) ∧ (cm_i ((136 * x6) + x9) ∧ ((0:Int) ≤ ((136 * x6) + x9) ∧ ((136 * x6) + x9) < 111000) ∧ (∀ I4 : cm_I, I4 = iu I 224 ((136 * x6) + x9) 0 → (cm_i (x9 + 1) ∧ cw d cd_Model_laysImages Q 141 [some (vR 12 209), some (vR 20 a1), some (vI x2), some (vI x3), some (vI x4), some (vI x5), some (vI x6), some (vI x7), some (vI x8), some (vI (x9 + 1)), z10, z11, z12, z13] [] (I4, z)))))))) : cw d cd_Model_laysImages Q 141 [some (vR 12 209), some (vR 20 a1), some (vI x2), some (vI x3), some (vI x4), some (vI x5), some (vI x6), some (vI x7), some (vI x8), some (vI x9), z10, z11, z12, z13] [] (I, z) := by
  refine w_iload rfl rfl ?_
  refine w_iload rfl rfl ?_
  refine w_icmp rfl (And.intro (fun hc => ?_) (fun hc => ?_))
  · replace H := H.1 hc
    refine w_iconst rfl ⟨by decide, by decide⟩ ?_
    refine w_istore rfl rfl ?_
    exact H
  · replace H := H.2 hc
    refine w_aload rfl rfl ?_
    refine m_getR 30 20 224 hz rfl rfl rfl rfl rfl rfl (by decide) ?_
    refine w_iconst rfl ⟨by decide, by decide⟩ ?_
    refine w_iload rfl rfl ?_
    have o1 := H.1
    replace H := H.2
    refine w_imul rfl o1 ?_
    refine w_iload rfl rfl ?_
    have o2 := H.1
    replace H := H.2
    refine w_iadd rfl o2 ?_
    refine w_iconst rfl ⟨by decide, by decide⟩ ?_
    have o3 := H.1
    replace H := H.2
    refine m_iastore hz (by unfold mA; decide) rfl o3 (fun I4 eI4 => ?_)
    replace H := H I4 eI4
    have o5 := H.1
    replace H := H.2
    refine w_iinc rfl rfl rfl o5 ?_
    refine w_goto rfl ?_
    exact H
set_option maxHeartbeats 4000000 in
set_option maxRecDepth 100000 in
theorem mr_laysImages_172 {d : Nat} {Q : cm_Q} {z : cm_Z} {I : cm_I} (hz : mz z) {a1 : Nat} {x2 : Int} {x3 : Int} {x4 : Int} {x5 : Int} {x6 : Int} {x7 : Int} {x8 : Int} {x9 : Int} {z10 : Option cm_V} {z11 : Option cm_V} {z12 : Option cm_V} {z13 : Option cm_V}  (H : (cm_i (x4 - 1) ∧ (mI d m_Model_many [vR 12 209, vI (x4 - 1)] z I fun v3 I2 => ((v3 ≤ x9 → (cm_i (x6 + 1) ∧ cw d cd_Model_laysImages Q 32 [some (vR 12 209), some (vR 20 a1), some (vI x2), some (vI x3), some (vI x4), some (vI x5), some (vI (x6 + 1)), some (vI x7), some (vI x8), some (vI x9), z10, z11, z12, z13] [] (I2, z))) ∧ (x9 < v3 → (cm_i (136 * x8) ∧ (cm_i ((136 * x8) + x9) ∧ ((0:Int) ≤ ((136 * x8) + x9) ∧ ((136 * x8) + x9) < 111000) ∧ (mI d m_Model_from [vR 12 209, vI (x4 - 1)] z I2 fun v9 I8 => (cm_i (v9 + x9) ∧ cw d cd_Model_laysImages Q 217 [some (vR 12 209), some (vR 20 a1), some (vI x2), some (vI x3), some (vI x4), some (vI x5), some (vI x6), some (vI x7), some (vI x8), some (vI x9), some (vI (I2 224 ((136 * x8) + x9))), some (vI (v9 + x9)), some (vI 0), z13] [] (I8, z)))))))))) : cw d cd_Model_laysImages Q 172 [some (vR 12 209), some (vR 20 a1), some (vI x2), some (vI x3), some (vI x4), some (vI x5), some (vI x6), some (vI x7), some (vI x8), some (vI x9), z10, z11, z12, z13] [] (I, z) := by
  refine w_iload rfl rfl ?_
  refine w_aload rfl rfl ?_
  refine w_iload rfl rfl ?_
  refine w_iconst rfl ⟨by decide, by decide⟩ ?_
  have o1 := H.1
  replace H := H.2
  refine w_isub rfl o1 ?_
  refine m_callI rfl (fun _ => rfl) rfl (mI_mono H fun v3 I2 H => ?_)
  refine w_icmp rfl (And.intro (fun hc => ?_) (fun hc => ?_))
  · replace H := H.1 hc
    have o4 := H.1
    replace H := H.2
    refine w_iinc rfl rfl rfl o4 ?_
    refine w_goto rfl ?_
    exact H
  · replace H := H.2 hc
    refine w_aload rfl rfl ?_
    refine m_getR 30 20 224 hz rfl rfl rfl rfl rfl rfl (by decide) ?_
    refine w_iconst rfl ⟨by decide, by decide⟩ ?_
    refine w_iload rfl rfl ?_
    have o5 := H.1
    replace H := H.2
    refine w_imul rfl o5 ?_
    refine w_iload rfl rfl ?_
    have o6 := H.1
    replace H := H.2
    refine w_iadd rfl o6 ?_
    have o7 := H.1
    replace H := H.2
    refine m_iaload hz (by unfold mA; decide) rfl o7 ?_
    refine w_istore rfl rfl ?_
    refine w_aload rfl rfl ?_
    refine w_iload rfl rfl ?_
    refine w_iconst rfl ⟨by decide, by decide⟩ ?_
    refine w_isub rfl o1 ?_
    refine m_callI rfl (fun _ => rfl) rfl (mI_mono H fun v9 I8 H => ?_)
    refine w_iload rfl rfl ?_
    have o10 := H.1
    replace H := H.2
    refine w_iadd rfl o10 ?_
    refine w_istore rfl rfl ?_
    refine w_iconst rfl ⟨by decide, by decide⟩ ?_
    refine w_istore rfl rfl ?_
    exact H
set_option maxHeartbeats 4000000 in
set_option maxRecDepth 100000 in
theorem mr_laysImages_217 {d : Nat} {Q : cm_Q} {z : cm_Z} {I : cm_I} (hz : mz z) {a1 : Nat} {x2 : Int} {x3 : Int} {x4 : Int} {x5 : Int} {x6 : Int} {x7 : Int} {x8 : Int} {x9 : Int} {x10 : Int} {x11 : Int} {x12 : Int} {z13 : Option cm_V}  (H : (((I 209 1) ≤ x12 → (cm_i (x9 + 1) ∧ cw d cd_Model_laysImages Q 172 [some (vR 12 209), some (vR 20 a1), some (vI x2), some (vI x3), some (vI x4), some (vI x5), some (vI x6), some (vI x7), some (vI x8), some (vI (x9 + 1)), some (vI x10), some (vI x11), some (vI x12), z13] [] (I, z))) ∧ (x12 < (I 209 1) → ((x10 = 0 → (cm_i (x9 + 1) ∧ cw d cd_Model_laysImages Q 172 [some (vR 12 209), some (vR 20 a1), some (vI x2), some (vI x3), some (vI x4), some (vI x5), some (vI x6), some (vI x7), some (vI x8), some (vI (x9 + 1)), some (vI x10), some (vI x11), some (vI x12), z13] [] (I, z))) ∧ (¬ x10 = 0 → ((0:Int) ≤ x11 ∧ x11 < 1140) ∧ ((¬ x12 = 0 → cw d cd_Model_laysImages Q 249 [some (vR 12 209), some (vR 20 a1), some (vI x2), some (vI x3), some (vI x4), some (vI x5), some (vI x6), some (vI x7), some (vI x8), some (vI x9), some (vI x10), some (vI x11), some (vI x12), z13] [vI 0, vI (I 210 x11), vR 12 209] (I, z)) ∧ (x12 = 0 → cw d cd_Model_laysImages Q 249 [some (vR 12 209), some (vR 20 a1), some (vI x2), some (vI x3), some (vI x4), some (vI x5), some (vI x6), some (vI x7), some (vI x8), some (vI x9), some (vI x10), some (vI x11), some (vI x12), z13] [vI 1, vI (I 210 x11), vR 12 209] (I, z)))))))) : cw d cd_Model_laysImages Q 217 [some (vR 12 209), some (vR 20 a1), some (vI x2), some (vI x3), some (vI x4), some (vI x5), some (vI x6), some (vI x7), some (vI x8), some (vI x9), some (vI x10), some (vI x11), some (vI x12), z13] [] (I, z) := by
  refine w_iload rfl rfl ?_
  refine w_aload rfl rfl ?_
  refine m_getI 1 rfl rfl rfl (by decide) ?_
  refine w_icmp rfl (And.intro (fun hc => ?_) (fun hc => ?_))
  · replace H := H.1 hc
    have o1 := H.1
    replace H := H.2
    refine w_iinc rfl rfl rfl o1 ?_
    refine w_goto rfl ?_
    exact H
  · replace H := H.2 hc
    refine w_iload rfl rfl ?_
    refine w_if rfl (And.intro (fun hc => ?_) (fun hc => ?_))
    · replace H := H.1 hc
      have o2 := H.1
      replace H := H.2
      refine w_iinc rfl rfl rfl o2 ?_
      refine w_goto rfl ?_
      exact H
    · replace H := H.2 hc
      refine w_aload rfl rfl ?_
      refine w_aload rfl rfl ?_
      refine m_getR 2 20 210 hz rfl rfl rfl rfl rfl rfl (by decide) ?_
      refine w_iload rfl rfl ?_
      have o3 := H.1
      replace H := H.2
      refine m_iaload hz (by unfold mA; decide) rfl o3 ?_
      refine w_iload rfl rfl ?_
      refine w_if rfl (And.intro (fun hc => ?_) (fun hc => ?_))
      · replace H := H.1 hc
        refine w_iconst rfl ⟨by decide, by decide⟩ ?_
        exact H
      · replace H := H.2 hc
        refine w_iconst rfl ⟨by decide, by decide⟩ ?_
        refine w_goto rfl ?_
        exact H
set_option maxHeartbeats 4000000 in
set_option maxRecDepth 100000 in
theorem mr_laysImages_249 {d : Nat} {Q : cm_Q} {z : cm_Z} {I : cm_I} (hz : mz z) {a1 : Nat} {x2 : Int} {x3 : Int} {x4 : Int} {x5 : Int} {x6 : Int} {x7 : Int} {x8 : Int} {x9 : Int} {x10 : Int} {x11 : Int} {x12 : Int} {z13 : Option cm_V} {s0 : Int} {s1 : Int}  (H : (cm_i (s1 + s0) ∧ ((0:Int) ≤ x11 ∧ x11 < 1140) ∧ ((¬ x12 = 1 → cw d cd_Model_laysImages Q 268 [some (vR 12 209), some (vR 20 a1), some (vI x2), some (vI x3), some (vI x4), some (vI x5), some (vI x6), some (vI x7), some (vI x8), some (vI x9), some (vI x10), some (vI x11), some (vI x12), z13] [vI 0, vI (I 211 x11), vI (s1 + s0), vR 12 209] (I, z)) ∧ (x12 = 1 → cw d cd_Model_laysImages Q 268 [some (vR 12 209), some (vR 20 a1), some (vI x2), some (vI x3), some (vI x4), some (vI x5), some (vI x6), some (vI x7), some (vI x8), some (vI x9), some (vI x10), some (vI x11), some (vI x12), z13] [vI 1, vI (I 211 x11), vI (s1 + s0), vR 12 209] (I, z))))) : cw d cd_Model_laysImages Q 249 [some (vR 12 209), some (vR 20 a1), some (vI x2), some (vI x3), some (vI x4), some (vI x5), some (vI x6), some (vI x7), some (vI x8), some (vI x9), some (vI x10), some (vI x11), some (vI x12), z13] [vI s0, vI s1, vR 12 209] (I, z) := by
  have o1 := H.1
  replace H := H.2
  refine w_iadd rfl o1 ?_
  refine w_aload rfl rfl ?_
  refine m_getR 3 20 211 hz rfl rfl rfl rfl rfl rfl (by decide) ?_
  refine w_iload rfl rfl ?_
  have o2 := H.1
  replace H := H.2
  refine m_iaload hz (by unfold mA; decide) rfl o2 ?_
  refine w_iload rfl rfl ?_
  refine w_iconst rfl ⟨by decide, by decide⟩ ?_
  refine w_icmp rfl (And.intro (fun hc => ?_) (fun hc => ?_))
  · replace H := H.1 hc
    refine w_iconst rfl ⟨by decide, by decide⟩ ?_
    exact H
  · replace H := H.2 hc
    refine w_iconst rfl ⟨by decide, by decide⟩ ?_
    refine w_goto rfl ?_
    exact H
set_option maxHeartbeats 4000000 in
set_option maxRecDepth 100000 in
theorem mr_laysImages_268 {d : Nat} {Q : cm_Q} {z : cm_Z} {I : cm_I} (hz : mz z) {a1 : Nat} {x2 : Int} {x3 : Int} {x4 : Int} {x5 : Int} {x6 : Int} {x7 : Int} {x8 : Int} {x9 : Int} {x10 : Int} {x11 : Int} {x12 : Int} {z13 : Option cm_V} {s0 : Int} {s1 : Int} {s2 : Int}  (H : (cm_i (s1 + s0) ∧ ((0:Int) ≤ x11 ∧ x11 < 1140) ∧ ((¬ x12 = 2 → cw d cd_Model_laysImages Q 287 [some (vR 12 209), some (vR 20 a1), some (vI x2), some (vI x3), some (vI x4), some (vI x5), some (vI x6), some (vI x7), some (vI x8), some (vI x9), some (vI x10), some (vI x11), some (vI x12), z13] [vI 0, vI (I 212 x11), vI (s1 + s0), vI s2, vR 12 209] (I, z)) ∧ (x12 = 2 → cw d cd_Model_laysImages Q 287 [some (vR 12 209), some (vR 20 a1), some (vI x2), some (vI x3), some (vI x4), some (vI x5), some (vI x6), some (vI x7), some (vI x8), some (vI x9), some (vI x10), some (vI x11), some (vI x12), z13] [vI 1, vI (I 212 x11), vI (s1 + s0), vI s2, vR 12 209] (I, z))))) : cw d cd_Model_laysImages Q 268 [some (vR 12 209), some (vR 20 a1), some (vI x2), some (vI x3), some (vI x4), some (vI x5), some (vI x6), some (vI x7), some (vI x8), some (vI x9), some (vI x10), some (vI x11), some (vI x12), z13] [vI s0, vI s1, vI s2, vR 12 209] (I, z) := by
  have o1 := H.1
  replace H := H.2
  refine w_iadd rfl o1 ?_
  refine w_aload rfl rfl ?_
  refine m_getR 4 20 212 hz rfl rfl rfl rfl rfl rfl (by decide) ?_
  refine w_iload rfl rfl ?_
  have o2 := H.1
  replace H := H.2
  refine m_iaload hz (by unfold mA; decide) rfl o2 ?_
  refine w_iload rfl rfl ?_
  refine w_iconst rfl ⟨by decide, by decide⟩ ?_
  refine w_icmp rfl (And.intro (fun hc => ?_) (fun hc => ?_))
  · replace H := H.1 hc
    refine w_iconst rfl ⟨by decide, by decide⟩ ?_
    exact H
  · replace H := H.2 hc
    refine w_iconst rfl ⟨by decide, by decide⟩ ?_
    refine w_goto rfl ?_
    exact H
set_option maxHeartbeats 4000000 in
set_option maxRecDepth 100000 in
theorem mr_laysImages_287 {d : Nat} {Q : cm_Q} {z : cm_Z} {I : cm_I} (hz : mz z) {a1 : Nat} {x2 : Int} {x3 : Int} {x4 : Int} {x5 : Int} {x6 : Int} {x7 : Int} {x8 : Int} {x9 : Int} {x10 : Int} {x11 : Int} {x12 : Int} {z13 : Option cm_V} {s0 : Int} {s1 : Int} {s2 : Int} {s3 : Int}  (H : (cm_i (s1 + s0) ∧ (mI d m_Model_at [vR 12 209, vI s3, vI s2, vI (s1 + s0)] z I fun v3 I2 => (mI d m_Model_from [vR 12 209, vI x4] z I2 fun v5 I4 => (cm_i (v3 - v5) ∧ (cm_i (136 * x6) ∧ (cm_i ((136 * x6) + (v3 - v5)) ∧ ((0:Int) ≤ ((136 * x6) + (v3 - v5)) ∧ ((136 * x6) + (v3 - v5)) < 111000) ∧ (mI d m_Model_entry [vR 12 209, vR 20 a1, vI x2, vI x7, vI x12] z I4 fun v11 I10 => (cm_i (x10 * v11) ∧ (cm_i ((I4 224 ((136 * x6) + (v3 - v5))) + (x10 * v11)) ∧ (∀ I14 : cm_I, I14 = iu I10 224 ((136 * x6) + (v3 - v5)) (Int.tmod ((I4 224 ((136 * x6) + (v3 - v5))) + (x10 * v11)) 2521) → (cm_i (x12 + 1) ∧ cw d cd_Model_laysImages Q 217 [some (vR 12 209), some (vR 20 a1), some (vI x2), some (vI x3), some (vI x4), some (vI x5), some (vI x6), some (vI x7), some (vI x8), some (vI x9), some (vI x10), some (vI x11), some (vI (x12 + 1)), some (vI (v3 - v5))] [] (I14, z))))))))))))) : cw d cd_Model_laysImages Q 287 [some (vR 12 209), some (vR 20 a1), some (vI x2), some (vI x3), some (vI x4), some (vI x5), some (vI x6), some (vI x7), some (vI x8), some (vI x9), some (vI x10), some (vI x11), some (vI x12), z13] [vI s0, vI s1, vI s2, vI s3, vR 12 209] (I, z) := by
  have o1 := H.1
  replace H := H.2
  refine w_iadd rfl o1 ?_
  refine m_callI rfl (fun _ => rfl) rfl (mI_mono H fun v3 I2 H => ?_)
  refine w_aload rfl rfl ?_
  refine w_iload rfl rfl ?_
  refine m_callI rfl (fun _ => rfl) rfl (mI_mono H fun v5 I4 H => ?_)
  have o6 := H.1
  replace H := H.2
  refine w_isub rfl o6 ?_
  refine w_istore rfl rfl ?_
  refine w_aload rfl rfl ?_
  refine m_getR 30 20 224 hz rfl rfl rfl rfl rfl rfl (by decide) ?_
  refine w_iconst rfl ⟨by decide, by decide⟩ ?_
  refine w_iload rfl rfl ?_
  have o7 := H.1
  replace H := H.2
  refine w_imul rfl o7 ?_
  refine w_iload rfl rfl ?_
  have o8 := H.1
  replace H := H.2
  refine w_iadd rfl o8 ?_
  refine w_aload rfl rfl ?_
  refine m_getR 30 20 224 hz rfl rfl rfl rfl rfl rfl (by decide) ?_
  refine w_iconst rfl ⟨by decide, by decide⟩ ?_
  refine w_iload rfl rfl ?_
  refine w_imul rfl o7 ?_
  refine w_iload rfl rfl ?_
  refine w_iadd rfl o8 ?_
  have o9 := H.1
  replace H := H.2
  refine m_iaload hz (by unfold mA; decide) rfl o9 ?_
  refine w_iload rfl rfl ?_
  refine w_aload rfl rfl ?_
  refine w_aload rfl rfl ?_
  refine w_iload rfl rfl ?_
  refine w_iload rfl rfl ?_
  refine w_iload rfl rfl ?_
  refine m_callI rfl (fun _ => rfl) rfl (mI_mono H fun v11 I10 H => ?_)
  have o12 := H.1
  replace H := H.2
  refine w_imul rfl o12 ?_
  have o13 := H.1
  replace H := H.2
  refine w_iadd rfl o13 ?_
  refine w_iconst rfl ⟨by decide, by decide⟩ ?_
  refine w_irem rfl (by decide) ?_
  refine m_iastore hz (by unfold mA; decide) rfl o9 (fun I14 eI14 => ?_)
  replace H := H I14 eI14
  have o15 := H.1
  replace H := H.2
  refine w_iinc rfl rfl rfl o15 ?_
  refine w_goto rfl ?_
  exact H
set_option maxHeartbeats 4000000 in
set_option maxRecDepth 100000 in
theorem mr_laysImages {d : Nat} {Q : cm_Q} {z : cm_Z} {I : cm_I} (hz : mz z) {a1 : Nat} {x2 : Int} {x3 : Int}  (H : (∀ I1 : cm_I, I1 = iu I 224 0 1 → cw d cd_Model_laysImages Q 10 [some (vR 12 209), some (vR 20 a1), some (vI x2), some (vI x3), some (vI 1), none, none, none, none, none, none, none, none, none] [] (I1, z))) : cm_call (d + 1) m_Model_laysImages [vR 12 209, vR 20 a1, vI x2, vI x3] (I, z) Q := by
  refine cm_call_in (C := cd_Model_laysImages) (ls := [some (vR 12 209), some (vR 20 a1), some (vI x2), some (vI x3), none, none, none, none, none, none, none, none, none, none]) rfl rfl (show 0 < 209 by decide) rfl ?_
  refine w_aload rfl rfl ?_
  refine m_getR 30 20 224 hz rfl rfl rfl rfl rfl rfl (by decide) ?_
  refine w_iconst rfl ⟨by decide, by decide⟩ ?_
  refine w_iconst rfl ⟨by decide, by decide⟩ ?_
  refine m_iastore hz (by unfold mA; decide) rfl (by decide) (fun I1 eI1 => ?_)
  replace H := H I1 eI1
  refine w_iconst rfl ⟨by decide, by decide⟩ ?_
  refine w_istore rfl rfl ?_
  exact H
set_option maxHeartbeats 4000000 in
set_option maxRecDepth 100000 in
theorem mr_moves_26 {d : Nat} {Q : cm_Q} {z : cm_Z} {I : cm_I} (hz : mz z) {a1 : Nat} {x2 : Int} {z3 : Option cm_V} {z4 : Option cm_V} {a5 : Nat} {x6 : Int} {x7 : Int} {z8 : Option cm_V} {z9 : Option cm_V} (p_a1 : mA a1) (H : (cm_i (x6 + 1) ∧ (mI d m_Model_from [vR 12 209, vI (x6 + 1)] z I fun v3 I2 => ((v3 ≤ x7 → Q none (I2, z)) ∧ (x7 < v3 → (cm_i (x2 + x7) ∧ ((0:Int) ≤ (x2 + x7) ∧ (x2 + x7) < mLen a1) ∧ (((I2 a1 (x2 + x7)) = 0 → (cm_i (x7 + 1) ∧ cw d cd_Model_moves Q 26 [some (vR 12 209), some (vR 20 a1), some (vI x2), z3, z4, some (vR 20 a5), some (vI x6), some (vI (x7 + 1)), z8, z9] [] (I2, z))) ∧ (¬ (I2 a1 (x2 + x7)) = 0 → (mI d m_Model_degreeAt [vR 12 209, vI x7] z I2 fun v8 I7 => cw d cd_Model_moves Q 59 [some (vR 12 209), some (vR 20 a1), some (vI x2), z3, z4, some (vR 20 a5), some (vI x6), some (vI x7), some (vI v8), some (vI 0)] [] (I7, z)))))))))) : cw d cd_Model_moves Q 26 [some (vR 12 209), some (vR 20 a1), some (vI x2), z3, z4, some (vR 20 a5), some (vI x6), some (vI x7), z8, z9] [] (I, z) := by
  refine w_iload rfl rfl ?_
  refine w_aload rfl rfl ?_
  refine w_iload rfl rfl ?_
  refine w_iconst rfl ⟨by decide, by decide⟩ ?_
  have o1 := H.1
  replace H := H.2
  refine w_iadd rfl o1 ?_
  refine m_callI rfl (fun _ => rfl) rfl (mI_mono H fun v3 I2 H => ?_)
  refine w_icmp rfl (And.intro (fun hc => ?_) (fun hc => ?_))
  · replace H := H.1 hc
    exact w_return rfl H
  · replace H := H.2 hc
    refine w_aload rfl rfl ?_
    refine w_iload rfl rfl ?_
    refine w_iload rfl rfl ?_
    have o4 := H.1
    replace H := H.2
    refine w_iadd rfl o4 ?_
    have o5 := H.1
    replace H := H.2
    refine m_iaload hz p_a1 rfl o5 ?_
    refine w_if rfl (And.intro (fun hc => ?_) (fun hc => ?_))
    · replace H := H.1 hc
      have o6 := H.1
      replace H := H.2
      refine w_iinc rfl rfl rfl o6 ?_
      refine w_goto rfl ?_
      exact H
    · replace H := H.2 hc
      refine w_aload rfl rfl ?_
      refine w_iload rfl rfl ?_
      refine m_callI rfl (fun _ => rfl) rfl (mI_mono H fun v8 I7 H => ?_)
      refine w_istore rfl rfl ?_
      refine w_iconst rfl ⟨by decide, by decide⟩ ?_
      refine w_istore rfl rfl ?_
      exact H
set_option maxHeartbeats 4000000 in
set_option maxRecDepth 100000 in
theorem mr_moves_59 {d : Nat} {Q : cm_Q} {z : cm_Z} {I : cm_I} (hz : mz z) {a1 : Nat} {x2 : Int} {z3 : Option cm_V} {z4 : Option cm_V} {a5 : Nat} {x6 : Int} {x7 : Int} {x8 : Int} {x9 : Int} (p_a5 : mA a5) (p_a1 : mA a1) (H : (mI d m_Model_many [vR 12 209, vI x8] z I fun v2 I1 => ((v2 ≤ x9 → (cm_i (x7 + 1) ∧ cw d cd_Model_moves Q 26 [some (vR 12 209), some (vR 20 a1), some (vI x2), z3, z4, some (vR 20 a5), some (vI x6), some (vI (x7 + 1)), some (vI x8), some (vI x9)] [] (I1, z))) ∧ (x9 < v2 → (mI d m_Model_from [vR 12 209, vI x8] z I1 fun v5 I4 => (cm_i (v5 + x9) ∧ (mI d m_Model_from [vR 12 209, vI x8] z I4 fun v8 I7 => (cm_i (v8 + x9) ∧ ((0:Int) ≤ (v8 + x9) ∧ (v8 + x9) < mLen a5) ∧ (cm_i (x2 + x7) ∧ ((0:Int) ≤ (x2 + x7) ∧ (x2 + x7) < mLen a1) ∧ (cm_i (136 * x7) ∧ (cm_i ((136 * x7) + x9) ∧ ((0:Int) ≤ ((136 * x7) + x9) ∧ ((136 * x7) + x9) < 111000) ∧ (cm_i ((I7 a1 (x2 + x7)) * (I7 224 ((136 * x7) + x9))) ∧ (cm_i ((I7 a5 (v8 + x9)) + ((I7 a1 (x2 + x7)) * (I7 224 ((136 * x7) + x9)))) ∧ ((0:Int) ≤ (v5 + x9) ∧ (v5 + x9) < mLen a5) ∧ (∀ I19 : cm_I, I19 = iu I7 a5 (v5 + x9) (Int.tmod ((I7 a5 (v8 + x9)) + ((I7 a1 (x2 + x7)) * (I7 224 ((136 * x7) + x9)))) 2521) → (cm_i (x9 + 1) ∧ cw d cd_Model_moves Q 59 [some (vR 12 209), some (vR 20 a1), some (vI x2), z3, z4, some (vR 20 a5), some (vI x6), some (vI x7), some (vI x8), some (vI (x9 + 1))] [] (I19, z)))))))))))))))) : cw d cd_Model_moves Q 59 [some (vR 12 209), some (vR 20 a1), some (vI x2), z3, z4, some (vR 20 a5), some (vI x6), some (vI x7), some (vI x8), some (vI x9)] [] (I, z) := by
  refine w_iload rfl rfl ?_
  refine w_aload rfl rfl ?_
  refine w_iload rfl rfl ?_
  refine m_callI rfl (fun _ => rfl) rfl (mI_mono H fun v2 I1 H => ?_)
  refine w_icmp rfl (And.intro (fun hc => ?_) (fun hc => ?_))
  · replace H := H.1 hc
    have o3 := H.1
    replace H := H.2
    refine w_iinc rfl rfl rfl o3 ?_
    refine w_goto rfl ?_
    exact H
  · replace H := H.2 hc
    refine w_aload rfl rfl ?_
    refine w_aload rfl rfl ?_
    refine w_iload rfl rfl ?_
    refine m_callI rfl (fun _ => rfl) rfl (mI_mono H fun v5 I4 H => ?_)
    refine w_iload rfl rfl ?_
    have o6 := H.1
    replace H := H.2
    refine w_iadd rfl o6 ?_
    refine w_aload rfl rfl ?_
    refine w_aload rfl rfl ?_
    refine w_iload rfl rfl ?_
    refine m_callI rfl (fun _ => rfl) rfl (mI_mono H fun v8 I7 H => ?_)
    refine w_iload rfl rfl ?_
    have o9 := H.1
    replace H := H.2
    refine w_iadd rfl o9 ?_
    have o10 := H.1
    replace H := H.2
    refine m_iaload hz p_a5 rfl o10 ?_
    refine w_aload rfl rfl ?_
    refine w_iload rfl rfl ?_
    refine w_iload rfl rfl ?_
    have o11 := H.1
    replace H := H.2
    refine w_iadd rfl o11 ?_
    have o12 := H.1
    replace H := H.2
    refine m_iaload hz p_a1 rfl o12 ?_
    refine w_aload rfl rfl ?_
    refine m_getR 30 20 224 hz rfl rfl rfl rfl rfl rfl (by decide) ?_
    refine w_iconst rfl ⟨by decide, by decide⟩ ?_
    refine w_iload rfl rfl ?_
    have o13 := H.1
    replace H := H.2
    refine w_imul rfl o13 ?_
    refine w_iload rfl rfl ?_
    have o14 := H.1
    replace H := H.2
    refine w_iadd rfl o14 ?_
    have o15 := H.1
    replace H := H.2
    refine m_iaload hz (by unfold mA; decide) rfl o15 ?_
    have o16 := H.1
    replace H := H.2
    refine w_imul rfl o16 ?_
    have o17 := H.1
    replace H := H.2
    refine w_iadd rfl o17 ?_
    refine w_iconst rfl ⟨by decide, by decide⟩ ?_
    refine w_irem rfl (by decide) ?_
    have o18 := H.1
    replace H := H.2
    refine m_iastore hz p_a5 rfl o18 (fun I19 eI19 => ?_)
    replace H := H I19 eI19
    have o20 := H.1
    replace H := H.2
    refine w_iinc rfl rfl rfl o20 ?_
    refine w_goto rfl ?_
    exact H
set_option maxHeartbeats 4000000 in
set_option maxRecDepth 100000 in
theorem mr_moves {d : Nat} {Q : cm_Q} {z : cm_Z} {I : cm_I} (hz : mz z) {a1 : Nat} {x2 : Int} {a3 : Nat} {x4 : Int} {a5 : Nat}  (H : (mI d m_Model_degree [vR 12 209, vR 20 a1, vI x2] z I fun v2 I1 => (mU d m_Model_laysImages [vR 12 209, vR 20 a3, vI x4, vI v2] z I1 fun I3 => (mU d m_Model_clears [vR 20 a5, vI 0] z I3 fun I4 => cw d cd_Model_moves Q 26 [some (vR 12 209), some (vR 20 a1), some (vI x2), some (vR 20 a3), some (vI x4), some (vR 20 a5), some (vI v2), some (vI 0), none, none] [] (I4, z))))) : cm_call (d + 1) m_Model_moves [vR 12 209, vR 20 a1, vI x2, vR 20 a3, vI x4, vR 20 a5] (I, z) Q := by
  refine cm_call_in (C := cd_Model_moves) (ls := [some (vR 12 209), some (vR 20 a1), some (vI x2), some (vR 20 a3), some (vI x4), some (vR 20 a5), none, none, none, none]) rfl rfl (show 0 < 209 by decide) rfl ?_
  refine w_aload rfl rfl ?_
  refine w_aload rfl rfl ?_
  refine w_iload rfl rfl ?_
  refine m_callI rfl (fun _ => rfl) rfl (mI_mono H fun v2 I1 H => ?_)
  refine w_istore rfl rfl ?_
  refine w_aload rfl rfl ?_
  refine w_aload rfl rfl ?_
  refine w_iload rfl rfl ?_
  refine w_iload rfl rfl ?_
  refine m_callU rfl (fun _ => rfl) rfl (mU_mono H fun I3 H => ?_)
  refine w_aload rfl rfl ?_
  refine w_iconst rfl ⟨by decide, by decide⟩ ?_
  refine m_callU rfl (fun _ => rfl) rfl (mU_mono H fun I4 H => ?_)
  refine w_iconst rfl ⟨by decide, by decide⟩ ?_
  refine w_istore rfl rfl ?_
  exact H
set_option maxHeartbeats 4000000 in
set_option maxRecDepth 100000 in
theorem mr_isAlone_2 {d : Nat} {Q : cm_Q} {z : cm_Z} {I : cm_I} (hz : mz z) {a1 : Nat} {x2 : Int} {x3 : Int} {z4 : Option cm_V}  (H : (((I 209 9) ≤ x3 → Q (some (vI 1)) (I, z)) ∧ (x3 < (I 209 9) → (mU d m_Model_moves [vR 12 209, vR 20 a1, vI x2, vR 20 217, vI x3, vR 20 216] z I fun I1 => cw d cd_Model_isAlone Q 28 [some (vR 12 209), some (vR 20 a1), some (vI x2), some (vI x3), some (vI 0)] [] (I1, z))))) : cw d cd_Model_isAlone Q 2 [some (vR 12 209), some (vR 20 a1), some (vI x2), some (vI x3), z4] [] (I, z) := by
  refine w_iload rfl rfl ?_
  refine w_aload rfl rfl ?_
  refine m_getI 9 rfl rfl rfl (by decide) ?_
  refine w_icmp rfl (And.intro (fun hc => ?_) (fun hc => ?_))
  · replace H := H.1 hc
    refine w_iconst rfl ⟨by decide, by decide⟩ ?_
    exact w_zreturn rfl (by decide) H
  · replace H := H.2 hc
    refine w_aload rfl rfl ?_
    refine w_aload rfl rfl ?_
    refine w_iload rfl rfl ?_
    refine w_aload rfl rfl ?_
    refine m_getR 10 20 217 hz rfl rfl rfl rfl rfl rfl (by decide) ?_
    refine w_iload rfl rfl ?_
    refine w_aload rfl rfl ?_
    refine m_getR 8 20 216 hz rfl rfl rfl rfl rfl rfl (by decide) ?_
    refine m_callU rfl (fun _ => rfl) rfl (mU_mono H fun I1 H => ?_)
    refine w_iconst rfl ⟨by decide, by decide⟩ ?_
    refine w_istore rfl rfl ?_
    exact H
set_option maxHeartbeats 4000000 in
set_option maxRecDepth 100000 in
theorem mr_isAlone_28 {d : Nat} {Q : cm_Q} {z : cm_Z} {I : cm_I} (hz : mz z) {a1 : Nat} {x2 : Int} {x3 : Int} {x4 : Int} (p_a1 : mA a1) (H : (mI d m_Model_all [vR 12 209] z I fun v2 I1 => ((v2 ≤ x4 → (cm_i (x3 + 1) ∧ cw d cd_Model_isAlone Q 2 [some (vR 12 209), some (vR 20 a1), some (vI x2), some (vI (x3 + 1)), some (vI x4)] [] (I1, z))) ∧ (x4 < v2 → ((0:Int) ≤ x4 ∧ x4 < 1140) ∧ (cm_i (x2 + x4) ∧ ((0:Int) ≤ (x2 + x4) ∧ (x2 + x4) < mLen a1) ∧ (((I1 216 x4) = (I1 a1 (x2 + x4)) → (cm_i (x4 + 1) ∧ cw d cd_Model_isAlone Q 28 [some (vR 12 209), some (vR 20 a1), some (vI x2), some (vI x3), some (vI (x4 + 1))] [] (I1, z))) ∧ (¬ (I1 216 x4) = (I1 a1 (x2 + x4)) → Q (some (vI 0)) (I1, z)))))))) : cw d cd_Model_isAlone Q 28 [some (vR 12 209), some (vR 20 a1), some (vI x2), some (vI x3), some (vI x4)] [] (I, z) := by
  refine w_iload rfl rfl ?_
  refine w_aload rfl rfl ?_
  refine m_callI rfl (fun _ => rfl) rfl (mI_mono H fun v2 I1 H => ?_)
  refine w_icmp rfl (And.intro (fun hc => ?_) (fun hc => ?_))
  · replace H := H.1 hc
    have o3 := H.1
    replace H := H.2
    refine w_iinc rfl rfl rfl o3 ?_
    refine w_goto rfl ?_
    exact H
  · replace H := H.2 hc
    refine w_aload rfl rfl ?_
    refine m_getR 8 20 216 hz rfl rfl rfl rfl rfl rfl (by decide) ?_
    refine w_iload rfl rfl ?_
    have o4 := H.1
    replace H := H.2
    refine m_iaload hz (by unfold mA; decide) rfl o4 ?_
    refine w_aload rfl rfl ?_
    refine w_iload rfl rfl ?_
    refine w_iload rfl rfl ?_
    have o5 := H.1
    replace H := H.2
    refine w_iadd rfl o5 ?_
    have o6 := H.1
    replace H := H.2
    refine m_iaload hz p_a1 rfl o6 ?_
    refine w_icmp rfl (And.intro (fun hc => ?_) (fun hc => ?_))
    · replace H := H.1 hc
      have o7 := H.1
      replace H := H.2
      refine w_iinc rfl rfl rfl o7 ?_
      refine w_goto rfl ?_
      exact H
    · replace H := H.2 hc
      refine w_iconst rfl ⟨by decide, by decide⟩ ?_
      exact w_zreturn rfl (by decide) H
set_option maxHeartbeats 4000000 in
set_option maxRecDepth 100000 in
theorem mr_isAlone {d : Nat} {Q : cm_Q} {z : cm_Z} {I : cm_I} (hz : mz z) {a1 : Nat} {x2 : Int}  (H : cw d cd_Model_isAlone Q 2 [some (vR 12 209), some (vR 20 a1), some (vI x2), some (vI 0), none] [] (I, z)) : cm_call (d + 1) m_Model_isAlone [vR 12 209, vR 20 a1, vI x2] (I, z) Q := by
  refine cm_call_in (C := cd_Model_isAlone) (ls := [some (vR 12 209), some (vR 20 a1), some (vI x2), none, none]) rfl rfl (show 0 < 209 by decide) rfl ?_
  refine w_iconst rfl ⟨by decide, by decide⟩ ?_
  refine w_istore rfl rfl ?_
  exact H
set_option maxHeartbeats 4000000 in
set_option maxRecDepth 100000 in
theorem mr_isOfOne_13 {d : Nat} {Q : cm_Q} {z : cm_Z} {I : cm_I} (hz : mz z) {a1 : Nat} {x2 : Int} {x3 : Int} {x4 : Int} {x5 : Int} (p_a1 : mA a1) (H : (mI d m_Model_from [vR 12 209, vI x3] z I fun v2 I1 => ((v2 ≤ x5 → ((x4 = 0 ∨ x4 = 1) ∧ Q (some (vI x4)) (I1, z))) ∧ (x5 < v2 → ((x4 = 0 → (cm_i (x5 + 1) ∧ cw d cd_Model_isOfOne Q 13 [some (vR 12 209), some (vR 20 a1), some (vI x2), some (vI x3), some (vI 0), some (vI (x5 + 1))] [] (I1, z))) ∧ (¬ x4 = 0 → (cm_i (x2 + x5) ∧ ((0:Int) ≤ (x2 + x5) ∧ (x2 + x5) < mLen a1) ∧ ((¬ (I1 a1 (x2 + x5)) = 0 → (cm_i (x5 + 1) ∧ cw d cd_Model_isOfOne Q 13 [some (vR 12 209), some (vR 20 a1), some (vI x2), some (vI x3), some (vI 0), some (vI (x5 + 1))] [] (I1, z))) ∧ ((I1 a1 (x2 + x5)) = 0 → (cm_i (x5 + 1) ∧ cw d cd_Model_isOfOne Q 13 [some (vR 12 209), some (vR 20 a1), some (vI x2), some (vI x3), some (vI 1), some (vI (x5 + 1))] [] (I1, z))))))))))) : cw d cd_Model_isOfOne Q 13 [some (vR 12 209), some (vR 20 a1), some (vI x2), some (vI x3), some (vI x4), some (vI x5)] [] (I, z) := by
  refine w_iload rfl rfl ?_
  refine w_aload rfl rfl ?_
  refine w_iload rfl rfl ?_
  refine m_callI rfl (fun _ => rfl) rfl (mI_mono H fun v2 I1 H => ?_)
  refine w_icmp rfl (And.intro (fun hc => ?_) (fun hc => ?_))
  · replace H := H.1 hc
    refine w_iload rfl rfl ?_
    exact w_zreturn rfl H.1 H.2
  · replace H := H.2 hc
    refine w_iload rfl rfl ?_
    refine w_if rfl (And.intro (fun hc => ?_) (fun hc => ?_))
    · replace H := H.1 hc
      refine w_iconst rfl ⟨by decide, by decide⟩ ?_
      refine w_istore rfl rfl ?_
      have o3 := H.1
      replace H := H.2
      refine w_iinc rfl rfl rfl o3 ?_
      refine w_goto rfl ?_
      exact H
    · replace H := H.2 hc
      refine w_aload rfl rfl ?_
      refine w_iload rfl rfl ?_
      refine w_iload rfl rfl ?_
      have o4 := H.1
      replace H := H.2
      refine w_iadd rfl o4 ?_
      have o5 := H.1
      replace H := H.2
      refine m_iaload hz p_a1 rfl o5 ?_
      refine w_if rfl (And.intro (fun hc => ?_) (fun hc => ?_))
      · replace H := H.1 hc
        refine w_iconst rfl ⟨by decide, by decide⟩ ?_
        refine w_istore rfl rfl ?_
        have o6 := H.1
        replace H := H.2
        refine w_iinc rfl rfl rfl o6 ?_
        refine w_goto rfl ?_
        exact H
      · replace H := H.2 hc
        refine w_iconst rfl ⟨by decide, by decide⟩ ?_
        refine w_goto rfl ?_
        refine w_istore rfl rfl ?_
        have o7 := H.1
        replace H := H.2
        refine w_iinc rfl rfl rfl o7 ?_
        refine w_goto rfl ?_
        exact H
set_option maxHeartbeats 4000000 in
set_option maxRecDepth 100000 in
theorem mr_isOfOne {d : Nat} {Q : cm_Q} {z : cm_Z} {I : cm_I} (hz : mz z) {a1 : Nat} {x2 : Int}  (H : (mI d m_Model_degree [vR 12 209, vR 20 a1, vI x2] z I fun v2 I1 => cw d cd_Model_isOfOne Q 13 [some (vR 12 209), some (vR 20 a1), some (vI x2), some (vI v2), some (vI 1), some (vI 0)] [] (I1, z))) : cm_call (d + 1) m_Model_isOfOne [vR 12 209, vR 20 a1, vI x2] (I, z) Q := by
  refine cm_call_in (C := cd_Model_isOfOne) (ls := [some (vR 12 209), some (vR 20 a1), some (vI x2), none, none, none]) rfl rfl (show 0 < 209 by decide) rfl ?_
  refine w_aload rfl rfl ?_
  refine w_aload rfl rfl ?_
  refine w_iload rfl rfl ?_
  refine m_callI rfl (fun _ => rfl) rfl (mI_mono H fun v2 I1 H => ?_)
  refine w_istore rfl rfl ?_
  refine w_iconst rfl ⟨by decide, by decide⟩ ?_
  refine w_istore rfl rfl ?_
  refine w_iconst rfl ⟨by decide, by decide⟩ ?_
  refine w_istore rfl rfl ?_
  exact H
set_option maxHeartbeats 4000000 in
set_option maxRecDepth 100000 in
theorem mr_unlike_4 {d : Nat} {Q : cm_Q} {z : cm_Z} {I : cm_I} (hz : mz z) {x1 : Int} {x2 : Int} {x3 : Int} {z4 : Option cm_V} {z5 : Option cm_V} {z6 : Option cm_V} {z7 : Option cm_V}  (H : (((I 209 11) ≤ x3 → Q (some (vI x2)) (I, z)) ∧ (x3 < (I 209 11) → (mU d m_Model_moves [vR 12 209, vR 20 213, vI x1, vR 20 218, vI x3, vR 20 216] z I fun I1 => (cm_i (1140 * x2) ∧ (mU d m_Model_copies [vR 20 216, vI 0, vR 20 225, vI (1140 * x2)] z I1 fun I3 => cw d cd_Model_unlike Q 53 [some (vR 12 209), some (vI x1), some (vI x2), some (vI x3), some (vI 1), some (vI 0), z6, z7] [] (I3, z))))))) : cw d cd_Model_unlike Q 4 [some (vR 12 209), some (vI x1), some (vI x2), some (vI x3), z4, z5, z6, z7] [] (I, z) := by
  refine w_iload rfl rfl ?_
  refine w_aload rfl rfl ?_
  refine m_getI 11 rfl rfl rfl (by decide) ?_
  refine w_icmp rfl (And.intro (fun hc => ?_) (fun hc => ?_))
  · replace H := H.1 hc
    refine w_iload rfl rfl ?_
    exact w_ireturn rfl H
  · replace H := H.2 hc
    refine w_aload rfl rfl ?_
    refine w_aload rfl rfl ?_
    refine m_getR 5 20 213 hz rfl rfl rfl rfl rfl rfl (by decide) ?_
    refine w_iload rfl rfl ?_
    refine w_aload rfl rfl ?_
    refine m_getR 12 20 218 hz rfl rfl rfl rfl rfl rfl (by decide) ?_
    refine w_iload rfl rfl ?_
    refine w_aload rfl rfl ?_
    refine m_getR 8 20 216 hz rfl rfl rfl rfl rfl rfl (by decide) ?_
    refine m_callU rfl (fun _ => rfl) rfl (mU_mono H fun I1 H => ?_)
    refine w_aload rfl rfl ?_
    refine m_getR 8 20 216 hz rfl rfl rfl rfl rfl rfl (by decide) ?_
    refine w_iconst rfl ⟨by decide, by decide⟩ ?_
    refine w_aload rfl rfl ?_
    refine m_getR 31 20 225 hz rfl rfl rfl rfl rfl rfl (by decide) ?_
    refine w_iconst rfl ⟨by decide, by decide⟩ ?_
    refine w_iload rfl rfl ?_
    have o2 := H.1
    replace H := H.2
    refine w_imul rfl o2 ?_
    refine m_callU rfl (fun _ => rfl) rfl (mU_mono H fun I3 H => ?_)
    refine w_iconst rfl ⟨by decide, by decide⟩ ?_
    refine w_istore rfl rfl ?_
    refine w_iconst rfl ⟨by decide, by decide⟩ ?_
    refine w_istore rfl rfl ?_
    exact H
set_option maxHeartbeats 4000000 in
set_option maxRecDepth 100000 in
theorem mr_unlike_53 {d : Nat} {Q : cm_Q} {z : cm_Z} {I : cm_I} (hz : mz z) {x1 : Int} {x2 : Int} {x3 : Int} {x4 : Int} {x5 : Int} {z6 : Option cm_V} {z7 : Option cm_V}  (H : ((x2 ≤ x5 → cw d cd_Model_unlike Q 138 [some (vR 12 209), some (vI x1), some (vI x2), some (vI x3), some (vI x4), some (vI x5), z6, z7] [] (I, z)) ∧ (x5 < x2 → ((x4 = 0 → cw d cd_Model_unlike Q 138 [some (vR 12 209), some (vI x1), some (vI x2), some (vI x3), some (vI x4), some (vI x5), z6, z7] [] (I, z)) ∧ (¬ x4 = 0 → cw d cd_Model_unlike Q 70 [some (vR 12 209), some (vI x1), some (vI x2), some (vI x3), some (vI x4), some (vI x5), some (vI 1), some (vI 0)] [] (I, z)))))) : cw d cd_Model_unlike Q 53 [some (vR 12 209), some (vI x1), some (vI x2), some (vI x3), some (vI x4), some (vI x5), z6, z7] [] (I, z) := by
  refine w_iload rfl rfl ?_
  refine w_iload rfl rfl ?_
  refine w_icmp rfl (And.intro (fun hc => ?_) (fun hc => ?_))
  · replace H := H.1 hc
    exact H
  · replace H := H.2 hc
    refine w_iload rfl rfl ?_
    refine w_if rfl (And.intro (fun hc => ?_) (fun hc => ?_))
    · replace H := H.1 hc
      exact H
    · replace H := H.2 hc
      refine w_iconst rfl ⟨by decide, by decide⟩ ?_
      refine w_istore rfl rfl ?_
      refine w_iconst rfl ⟨by decide, by decide⟩ ?_
      refine w_istore rfl rfl ?_
      exact H
set_option maxHeartbeats 4000000 in
set_option maxRecDepth 100000 in
theorem mr_unlike_70 {d : Nat} {Q : cm_Q} {z : cm_Z} {I : cm_I} (hz : mz z) {x1 : Int} {x2 : Int} {x3 : Int} {z4 : Option cm_V} {x5 : Int} {x6 : Int} {x7 : Int}  (H : ((1140 ≤ x7 → cw d cd_Model_unlike Q 120 [some (vR 12 209), some (vI x1), some (vI x2), some (vI x3), z4, some (vI x5), some (vI x6), some (vI x7)] [] (I, z)) ∧ (x7 < 1140 → ((x6 = 0 → cw d cd_Model_unlike Q 120 [some (vR 12 209), some (vI x1), some (vI x2), some (vI x3), z4, some (vI x5), some (vI x6), some (vI x7)] [] (I, z)) ∧ (¬ x6 = 0 → (cm_i (1140 * x5) ∧ (cm_i ((1140 * x5) + x7) ∧ ((0:Int) ≤ ((1140 * x5) + x7) ∧ ((1140 * x5) + x7) < 54720) ∧ ((0:Int) ≤ x7 ∧ x7 < 1140) ∧ ((¬ (I 225 ((1140 * x5) + x7)) = (I 216 x7) → (cm_i (x7 + 1) ∧ cw d cd_Model_unlike Q 70 [some (vR 12 209), some (vI x1), some (vI x2), some (vI x3), z4, some (vI x5), some (vI 0), some (vI (x7 + 1))] [] (I, z))) ∧ ((I 225 ((1140 * x5) + x7)) = (I 216 x7) → (cm_i (x7 + 1) ∧ cw d cd_Model_unlike Q 70 [some (vR 12 209), some (vI x1), some (vI x2), some (vI x3), z4, some (vI x5), some (vI 1), some (vI (x7 + 1))] [] (I, z))))))))))) : cw d cd_Model_unlike Q 70 [some (vR 12 209), some (vI x1), some (vI x2), some (vI x3), z4, some (vI x5), some (vI x6), some (vI x7)] [] (I, z) := by
  refine w_iload rfl rfl ?_
  refine w_iconst rfl ⟨by decide, by decide⟩ ?_
  refine w_icmp rfl (And.intro (fun hc => ?_) (fun hc => ?_))
  · replace H := H.1 hc
    exact H
  · replace H := H.2 hc
    refine w_iload rfl rfl ?_
    refine w_if rfl (And.intro (fun hc => ?_) (fun hc => ?_))
    · replace H := H.1 hc
      exact H
    · replace H := H.2 hc
      refine w_aload rfl rfl ?_
      refine m_getR 31 20 225 hz rfl rfl rfl rfl rfl rfl (by decide) ?_
      refine w_iconst rfl ⟨by decide, by decide⟩ ?_
      refine w_iload rfl rfl ?_
      have o1 := H.1
      replace H := H.2
      refine w_imul rfl o1 ?_
      refine w_iload rfl rfl ?_
      have o2 := H.1
      replace H := H.2
      refine w_iadd rfl o2 ?_
      have o3 := H.1
      replace H := H.2
      refine m_iaload hz (by unfold mA; decide) rfl o3 ?_
      refine w_aload rfl rfl ?_
      refine m_getR 8 20 216 hz rfl rfl rfl rfl rfl rfl (by decide) ?_
      refine w_iload rfl rfl ?_
      have o4 := H.1
      replace H := H.2
      refine m_iaload hz (by unfold mA; decide) rfl o4 ?_
      refine w_icmp rfl (And.intro (fun hc => ?_) (fun hc => ?_))
      · replace H := H.1 hc
        refine w_iconst rfl ⟨by decide, by decide⟩ ?_
        refine w_istore rfl rfl ?_
        have o5 := H.1
        replace H := H.2
        refine w_iinc rfl rfl rfl o5 ?_
        refine w_goto rfl ?_
        exact H
      · replace H := H.2 hc
        refine w_iconst rfl ⟨by decide, by decide⟩ ?_
        refine w_goto rfl ?_
        refine w_istore rfl rfl ?_
        have o6 := H.1
        replace H := H.2
        refine w_iinc rfl rfl rfl o6 ?_
        refine w_goto rfl ?_
        exact H
set_option maxHeartbeats 4000000 in
set_option maxRecDepth 100000 in
theorem mr_unlike_120 {d : Nat} {Q : cm_Q} {z : cm_Z} {I : cm_I} (hz : mz z) {x1 : Int} {x2 : Int} {x3 : Int} {z4 : Option cm_V} {x5 : Int} {x6 : Int} {z7 : Option cm_V}  (H : ((¬ x6 = 0 → (cm_i (x5 + 1) ∧ cw d cd_Model_unlike Q 53 [some (vR 12 209), some (vI x1), some (vI x2), some (vI x3), some (vI 0), some (vI (x5 + 1)), some (vI x6), z7] [] (I, z))) ∧ (x6 = 0 → (cm_i (x5 + 1) ∧ cw d cd_Model_unlike Q 53 [some (vR 12 209), some (vI x1), some (vI x2), some (vI x3), some (vI 1), some (vI (x5 + 1)), some (vI x6), z7] [] (I, z))))) : cw d cd_Model_unlike Q 120 [some (vR 12 209), some (vI x1), some (vI x2), some (vI x3), z4, some (vI x5), some (vI x6), z7] [] (I, z) := by
  refine w_iload rfl rfl ?_
  refine w_if rfl (And.intro (fun hc => ?_) (fun hc => ?_))
  · replace H := H.1 hc
    refine w_iconst rfl ⟨by decide, by decide⟩ ?_
    refine w_istore rfl rfl ?_
    have o1 := H.1
    replace H := H.2
    refine w_iinc rfl rfl rfl o1 ?_
    refine w_goto rfl ?_
    exact H
  · replace H := H.2 hc
    refine w_iconst rfl ⟨by decide, by decide⟩ ?_
    refine w_goto rfl ?_
    refine w_istore rfl rfl ?_
    have o2 := H.1
    replace H := H.2
    refine w_iinc rfl rfl rfl o2 ?_
    refine w_goto rfl ?_
    exact H
set_option maxHeartbeats 4000000 in
set_option maxRecDepth 100000 in
theorem mr_unlike_138 {d : Nat} {Q : cm_Q} {z : cm_Z} {I : cm_I} (hz : mz z) {x1 : Int} {x2 : Int} {x3 : Int} {x4 : Int} {z5 : Option cm_V} {z6 : Option cm_V} {z7 : Option cm_V}  (H : ((x4 = 0 → (cm_i (x2 + 0) ∧ (cm_i (x3 + 1) ∧ cw d cd_Model_unlike Q 4 [some (vR 12 209), some (vI x1), some (vI (x2 + 0)), some (vI (x3 + 1)), some (vI x4), z5, z6, z7] [] (I, z)))) ∧ (¬ x4 = 0 → (cm_i (x2 + 1) ∧ (cm_i (x3 + 1) ∧ cw d cd_Model_unlike Q 4 [some (vR 12 209), some (vI x1), some (vI (x2 + 1)), some (vI (x3 + 1)), some (vI x4), z5, z6, z7] [] (I, z)))))) : cw d cd_Model_unlike Q 138 [some (vR 12 209), some (vI x1), some (vI x2), some (vI x3), some (vI x4), z5, z6, z7] [] (I, z) := by
  refine w_iload rfl rfl ?_
  refine w_iload rfl rfl ?_
  refine w_if rfl (And.intro (fun hc => ?_) (fun hc => ?_))
  · replace H := H.1 hc
    refine w_iconst rfl ⟨by decide, by decide⟩ ?_
    have o1 := H.1
    replace H := H.2
    refine w_iadd rfl o1 ?_
    refine w_istore rfl rfl ?_
    have o2 := H.1
    replace H := H.2
    refine w_iinc rfl rfl rfl o2 ?_
    refine w_goto rfl ?_
    exact H
  · replace H := H.2 hc
    refine w_iconst rfl ⟨by decide, by decide⟩ ?_
    refine w_goto rfl ?_
    have o3 := H.1
    replace H := H.2
    refine w_iadd rfl o3 ?_
    refine w_istore rfl rfl ?_
    have o4 := H.1
    replace H := H.2
    refine w_iinc rfl rfl rfl o4 ?_
    refine w_goto rfl ?_
    exact H
set_option maxHeartbeats 4000000 in
set_option maxRecDepth 100000 in
theorem mr_unlike {d : Nat} {Q : cm_Q} {z : cm_Z} {I : cm_I} (hz : mz z) {x1 : Int}  (H : cw d cd_Model_unlike Q 4 [some (vR 12 209), some (vI x1), some (vI 0), some (vI 0), none, none, none, none] [] (I, z)) : cm_call (d + 1) m_Model_unlike [vR 12 209, vI x1] (I, z) Q := by
  refine cm_call_in (C := cd_Model_unlike) (ls := [some (vR 12 209), some (vI x1), none, none, none, none, none, none]) rfl rfl (show 0 < 209 by decide) rfl ?_
  refine w_iconst rfl ⟨by decide, by decide⟩ ?_
  refine w_istore rfl rfl ?_
  refine w_iconst rfl ⟨by decide, by decide⟩ ?_
  refine w_istore rfl rfl ?_
  exact H
set_option maxHeartbeats 4000000 in
set_option maxRecDepth 100000 in
theorem mr_of_ {d : Nat} {Q : cm_Q} {z : cm_Z} {I : cm_I} (hz : mz z) {x1 : Int} {x2 : Int}  (H : (∀ I1 : cm_I, I1 = iu I 209 0 0 → (mI d m_Model_isKept [vR 12 209, vI x1] z I1 fun v3 I2 => ((¬ v3 = 0 → (cm_i (1140 * x1) ∧ ((x2 = 0 → (mI d m_Model_degree [vR 12 209, vR 20 213, vI (1140 * x1)] z I2 fun v6 I5 => Q (some (vI v6)) (I5, z))) ∧ (¬ x2 = 0 → ((x2 = 1 → (mI d m_Model_terms [vR 12 209, vI (1140 * x1)] z I2 fun v8 I7 => Q (some (vI v8)) (I7, z))) ∧ (¬ x2 = 1 → ((x2 = 2 → (mI d m_Model_isAlone [vR 12 209, vR 20 213, vI (1140 * x1)] z I2 fun v10 I9 => ((v10 = 0 → Q (some (vI 0)) (I9, z)) ∧ (¬ v10 = 0 → Q (some (vI 1)) (I9, z))))) ∧ (¬ x2 = 2 → ((x2 = 3 → (mI d m_Model_isOfOne [vR 12 209, vR 20 213, vI (1140 * x1)] z I2 fun v12 I11 => ((v12 = 0 → Q (some (vI 0)) (I11, z)) ∧ (¬ v12 = 0 → Q (some (vI 1)) (I11, z))))) ∧ (¬ x2 = 3 → ((x2 = 4 → (mI d m_Model_unlike [vR 12 209, vI (1140 * x1)] z I2 fun v14 I13 => Q (some (vI v14)) (I13, z))) ∧ (¬ x2 = 4 → Q (some (vI (-1))) (I2, z))))))))))))) ∧ (v3 = 0 → Q (some (vI (-1))) (I2, z)))))) : cm_call (d + 1) m_Model_of_ [vR 12 209, vI x1, vI x2] (I, z) Q := by
  refine cm_call_in (C := cd_Model_of_) (ls := [some (vR 12 209), some (vI x1), some (vI x2), none]) rfl rfl (show 0 < 209 by decide) rfl ?_
  refine w_aload rfl rfl ?_
  refine w_iconst rfl ⟨by decide, by decide⟩ ?_
  refine m_putI 0 rfl rfl rfl (by decide) (fun I1 eI1 => ?_)
  replace H := H I1 eI1
  refine w_aload rfl rfl ?_
  refine w_iload rfl rfl ?_
  refine m_callI rfl (fun _ => rfl) rfl (mI_mono H fun v3 I2 H => ?_)
  refine w_if rfl (And.intro (fun hc => ?_) (fun hc => ?_))
  · replace H := H.1 hc
    refine w_iconst rfl ⟨by decide, by decide⟩ ?_
    refine w_iload rfl rfl ?_
    have o4 := H.1
    replace H := H.2
    refine w_imul rfl o4 ?_
    refine w_istore rfl rfl ?_
    refine w_iload rfl rfl ?_
    refine w_switch rfl ?_
    refine And.intro (fun hc => ?_) (fun hc => ?_)
    · replace H := H.1 hc
      show cw _ _ _ 56 _ _ _
      refine w_aload rfl rfl ?_
      refine w_aload rfl rfl ?_
      refine m_getR 5 20 213 hz rfl rfl rfl rfl rfl rfl (by decide) ?_
      refine w_iload rfl rfl ?_
      refine m_callI rfl (fun _ => rfl) rfl (mI_mono H fun v6 I5 H => ?_)
      exact w_ireturn rfl H
    · replace H := H.2 hc
      refine And.intro (fun hc => ?_) (fun hc => ?_)
      · replace H := H.1 hc
        show cw _ _ _ 66 _ _ _
        refine w_aload rfl rfl ?_
        refine w_iload rfl rfl ?_
        refine m_callI rfl (fun _ => rfl) rfl (mI_mono H fun v8 I7 H => ?_)
        exact w_ireturn rfl H
      · replace H := H.2 hc
        refine And.intro (fun hc => ?_) (fun hc => ?_)
        · replace H := H.1 hc
          show cw _ _ _ 72 _ _ _
          refine w_aload rfl rfl ?_
          refine w_aload rfl rfl ?_
          refine m_getR 5 20 213 hz rfl rfl rfl rfl rfl rfl (by decide) ?_
          refine w_iload rfl rfl ?_
          refine m_callI rfl (fun _ => rfl) rfl (mI_mono H fun v10 I9 H => ?_)
          refine w_if rfl (And.intro (fun hc => ?_) (fun hc => ?_))
          · replace H := H.1 hc
            refine w_iconst rfl ⟨by decide, by decide⟩ ?_
            exact w_ireturn rfl H
          · replace H := H.2 hc
            refine w_iconst rfl ⟨by decide, by decide⟩ ?_
            refine w_goto rfl ?_
            exact w_ireturn rfl H
        · replace H := H.2 hc
          refine And.intro (fun hc => ?_) (fun hc => ?_)
          · replace H := H.1 hc
            show cw _ _ _ 90 _ _ _
            refine w_aload rfl rfl ?_
            refine w_aload rfl rfl ?_
            refine m_getR 5 20 213 hz rfl rfl rfl rfl rfl rfl (by decide) ?_
            refine w_iload rfl rfl ?_
            refine m_callI rfl (fun _ => rfl) rfl (mI_mono H fun v12 I11 H => ?_)
            refine w_if rfl (And.intro (fun hc => ?_) (fun hc => ?_))
            · replace H := H.1 hc
              refine w_iconst rfl ⟨by decide, by decide⟩ ?_
              exact w_ireturn rfl H
            · replace H := H.2 hc
              refine w_iconst rfl ⟨by decide, by decide⟩ ?_
              refine w_goto rfl ?_
              exact w_ireturn rfl H
          · replace H := H.2 hc
            refine And.intro (fun hc => ?_) (fun hc => ?_)
            · replace H := H.1 hc
              show cw _ _ _ 108 _ _ _
              refine w_aload rfl rfl ?_
              refine w_iload rfl rfl ?_
              refine m_callI rfl (fun _ => rfl) rfl (mI_mono H fun v14 I13 H => ?_)
              exact w_ireturn rfl H
            · replace H := H.2 hc
              show cw _ _ _ 114 _ _ _
              refine w_iconst rfl ⟨by decide, by decide⟩ ?_
              exact w_ireturn rfl H
  · replace H := H.2 hc
    refine w_iconst rfl ⟨by decide, by decide⟩ ?_
    exact w_ireturn rfl H
set_option maxHeartbeats 4000000 in
set_option maxRecDepth 100000 in
theorem mr_factor_50 {d : Nat} {Q : cm_Q} {z : cm_Z} {I : cm_I} (hz : mz z) {x1 : Int} {x2 : Int} {x3 : Int} {x4 : Int} {s0 : Int} {s1 : Int} {s2 : Int}  (H : (mI d m_Model_within [vI s2, vI s1, vI s0] z I fun v2 I1 => ((¬ v2 = 0 → (cm_i (x2 + x3) ∧ (cm_i ((x2 + x3) + x4) ∧ ((((x2 + x3) + x4) ≤ 15 → (cm_i (1140 * x1) ∧ (mI d m_Model_at [vR 12 209, vI x2, vI x3, vI x4] z I1 fun v7 I6 => (cm_i ((1140 * x1) + v7) ∧ ((0:Int) ≤ ((1140 * x1) + v7) ∧ ((1140 * x1) + v7) < 6840) ∧ Q (some (vI (I6 213 ((1140 * x1) + v7)))) (I6, z))))) ∧ (15 < ((x2 + x3) + x4) → Q (some (vI 0)) (I1, z)))))) ∧ (v2 = 0 → Q (some (vI (-1))) (I1, z))))) : cw d cd_Model_factor Q 50 [some (vR 12 209), some (vI x1), some (vI x2), some (vI x3), some (vI x4)] [vI s0, vI s1, vI s2] (I, z) := by
  refine m_callI rfl (fun _ => rfl) rfl (mI_mono H fun v2 I1 H => ?_)
  refine w_if rfl (And.intro (fun hc => ?_) (fun hc => ?_))
  · replace H := H.1 hc
    refine w_iload rfl rfl ?_
    refine w_iload rfl rfl ?_
    have o3 := H.1
    replace H := H.2
    refine w_iadd rfl o3 ?_
    refine w_iload rfl rfl ?_
    have o4 := H.1
    replace H := H.2
    refine w_iadd rfl o4 ?_
    refine w_iconst rfl ⟨by decide, by decide⟩ ?_
    refine w_icmp rfl (And.intro (fun hc => ?_) (fun hc => ?_))
    · replace H := H.1 hc
      refine w_aload rfl rfl ?_
      refine m_getR 5 20 213 hz rfl rfl rfl rfl rfl rfl (by decide) ?_
      refine w_iconst rfl ⟨by decide, by decide⟩ ?_
      refine w_iload rfl rfl ?_
      have o5 := H.1
      replace H := H.2
      refine w_imul rfl o5 ?_
      refine w_aload rfl rfl ?_
      refine w_iload rfl rfl ?_
      refine w_iload rfl rfl ?_
      refine w_iload rfl rfl ?_
      refine m_callI rfl (fun _ => rfl) rfl (mI_mono H fun v7 I6 H => ?_)
      have o8 := H.1
      replace H := H.2
      refine w_iadd rfl o8 ?_
      have o9 := H.1
      replace H := H.2
      refine m_iaload hz (by unfold mA; decide) rfl o9 ?_
      exact w_ireturn rfl H
    · replace H := H.2 hc
      refine w_iconst rfl ⟨by decide, by decide⟩ ?_
      refine w_goto rfl ?_
      exact w_ireturn rfl H
  · replace H := H.2 hc
    refine w_iconst rfl ⟨by decide, by decide⟩ ?_
    exact w_ireturn rfl H
set_option maxHeartbeats 4000000 in
set_option maxRecDepth 100000 in
theorem mr_factor {d : Nat} {Q : cm_Q} {z : cm_Z} {I : cm_I} (hz : mz z) {x1 : Int} {x2 : Int} {x3 : Int} {x4 : Int}  (H : (∀ I1 : cm_I, I1 = iu I 209 0 0 → (mI d m_Model_isKept [vR 12 209, vI x1] z I1 fun v3 I2 => ((v3 = 0 → Q (some (vI (-1))) (I2, z)) ∧ (¬ v3 = 0 → (mI d m_Model_within [vI x2, vI 0, vI 15] z I2 fun v5 I4 => ((v5 = 0 → Q (some (vI (-1))) (I4, z)) ∧ (¬ v5 = 0 → (mI d m_Model_within [vI x3, vI 0, vI 15] z I4 fun v7 I6 => ((v7 = 0 → Q (some (vI (-1))) (I6, z)) ∧ (¬ v7 = 0 → ((¬ (I6 209 1) = 2 → cw d cd_Model_factor Q 50 [some (vR 12 209), some (vI x1), some (vI x2), some (vI x3), some (vI x4)] [vI 15, vI 0, vI x4] (I6, z)) ∧ ((I6 209 1) = 2 → cw d cd_Model_factor Q 50 [some (vR 12 209), some (vI x1), some (vI x2), some (vI x3), some (vI x4)] [vI 0, vI 0, vI x4] (I6, z)))))))))))))) : cm_call (d + 1) m_Model_factor [vR 12 209, vI x1, vI x2, vI x3, vI x4] (I, z) Q := by
  refine cm_call_in (C := cd_Model_factor) (ls := [some (vR 12 209), some (vI x1), some (vI x2), some (vI x3), some (vI x4)]) rfl rfl (show 0 < 209 by decide) rfl ?_
  refine w_aload rfl rfl ?_
  refine w_iconst rfl ⟨by decide, by decide⟩ ?_
  refine m_putI 0 rfl rfl rfl (by decide) (fun I1 eI1 => ?_)
  replace H := H I1 eI1
  refine w_aload rfl rfl ?_
  refine w_iload rfl rfl ?_
  refine m_callI rfl (fun _ => rfl) rfl (mI_mono H fun v3 I2 H => ?_)
  refine w_if rfl (And.intro (fun hc => ?_) (fun hc => ?_))
  · replace H := H.1 hc
    refine w_iconst rfl ⟨by decide, by decide⟩ ?_
    exact w_ireturn rfl H
  · replace H := H.2 hc
    refine w_iload rfl rfl ?_
    refine w_iconst rfl ⟨by decide, by decide⟩ ?_
    refine w_iconst rfl ⟨by decide, by decide⟩ ?_
    refine m_callI rfl (fun _ => rfl) rfl (mI_mono H fun v5 I4 H => ?_)
    refine w_if rfl (And.intro (fun hc => ?_) (fun hc => ?_))
    · replace H := H.1 hc
      refine w_iconst rfl ⟨by decide, by decide⟩ ?_
      exact w_ireturn rfl H
    · replace H := H.2 hc
      refine w_iload rfl rfl ?_
      refine w_iconst rfl ⟨by decide, by decide⟩ ?_
      refine w_iconst rfl ⟨by decide, by decide⟩ ?_
      refine m_callI rfl (fun _ => rfl) rfl (mI_mono H fun v7 I6 H => ?_)
      refine w_if rfl (And.intro (fun hc => ?_) (fun hc => ?_))
      · replace H := H.1 hc
        refine w_iconst rfl ⟨by decide, by decide⟩ ?_
        exact w_ireturn rfl H
      · replace H := H.2 hc
        refine w_iload rfl rfl ?_
        refine w_iconst rfl ⟨by decide, by decide⟩ ?_
        refine w_aload rfl rfl ?_
        refine m_getI 1 rfl rfl rfl (by decide) ?_
        refine w_iconst rfl ⟨by decide, by decide⟩ ?_
        refine w_icmp rfl (And.intro (fun hc => ?_) (fun hc => ?_))
        · replace H := H.1 hc
          refine w_iconst rfl ⟨by decide, by decide⟩ ?_
          exact H
        · replace H := H.2 hc
          refine w_iconst rfl ⟨by decide, by decide⟩ ?_
          refine w_goto rfl ?_
          exact H
set_option maxHeartbeats 4000000 in
set_option maxRecDepth 100000 in
theorem mr_term_35 {d : Nat} {Q : cm_Q} {z : cm_Z} {I : cm_I} (hz : mz z) {x1 : Int} {z2 : Option cm_V} {x3 : Int} {x4 : Int} {x5 : Int} {z6 : Option cm_V}  (H : ((x5 < 0 → Q (some (vI 0)) (I, z)) ∧ (0 ≤ x5 → (mI d m_Model_from [vR 12 209, vI x5] z I fun v2 I1 => cw d cd_Model_term Q 48 [some (vR 12 209), some (vI x1), z2, some (vI x3), some (vI x4), some (vI x5), some (vI v2)] [] (I1, z))))) : cw d cd_Model_term Q 35 [some (vR 12 209), some (vI x1), z2, some (vI x3), some (vI x4), some (vI x5), z6] [] (I, z) := by
  refine w_iload rfl rfl ?_
  refine w_if rfl (And.intro (fun hc => ?_) (fun hc => ?_))
  · replace H := H.1 hc
    refine w_iconst rfl ⟨by decide, by decide⟩ ?_
    exact w_ireturn rfl H
  · replace H := H.2 hc
    refine w_aload rfl rfl ?_
    refine w_iload rfl rfl ?_
    refine m_callI rfl (fun _ => rfl) rfl (mI_mono H fun v2 I1 H => ?_)
    refine w_istore rfl rfl ?_
    exact H
set_option maxHeartbeats 4000000 in
set_option maxRecDepth 100000 in
theorem mr_term_48 {d : Nat} {Q : cm_Q} {z : cm_Z} {I : cm_I} (hz : mz z) {x1 : Int} {z2 : Option cm_V} {x3 : Int} {x4 : Int} {x5 : Int} {x6 : Int}  (H : (cm_i (x5 + 1) ∧ (mI d m_Model_from [vR 12 209, vI (x5 + 1)] z I fun v3 I2 => ((v3 ≤ x6 → (cm_i (x5 + (-1)) ∧ cw d cd_Model_term Q 35 [some (vR 12 209), some (vI x1), z2, some (vI x3), some (vI x4), some (vI (x5 + (-1))), some (vI x6)] [] (I2, z))) ∧ (x6 < v3 → (cm_i (1140 * x1) ∧ (cm_i ((1140 * x1) + x6) ∧ ((0:Int) ≤ ((1140 * x1) + x6) ∧ ((1140 * x1) + x6) < 6840) ∧ (((I2 213 ((1140 * x1) + x6)) = 0 → (cm_i (x6 + 1) ∧ cw d cd_Model_term Q 48 [some (vR 12 209), some (vI x1), z2, some (vI x3), some (vI x4), some (vI x5), some (vI (x6 + 1))] [] (I2, z))) ∧ (¬ (I2 213 ((1140 * x1) + x6)) = 0 → ((¬ x4 = 0 → (cm_i (x4 + (-1)) ∧ (cm_i (x6 + 1) ∧ cw d cd_Model_term Q 48 [some (vR 12 209), some (vI x1), z2, some (vI x3), some (vI (x4 + (-1))), some (vI x5), some (vI (x6 + 1))] [] (I2, z)))) ∧ (x4 = 0 → (∀ I11 : cm_I, I11 = iu I2 209 0 0 → ((¬ x3 = 0 → ((¬ x3 = 1 → ((¬ x3 = 2 → ((0:Int) ≤ x6 ∧ x6 < 1140) ∧ Q (some (vI (I11 212 x6))) (I11, z)) ∧ (x3 = 2 → ((0:Int) ≤ x6 ∧ x6 < 1140) ∧ Q (some (vI (I11 211 x6))) (I11, z)))) ∧ (x3 = 1 → ((0:Int) ≤ x6 ∧ x6 < 1140) ∧ Q (some (vI (I11 210 x6))) (I11, z)))) ∧ (x3 = 0 → Q (some (vI (I11 213 ((1140 * x1) + x6)))) (I11, z))))))))))))))) : cw d cd_Model_term Q 48 [some (vR 12 209), some (vI x1), z2, some (vI x3), some (vI x4), some (vI x5), some (vI x6)] [] (I, z) := by
  refine w_iload rfl rfl ?_
  refine w_aload rfl rfl ?_
  refine w_iload rfl rfl ?_
  refine w_iconst rfl ⟨by decide, by decide⟩ ?_
  have o1 := H.1
  replace H := H.2
  refine w_iadd rfl o1 ?_
  refine m_callI rfl (fun _ => rfl) rfl (mI_mono H fun v3 I2 H => ?_)
  refine w_icmp rfl (And.intro (fun hc => ?_) (fun hc => ?_))
  · replace H := H.1 hc
    have o4 := H.1
    replace H := H.2
    refine w_iinc rfl rfl rfl o4 ?_
    refine w_goto rfl ?_
    exact H
  · replace H := H.2 hc
    refine w_aload rfl rfl ?_
    refine m_getR 5 20 213 hz rfl rfl rfl rfl rfl rfl (by decide) ?_
    refine w_iconst rfl ⟨by decide, by decide⟩ ?_
    refine w_iload rfl rfl ?_
    have o5 := H.1
    replace H := H.2
    refine w_imul rfl o5 ?_
    refine w_iload rfl rfl ?_
    have o6 := H.1
    replace H := H.2
    refine w_iadd rfl o6 ?_
    have o7 := H.1
    replace H := H.2
    refine m_iaload hz (by unfold mA; decide) rfl o7 ?_
    refine w_if rfl (And.intro (fun hc => ?_) (fun hc => ?_))
    · replace H := H.1 hc
      have o8 := H.1
      replace H := H.2
      refine w_iinc rfl rfl rfl o8 ?_
      refine w_goto rfl ?_
      exact H
    · replace H := H.2 hc
      refine w_iload rfl rfl ?_
      refine w_if rfl (And.intro (fun hc => ?_) (fun hc => ?_))
      · replace H := H.1 hc
        have o9 := H.1
        replace H := H.2
        refine w_iinc rfl rfl rfl o9 ?_
        have o10 := H.1
        replace H := H.2
        refine w_iinc rfl rfl rfl o10 ?_
        refine w_goto rfl ?_
        exact H
      · replace H := H.2 hc
        refine w_aload rfl rfl ?_
        refine w_iconst rfl ⟨by decide, by decide⟩ ?_
        refine m_putI 0 rfl rfl rfl (by decide) (fun I11 eI11 => ?_)
        replace H := H I11 eI11
        refine w_iload rfl rfl ?_
        refine w_if rfl (And.intro (fun hc => ?_) (fun hc => ?_))
        · replace H := H.1 hc
          refine w_iload rfl rfl ?_
          refine w_iconst rfl ⟨by decide, by decide⟩ ?_
          refine w_icmp rfl (And.intro (fun hc => ?_) (fun hc => ?_))
          · replace H := H.1 hc
            refine w_iload rfl rfl ?_
            refine w_iconst rfl ⟨by decide, by decide⟩ ?_
            refine w_icmp rfl (And.intro (fun hc => ?_) (fun hc => ?_))
            · replace H := H.1 hc
              refine w_aload rfl rfl ?_
              refine m_getR 4 20 212 hz rfl rfl rfl rfl rfl rfl (by decide) ?_
              refine w_iload rfl rfl ?_
              have o12 := H.1
              replace H := H.2
              refine m_iaload hz (by unfold mA; decide) rfl o12 ?_
              exact w_ireturn rfl H
            · replace H := H.2 hc
              refine w_aload rfl rfl ?_
              refine m_getR 3 20 211 hz rfl rfl rfl rfl rfl rfl (by decide) ?_
              refine w_iload rfl rfl ?_
              have o13 := H.1
              replace H := H.2
              refine m_iaload hz (by unfold mA; decide) rfl o13 ?_
              refine w_goto rfl ?_
              exact w_ireturn rfl H
          · replace H := H.2 hc
            refine w_aload rfl rfl ?_
            refine m_getR 2 20 210 hz rfl rfl rfl rfl rfl rfl (by decide) ?_
            refine w_iload rfl rfl ?_
            have o14 := H.1
            replace H := H.2
            refine m_iaload hz (by unfold mA; decide) rfl o14 ?_
            refine w_goto rfl ?_
            exact w_ireturn rfl H
        · replace H := H.2 hc
          refine w_aload rfl rfl ?_
          refine m_getR 5 20 213 hz rfl rfl rfl rfl rfl rfl (by decide) ?_
          refine w_iconst rfl ⟨by decide, by decide⟩ ?_
          refine w_iload rfl rfl ?_
          refine w_imul rfl o5 ?_
          refine w_iload rfl rfl ?_
          refine w_iadd rfl o6 ?_
          refine m_iaload hz (by unfold mA; decide) rfl o7 ?_
          refine w_goto rfl ?_
          exact w_ireturn rfl H
set_option maxHeartbeats 4000000 in
set_option maxRecDepth 100000 in
theorem mr_term {d : Nat} {Q : cm_Q} {z : cm_Z} {I : cm_I} (hz : mz z) {x1 : Int} {x2 : Int} {x3 : Int}  (H : (∀ I1 : cm_I, I1 = iu I 209 0 1 → (mI d m_Model_isKept [vR 12 209, vI x1] z I1 fun v3 I2 => ((v3 = 0 → Q (some (vI 0)) (I2, z)) ∧ (¬ v3 = 0 → ((x2 < 0 → Q (some (vI 0)) (I2, z)) ∧ (0 ≤ x2 → (mI d m_Model_within [vI x3, vI 0, vI 3] z I2 fun v5 I4 => ((¬ v5 = 0 → cw d cd_Model_term Q 35 [some (vR 12 209), some (vI x1), some (vI x2), some (vI x3), some (vI x2), some (vI 15), none] [] (I4, z)) ∧ (v5 = 0 → Q (some (vI 0)) (I4, z))))))))))) : cm_call (d + 1) m_Model_term [vR 12 209, vI x1, vI x2, vI x3] (I, z) Q := by
  refine cm_call_in (C := cd_Model_term) (ls := [some (vR 12 209), some (vI x1), some (vI x2), some (vI x3), none, none, none]) rfl rfl (show 0 < 209 by decide) rfl ?_
  refine w_aload rfl rfl ?_
  refine w_iconst rfl ⟨by decide, by decide⟩ ?_
  refine m_putI 0 rfl rfl rfl (by decide) (fun I1 eI1 => ?_)
  replace H := H I1 eI1
  refine w_aload rfl rfl ?_
  refine w_iload rfl rfl ?_
  refine m_callI rfl (fun _ => rfl) rfl (mI_mono H fun v3 I2 H => ?_)
  refine w_if rfl (And.intro (fun hc => ?_) (fun hc => ?_))
  · replace H := H.1 hc
    refine w_iconst rfl ⟨by decide, by decide⟩ ?_
    exact w_ireturn rfl H
  · replace H := H.2 hc
    refine w_iload rfl rfl ?_
    refine w_if rfl (And.intro (fun hc => ?_) (fun hc => ?_))
    · replace H := H.1 hc
      refine w_iconst rfl ⟨by decide, by decide⟩ ?_
      exact w_ireturn rfl H
    · replace H := H.2 hc
      refine w_iload rfl rfl ?_
      refine w_iconst rfl ⟨by decide, by decide⟩ ?_
      refine w_iconst rfl ⟨by decide, by decide⟩ ?_
      refine m_callI rfl (fun _ => rfl) rfl (mI_mono H fun v5 I4 H => ?_)
      refine w_if rfl (And.intro (fun hc => ?_) (fun hc => ?_))
      · replace H := H.1 hc
        refine w_iload rfl rfl ?_
        refine w_istore rfl rfl ?_
        refine w_iconst rfl ⟨by decide, by decide⟩ ?_
        refine w_istore rfl rfl ?_
        exact H
      · replace H := H.2 hc
        refine w_iconst rfl ⟨by decide, by decide⟩ ?_
        exact w_ireturn rfl H
set_option maxHeartbeats 4000000 in
set_option maxRecDepth 100000 in
theorem mr_moved {d : Nat} {Q : cm_Q} {z : cm_Z} {I : cm_I} (hz : mz z) {x1 : Int} {x2 : Int} {x3 : Int}  (H : (∀ I1 : cm_I, I1 = iu I 209 0 0 → (mI d m_Model_isKept [vR 12 209, vI x1] z I1 fun v3 I2 => ((v3 = 0 → Q (some (vI (-1))) (I2, z)) ∧ (¬ v3 = 0 → (mI d m_Model_isMember [vR 12 209, vI x2] z I2 fun v5 I4 => ((v5 = 0 → Q (some (vI (-1))) (I4, z)) ∧ (¬ v5 = 0 → (mI d m_Model_isKept [vR 12 209, vI x3] z I4 fun v7 I6 => ((¬ v7 = 0 → (cm_i (1140 * x1) ∧ (mU d m_Model_moves [vR 12 209, vR 20 213, vI (1140 * x1), vR 20 218, vI x2, vR 20 216] z I6 fun I9 => (cm_i (1140 * x3) ∧ (mU d m_Model_copies [vR 20 216, vI 0, vR 20 213, vI (1140 * x3)] z I9 fun I11 => (mI d m_Model_terms [vR 12 209, vI (1140 * x3)] z I11 fun v13 I12 => Q (some (vI v13)) (I12, z))))))) ∧ (v7 = 0 → Q (some (vI (-1))) (I6, z)))))))))))) : cm_call (d + 1) m_Model_moved [vR 12 209, vI x1, vI x2, vI x3] (I, z) Q := by
  refine cm_call_in (C := cd_Model_moved) (ls := [some (vR 12 209), some (vI x1), some (vI x2), some (vI x3)]) rfl rfl (show 0 < 209 by decide) rfl ?_
  refine w_aload rfl rfl ?_
  refine w_iconst rfl ⟨by decide, by decide⟩ ?_
  refine m_putI 0 rfl rfl rfl (by decide) (fun I1 eI1 => ?_)
  replace H := H I1 eI1
  refine w_aload rfl rfl ?_
  refine w_iload rfl rfl ?_
  refine m_callI rfl (fun _ => rfl) rfl (mI_mono H fun v3 I2 H => ?_)
  refine w_if rfl (And.intro (fun hc => ?_) (fun hc => ?_))
  · replace H := H.1 hc
    refine w_iconst rfl ⟨by decide, by decide⟩ ?_
    exact w_ireturn rfl H
  · replace H := H.2 hc
    refine w_aload rfl rfl ?_
    refine w_iload rfl rfl ?_
    refine m_callI rfl (fun _ => rfl) rfl (mI_mono H fun v5 I4 H => ?_)
    refine w_if rfl (And.intro (fun hc => ?_) (fun hc => ?_))
    · replace H := H.1 hc
      refine w_iconst rfl ⟨by decide, by decide⟩ ?_
      exact w_ireturn rfl H
    · replace H := H.2 hc
      refine w_aload rfl rfl ?_
      refine w_iload rfl rfl ?_
      refine m_callI rfl (fun _ => rfl) rfl (mI_mono H fun v7 I6 H => ?_)
      refine w_if rfl (And.intro (fun hc => ?_) (fun hc => ?_))
      · replace H := H.1 hc
        refine w_aload rfl rfl ?_
        refine w_aload rfl rfl ?_
        refine m_getR 5 20 213 hz rfl rfl rfl rfl rfl rfl (by decide) ?_
        refine w_iconst rfl ⟨by decide, by decide⟩ ?_
        refine w_iload rfl rfl ?_
        have o8 := H.1
        replace H := H.2
        refine w_imul rfl o8 ?_
        refine w_aload rfl rfl ?_
        refine m_getR 12 20 218 hz rfl rfl rfl rfl rfl rfl (by decide) ?_
        refine w_iload rfl rfl ?_
        refine w_aload rfl rfl ?_
        refine m_getR 8 20 216 hz rfl rfl rfl rfl rfl rfl (by decide) ?_
        refine m_callU rfl (fun _ => rfl) rfl (mU_mono H fun I9 H => ?_)
        refine w_aload rfl rfl ?_
        refine m_getR 8 20 216 hz rfl rfl rfl rfl rfl rfl (by decide) ?_
        refine w_iconst rfl ⟨by decide, by decide⟩ ?_
        refine w_aload rfl rfl ?_
        refine m_getR 5 20 213 hz rfl rfl rfl rfl rfl rfl (by decide) ?_
        refine w_iconst rfl ⟨by decide, by decide⟩ ?_
        refine w_iload rfl rfl ?_
        have o10 := H.1
        replace H := H.2
        refine w_imul rfl o10 ?_
        refine m_callU rfl (fun _ => rfl) rfl (mU_mono H fun I11 H => ?_)
        refine w_aload rfl rfl ?_
        refine w_iconst rfl ⟨by decide, by decide⟩ ?_
        refine w_iload rfl rfl ?_
        refine w_imul rfl o10 ?_
        refine m_callI rfl (fun _ => rfl) rfl (mI_mono H fun v13 I12 H => ?_)
        exact w_ireturn rfl H
      · replace H := H.2 hc
        refine w_iconst rfl ⟨by decide, by decide⟩ ?_
        exact w_ireturn rfl H
set_option maxHeartbeats 4000000 in
set_option maxRecDepth 100000 in
theorem mr_average_42 {d : Nat} {Q : cm_Q} {z : cm_Z} {I : cm_I} (hz : mz z) {x1 : Int} {x2 : Int} {x3 : Int} {x4 : Int} {z5 : Option cm_V}  (H : (((I 209 11) ≤ x4 → (cm_i (1140 * x2) ∧ (mU d m_Model_copies [vR 20 215, vI 0, vR 20 213, vI (1140 * x2)] z I fun I2 => (mI d m_Model_terms [vR 12 209, vI (1140 * x2)] z I2 fun v4 I3 => Q (some (vI v4)) (I3, z))))) ∧ (x4 < (I 209 11) → (cm_i (1140 * x1) ∧ (mU d m_Model_moves [vR 12 209, vR 20 213, vI (1140 * x1), vR 20 218, vI x4, vR 20 216] z I fun I6 => cw d cd_Model_average Q 77 [some (vR 12 209), some (vI x1), some (vI x2), some (vI x3), some (vI x4), some (vI 0)] [] (I6, z)))))) : cw d cd_Model_average Q 42 [some (vR 12 209), some (vI x1), some (vI x2), some (vI x3), some (vI x4), z5] [] (I, z) := by
  refine w_iload rfl rfl ?_
  refine w_aload rfl rfl ?_
  refine m_getI 11 rfl rfl rfl (by decide) ?_
  refine w_icmp rfl (And.intro (fun hc => ?_) (fun hc => ?_))
  · replace H := H.1 hc
    refine w_aload rfl rfl ?_
    refine m_getR 7 20 215 hz rfl rfl rfl rfl rfl rfl (by decide) ?_
    refine w_iconst rfl ⟨by decide, by decide⟩ ?_
    refine w_aload rfl rfl ?_
    refine m_getR 5 20 213 hz rfl rfl rfl rfl rfl rfl (by decide) ?_
    refine w_iconst rfl ⟨by decide, by decide⟩ ?_
    refine w_iload rfl rfl ?_
    have o1 := H.1
    replace H := H.2
    refine w_imul rfl o1 ?_
    refine m_callU rfl (fun _ => rfl) rfl (mU_mono H fun I2 H => ?_)
    refine w_aload rfl rfl ?_
    refine w_iconst rfl ⟨by decide, by decide⟩ ?_
    refine w_iload rfl rfl ?_
    refine w_imul rfl o1 ?_
    refine m_callI rfl (fun _ => rfl) rfl (mI_mono H fun v4 I3 H => ?_)
    exact w_ireturn rfl H
  · replace H := H.2 hc
    refine w_aload rfl rfl ?_
    refine w_aload rfl rfl ?_
    refine m_getR 5 20 213 hz rfl rfl rfl rfl rfl rfl (by decide) ?_
    refine w_iconst rfl ⟨by decide, by decide⟩ ?_
    refine w_iload rfl rfl ?_
    have o5 := H.1
    replace H := H.2
    refine w_imul rfl o5 ?_
    refine w_aload rfl rfl ?_
    refine m_getR 12 20 218 hz rfl rfl rfl rfl rfl rfl (by decide) ?_
    refine w_iload rfl rfl ?_
    refine w_aload rfl rfl ?_
    refine m_getR 8 20 216 hz rfl rfl rfl rfl rfl rfl (by decide) ?_
    refine m_callU rfl (fun _ => rfl) rfl (mU_mono H fun I6 H => ?_)
    refine w_iconst rfl ⟨by decide, by decide⟩ ?_
    refine w_istore rfl rfl ?_
    exact H
set_option maxHeartbeats 4000000 in
set_option maxRecDepth 100000 in
theorem mr_average_77 {d : Nat} {Q : cm_Q} {z : cm_Z} {I : cm_I} (hz : mz z) {x1 : Int} {x2 : Int} {x3 : Int} {x4 : Int} {x5 : Int}  (H : ((1140 ≤ x5 → (cm_i (x4 + 1) ∧ cw d cd_Model_average Q 42 [some (vR 12 209), some (vI x1), some (vI x2), some (vI x3), some (vI (x4 + 1)), some (vI x5)] [] (I, z))) ∧ (x5 < 1140 → ((0:Int) ≤ x5 ∧ x5 < 1140) ∧ (cm_i ((I 216 x5) * x3) ∧ (cm_i ((I 215 x5) + ((I 216 x5) * x3)) ∧ (∀ I5 : cm_I, I5 = iu I 215 x5 (Int.tmod ((I 215 x5) + ((I 216 x5) * x3)) 2521) → (cm_i (x5 + 1) ∧ cw d cd_Model_average Q 77 [some (vR 12 209), some (vI x1), some (vI x2), some (vI x3), some (vI x4), some (vI (x5 + 1))] [] (I5, z)))))))) : cw d cd_Model_average Q 77 [some (vR 12 209), some (vI x1), some (vI x2), some (vI x3), some (vI x4), some (vI x5)] [] (I, z) := by
  refine w_iload rfl rfl ?_
  refine w_iconst rfl ⟨by decide, by decide⟩ ?_
  refine w_icmp rfl (And.intro (fun hc => ?_) (fun hc => ?_))
  · replace H := H.1 hc
    have o1 := H.1
    replace H := H.2
    refine w_iinc rfl rfl rfl o1 ?_
    refine w_goto rfl ?_
    exact H
  · replace H := H.2 hc
    refine w_aload rfl rfl ?_
    refine m_getR 7 20 215 hz rfl rfl rfl rfl rfl rfl (by decide) ?_
    refine w_iload rfl rfl ?_
    refine w_aload rfl rfl ?_
    refine m_getR 7 20 215 hz rfl rfl rfl rfl rfl rfl (by decide) ?_
    refine w_iload rfl rfl ?_
    have o2 := H.1
    replace H := H.2
    refine m_iaload hz (by unfold mA; decide) rfl o2 ?_
    refine w_aload rfl rfl ?_
    refine m_getR 8 20 216 hz rfl rfl rfl rfl rfl rfl (by decide) ?_
    refine w_iload rfl rfl ?_
    refine m_iaload hz (by unfold mA; decide) rfl o2 ?_
    refine w_iload rfl rfl ?_
    have o3 := H.1
    replace H := H.2
    refine w_imul rfl o3 ?_
    have o4 := H.1
    replace H := H.2
    refine w_iadd rfl o4 ?_
    refine w_iconst rfl ⟨by decide, by decide⟩ ?_
    refine w_irem rfl (by decide) ?_
    refine m_iastore hz (by unfold mA; decide) rfl o2 (fun I5 eI5 => ?_)
    replace H := H I5 eI5
    have o6 := H.1
    replace H := H.2
    refine w_iinc rfl rfl rfl o6 ?_
    refine w_goto rfl ?_
    exact H
set_option maxHeartbeats 4000000 in
set_option maxRecDepth 100000 in
theorem mr_average {d : Nat} {Q : cm_Q} {z : cm_Z} {I : cm_I} (hz : mz z) {x1 : Int} {x2 : Int}  (H : (∀ I1 : cm_I, I1 = iu I 209 0 0 → (mI d m_Model_isKept [vR 12 209, vI x1] z I1 fun v3 I2 => ((v3 = 0 → Q (some (vI (-1))) (I2, z)) ∧ (¬ v3 = 0 → (mI d m_Model_isKept [vR 12 209, vI x2] z I2 fun v5 I4 => ((¬ v5 = 0 → (mU d m_Model_clears [vR 20 215, vI 0] z I4 fun I6 => (mI d m_Model_inverse [vI (I6 209 11)] z I6 fun v8 I7 => cw d cd_Model_average Q 42 [some (vR 12 209), some (vI x1), some (vI x2), some (vI v8), some (vI 0), none] [] (I7, z)))) ∧ (v5 = 0 → Q (some (vI (-1))) (I4, z))))))))) : cm_call (d + 1) m_Model_average [vR 12 209, vI x1, vI x2] (I, z) Q := by
  refine cm_call_in (C := cd_Model_average) (ls := [some (vR 12 209), some (vI x1), some (vI x2), none, none, none]) rfl rfl (show 0 < 209 by decide) rfl ?_
  refine w_aload rfl rfl ?_
  refine w_iconst rfl ⟨by decide, by decide⟩ ?_
  refine m_putI 0 rfl rfl rfl (by decide) (fun I1 eI1 => ?_)
  replace H := H I1 eI1
  refine w_aload rfl rfl ?_
  refine w_iload rfl rfl ?_
  refine m_callI rfl (fun _ => rfl) rfl (mI_mono H fun v3 I2 H => ?_)
  refine w_if rfl (And.intro (fun hc => ?_) (fun hc => ?_))
  · replace H := H.1 hc
    refine w_iconst rfl ⟨by decide, by decide⟩ ?_
    exact w_ireturn rfl H
  · replace H := H.2 hc
    refine w_aload rfl rfl ?_
    refine w_iload rfl rfl ?_
    refine m_callI rfl (fun _ => rfl) rfl (mI_mono H fun v5 I4 H => ?_)
    refine w_if rfl (And.intro (fun hc => ?_) (fun hc => ?_))
    · replace H := H.1 hc
      refine w_aload rfl rfl ?_
      refine m_getR 7 20 215 hz rfl rfl rfl rfl rfl rfl (by decide) ?_
      refine w_iconst rfl ⟨by decide, by decide⟩ ?_
      refine m_callU rfl (fun _ => rfl) rfl (mU_mono H fun I6 H => ?_)
      refine w_aload rfl rfl ?_
      refine m_getI 11 rfl rfl rfl (by decide) ?_
      refine m_callI rfl (fun _ => rfl) rfl (mI_mono H fun v8 I7 H => ?_)
      refine w_istore rfl rfl ?_
      refine w_iconst rfl ⟨by decide, by decide⟩ ?_
      refine w_istore rfl rfl ?_
      exact H
    · replace H := H.2 hc
      refine w_iconst rfl ⟨by decide, by decide⟩ ?_
      exact w_ireturn rfl H
set_option maxHeartbeats 4000000 in
set_option maxRecDepth 100000 in
theorem mr_plus_42 {d : Nat} {Q : cm_Q} {z : cm_Z} {I : cm_I} (hz : mz z) {x1 : Int} {x2 : Int} {z3 : Option cm_V} {x4 : Int} {x5 : Int} {x6 : Int}  (H : ((1140 ≤ x6 → (cm_i (1140 * x4) ∧ (mU d m_Model_copies [vR 20 216, vI 0, vR 20 213, vI (1140 * x4)] z I fun I2 => (mI d m_Model_terms [vR 12 209, vI (1140 * x4)] z I2 fun v4 I3 => Q (some (vI v4)) (I3, z))))) ∧ (x6 < 1140 → (cm_i (1140 * x1) ∧ (cm_i ((1140 * x1) + x6) ∧ ((0:Int) ≤ ((1140 * x1) + x6) ∧ ((1140 * x1) + x6) < 6840) ∧ (cm_i (1140 * x2) ∧ (cm_i ((1140 * x2) + x6) ∧ ((0:Int) ≤ ((1140 * x2) + x6) ∧ ((1140 * x2) + x6) < 6840) ∧ (cm_i (x5 * (I 213 ((1140 * x2) + x6))) ∧ (cm_i ((I 213 ((1140 * x1) + x6)) + (x5 * (I 213 ((1140 * x2) + x6)))) ∧ ((0:Int) ≤ x6 ∧ x6 < 1140) ∧ (∀ I14 : cm_I, I14 = iu I 216 x6 (Int.tmod ((I 213 ((1140 * x1) + x6)) + (x5 * (I 213 ((1140 * x2) + x6)))) 2521) → (cm_i (x6 + 1) ∧ cw d cd_Model_plus Q 42 [some (vR 12 209), some (vI x1), some (vI x2), z3, some (vI x4), some (vI x5), some (vI (x6 + 1))] [] (I14, z)))))))))))) : cw d cd_Model_plus Q 42 [some (vR 12 209), some (vI x1), some (vI x2), z3, some (vI x4), some (vI x5), some (vI x6)] [] (I, z) := by
  refine w_iload rfl rfl ?_
  refine w_iconst rfl ⟨by decide, by decide⟩ ?_
  refine w_icmp rfl (And.intro (fun hc => ?_) (fun hc => ?_))
  · replace H := H.1 hc
    refine w_aload rfl rfl ?_
    refine m_getR 8 20 216 hz rfl rfl rfl rfl rfl rfl (by decide) ?_
    refine w_iconst rfl ⟨by decide, by decide⟩ ?_
    refine w_aload rfl rfl ?_
    refine m_getR 5 20 213 hz rfl rfl rfl rfl rfl rfl (by decide) ?_
    refine w_iconst rfl ⟨by decide, by decide⟩ ?_
    refine w_iload rfl rfl ?_
    have o1 := H.1
    replace H := H.2
    refine w_imul rfl o1 ?_
    refine m_callU rfl (fun _ => rfl) rfl (mU_mono H fun I2 H => ?_)
    refine w_aload rfl rfl ?_
    refine w_iconst rfl ⟨by decide, by decide⟩ ?_
    refine w_iload rfl rfl ?_
    refine w_imul rfl o1 ?_
    refine m_callI rfl (fun _ => rfl) rfl (mI_mono H fun v4 I3 H => ?_)
    exact w_ireturn rfl H
  · replace H := H.2 hc
    refine w_aload rfl rfl ?_
    refine m_getR 8 20 216 hz rfl rfl rfl rfl rfl rfl (by decide) ?_
    refine w_iload rfl rfl ?_
    refine w_aload rfl rfl ?_
    refine m_getR 5 20 213 hz rfl rfl rfl rfl rfl rfl (by decide) ?_
    refine w_iconst rfl ⟨by decide, by decide⟩ ?_
    refine w_iload rfl rfl ?_
    have o5 := H.1
    replace H := H.2
    refine w_imul rfl o5 ?_
    refine w_iload rfl rfl ?_
    have o6 := H.1
    replace H := H.2
    refine w_iadd rfl o6 ?_
    have o7 := H.1
    replace H := H.2
    refine m_iaload hz (by unfold mA; decide) rfl o7 ?_
    refine w_iload rfl rfl ?_
    refine w_aload rfl rfl ?_
    refine m_getR 5 20 213 hz rfl rfl rfl rfl rfl rfl (by decide) ?_
    refine w_iconst rfl ⟨by decide, by decide⟩ ?_
    refine w_iload rfl rfl ?_
    have o8 := H.1
    replace H := H.2
    refine w_imul rfl o8 ?_
    refine w_iload rfl rfl ?_
    have o9 := H.1
    replace H := H.2
    refine w_iadd rfl o9 ?_
    have o10 := H.1
    replace H := H.2
    refine m_iaload hz (by unfold mA; decide) rfl o10 ?_
    have o11 := H.1
    replace H := H.2
    refine w_imul rfl o11 ?_
    have o12 := H.1
    replace H := H.2
    refine w_iadd rfl o12 ?_
    refine w_iconst rfl ⟨by decide, by decide⟩ ?_
    refine w_irem rfl (by decide) ?_
    have o13 := H.1
    replace H := H.2
    refine m_iastore hz (by unfold mA; decide) rfl o13 (fun I14 eI14 => ?_)
    replace H := H I14 eI14
    have o15 := H.1
    replace H := H.2
    refine w_iinc rfl rfl rfl o15 ?_
    refine w_goto rfl ?_
    exact H
set_option maxHeartbeats 4000000 in
set_option maxRecDepth 100000 in
theorem mr_plus {d : Nat} {Q : cm_Q} {z : cm_Z} {I : cm_I} (hz : mz z) {x1 : Int} {x2 : Int} {x3 : Int} {x4 : Int}  (H : (∀ I1 : cm_I, I1 = iu I 209 0 0 → (mI d m_Model_isKept [vR 12 209, vI x1] z I1 fun v3 I2 => ((v3 = 0 → Q (some (vI (-1))) (I2, z)) ∧ (¬ v3 = 0 → (mI d m_Model_isKept [vR 12 209, vI x2] z I2 fun v5 I4 => ((v5 = 0 → Q (some (vI (-1))) (I4, z)) ∧ (¬ v5 = 0 → (mI d m_Model_isKept [vR 12 209, vI x4] z I4 fun v7 I6 => ((¬ v7 = 0 → (mI d m_Model_of [vL x3] z I6 fun v9 I8 => cw d cd_Model_plus Q 42 [some (vR 12 209), some (vI x1), some (vI x2), some (vI x3), some (vI x4), some (vI v9), some (vI 0)] [] (I8, z))) ∧ (v7 = 0 → Q (some (vI (-1))) (I6, z)))))))))))) : cm_call (d + 1) m_Model_plus [vR 12 209, vI x1, vI x2, vI x3, vI x4] (I, z) Q := by
  refine cm_call_in (C := cd_Model_plus) (ls := [some (vR 12 209), some (vI x1), some (vI x2), some (vI x3), some (vI x4), none, none]) rfl rfl (show 0 < 209 by decide) rfl ?_
  refine w_aload rfl rfl ?_
  refine w_iconst rfl ⟨by decide, by decide⟩ ?_
  refine m_putI 0 rfl rfl rfl (by decide) (fun I1 eI1 => ?_)
  replace H := H I1 eI1
  refine w_aload rfl rfl ?_
  refine w_iload rfl rfl ?_
  refine m_callI rfl (fun _ => rfl) rfl (mI_mono H fun v3 I2 H => ?_)
  refine w_if rfl (And.intro (fun hc => ?_) (fun hc => ?_))
  · replace H := H.1 hc
    refine w_iconst rfl ⟨by decide, by decide⟩ ?_
    exact w_ireturn rfl H
  · replace H := H.2 hc
    refine w_aload rfl rfl ?_
    refine w_iload rfl rfl ?_
    refine m_callI rfl (fun _ => rfl) rfl (mI_mono H fun v5 I4 H => ?_)
    refine w_if rfl (And.intro (fun hc => ?_) (fun hc => ?_))
    · replace H := H.1 hc
      refine w_iconst rfl ⟨by decide, by decide⟩ ?_
      exact w_ireturn rfl H
    · replace H := H.2 hc
      refine w_aload rfl rfl ?_
      refine w_iload rfl rfl ?_
      refine m_callI rfl (fun _ => rfl) rfl (mI_mono H fun v7 I6 H => ?_)
      refine w_if rfl (And.intro (fun hc => ?_) (fun hc => ?_))
      · replace H := H.1 hc
        refine w_iload rfl rfl ?_
        refine w_i2l rfl ?_
        refine m_callI rfl (fun _ => rfl) rfl (mI_mono H fun v9 I8 H => ?_)
        refine w_istore rfl rfl ?_
        refine w_iconst rfl ⟨by decide, by decide⟩ ?_
        refine w_istore rfl rfl ?_
        exact H
      · replace H := H.2 hc
        refine w_iconst rfl ⟨by decide, by decide⟩ ?_
        exact w_ireturn rfl H
set_option maxHeartbeats 4000000 in
set_option maxRecDepth 100000 in
theorem mr_product__68 {d : Nat} {Q : cm_Q} {z : cm_Z} {I : cm_I} (hz : mz z) {x1 : Int} {x2 : Int} {x3 : Int} {z4 : Option cm_V} {s0 : Int}  (H : ((¬ s0 = 0 → cw d cd_Model_product_ Q 110 [some (vR 12 209), some (vI x1), some (vI x2), some (vI x3), some (vI s0)] [] (I, z)) ∧ (s0 = 0 → (cm_i (1140 * x1) ∧ (mI d m_Model_degree [vR 12 209, vR 20 213, vI (1140 * x1)] z I fun v3 I2 => (cm_i (1140 * x2) ∧ (mI d m_Model_degree [vR 12 209, vR 20 213, vI (1140 * x2)] z I2 fun v6 I5 => (cm_i (v3 + v6) ∧ (((v3 + v6) ≤ 15 → cw d cd_Model_product_ Q 110 [some (vR 12 209), some (vI x1), some (vI x2), some (vI x3), some (vI s0)] [] (I5, z)) ∧ (15 < (v3 + v6) → Q (some (vI (-2))) (I5, z))))))))))) : cw d cd_Model_product_ Q 68 [some (vR 12 209), some (vI x1), some (vI x2), some (vI x3), z4] [vI s0] (I, z) := by
  refine w_istore rfl rfl ?_
  refine w_iload rfl rfl ?_
  refine w_if rfl (And.intro (fun hc => ?_) (fun hc => ?_))
  · replace H := H.1 hc
    exact H
  · replace H := H.2 hc
    refine w_aload rfl rfl ?_
    refine w_aload rfl rfl ?_
    refine m_getR 5 20 213 hz rfl rfl rfl rfl rfl rfl (by decide) ?_
    refine w_iconst rfl ⟨by decide, by decide⟩ ?_
    refine w_iload rfl rfl ?_
    have o1 := H.1
    replace H := H.2
    refine w_imul rfl o1 ?_
    refine m_callI rfl (fun _ => rfl) rfl (mI_mono H fun v3 I2 H => ?_)
    refine w_aload rfl rfl ?_
    refine w_aload rfl rfl ?_
    refine m_getR 5 20 213 hz rfl rfl rfl rfl rfl rfl (by decide) ?_
    refine w_iconst rfl ⟨by decide, by decide⟩ ?_
    refine w_iload rfl rfl ?_
    have o4 := H.1
    replace H := H.2
    refine w_imul rfl o4 ?_
    refine m_callI rfl (fun _ => rfl) rfl (mI_mono H fun v6 I5 H => ?_)
    have o7 := H.1
    replace H := H.2
    refine w_iadd rfl o7 ?_
    refine w_iconst rfl ⟨by decide, by decide⟩ ?_
    refine w_icmp rfl (And.intro (fun hc => ?_) (fun hc => ?_))
    · replace H := H.1 hc
      exact H
    · replace H := H.2 hc
      refine w_iconst rfl ⟨by decide, by decide⟩ ?_
      exact w_ireturn rfl H
set_option maxHeartbeats 4000000 in
set_option maxRecDepth 100000 in
theorem mr_product__110 {d : Nat} {Q : cm_Q} {z : cm_Z} {I : cm_I} (hz : mz z) {x1 : Int} {x2 : Int} {x3 : Int} {z4 : Option cm_V}  (H : (cm_i (1140 * x1) ∧ (cm_i (1140 * x2) ∧ (mU d m_Model_multiplies [vR 12 209, vR 20 213, vI (1140 * x1), vR 20 213, vI (1140 * x2), vR 20 216, vI 0] z I fun I3 => (cm_i (1140 * x3) ∧ (mU d m_Model_copies [vR 20 216, vI 0, vR 20 213, vI (1140 * x3)] z I3 fun I5 => (mI d m_Model_terms [vR 12 209, vI (1140 * x3)] z I5 fun v7 I6 => Q (some (vI v7)) (I6, z)))))))) : cw d cd_Model_product_ Q 110 [some (vR 12 209), some (vI x1), some (vI x2), some (vI x3), z4] [] (I, z) := by
  refine w_aload rfl rfl ?_
  refine w_aload rfl rfl ?_
  refine m_getR 5 20 213 hz rfl rfl rfl rfl rfl rfl (by decide) ?_
  refine w_iconst rfl ⟨by decide, by decide⟩ ?_
  refine w_iload rfl rfl ?_
  have o1 := H.1
  replace H := H.2
  refine w_imul rfl o1 ?_
  refine w_aload rfl rfl ?_
  refine m_getR 5 20 213 hz rfl rfl rfl rfl rfl rfl (by decide) ?_
  refine w_iconst rfl ⟨by decide, by decide⟩ ?_
  refine w_iload rfl rfl ?_
  have o2 := H.1
  replace H := H.2
  refine w_imul rfl o2 ?_
  refine w_aload rfl rfl ?_
  refine m_getR 8 20 216 hz rfl rfl rfl rfl rfl rfl (by decide) ?_
  refine w_iconst rfl ⟨by decide, by decide⟩ ?_
  refine m_callU rfl (fun _ => rfl) rfl (mU_mono H fun I3 H => ?_)
  refine w_aload rfl rfl ?_
  refine m_getR 8 20 216 hz rfl rfl rfl rfl rfl rfl (by decide) ?_
  refine w_iconst rfl ⟨by decide, by decide⟩ ?_
  refine w_aload rfl rfl ?_
  refine m_getR 5 20 213 hz rfl rfl rfl rfl rfl rfl (by decide) ?_
  refine w_iconst rfl ⟨by decide, by decide⟩ ?_
  refine w_iload rfl rfl ?_
  have o4 := H.1
  replace H := H.2
  refine w_imul rfl o4 ?_
  refine m_callU rfl (fun _ => rfl) rfl (mU_mono H fun I5 H => ?_)
  refine w_aload rfl rfl ?_
  refine w_iconst rfl ⟨by decide, by decide⟩ ?_
  refine w_iload rfl rfl ?_
  refine w_imul rfl o4 ?_
  refine m_callI rfl (fun _ => rfl) rfl (mI_mono H fun v7 I6 H => ?_)
  exact w_ireturn rfl H
set_option maxHeartbeats 4000000 in
set_option maxRecDepth 100000 in
theorem mr_product_ {d : Nat} {Q : cm_Q} {z : cm_Z} {I : cm_I} (hz : mz z) {x1 : Int} {x2 : Int} {x3 : Int}  (H : (∀ I1 : cm_I, I1 = iu I 209 0 0 → (mI d m_Model_isKept [vR 12 209, vI x1] z I1 fun v3 I2 => ((v3 = 0 → Q (some (vI (-1))) (I2, z)) ∧ (¬ v3 = 0 → (mI d m_Model_isKept [vR 12 209, vI x2] z I2 fun v5 I4 => ((v5 = 0 → Q (some (vI (-1))) (I4, z)) ∧ (¬ v5 = 0 → (mI d m_Model_isKept [vR 12 209, vI x3] z I4 fun v7 I6 => ((¬ v7 = 0 → (cm_i (1140 * x1) ∧ (mI d m_Model_isNothing [vR 12 209, vR 20 213, vI (1140 * x1)] z I6 fun v10 I9 => ((¬ v10 = 0 → cw d cd_Model_product_ Q 68 [some (vR 12 209), some (vI x1), some (vI x2), some (vI x3), none] [vI 1] (I9, z)) ∧ (v10 = 0 → (cm_i (1140 * x2) ∧ (mI d m_Model_isNothing [vR 12 209, vR 20 213, vI (1140 * x2)] z I9 fun v13 I12 => ((v13 = 0 → cw d cd_Model_product_ Q 68 [some (vR 12 209), some (vI x1), some (vI x2), some (vI x3), none] [vI 0] (I12, z)) ∧ (¬ v13 = 0 → cw d cd_Model_product_ Q 68 [some (vR 12 209), some (vI x1), some (vI x2), some (vI x3), none] [vI 1] (I12, z)))))))))) ∧ (v7 = 0 → Q (some (vI (-1))) (I6, z)))))))))))) : cm_call (d + 1) m_Model_product_ [vR 12 209, vI x1, vI x2, vI x3] (I, z) Q := by
  refine cm_call_in (C := cd_Model_product_) (ls := [some (vR 12 209), some (vI x1), some (vI x2), some (vI x3), none]) rfl rfl (show 0 < 209 by decide) rfl ?_
  refine w_aload rfl rfl ?_
  refine w_iconst rfl ⟨by decide, by decide⟩ ?_
  refine m_putI 0 rfl rfl rfl (by decide) (fun I1 eI1 => ?_)
  replace H := H I1 eI1
  refine w_aload rfl rfl ?_
  refine w_iload rfl rfl ?_
  refine m_callI rfl (fun _ => rfl) rfl (mI_mono H fun v3 I2 H => ?_)
  refine w_if rfl (And.intro (fun hc => ?_) (fun hc => ?_))
  · replace H := H.1 hc
    refine w_iconst rfl ⟨by decide, by decide⟩ ?_
    exact w_ireturn rfl H
  · replace H := H.2 hc
    refine w_aload rfl rfl ?_
    refine w_iload rfl rfl ?_
    refine m_callI rfl (fun _ => rfl) rfl (mI_mono H fun v5 I4 H => ?_)
    refine w_if rfl (And.intro (fun hc => ?_) (fun hc => ?_))
    · replace H := H.1 hc
      refine w_iconst rfl ⟨by decide, by decide⟩ ?_
      exact w_ireturn rfl H
    · replace H := H.2 hc
      refine w_aload rfl rfl ?_
      refine w_iload rfl rfl ?_
      refine m_callI rfl (fun _ => rfl) rfl (mI_mono H fun v7 I6 H => ?_)
      refine w_if rfl (And.intro (fun hc => ?_) (fun hc => ?_))
      · replace H := H.1 hc
        refine w_aload rfl rfl ?_
        refine w_aload rfl rfl ?_
        refine m_getR 5 20 213 hz rfl rfl rfl rfl rfl rfl (by decide) ?_
        refine w_iconst rfl ⟨by decide, by decide⟩ ?_
        refine w_iload rfl rfl ?_
        have o8 := H.1
        replace H := H.2
        refine w_imul rfl o8 ?_
        refine m_callI rfl (fun _ => rfl) rfl (mI_mono H fun v10 I9 H => ?_)
        refine w_if rfl (And.intro (fun hc => ?_) (fun hc => ?_))
        · replace H := H.1 hc
          refine w_iconst rfl ⟨by decide, by decide⟩ ?_
          refine w_goto rfl ?_
          exact H
        · replace H := H.2 hc
          refine w_aload rfl rfl ?_
          refine w_aload rfl rfl ?_
          refine m_getR 5 20 213 hz rfl rfl rfl rfl rfl rfl (by decide) ?_
          refine w_iconst rfl ⟨by decide, by decide⟩ ?_
          refine w_iload rfl rfl ?_
          have o11 := H.1
          replace H := H.2
          refine w_imul rfl o11 ?_
          refine m_callI rfl (fun _ => rfl) rfl (mI_mono H fun v13 I12 H => ?_)
          refine w_if rfl (And.intro (fun hc => ?_) (fun hc => ?_))
          · replace H := H.1 hc
            refine w_iconst rfl ⟨by decide, by decide⟩ ?_
            exact H
          · replace H := H.2 hc
            refine w_iconst rfl ⟨by decide, by decide⟩ ?_
            refine w_goto rfl ?_
            exact H
      · replace H := H.2 hc
        refine w_iconst rfl ⟨by decide, by decide⟩ ?_
        exact w_ireturn rfl H
set_option maxHeartbeats 4000000 in
set_option maxRecDepth 100000 in
theorem mr_steps_5 {d : Nat} {Q : cm_Q} {z : cm_Z} {I : cm_I} (hz : mz z) {x1 : Int} {x2 : Int} {x3 : Int} {x4 : Int} {z5 : Option cm_V} {z6 : Option cm_V} {z7 : Option cm_V} {z8 : Option cm_V} {z9 : Option cm_V}  (H : ((x2 ≤ x4 → Q (some (vI x3)) (I, z)) ∧ (x4 < x2 → ((x1 ≤ x3 → Q (some (vI x3)) (I, z)) ∧ (x3 < x1 → cw d cd_Model_steps Q 19 [some (vR 12 209), some (vI x1), some (vI x2), some (vI x3), some (vI x4), some (vI x3), z6, z7, z8, z9] [] (I, z)))))) : cw d cd_Model_steps Q 5 [some (vR 12 209), some (vI x1), some (vI x2), some (vI x3), some (vI x4), z5, z6, z7, z8, z9] [] (I, z) := by
  refine w_iload rfl rfl ?_
  refine w_iload rfl rfl ?_
  refine w_icmp rfl (And.intro (fun hc => ?_) (fun hc => ?_))
  · replace H := H.1 hc
    refine w_iload rfl rfl ?_
    exact w_ireturn rfl H
  · replace H := H.2 hc
    refine w_iload rfl rfl ?_
    refine w_iload rfl rfl ?_
    refine w_icmp rfl (And.intro (fun hc => ?_) (fun hc => ?_))
    · replace H := H.1 hc
      refine w_iload rfl rfl ?_
      exact w_ireturn rfl H
    · replace H := H.2 hc
      refine w_iload rfl rfl ?_
      refine w_istore rfl rfl ?_
      exact H
set_option maxHeartbeats 4000000 in
set_option maxRecDepth 100000 in
theorem mr_steps_19 {d : Nat} {Q : cm_Q} {z : cm_Z} {I : cm_I} (hz : mz z) {x1 : Int} {x2 : Int} {x3 : Int} {x4 : Int} {x5 : Int} {z6 : Option cm_V} {z7 : Option cm_V} {z8 : Option cm_V} {z9 : Option cm_V}  (H : ((x1 ≤ x5 → cw d cd_Model_steps Q 48 [some (vR 12 209), some (vI x1), some (vI x2), some (vI x3), some (vI x4), some (vI x5), z6, z7, z8, z9] [] (I, z)) ∧ (x5 < x1 → (cm_i (160 * x5) ∧ (cm_i ((160 * x5) + x4) ∧ ((0:Int) ≤ ((160 * x5) + x4) ∧ ((160 * x5) + x4) < 137600) ∧ ((¬ (I 226 ((160 * x5) + x4)) = 0 → cw d cd_Model_steps Q 48 [some (vR 12 209), some (vI x1), some (vI x2), some (vI x3), some (vI x4), some (vI x5), z6, z7, z8, z9] [] (I, z)) ∧ ((I 226 ((160 * x5) + x4)) = 0 → (cm_i (x5 + 1) ∧ cw d cd_Model_steps Q 19 [some (vR 12 209), some (vI x1), some (vI x2), some (vI x3), some (vI x4), some (vI (x5 + 1)), z6, z7, z8, z9] [] (I, z))))))))) : cw d cd_Model_steps Q 19 [some (vR 12 209), some (vI x1), some (vI x2), some (vI x3), some (vI x4), some (vI x5), z6, z7, z8, z9] [] (I, z) := by
  refine w_iload rfl rfl ?_
  refine w_iload rfl rfl ?_
  refine w_icmp rfl (And.intro (fun hc => ?_) (fun hc => ?_))
  · replace H := H.1 hc
    exact H
  · replace H := H.2 hc
    refine w_aload rfl rfl ?_
    refine m_getR 32 20 226 hz rfl rfl rfl rfl rfl rfl (by decide) ?_
    refine w_iconst rfl ⟨by decide, by decide⟩ ?_
    refine w_iload rfl rfl ?_
    have o1 := H.1
    replace H := H.2
    refine w_imul rfl o1 ?_
    refine w_iload rfl rfl ?_
    have o2 := H.1
    replace H := H.2
    refine w_iadd rfl o2 ?_
    have o3 := H.1
    replace H := H.2
    refine m_iaload hz (by unfold mA; decide) rfl o3 ?_
    refine w_if rfl (And.intro (fun hc => ?_) (fun hc => ?_))
    · replace H := H.1 hc
      exact H
    · replace H := H.2 hc
      have o4 := H.1
      replace H := H.2
      refine w_iinc rfl rfl rfl o4 ?_
      refine w_goto rfl ?_
      exact H
set_option maxHeartbeats 4000000 in
set_option maxRecDepth 100000 in
theorem mr_steps_48 {d : Nat} {Q : cm_Q} {z : cm_Z} {I : cm_I} (hz : mz z) {x1 : Int} {x2 : Int} {x3 : Int} {x4 : Int} {x5 : Int} {z6 : Option cm_V} {z7 : Option cm_V} {z8 : Option cm_V} {z9 : Option cm_V}  (H : ((x1 ≤ x5 → (cm_i (x4 + 1) ∧ cw d cd_Model_steps Q 5 [some (vR 12 209), some (vI x1), some (vI x2), some (vI x3), some (vI (x4 + 1)), some (vI x5), z6, z7, z8, z9] [] (I, z))) ∧ (x5 < x1 → cw d cd_Model_steps Q 57 [some (vR 12 209), some (vI x1), some (vI x2), some (vI x3), some (vI x4), some (vI x5), some (vI 0), z7, z8, z9] [] (I, z)))) : cw d cd_Model_steps Q 48 [some (vR 12 209), some (vI x1), some (vI x2), some (vI x3), some (vI x4), some (vI x5), z6, z7, z8, z9] [] (I, z) := by
  refine w_iload rfl rfl ?_
  refine w_iload rfl rfl ?_
  refine w_icmp rfl (And.intro (fun hc => ?_) (fun hc => ?_))
  · replace H := H.1 hc
    have o1 := H.1
    replace H := H.2
    refine w_iinc rfl rfl rfl o1 ?_
    refine w_goto rfl ?_
    exact H
  · replace H := H.2 hc
    refine w_iconst rfl ⟨by decide, by decide⟩ ?_
    refine w_istore rfl rfl ?_
    exact H
set_option maxHeartbeats 4000000 in
set_option maxRecDepth 100000 in
theorem mr_steps_57 {d : Nat} {Q : cm_Q} {z : cm_Z} {I : cm_I} (hz : mz z) {x1 : Int} {x2 : Int} {x3 : Int} {x4 : Int} {x5 : Int} {x6 : Int} {z7 : Option cm_V} {z8 : Option cm_V} {z9 : Option cm_V}  (H : ((160 ≤ x6 → (cm_i (160 * x3) ∧ (cm_i ((160 * x3) + x4) ∧ ((0:Int) ≤ ((160 * x3) + x4) ∧ ((160 * x3) + x4) < 137600) ∧ (mI d m_Model_inverse [vI (I 226 ((160 * x3) + x4))] z I fun v5 I4 => cw d cd_Model_steps Q 151 [some (vR 12 209), some (vI x1), some (vI x2), some (vI x3), some (vI x4), some (vI x5), some (vI v5), some (vI x4), z8, z9] [] (I4, z))))) ∧ (x6 < 160 → (cm_i (160 * x5) ∧ (cm_i ((160 * x5) + x6) ∧ ((0:Int) ≤ ((160 * x5) + x6) ∧ ((160 * x5) + x6) < 137600) ∧ (cm_i (160 * x3) ∧ (cm_i ((160 * x3) + x6) ∧ ((0:Int) ≤ ((160 * x3) + x6) ∧ ((160 * x3) + x6) < 137600) ∧ (∀ I12 : cm_I, I12 = iu I 226 ((160 * x5) + x6) (I 226 ((160 * x3) + x6)) → (∀ I13 : cm_I, I13 = iu I12 226 ((160 * x3) + x6) (I 226 ((160 * x5) + x6)) → (cm_i (x6 + 1) ∧ cw d cd_Model_steps Q 57 [some (vR 12 209), some (vI x1), some (vI x2), some (vI x3), some (vI x4), some (vI x5), some (vI (x6 + 1)), some (vI (I 226 ((160 * x5) + x6))), z8, z9] [] (I13, z))))))))))) : cw d cd_Model_steps Q 57 [some (vR 12 209), some (vI x1), some (vI x2), some (vI x3), some (vI x4), some (vI x5), some (vI x6), z7, z8, z9] [] (I, z) := by
  refine w_iload rfl rfl ?_
  refine w_iconst rfl ⟨by decide, by decide⟩ ?_
  refine w_icmp rfl (And.intro (fun hc => ?_) (fun hc => ?_))
  · replace H := H.1 hc
    refine w_aload rfl rfl ?_
    refine m_getR 32 20 226 hz rfl rfl rfl rfl rfl rfl (by decide) ?_
    refine w_iconst rfl ⟨by decide, by decide⟩ ?_
    refine w_iload rfl rfl ?_
    have o1 := H.1
    replace H := H.2
    refine w_imul rfl o1 ?_
    refine w_iload rfl rfl ?_
    have o2 := H.1
    replace H := H.2
    refine w_iadd rfl o2 ?_
    have o3 := H.1
    replace H := H.2
    refine m_iaload hz (by unfold mA; decide) rfl o3 ?_
    refine m_callI rfl (fun _ => rfl) rfl (mI_mono H fun v5 I4 H => ?_)
    refine w_istore rfl rfl ?_
    refine w_iload rfl rfl ?_
    refine w_istore rfl rfl ?_
    exact H
  · replace H := H.2 hc
    refine w_aload rfl rfl ?_
    refine m_getR 32 20 226 hz rfl rfl rfl rfl rfl rfl (by decide) ?_
    refine w_iconst rfl ⟨by decide, by decide⟩ ?_
    refine w_iload rfl rfl ?_
    have o6 := H.1
    replace H := H.2
    refine w_imul rfl o6 ?_
    refine w_iload rfl rfl ?_
    have o7 := H.1
    replace H := H.2
    refine w_iadd rfl o7 ?_
    have o8 := H.1
    replace H := H.2
    refine m_iaload hz (by unfold mA; decide) rfl o8 ?_
    refine w_istore rfl rfl ?_
    refine w_aload rfl rfl ?_
    refine m_getR 32 20 226 hz rfl rfl rfl rfl rfl rfl (by decide) ?_
    refine w_iconst rfl ⟨by decide, by decide⟩ ?_
    refine w_iload rfl rfl ?_
    refine w_imul rfl o6 ?_
    refine w_iload rfl rfl ?_
    refine w_iadd rfl o7 ?_
    refine w_aload rfl rfl ?_
    refine m_getR 32 20 226 hz rfl rfl rfl rfl rfl rfl (by decide) ?_
    refine w_iconst rfl ⟨by decide, by decide⟩ ?_
    refine w_iload rfl rfl ?_
    have o9 := H.1
    replace H := H.2
    refine w_imul rfl o9 ?_
    refine w_iload rfl rfl ?_
    have o10 := H.1
    replace H := H.2
    refine w_iadd rfl o10 ?_
    have o11 := H.1
    replace H := H.2
    refine m_iaload hz (by unfold mA; decide) rfl o11 ?_
    refine m_iastore hz (by unfold mA; decide) rfl o8 (fun I12 eI12 => ?_)
    replace H := H I12 eI12
    refine w_aload rfl rfl ?_
    refine m_getR 32 20 226 hz rfl rfl rfl rfl rfl rfl (by decide) ?_
    refine w_iconst rfl ⟨by decide, by decide⟩ ?_
    refine w_iload rfl rfl ?_
    refine w_imul rfl o9 ?_
    refine w_iload rfl rfl ?_
    refine w_iadd rfl o10 ?_
    refine w_iload rfl rfl ?_
    refine m_iastore hz (by unfold mA; decide) rfl o11 (fun I13 eI13 => ?_)
    replace H := H I13 eI13
    have o14 := H.1
    replace H := H.2
    refine w_iinc rfl rfl rfl o14 ?_
    refine w_goto rfl ?_
    exact H
set_option maxHeartbeats 4000000 in
set_option maxRecDepth 100000 in
theorem mr_steps_151 {d : Nat} {Q : cm_Q} {z : cm_Z} {I : cm_I} (hz : mz z) {x1 : Int} {x2 : Int} {x3 : Int} {x4 : Int} {z5 : Option cm_V} {x6 : Int} {x7 : Int} {z8 : Option cm_V} {z9 : Option cm_V}  (H : ((160 ≤ x7 → cw d cd_Model_steps Q 201 [some (vR 12 209), some (vI x1), some (vI x2), some (vI x3), some (vI x4), z5, some (vI x6), some (vI 0), z8, z9] [] (I, z)) ∧ (x7 < 160 → (cm_i (160 * x3) ∧ (cm_i ((160 * x3) + x7) ∧ ((0:Int) ≤ ((160 * x3) + x7) ∧ ((160 * x3) + x7) < 137600) ∧ (cm_i ((I 226 ((160 * x3) + x7)) * x6) ∧ (∀ I5 : cm_I, I5 = iu I 226 ((160 * x3) + x7) (Int.tmod ((I 226 ((160 * x3) + x7)) * x6) 2521) → (cm_i (x7 + 1) ∧ cw d cd_Model_steps Q 151 [some (vR 12 209), some (vI x1), some (vI x2), some (vI x3), some (vI x4), z5, some (vI x6), some (vI (x7 + 1)), z8, z9] [] (I5, z))))))))) : cw d cd_Model_steps Q 151 [some (vR 12 209), some (vI x1), some (vI x2), some (vI x3), some (vI x4), z5, some (vI x6), some (vI x7), z8, z9] [] (I, z) := by
  refine w_iload rfl rfl ?_
  refine w_iconst rfl ⟨by decide, by decide⟩ ?_
  refine w_icmp rfl (And.intro (fun hc => ?_) (fun hc => ?_))
  · replace H := H.1 hc
    refine w_iconst rfl ⟨by decide, by decide⟩ ?_
    refine w_istore rfl rfl ?_
    exact H
  · replace H := H.2 hc
    refine w_aload rfl rfl ?_
    refine m_getR 32 20 226 hz rfl rfl rfl rfl rfl rfl (by decide) ?_
    refine w_iconst rfl ⟨by decide, by decide⟩ ?_
    refine w_iload rfl rfl ?_
    have o1 := H.1
    replace H := H.2
    refine w_imul rfl o1 ?_
    refine w_iload rfl rfl ?_
    have o2 := H.1
    replace H := H.2
    refine w_iadd rfl o2 ?_
    refine w_aload rfl rfl ?_
    refine m_getR 32 20 226 hz rfl rfl rfl rfl rfl rfl (by decide) ?_
    refine w_iconst rfl ⟨by decide, by decide⟩ ?_
    refine w_iload rfl rfl ?_
    refine w_imul rfl o1 ?_
    refine w_iload rfl rfl ?_
    refine w_iadd rfl o2 ?_
    have o3 := H.1
    replace H := H.2
    refine m_iaload hz (by unfold mA; decide) rfl o3 ?_
    refine w_iload rfl rfl ?_
    have o4 := H.1
    replace H := H.2
    refine w_imul rfl o4 ?_
    refine w_iconst rfl ⟨by decide, by decide⟩ ?_
    refine w_irem rfl (by decide) ?_
    refine m_iastore hz (by unfold mA; decide) rfl o3 (fun I5 eI5 => ?_)
    replace H := H I5 eI5
    have o6 := H.1
    replace H := H.2
    refine w_iinc rfl rfl rfl o6 ?_
    refine w_goto rfl ?_
    exact H
set_option maxHeartbeats 4000000 in
set_option maxRecDepth 100000 in
theorem mr_steps_201 {d : Nat} {Q : cm_Q} {z : cm_Z} {I : cm_I} (hz : mz z) {x1 : Int} {x2 : Int} {x3 : Int} {x4 : Int} {z5 : Option cm_V} {z6 : Option cm_V} {x7 : Int} {z8 : Option cm_V} {z9 : Option cm_V}  (H : ((x1 ≤ x7 → ((0:Int) ≤ x3 ∧ x3 < 160) ∧ (∀ I2 : cm_I, I2 = iu I 227 x3 x4 → (cm_i (x3 + 1) ∧ (cm_i (x4 + 1) ∧ cw d cd_Model_steps Q 5 [some (vR 12 209), some (vI x1), some (vI x2), some (vI (x3 + 1)), some (vI (x4 + 1)), z5, z6, some (vI x7), z8, z9] [] (I2, z))))) ∧ (x7 < x1 → (cm_i (160 * x7) ∧ (cm_i ((160 * x7) + x4) ∧ ((0:Int) ≤ ((160 * x7) + x4) ∧ ((160 * x7) + x4) < 137600) ∧ ((x7 = x3 → (cm_i (x7 + 1) ∧ cw d cd_Model_steps Q 201 [some (vR 12 209), some (vI x1), some (vI x2), some (vI x3), some (vI x4), z5, z6, some (vI (x7 + 1)), some (vI (I 226 ((160 * x7) + x4))), z9] [] (I, z))) ∧ (¬ x7 = x3 → (((I 226 ((160 * x7) + x4)) = 0 → (cm_i (x7 + 1) ∧ cw d cd_Model_steps Q 201 [some (vR 12 209), some (vI x1), some (vI x2), some (vI x3), some (vI x4), z5, z6, some (vI (x7 + 1)), some (vI (I 226 ((160 * x7) + x4))), z9] [] (I, z))) ∧ (¬ (I 226 ((160 * x7) + x4)) = 0 → cw d cd_Model_steps Q 238 [some (vR 12 209), some (vI x1), some (vI x2), some (vI x3), some (vI x4), z5, z6, some (vI x7), some (vI (I 226 ((160 * x7) + x4))), some (vI x4)] [] (I, z)))))))))) : cw d cd_Model_steps Q 201 [some (vR 12 209), some (vI x1), some (vI x2), some (vI x3), some (vI x4), z5, z6, some (vI x7), z8, z9] [] (I, z) := by
  refine w_iload rfl rfl ?_
  refine w_iload rfl rfl ?_
  refine w_icmp rfl (And.intro (fun hc => ?_) (fun hc => ?_))
  · replace H := H.1 hc
    refine w_aload rfl rfl ?_
    refine m_getR 33 20 227 hz rfl rfl rfl rfl rfl rfl (by decide) ?_
    refine w_iload rfl rfl ?_
    refine w_iload rfl rfl ?_
    have o1 := H.1
    replace H := H.2
    refine m_iastore hz (by unfold mA; decide) rfl o1 (fun I2 eI2 => ?_)
    replace H := H I2 eI2
    have o3 := H.1
    replace H := H.2
    refine w_iinc rfl rfl rfl o3 ?_
    have o4 := H.1
    replace H := H.2
    refine w_iinc rfl rfl rfl o4 ?_
    refine w_goto rfl ?_
    exact H
  · replace H := H.2 hc
    refine w_aload rfl rfl ?_
    refine m_getR 32 20 226 hz rfl rfl rfl rfl rfl rfl (by decide) ?_
    refine w_iconst rfl ⟨by decide, by decide⟩ ?_
    refine w_iload rfl rfl ?_
    have o5 := H.1
    replace H := H.2
    refine w_imul rfl o5 ?_
    refine w_iload rfl rfl ?_
    have o6 := H.1
    replace H := H.2
    refine w_iadd rfl o6 ?_
    have o7 := H.1
    replace H := H.2
    refine m_iaload hz (by unfold mA; decide) rfl o7 ?_
    refine w_istore rfl rfl ?_
    refine w_iload rfl rfl ?_
    refine w_iload rfl rfl ?_
    refine w_icmp rfl (And.intro (fun hc => ?_) (fun hc => ?_))
    · replace H := H.1 hc
      have o8 := H.1
      replace H := H.2
      refine w_iinc rfl rfl rfl o8 ?_
      refine w_goto rfl ?_
      exact H
    · replace H := H.2 hc
      refine w_iload rfl rfl ?_
      refine w_if rfl (And.intro (fun hc => ?_) (fun hc => ?_))
      · replace H := H.1 hc
        have o9 := H.1
        replace H := H.2
        refine w_iinc rfl rfl rfl o9 ?_
        refine w_goto rfl ?_
        exact H
      · replace H := H.2 hc
        refine w_iload rfl rfl ?_
        refine w_istore rfl rfl ?_
        exact H
set_option maxHeartbeats 4000000 in
set_option maxRecDepth 100000 in
theorem mr_steps_238 {d : Nat} {Q : cm_Q} {z : cm_Z} {I : cm_I} (hz : mz z) {x1 : Int} {x2 : Int} {x3 : Int} {x4 : Int} {z5 : Option cm_V} {z6 : Option cm_V} {x7 : Int} {x8 : Int} {x9 : Int}  (H : ((160 ≤ x9 → (cm_i (x7 + 1) ∧ cw d cd_Model_steps Q 201 [some (vR 12 209), some (vI x1), some (vI x2), some (vI x3), some (vI x4), z5, z6, some (vI (x7 + 1)), some (vI x8), some (vI x9)] [] (I, z))) ∧ (x9 < 160 → (cm_i (160 * x7) ∧ (cm_i ((160 * x7) + x9) ∧ ((0:Int) ≤ ((160 * x7) + x9) ∧ ((160 * x7) + x9) < 137600) ∧ (cm_i (160 * x3) ∧ (cm_i ((160 * x3) + x9) ∧ ((0:Int) ≤ ((160 * x3) + x9) ∧ ((160 * x3) + x9) < 137600) ∧ (cm_i (x8 * (I 226 ((160 * x3) + x9))) ∧ (cm_i ((I 226 ((160 * x7) + x9)) - (x8 * (I 226 ((160 * x3) + x9)))) ∧ (mI d m_Model_of [vL ((I 226 ((160 * x7) + x9)) - (x8 * (I 226 ((160 * x3) + x9))))] z I fun v11 I10 => (∀ I12 : cm_I, I12 = iu I10 226 ((160 * x7) + x9) v11 → (cm_i (x9 + 1) ∧ cw d cd_Model_steps Q 238 [some (vR 12 209), some (vI x1), some (vI x2), some (vI x3), some (vI x4), z5, z6, some (vI x7), some (vI x8), some (vI (x9 + 1))] [] (I12, z))))))))))))) : cw d cd_Model_steps Q 238 [some (vR 12 209), some (vI x1), some (vI x2), some (vI x3), some (vI x4), z5, z6, some (vI x7), some (vI x8), some (vI x9)] [] (I, z) := by
  refine w_iload rfl rfl ?_
  refine w_iconst rfl ⟨by decide, by decide⟩ ?_
  refine w_icmp rfl (And.intro (fun hc => ?_) (fun hc => ?_))
  · replace H := H.1 hc
    have o1 := H.1
    replace H := H.2
    refine w_iinc rfl rfl rfl o1 ?_
    refine w_goto rfl ?_
    exact H
  · replace H := H.2 hc
    refine w_aload rfl rfl ?_
    refine m_getR 32 20 226 hz rfl rfl rfl rfl rfl rfl (by decide) ?_
    refine w_iconst rfl ⟨by decide, by decide⟩ ?_
    refine w_iload rfl rfl ?_
    have o2 := H.1
    replace H := H.2
    refine w_imul rfl o2 ?_
    refine w_iload rfl rfl ?_
    have o3 := H.1
    replace H := H.2
    refine w_iadd rfl o3 ?_
    refine w_aload rfl rfl ?_
    refine m_getR 32 20 226 hz rfl rfl rfl rfl rfl rfl (by decide) ?_
    refine w_iconst rfl ⟨by decide, by decide⟩ ?_
    refine w_iload rfl rfl ?_
    refine w_imul rfl o2 ?_
    refine w_iload rfl rfl ?_
    refine w_iadd rfl o3 ?_
    have o4 := H.1
    replace H := H.2
    refine m_iaload hz (by unfold mA; decide) rfl o4 ?_
    refine w_iload rfl rfl ?_
    refine w_aload rfl rfl ?_
    refine m_getR 32 20 226 hz rfl rfl rfl rfl rfl rfl (by decide) ?_
    refine w_iconst rfl ⟨by decide, by decide⟩ ?_
    refine w_iload rfl rfl ?_
    have o5 := H.1
    replace H := H.2
    refine w_imul rfl o5 ?_
    refine w_iload rfl rfl ?_
    have o6 := H.1
    replace H := H.2
    refine w_iadd rfl o6 ?_
    have o7 := H.1
    replace H := H.2
    refine m_iaload hz (by unfold mA; decide) rfl o7 ?_
    have o8 := H.1
    replace H := H.2
    refine w_imul rfl o8 ?_
    have o9 := H.1
    replace H := H.2
    refine w_isub rfl o9 ?_
    refine w_i2l rfl ?_
    refine m_callI rfl (fun _ => rfl) rfl (mI_mono H fun v11 I10 H => ?_)
    refine m_iastore hz (by unfold mA; decide) rfl o4 (fun I12 eI12 => ?_)
    replace H := H I12 eI12
    have o13 := H.1
    replace H := H.2
    refine w_iinc rfl rfl rfl o13 ?_
    refine w_goto rfl ?_
    exact H
set_option maxHeartbeats 4000000 in
set_option maxRecDepth 100000 in
theorem mr_steps {d : Nat} {Q : cm_Q} {z : cm_Z} {I : cm_I} (hz : mz z) {x1 : Int} {x2 : Int}  (H : cw d cd_Model_steps Q 5 [some (vR 12 209), some (vI x1), some (vI x2), some (vI 0), some (vI 0), none, none, none, none, none] [] (I, z)) : cm_call (d + 1) m_Model_steps [vR 12 209, vI x1, vI x2] (I, z) Q := by
  refine cm_call_in (C := cd_Model_steps) (ls := [some (vR 12 209), some (vI x1), some (vI x2), none, none, none, none, none, none, none]) rfl rfl (show 0 < 209 by decide) rfl ?_
  refine w_iconst rfl ⟨by decide, by decide⟩ ?_
  refine w_istore rfl rfl ?_
  refine w_iconst rfl ⟨by decide, by decide⟩ ?_
  refine w_istore rfl rfl ?_
  exact H
set_option maxHeartbeats 4000000 in
set_option maxRecDepth 100000 in
theorem mr_clearsRow_2 {d : Nat} {Q : cm_Q} {z : cm_Z} {I : cm_I} (hz : mz z) {x1 : Int} {x2 : Int}  (H : ((160 ≤ x2 → Q none (I, z)) ∧ (x2 < 160 → (cm_i (160 * x1) ∧ (cm_i ((160 * x1) + x2) ∧ ((0:Int) ≤ ((160 * x1) + x2) ∧ ((160 * x1) + x2) < 137600) ∧ (∀ I4 : cm_I, I4 = iu I 226 ((160 * x1) + x2) 0 → (cm_i (x2 + 1) ∧ cw d cd_Model_clearsRow Q 2 [some (vR 12 209), some (vI x1), some (vI (x2 + 1))] [] (I4, z)))))))) : cw d cd_Model_clearsRow Q 2 [some (vR 12 209), some (vI x1), some (vI x2)] [] (I, z) := by
  refine w_iload rfl rfl ?_
  refine w_iconst rfl ⟨by decide, by decide⟩ ?_
  refine w_icmp rfl (And.intro (fun hc => ?_) (fun hc => ?_))
  · replace H := H.1 hc
    exact w_return rfl H
  · replace H := H.2 hc
    refine w_aload rfl rfl ?_
    refine m_getR 32 20 226 hz rfl rfl rfl rfl rfl rfl (by decide) ?_
    refine w_iconst rfl ⟨by decide, by decide⟩ ?_
    refine w_iload rfl rfl ?_
    have o1 := H.1
    replace H := H.2
    refine w_imul rfl o1 ?_
    refine w_iload rfl rfl ?_
    have o2 := H.1
    replace H := H.2
    refine w_iadd rfl o2 ?_
    refine w_iconst rfl ⟨by decide, by decide⟩ ?_
    have o3 := H.1
    replace H := H.2
    refine m_iastore hz (by unfold mA; decide) rfl o3 (fun I4 eI4 => ?_)
    replace H := H I4 eI4
    have o5 := H.1
    replace H := H.2
    refine w_iinc rfl rfl rfl o5 ?_
    refine w_goto rfl ?_
    exact H
set_option maxHeartbeats 4000000 in
set_option maxRecDepth 100000 in
theorem mr_clearsRow {d : Nat} {Q : cm_Q} {z : cm_Z} {I : cm_I} (hz : mz z) {x1 : Int}  (H : cw d cd_Model_clearsRow Q 2 [some (vR 12 209), some (vI x1), some (vI 0)] [] (I, z)) : cm_call (d + 1) m_Model_clearsRow [vR 12 209, vI x1] (I, z) Q := by
  refine cm_call_in (C := cd_Model_clearsRow) (ls := [some (vR 12 209), some (vI x1), none]) rfl rfl (show 0 < 209 by decide) rfl ?_
  refine w_iconst rfl ⟨by decide, by decide⟩ ?_
  refine w_istore rfl rfl ?_
  exact H
set_option maxHeartbeats 4000000 in
set_option maxRecDepth 100000 in
theorem mr_forgets {d : Nat} {Q : cm_Q} {z : cm_Z} {I : cm_I} (hz : mz z)   (H : (∀ I1 : cm_I, I1 = iu I 209 37 0 → (∀ I2 : cm_I, I2 = iu I1 209 41 0 → (∀ I3 : cm_I, I3 = iu I2 209 58 (-1) → Q none (I3, z))))) : cm_call (d + 1) m_Model_forgets [vR 12 209] (I, z) Q := by
  refine cm_call_in (C := cd_Model_forgets) (ls := [some (vR 12 209)]) rfl rfl (show 0 < 209 by decide) rfl ?_
  refine w_aload rfl rfl ?_
  refine w_iconst rfl ⟨by decide, by decide⟩ ?_
  refine m_putI 37 rfl rfl rfl (by decide) (fun I1 eI1 => ?_)
  replace H := H I1 eI1
  refine w_aload rfl rfl ?_
  refine w_iconst rfl ⟨by decide, by decide⟩ ?_
  refine m_putZ 41 rfl rfl rfl (by decide) (by decide) (fun I2 eI2 => ?_)
  replace H := H I2 eI2
  refine w_aload rfl rfl ?_
  refine w_iconst rfl ⟨by decide, by decide⟩ ?_
  refine m_putI 58 rfl rfl rfl (by decide) (fun I3 eI3 => ?_)
  replace H := H I3 eI3
  exact w_return rfl H
set_option maxHeartbeats 4000000 in
set_option maxRecDepth 100000 in
theorem mr_laysBases_0 {d : Nat} {Q : cm_Q} {z : cm_Z} {I : cm_I} (hz : mz z) {x1 : Int}  (H : ((x1 < (I 209 37) → Q none (I, z)) ∧ ((I 209 37) ≤ x1 → ((¬ (I 209 37) = 0 → (cm_i ((I 209 37) - 1) ∧ ((0:Int) ≤ ((I 209 37) - 1) ∧ ((I 209 37) - 1) < 16) ∧ (mI d m_Model_many [vR 12 209, vI ((I 209 37) - 1)] z I fun v4 I3 => (cm_i ((I 228 ((I 209 37) - 1)) * v4) ∧ (cm_i ((I 229 ((I 209 37) - 1)) + ((I 228 ((I 209 37) - 1)) * v4)) ∧ cw d cd_Model_laysBases Q 61 [some (vR 12 209), some (vI x1)] [vI ((I 229 ((I 209 37) - 1)) + ((I 228 ((I 209 37) - 1)) * v4)), vI (I 209 37), vR 20 229] (I3, z)))))) ∧ ((I 209 37) = 0 → cw d cd_Model_laysBases Q 61 [some (vR 12 209), some (vI x1)] [vI 0, vI (I 209 37), vR 20 229] (I, z)))))) : cw d cd_Model_laysBases Q 0 [some (vR 12 209), some (vI x1)] [] (I, z) := by
  refine w_aload rfl rfl ?_
  refine m_getI 37 rfl rfl rfl (by decide) ?_
  refine w_iload rfl rfl ?_
  refine w_icmp rfl (And.intro (fun hc => ?_) (fun hc => ?_))
  · replace H := H.1 hc
    exact w_return rfl H
  · replace H := H.2 hc
    refine w_aload rfl rfl ?_
    refine m_getR 35 20 229 hz rfl rfl rfl rfl rfl rfl (by decide) ?_
    refine w_aload rfl rfl ?_
    refine m_getI 37 rfl rfl rfl (by decide) ?_
    refine w_aload rfl rfl ?_
    refine m_getI 37 rfl rfl rfl (by decide) ?_
    refine w_if rfl (And.intro (fun hc => ?_) (fun hc => ?_))
    · replace H := H.1 hc
      refine w_aload rfl rfl ?_
      refine m_getR 35 20 229 hz rfl rfl rfl rfl rfl rfl (by decide) ?_
      refine w_aload rfl rfl ?_
      refine m_getI 37 rfl rfl rfl (by decide) ?_
      refine w_iconst rfl ⟨by decide, by decide⟩ ?_
      have o1 := H.1
      replace H := H.2
      refine w_isub rfl o1 ?_
      have o2 := H.1
      replace H := H.2
      refine m_iaload hz (by unfold mA; decide) rfl o2 ?_
      refine w_aload rfl rfl ?_
      refine m_getR 34 20 228 hz rfl rfl rfl rfl rfl rfl (by decide) ?_
      refine w_aload rfl rfl ?_
      refine m_getI 37 rfl rfl rfl (by decide) ?_
      refine w_iconst rfl ⟨by decide, by decide⟩ ?_
      refine w_isub rfl o1 ?_
      refine m_iaload hz (by unfold mA; decide) rfl o2 ?_
      refine w_aload rfl rfl ?_
      refine w_aload rfl rfl ?_
      refine m_getI 37 rfl rfl rfl (by decide) ?_
      refine w_iconst rfl ⟨by decide, by decide⟩ ?_
      refine w_isub rfl o1 ?_
      refine m_callI rfl (fun _ => rfl) rfl (mI_mono H fun v4 I3 H => ?_)
      have o5 := H.1
      replace H := H.2
      refine w_imul rfl o5 ?_
      have o6 := H.1
      replace H := H.2
      refine w_iadd rfl o6 ?_
      exact H
    · replace H := H.2 hc
      refine w_iconst rfl ⟨by decide, by decide⟩ ?_
      refine w_goto rfl ?_
      exact H
set_option maxHeartbeats 4000000 in
set_option maxRecDepth 100000 in
theorem mr_laysBases_61 {d : Nat} {Q : cm_Q} {z : cm_Z} {I : cm_I} (hz : mz z) {x1 : Int} {s0 : Int} {s1 : Int} {b2 : Nat} (p_b2 : mA b2) (H : ((0:Int) ≤ s1 ∧ s1 < mLen b2) ∧ (∀ I2 : cm_I, I2 = iu I b2 s1 s0 → (mI d m_Model_laysBase [vR 12 209, vI (I2 209 37)] z I2 fun v4 I3 => ((0:Int) ≤ (I2 209 37) ∧ (I2 209 37) < 16) ∧ (∀ I6 : cm_I, I6 = iu I3 228 (I2 209 37) v4 → (cm_i ((I6 209 37) + 1) ∧ (∀ I8 : cm_I, I8 = iu I6 209 37 ((I6 209 37) + 1) → cw d cd_Model_laysBases Q 0 [some (vR 12 209), some (vI x1)] [] (I8, z))))))) : cw d cd_Model_laysBases Q 61 [some (vR 12 209), some (vI x1)] [vI s0, vI s1, vR 20 b2] (I, z) := by
  have o1 := H.1
  replace H := H.2
  refine m_iastore hz p_b2 rfl o1 (fun I2 eI2 => ?_)
  replace H := H I2 eI2
  refine w_aload rfl rfl ?_
  refine m_getR 34 20 228 hz rfl rfl rfl rfl rfl rfl (by decide) ?_
  refine w_aload rfl rfl ?_
  refine m_getI 37 rfl rfl rfl (by decide) ?_
  refine w_aload rfl rfl ?_
  refine w_aload rfl rfl ?_
  refine m_getI 37 rfl rfl rfl (by decide) ?_
  refine m_callI rfl (fun _ => rfl) rfl (mI_mono H fun v4 I3 H => ?_)
  have o5 := H.1
  replace H := H.2
  refine m_iastore hz (by unfold mA; decide) rfl o5 (fun I6 eI6 => ?_)
  replace H := H I6 eI6
  refine w_aload rfl rfl ?_
  refine w_dup rfl rfl ?_
  refine m_getI 37 rfl rfl rfl (by decide) ?_
  refine w_iconst rfl ⟨by decide, by decide⟩ ?_
  have o7 := H.1
  replace H := H.2
  refine w_iadd rfl o7 ?_
  refine m_putI 37 rfl rfl rfl (by decide) (fun I8 eI8 => ?_)
  replace H := H I8 eI8
  refine w_goto rfl ?_
  exact H
set_option maxHeartbeats 4000000 in
set_option maxRecDepth 100000 in
theorem mr_laysBases {d : Nat} {Q : cm_Q} {z : cm_Z} {I : cm_I} (hz : mz z) {x1 : Int}  (H : cw d cd_Model_laysBases Q 0 [some (vR 12 209), some (vI x1)] [] (I, z)) : cm_call (d + 1) m_Model_laysBases [vR 12 209, vI x1] (I, z) Q := by
  refine cm_call_in (C := cd_Model_laysBases) (ls := [some (vR 12 209), some (vI x1)]) rfl rfl (show 0 < 209 by decide) rfl ?_
  exact H
set_option maxHeartbeats 4000000 in
set_option maxRecDepth 100000 in
theorem mr_laysBase_11 {d : Nat} {Q : cm_Q} {z : cm_Z} {I : cm_I} (hz : mz z) {x1 : Int} {x2 : Int} {x3 : Int} {x4 : Int} {z5 : Option cm_V} {z6 : Option cm_V}  (H : (((I 209 9) ≤ x4 → (mI d m_Model_steps [vR 12 209, vI x3, vI x2] z I fun v2 I1 => (mI d m_Model_laysFree [vR 12 209, vI x1, vI x2, vI v2] z I1 fun v4 I3 => Q (some (vI v4)) (I3, z)))) ∧ (x4 < (I 209 9) → (mU d m_Model_laysImages [vR 12 209, vR 20 217, vI x4, vI x1] z I fun I5 => cw d cd_Model_laysBase Q 34 [some (vR 12 209), some (vI x1), some (vI x2), some (vI x3), some (vI x4), some (vI 0), z6] [] (I5, z))))) : cw d cd_Model_laysBase Q 11 [some (vR 12 209), some (vI x1), some (vI x2), some (vI x3), some (vI x4), z5, z6] [] (I, z) := by
  refine w_iload rfl rfl ?_
  refine w_aload rfl rfl ?_
  refine m_getI 9 rfl rfl rfl (by decide) ?_
  refine w_icmp rfl (And.intro (fun hc => ?_) (fun hc => ?_))
  · replace H := H.1 hc
    refine w_aload rfl rfl ?_
    refine w_iload rfl rfl ?_
    refine w_iload rfl rfl ?_
    refine m_callI rfl (fun _ => rfl) rfl (mI_mono H fun v2 I1 H => ?_)
    refine w_istore rfl rfl ?_
    refine w_aload rfl rfl ?_
    refine w_iload rfl rfl ?_
    refine w_iload rfl rfl ?_
    refine w_iload rfl rfl ?_
    refine m_callI rfl (fun _ => rfl) rfl (mI_mono H fun v4 I3 H => ?_)
    exact w_ireturn rfl H
  · replace H := H.2 hc
    refine w_aload rfl rfl ?_
    refine w_aload rfl rfl ?_
    refine m_getR 10 20 217 hz rfl rfl rfl rfl rfl rfl (by decide) ?_
    refine w_iload rfl rfl ?_
    refine w_iload rfl rfl ?_
    refine m_callU rfl (fun _ => rfl) rfl (mU_mono H fun I5 H => ?_)
    refine w_iconst rfl ⟨by decide, by decide⟩ ?_
    refine w_istore rfl rfl ?_
    exact H
set_option maxHeartbeats 4000000 in
set_option maxRecDepth 100000 in
theorem mr_laysBase_34 {d : Nat} {Q : cm_Q} {z : cm_Z} {I : cm_I} (hz : mz z) {x1 : Int} {x2 : Int} {x3 : Int} {x4 : Int} {x5 : Int} {z6 : Option cm_V}  (H : ((x2 ≤ x5 → (cm_i (x4 + 1) ∧ cw d cd_Model_laysBase Q 11 [some (vR 12 209), some (vI x1), some (vI x2), some (vI x3), some (vI (x4 + 1)), some (vI x5), z6] [] (I, z))) ∧ (x5 < x2 → (mU d m_Model_clearsRow [vR 12 209, vI x3] z I fun I2 => cw d cd_Model_laysBase Q 48 [some (vR 12 209), some (vI x1), some (vI x2), some (vI x3), some (vI x4), some (vI x5), some (vI 0)] [] (I2, z))))) : cw d cd_Model_laysBase Q 34 [some (vR 12 209), some (vI x1), some (vI x2), some (vI x3), some (vI x4), some (vI x5), z6] [] (I, z) := by
  refine w_iload rfl rfl ?_
  refine w_iload rfl rfl ?_
  refine w_icmp rfl (And.intro (fun hc => ?_) (fun hc => ?_))
  · replace H := H.1 hc
    have o1 := H.1
    replace H := H.2
    refine w_iinc rfl rfl rfl o1 ?_
    refine w_goto rfl ?_
    exact H
  · replace H := H.2 hc
    refine w_aload rfl rfl ?_
    refine w_iload rfl rfl ?_
    refine m_callU rfl (fun _ => rfl) rfl (mU_mono H fun I2 H => ?_)
    refine w_iconst rfl ⟨by decide, by decide⟩ ?_
    refine w_istore rfl rfl ?_
    exact H
set_option maxHeartbeats 4000000 in
set_option maxRecDepth 100000 in
theorem mr_laysBase_48 {d : Nat} {Q : cm_Q} {z : cm_Z} {I : cm_I} (hz : mz z) {x1 : Int} {x2 : Int} {x3 : Int} {x4 : Int} {x5 : Int} {x6 : Int}  (H : ((x2 ≤ x6 → (cm_i (x3 + 1) ∧ (cm_i (x5 + 1) ∧ cw d cd_Model_laysBase Q 34 [some (vR 12 209), some (vI x1), some (vI x2), some (vI (x3 + 1)), some (vI x4), some (vI (x5 + 1)), some (vI x6)] [] (I, z)))) ∧ (x6 < x2 → (cm_i (160 * x3) ∧ (cm_i ((160 * x3) + x6) ∧ (mI d m_Model_from [vR 12 209, vI x1] z I fun v6 I5 => (cm_i (v6 + x6) ∧ (cm_i (136 * (v6 + x6)) ∧ (cm_i ((136 * (v6 + x6)) + x5) ∧ ((0:Int) ≤ ((136 * (v6 + x6)) + x5) ∧ ((136 * (v6 + x6)) + x5) < 111000) ∧ ((¬ x6 = x5 → (cm_i ((I5 224 ((136 * (v6 + x6)) + x5)) - 0) ∧ (mI d m_Model_of [vL ((I5 224 ((136 * (v6 + x6)) + x5)) - 0)] z I5 fun v13 I12 => ((0:Int) ≤ ((160 * x3) + x6) ∧ ((160 * x3) + x6) < 137600) ∧ (∀ I15 : cm_I, I15 = iu I12 226 ((160 * x3) + x6) v13 → (cm_i (x6 + 1) ∧ cw d cd_Model_laysBase Q 48 [some (vR 12 209), some (vI x1), some (vI x2), some (vI x3), some (vI x4), some (vI x5), some (vI (x6 + 1))] [] (I15, z)))))) ∧ (x6 = x5 → (cm_i ((I5 224 ((136 * (v6 + x6)) + x5)) - 1) ∧ (mI d m_Model_of [vL ((I5 224 ((136 * (v6 + x6)) + x5)) - 1)] z I5 fun v19 I18 => ((0:Int) ≤ ((160 * x3) + x6) ∧ ((160 * x3) + x6) < 137600) ∧ (∀ I21 : cm_I, I21 = iu I18 226 ((160 * x3) + x6) v19 → (cm_i (x6 + 1) ∧ cw d cd_Model_laysBase Q 48 [some (vR 12 209), some (vI x1), some (vI x2), some (vI x3), some (vI x4), some (vI x5), some (vI (x6 + 1))] [] (I21, z)))))))))))))))) : cw d cd_Model_laysBase Q 48 [some (vR 12 209), some (vI x1), some (vI x2), some (vI x3), some (vI x4), some (vI x5), some (vI x6)] [] (I, z) := by
  refine w_iload rfl rfl ?_
  refine w_iload rfl rfl ?_
  refine w_icmp rfl (And.intro (fun hc => ?_) (fun hc => ?_))
  · replace H := H.1 hc
    have o1 := H.1
    replace H := H.2
    refine w_iinc rfl rfl rfl o1 ?_
    have o2 := H.1
    replace H := H.2
    refine w_iinc rfl rfl rfl o2 ?_
    refine w_goto rfl ?_
    exact H
  · replace H := H.2 hc
    refine w_aload rfl rfl ?_
    refine m_getR 32 20 226 hz rfl rfl rfl rfl rfl rfl (by decide) ?_
    refine w_iconst rfl ⟨by decide, by decide⟩ ?_
    refine w_iload rfl rfl ?_
    have o3 := H.1
    replace H := H.2
    refine w_imul rfl o3 ?_
    refine w_iload rfl rfl ?_
    have o4 := H.1
    replace H := H.2
    refine w_iadd rfl o4 ?_
    refine w_aload rfl rfl ?_
    refine m_getR 30 20 224 hz rfl rfl rfl rfl rfl rfl (by decide) ?_
    refine w_iconst rfl ⟨by decide, by decide⟩ ?_
    refine w_aload rfl rfl ?_
    refine w_iload rfl rfl ?_
    refine m_callI rfl (fun _ => rfl) rfl (mI_mono H fun v6 I5 H => ?_)
    refine w_iload rfl rfl ?_
    have o7 := H.1
    replace H := H.2
    refine w_iadd rfl o7 ?_
    have o8 := H.1
    replace H := H.2
    refine w_imul rfl o8 ?_
    refine w_iload rfl rfl ?_
    have o9 := H.1
    replace H := H.2
    refine w_iadd rfl o9 ?_
    have o10 := H.1
    replace H := H.2
    refine m_iaload hz (by unfold mA; decide) rfl o10 ?_
    refine w_iload rfl rfl ?_
    refine w_iload rfl rfl ?_
    refine w_icmp rfl (And.intro (fun hc => ?_) (fun hc => ?_))
    · replace H := H.1 hc
      refine w_iconst rfl ⟨by decide, by decide⟩ ?_
      have o11 := H.1
      replace H := H.2
      refine w_isub rfl o11 ?_
      refine w_i2l rfl ?_
      refine m_callI rfl (fun _ => rfl) rfl (mI_mono H fun v13 I12 H => ?_)
      have o14 := H.1
      replace H := H.2
      refine m_iastore hz (by unfold mA; decide) rfl o14 (fun I15 eI15 => ?_)
      replace H := H I15 eI15
      have o16 := H.1
      replace H := H.2
      refine w_iinc rfl rfl rfl o16 ?_
      refine w_goto rfl ?_
      exact H
    · replace H := H.2 hc
      refine w_iconst rfl ⟨by decide, by decide⟩ ?_
      refine w_goto rfl ?_
      have o17 := H.1
      replace H := H.2
      refine w_isub rfl o17 ?_
      refine w_i2l rfl ?_
      refine m_callI rfl (fun _ => rfl) rfl (mI_mono H fun v19 I18 H => ?_)
      have o20 := H.1
      replace H := H.2
      refine m_iastore hz (by unfold mA; decide) rfl o20 (fun I21 eI21 => ?_)
      replace H := H I21 eI21
      have o22 := H.1
      replace H := H.2
      refine w_iinc rfl rfl rfl o22 ?_
      refine w_goto rfl ?_
      exact H
set_option maxHeartbeats 4000000 in
set_option maxRecDepth 100000 in
theorem mr_laysBase {d : Nat} {Q : cm_Q} {z : cm_Z} {I : cm_I} (hz : mz z) {x1 : Int}  (H : (mI d m_Model_many [vR 12 209, vI x1] z I fun v2 I1 => cw d cd_Model_laysBase Q 11 [some (vR 12 209), some (vI x1), some (vI v2), some (vI 0), some (vI 0), none, none] [] (I1, z))) : cm_call (d + 1) m_Model_laysBase [vR 12 209, vI x1] (I, z) Q := by
  refine cm_call_in (C := cd_Model_laysBase) (ls := [some (vR 12 209), some (vI x1), none, none, none, none, none]) rfl rfl (show 0 < 209 by decide) rfl ?_
  refine w_aload rfl rfl ?_
  refine w_iload rfl rfl ?_
  refine m_callI rfl (fun _ => rfl) rfl (mI_mono H fun v2 I1 H => ?_)
  refine w_istore rfl rfl ?_
  refine w_iconst rfl ⟨by decide, by decide⟩ ?_
  refine w_istore rfl rfl ?_
  refine w_iconst rfl ⟨by decide, by decide⟩ ?_
  refine w_istore rfl rfl ?_
  exact H
set_option maxHeartbeats 4000000 in
set_option maxRecDepth 100000 in
theorem mr_laysFree_3 {d : Nat} {Q : cm_Q} {z : cm_Z} {I : cm_I} (hz : mz z) {x1 : Int} {x2 : Int} {x3 : Int} {x4 : Int} {z5 : Option cm_V} {z6 : Option cm_V} {z7 : Option cm_V}  (H : ((x2 ≤ x4 → cw d cd_Model_laysFree Q 26 [some (vR 12 209), some (vI x1), some (vI x2), some (vI x3), some (vI 0), z5, z6, z7] [] (I, z)) ∧ (x4 < x2 → ((0:Int) ≤ x4 ∧ x4 < 160) ∧ (∀ I2 : cm_I, I2 = iu I 231 x4 0 → (cm_i (x4 + 1) ∧ cw d cd_Model_laysFree Q 3 [some (vR 12 209), some (vI x1), some (vI x2), some (vI x3), some (vI (x4 + 1)), z5, z6, z7] [] (I2, z)))))) : cw d cd_Model_laysFree Q 3 [some (vR 12 209), some (vI x1), some (vI x2), some (vI x3), some (vI x4), z5, z6, z7] [] (I, z) := by
  refine w_iload rfl rfl ?_
  refine w_iload rfl rfl ?_
  refine w_icmp rfl (And.intro (fun hc => ?_) (fun hc => ?_))
  · replace H := H.1 hc
    refine w_iconst rfl ⟨by decide, by decide⟩ ?_
    refine w_istore rfl rfl ?_
    exact H
  · replace H := H.2 hc
    refine w_aload rfl rfl ?_
    refine m_getR 38 22 231 hz rfl rfl rfl rfl rfl rfl (by decide) ?_
    refine w_iload rfl rfl ?_
    refine w_iconst rfl ⟨by decide, by decide⟩ ?_
    have o1 := H.1
    replace H := H.2
    refine m_bastore hz (by unfold mA; decide) rfl rfl (Or.inr (by decide)) o1 (fun I2 eI2 => ?_)
    replace H := H I2 eI2
    have o3 := H.1
    replace H := H.2
    refine w_iinc rfl rfl rfl o3 ?_
    refine w_goto rfl ?_
    exact H
set_option maxHeartbeats 4000000 in
set_option maxRecDepth 100000 in
theorem mr_laysFree_26 {d : Nat} {Q : cm_Q} {z : cm_Z} {I : cm_I} (hz : mz z) {x1 : Int} {x2 : Int} {x3 : Int} {x4 : Int} {z5 : Option cm_V} {z6 : Option cm_V} {z7 : Option cm_V}  (H : ((x3 ≤ x4 → cw d cd_Model_laysFree Q 57 [some (vR 12 209), some (vI x1), some (vI x2), some (vI x3), some (vI 0), some (vI 0), z6, z7] [] (I, z)) ∧ (x4 < x3 → ((0:Int) ≤ x4 ∧ x4 < 160) ∧ ((0:Int) ≤ (I 227 x4) ∧ (I 227 x4) < 160) ∧ (∀ I3 : cm_I, I3 = iu I 231 (I 227 x4) 1 → (cm_i (x4 + 1) ∧ cw d cd_Model_laysFree Q 26 [some (vR 12 209), some (vI x1), some (vI x2), some (vI x3), some (vI (x4 + 1)), z5, z6, z7] [] (I3, z)))))) : cw d cd_Model_laysFree Q 26 [some (vR 12 209), some (vI x1), some (vI x2), some (vI x3), some (vI x4), z5, z6, z7] [] (I, z) := by
  refine w_iload rfl rfl ?_
  refine w_iload rfl rfl ?_
  refine w_icmp rfl (And.intro (fun hc => ?_) (fun hc => ?_))
  · replace H := H.1 hc
    refine w_iconst rfl ⟨by decide, by decide⟩ ?_
    refine w_istore rfl rfl ?_
    refine w_iconst rfl ⟨by decide, by decide⟩ ?_
    refine w_istore rfl rfl ?_
    exact H
  · replace H := H.2 hc
    refine w_aload rfl rfl ?_
    refine m_getR 38 22 231 hz rfl rfl rfl rfl rfl rfl (by decide) ?_
    refine w_aload rfl rfl ?_
    refine m_getR 33 20 227 hz rfl rfl rfl rfl rfl rfl (by decide) ?_
    refine w_iload rfl rfl ?_
    have o1 := H.1
    replace H := H.2
    refine m_iaload hz (by unfold mA; decide) rfl o1 ?_
    refine w_iconst rfl ⟨by decide, by decide⟩ ?_
    have o2 := H.1
    replace H := H.2
    refine m_bastore hz (by unfold mA; decide) rfl rfl (Or.inr (by decide)) o2 (fun I3 eI3 => ?_)
    replace H := H I3 eI3
    have o4 := H.1
    replace H := H.2
    refine w_iinc rfl rfl rfl o4 ?_
    refine w_goto rfl ?_
    exact H
set_option maxHeartbeats 4000000 in
set_option maxRecDepth 100000 in
theorem mr_laysFree_57 {d : Nat} {Q : cm_Q} {z : cm_Z} {I : cm_I} (hz : mz z) {x1 : Int} {x2 : Int} {x3 : Int} {x4 : Int} {x5 : Int} {z6 : Option cm_V} {z7 : Option cm_V}  (H : ((x2 ≤ x5 → cw d cd_Model_laysFree Q 175 [some (vR 12 209), some (vI x1), some (vI x2), some (vI x3), some (vI x4), some (vI 0), z6, z7] [] (I, z)) ∧ (x5 < x2 → ((0:Int) ≤ x5 ∧ x5 < 160) ∧ ((¬ (I 231 x5) = 0 → (cm_i (x5 + 1) ∧ cw d cd_Model_laysFree Q 57 [some (vR 12 209), some (vI x1), some (vI x2), some (vI x3), some (vI x4), some (vI (x5 + 1)), z6, z7] [] (I, z))) ∧ ((I 231 x5) = 0 → cw d cd_Model_laysFree Q 76 [some (vR 12 209), some (vI x1), some (vI x2), some (vI x3), some (vI x4), some (vI x5), some (vI 0), z7] [] (I, z)))))) : cw d cd_Model_laysFree Q 57 [some (vR 12 209), some (vI x1), some (vI x2), some (vI x3), some (vI x4), some (vI x5), z6, z7] [] (I, z) := by
  refine w_iload rfl rfl ?_
  refine w_iload rfl rfl ?_
  refine w_icmp rfl (And.intro (fun hc => ?_) (fun hc => ?_))
  · replace H := H.1 hc
    refine w_iconst rfl ⟨by decide, by decide⟩ ?_
    refine w_istore rfl rfl ?_
    exact H
  · replace H := H.2 hc
    refine w_aload rfl rfl ?_
    refine m_getR 38 22 231 hz rfl rfl rfl rfl rfl rfl (by decide) ?_
    refine w_iload rfl rfl ?_
    have o1 := H.1
    replace H := H.2
    refine m_baload hz (by unfold mA; decide) rfl rfl o1 ?_
    refine w_if rfl (And.intro (fun hc => ?_) (fun hc => ?_))
    · replace H := H.1 hc
      have o2 := H.1
      replace H := H.2
      refine w_iinc rfl rfl rfl o2 ?_
      refine w_goto rfl ?_
      exact H
    · replace H := H.2 hc
      refine w_iconst rfl ⟨by decide, by decide⟩ ?_
      refine w_istore rfl rfl ?_
      exact H
set_option maxHeartbeats 4000000 in
set_option maxRecDepth 100000 in
theorem mr_laysFree_76 {d : Nat} {Q : cm_Q} {z : cm_Z} {I : cm_I} (hz : mz z) {x1 : Int} {x2 : Int} {x3 : Int} {x4 : Int} {x5 : Int} {x6 : Int} {z7 : Option cm_V}  (H : ((x2 ≤ x6 → cw d cd_Model_laysFree Q 115 [some (vR 12 209), some (vI x1), some (vI x2), some (vI x3), some (vI x4), some (vI x5), some (vI 0), z7] [] (I, z)) ∧ (x6 < x2 → (cm_i (x2 * x4) ∧ (cm_i ((x2 * x4) + x6) ∧ ((¬ x6 = x5 → ((0:Int) ≤ ((x2 * x4) + x6) ∧ ((x2 * x4) + x6) < 18600) ∧ (∀ I4 : cm_I, I4 = iu I 232 ((x2 * x4) + x6) 0 → (cm_i (x6 + 1) ∧ cw d cd_Model_laysFree Q 76 [some (vR 12 209), some (vI x1), some (vI x2), some (vI x3), some (vI x4), some (vI x5), some (vI (x6 + 1)), z7] [] (I4, z)))) ∧ (x6 = x5 → ((0:Int) ≤ ((x2 * x4) + x6) ∧ ((x2 * x4) + x6) < 18600) ∧ (∀ I7 : cm_I, I7 = iu I 232 ((x2 * x4) + x6) 1 → (cm_i (x6 + 1) ∧ cw d cd_Model_laysFree Q 76 [some (vR 12 209), some (vI x1), some (vI x2), some (vI x3), some (vI x4), some (vI x5), some (vI (x6 + 1)), z7] [] (I7, z)))))))))) : cw d cd_Model_laysFree Q 76 [some (vR 12 209), some (vI x1), some (vI x2), some (vI x3), some (vI x4), some (vI x5), some (vI x6), z7] [] (I, z) := by
  refine w_iload rfl rfl ?_
  refine w_iload rfl rfl ?_
  refine w_icmp rfl (And.intro (fun hc => ?_) (fun hc => ?_))
  · replace H := H.1 hc
    refine w_iconst rfl ⟨by decide, by decide⟩ ?_
    refine w_istore rfl rfl ?_
    exact H
  · replace H := H.2 hc
    refine w_aload rfl rfl ?_
    refine m_getR 39 20 232 hz rfl rfl rfl rfl rfl rfl (by decide) ?_
    refine w_iload rfl rfl ?_
    refine w_iload rfl rfl ?_
    have o1 := H.1
    replace H := H.2
    refine w_imul rfl o1 ?_
    refine w_iload rfl rfl ?_
    have o2 := H.1
    replace H := H.2
    refine w_iadd rfl o2 ?_
    refine w_iload rfl rfl ?_
    refine w_iload rfl rfl ?_
    refine w_icmp rfl (And.intro (fun hc => ?_) (fun hc => ?_))
    · replace H := H.1 hc
      refine w_iconst rfl ⟨by decide, by decide⟩ ?_
      have o3 := H.1
      replace H := H.2
      refine m_iastore hz (by unfold mA; decide) rfl o3 (fun I4 eI4 => ?_)
      replace H := H I4 eI4
      have o5 := H.1
      replace H := H.2
      refine w_iinc rfl rfl rfl o5 ?_
      refine w_goto rfl ?_
      exact H
    · replace H := H.2 hc
      refine w_iconst rfl ⟨by decide, by decide⟩ ?_
      refine w_goto rfl ?_
      have o6 := H.1
      replace H := H.2
      refine m_iastore hz (by unfold mA; decide) rfl o6 (fun I7 eI7 => ?_)
      replace H := H I7 eI7
      have o8 := H.1
      replace H := H.2
      refine w_iinc rfl rfl rfl o8 ?_
      refine w_goto rfl ?_
      exact H
set_option maxHeartbeats 4000000 in
set_option maxRecDepth 100000 in
theorem mr_laysFree_115 {d : Nat} {Q : cm_Q} {z : cm_Z} {I : cm_I} (hz : mz z) {x1 : Int} {x2 : Int} {x3 : Int} {x4 : Int} {x5 : Int} {x6 : Int} {z7 : Option cm_V}  (H : ((x3 ≤ x6 → (cm_i (x4 + 1) ∧ (cm_i (x5 + 1) ∧ cw d cd_Model_laysFree Q 57 [some (vR 12 209), some (vI x1), some (vI x2), some (vI x3), some (vI (x4 + 1)), some (vI (x5 + 1)), some (vI x6), z7] [] (I, z)))) ∧ (x6 < x3 → (cm_i (x2 * x4) ∧ ((0:Int) ≤ x6 ∧ x6 < 160) ∧ (cm_i ((x2 * x4) + (I 227 x6)) ∧ (cm_i (160 * x6) ∧ (cm_i ((160 * x6) + x5) ∧ ((0:Int) ≤ ((160 * x6) + x5) ∧ ((160 * x6) + x5) < 137600) ∧ (cm_i (-(I 226 ((160 * x6) + x5))) ∧ (mI d m_Model_of [vL (-(I 226 ((160 * x6) + x5)))] z I fun v11 I10 => ((0:Int) ≤ ((x2 * x4) + (I 227 x6)) ∧ ((x2 * x4) + (I 227 x6)) < 18600) ∧ (∀ I13 : cm_I, I13 = iu I10 232 ((x2 * x4) + (I 227 x6)) v11 → (cm_i (x6 + 1) ∧ cw d cd_Model_laysFree Q 115 [some (vR 12 209), some (vI x1), some (vI x2), some (vI x3), some (vI x4), some (vI x5), some (vI (x6 + 1)), z7] [] (I13, z)))))))))))) : cw d cd_Model_laysFree Q 115 [some (vR 12 209), some (vI x1), some (vI x2), some (vI x3), some (vI x4), some (vI x5), some (vI x6), z7] [] (I, z) := by
  refine w_iload rfl rfl ?_
  refine w_iload rfl rfl ?_
  refine w_icmp rfl (And.intro (fun hc => ?_) (fun hc => ?_))
  · replace H := H.1 hc
    have o1 := H.1
    replace H := H.2
    refine w_iinc rfl rfl rfl o1 ?_
    have o2 := H.1
    replace H := H.2
    refine w_iinc rfl rfl rfl o2 ?_
    refine w_goto rfl ?_
    exact H
  · replace H := H.2 hc
    refine w_aload rfl rfl ?_
    refine m_getR 39 20 232 hz rfl rfl rfl rfl rfl rfl (by decide) ?_
    refine w_iload rfl rfl ?_
    refine w_iload rfl rfl ?_
    have o3 := H.1
    replace H := H.2
    refine w_imul rfl o3 ?_
    refine w_aload rfl rfl ?_
    refine m_getR 33 20 227 hz rfl rfl rfl rfl rfl rfl (by decide) ?_
    refine w_iload rfl rfl ?_
    have o4 := H.1
    replace H := H.2
    refine m_iaload hz (by unfold mA; decide) rfl o4 ?_
    have o5 := H.1
    replace H := H.2
    refine w_iadd rfl o5 ?_
    refine w_aload rfl rfl ?_
    refine m_getR 32 20 226 hz rfl rfl rfl rfl rfl rfl (by decide) ?_
    refine w_iconst rfl ⟨by decide, by decide⟩ ?_
    refine w_iload rfl rfl ?_
    have o6 := H.1
    replace H := H.2
    refine w_imul rfl o6 ?_
    refine w_iload rfl rfl ?_
    have o7 := H.1
    replace H := H.2
    refine w_iadd rfl o7 ?_
    have o8 := H.1
    replace H := H.2
    refine m_iaload hz (by unfold mA; decide) rfl o8 ?_
    have o9 := H.1
    replace H := H.2
    refine w_ineg rfl o9 ?_
    refine w_i2l rfl ?_
    refine m_callI rfl (fun _ => rfl) rfl (mI_mono H fun v11 I10 H => ?_)
    have o12 := H.1
    replace H := H.2
    refine m_iastore hz (by unfold mA; decide) rfl o12 (fun I13 eI13 => ?_)
    replace H := H I13 eI13
    have o14 := H.1
    replace H := H.2
    refine w_iinc rfl rfl rfl o14 ?_
    refine w_goto rfl ?_
    exact H
set_option maxHeartbeats 4000000 in
set_option maxRecDepth 100000 in
theorem mr_laysFree_175 {d : Nat} {Q : cm_Q} {z : cm_Z} {I : cm_I} (hz : mz z) {x1 : Int} {x2 : Int} {z3 : Option cm_V} {x4 : Int} {x5 : Int} {z6 : Option cm_V} {z7 : Option cm_V}  (H : ((x4 ≤ x5 → (mI d m_Model_steps [vR 12 209, vI x4, vI x2] z I fun v2 I1 => cw d cd_Model_laysFree Q 247 [some (vR 12 209), some (vI x1), some (vI x2), z3, some (vI x4), some (vI v2), some (vI 0), z7] [] (I1, z))) ∧ (x5 < x4 → (mU d m_Model_clearsRow [vR 12 209, vI x5] z I fun I3 => cw d cd_Model_laysFree Q 191 [some (vR 12 209), some (vI x1), some (vI x2), z3, some (vI x4), some (vI x5), some (vI 0), z7] [] (I3, z))))) : cw d cd_Model_laysFree Q 175 [some (vR 12 209), some (vI x1), some (vI x2), z3, some (vI x4), some (vI x5), z6, z7] [] (I, z) := by
  refine w_iload rfl rfl ?_
  refine w_iload rfl rfl ?_
  refine w_icmp rfl (And.intro (fun hc => ?_) (fun hc => ?_))
  · replace H := H.1 hc
    refine w_aload rfl rfl ?_
    refine w_iload rfl rfl ?_
    refine w_iload rfl rfl ?_
    refine m_callI rfl (fun _ => rfl) rfl (mI_mono H fun v2 I1 H => ?_)
    refine w_istore rfl rfl ?_
    refine w_iconst rfl ⟨by decide, by decide⟩ ?_
    refine w_istore rfl rfl ?_
    exact H
  · replace H := H.2 hc
    refine w_aload rfl rfl ?_
    refine w_iload rfl rfl ?_
    refine m_callU rfl (fun _ => rfl) rfl (mU_mono H fun I3 H => ?_)
    refine w_iconst rfl ⟨by decide, by decide⟩ ?_
    refine w_istore rfl rfl ?_
    exact H
set_option maxHeartbeats 4000000 in
set_option maxRecDepth 100000 in
theorem mr_laysFree_191 {d : Nat} {Q : cm_Q} {z : cm_Z} {I : cm_I} (hz : mz z) {x1 : Int} {x2 : Int} {z3 : Option cm_V} {x4 : Int} {x5 : Int} {x6 : Int} {z7 : Option cm_V}  (H : ((x2 ≤ x6 → (cm_i (x5 + 1) ∧ cw d cd_Model_laysFree Q 175 [some (vR 12 209), some (vI x1), some (vI x2), z3, some (vI x4), some (vI (x5 + 1)), some (vI x6), z7] [] (I, z))) ∧ (x6 < x2 → (cm_i (160 * x5) ∧ (cm_i ((160 * x5) + x6) ∧ (cm_i (x2 * x5) ∧ (cm_i ((x2 * x5) + x6) ∧ ((0:Int) ≤ ((x2 * x5) + x6) ∧ ((x2 * x5) + x6) < 18600) ∧ ((0:Int) ≤ ((160 * x5) + x6) ∧ ((160 * x5) + x6) < 137600) ∧ (∀ I8 : cm_I, I8 = iu I 226 ((160 * x5) + x6) (I 232 ((x2 * x5) + x6)) → (cm_i (x6 + 1) ∧ cw d cd_Model_laysFree Q 191 [some (vR 12 209), some (vI x1), some (vI x2), z3, some (vI x4), some (vI x5), some (vI (x6 + 1)), z7] [] (I8, z)))))))))) : cw d cd_Model_laysFree Q 191 [some (vR 12 209), some (vI x1), some (vI x2), z3, some (vI x4), some (vI x5), some (vI x6), z7] [] (I, z) := by
  refine w_iload rfl rfl ?_
  refine w_iload rfl rfl ?_
  refine w_icmp rfl (And.intro (fun hc => ?_) (fun hc => ?_))
  · replace H := H.1 hc
    have o1 := H.1
    replace H := H.2
    refine w_iinc rfl rfl rfl o1 ?_
    refine w_goto rfl ?_
    exact H
  · replace H := H.2 hc
    refine w_aload rfl rfl ?_
    refine m_getR 32 20 226 hz rfl rfl rfl rfl rfl rfl (by decide) ?_
    refine w_iconst rfl ⟨by decide, by decide⟩ ?_
    refine w_iload rfl rfl ?_
    have o2 := H.1
    replace H := H.2
    refine w_imul rfl o2 ?_
    refine w_iload rfl rfl ?_
    have o3 := H.1
    replace H := H.2
    refine w_iadd rfl o3 ?_
    refine w_aload rfl rfl ?_
    refine m_getR 39 20 232 hz rfl rfl rfl rfl rfl rfl (by decide) ?_
    refine w_iload rfl rfl ?_
    refine w_iload rfl rfl ?_
    have o4 := H.1
    replace H := H.2
    refine w_imul rfl o4 ?_
    refine w_iload rfl rfl ?_
    have o5 := H.1
    replace H := H.2
    refine w_iadd rfl o5 ?_
    have o6 := H.1
    replace H := H.2
    refine m_iaload hz (by unfold mA; decide) rfl o6 ?_
    have o7 := H.1
    replace H := H.2
    refine m_iastore hz (by unfold mA; decide) rfl o7 (fun I8 eI8 => ?_)
    replace H := H I8 eI8
    have o9 := H.1
    replace H := H.2
    refine w_iinc rfl rfl rfl o9 ?_
    refine w_goto rfl ?_
    exact H
set_option maxHeartbeats 4000000 in
set_option maxRecDepth 100000 in
theorem mr_laysFree_247 {d : Nat} {Q : cm_Q} {z : cm_Z} {I : cm_I} (hz : mz z) {x1 : Int} {x2 : Int} {z3 : Option cm_V} {z4 : Option cm_V} {x5 : Int} {x6 : Int} {z7 : Option cm_V}  (H : ((x5 ≤ x6 → Q (some (vI x5)) (I, z)) ∧ (x6 < x5 → cw d cd_Model_laysFree Q 257 [some (vR 12 209), some (vI x1), some (vI x2), z3, z4, some (vI x5), some (vI x6), some (vI 0)] [] (I, z)))) : cw d cd_Model_laysFree Q 247 [some (vR 12 209), some (vI x1), some (vI x2), z3, z4, some (vI x5), some (vI x6), z7] [] (I, z) := by
  refine w_iload rfl rfl ?_
  refine w_iload rfl rfl ?_
  refine w_icmp rfl (And.intro (fun hc => ?_) (fun hc => ?_))
  · replace H := H.1 hc
    refine w_iload rfl rfl ?_
    exact w_ireturn rfl H
  · replace H := H.2 hc
    refine w_iconst rfl ⟨by decide, by decide⟩ ?_
    refine w_istore rfl rfl ?_
    exact H
set_option maxHeartbeats 4000000 in
set_option maxRecDepth 100000 in
theorem mr_laysFree_257 {d : Nat} {Q : cm_Q} {z : cm_Z} {I : cm_I} (hz : mz z) {x1 : Int} {x2 : Int} {z3 : Option cm_V} {z4 : Option cm_V} {x5 : Int} {x6 : Int} {x7 : Int}  (H : ((x2 ≤ x7 → (cm_i (x6 + 1) ∧ cw d cd_Model_laysFree Q 247 [some (vR 12 209), some (vI x1), some (vI x2), z3, z4, some (vI x5), some (vI (x6 + 1)), some (vI x7)] [] (I, z))) ∧ (x7 < x2 → ((0:Int) ≤ x1 ∧ x1 < 16) ∧ (cm_i (x2 * x6) ∧ (cm_i ((I 229 x1) + (x2 * x6)) ∧ (cm_i (((I 229 x1) + (x2 * x6)) + x7) ∧ (cm_i (160 * x6) ∧ (cm_i ((160 * x6) + x7) ∧ ((0:Int) ≤ ((160 * x6) + x7) ∧ ((160 * x6) + x7) < 137600) ∧ ((0:Int) ≤ (((I 229 x1) + (x2 * x6)) + x7) ∧ (((I 229 x1) + (x2 * x6)) + x7) < 72000) ∧ (∀ I10 : cm_I, I10 = iu I 230 (((I 229 x1) + (x2 * x6)) + x7) (I 226 ((160 * x6) + x7)) → (cm_i (x7 + 1) ∧ cw d cd_Model_laysFree Q 257 [some (vR 12 209), some (vI x1), some (vI x2), z3, z4, some (vI x5), some (vI x6), some (vI (x7 + 1))] [] (I10, z))))))))))) : cw d cd_Model_laysFree Q 257 [some (vR 12 209), some (vI x1), some (vI x2), z3, z4, some (vI x5), some (vI x6), some (vI x7)] [] (I, z) := by
  refine w_iload rfl rfl ?_
  refine w_iload rfl rfl ?_
  refine w_icmp rfl (And.intro (fun hc => ?_) (fun hc => ?_))
  · replace H := H.1 hc
    have o1 := H.1
    replace H := H.2
    refine w_iinc rfl rfl rfl o1 ?_
    refine w_goto rfl ?_
    exact H
  · replace H := H.2 hc
    refine w_aload rfl rfl ?_
    refine m_getR 36 20 230 hz rfl rfl rfl rfl rfl rfl (by decide) ?_
    refine w_aload rfl rfl ?_
    refine m_getR 35 20 229 hz rfl rfl rfl rfl rfl rfl (by decide) ?_
    refine w_iload rfl rfl ?_
    have o2 := H.1
    replace H := H.2
    refine m_iaload hz (by unfold mA; decide) rfl o2 ?_
    refine w_iload rfl rfl ?_
    refine w_iload rfl rfl ?_
    have o3 := H.1
    replace H := H.2
    refine w_imul rfl o3 ?_
    have o4 := H.1
    replace H := H.2
    refine w_iadd rfl o4 ?_
    refine w_iload rfl rfl ?_
    have o5 := H.1
    replace H := H.2
    refine w_iadd rfl o5 ?_
    refine w_aload rfl rfl ?_
    refine m_getR 32 20 226 hz rfl rfl rfl rfl rfl rfl (by decide) ?_
    refine w_iconst rfl ⟨by decide, by decide⟩ ?_
    refine w_iload rfl rfl ?_
    have o6 := H.1
    replace H := H.2
    refine w_imul rfl o6 ?_
    refine w_iload rfl rfl ?_
    have o7 := H.1
    replace H := H.2
    refine w_iadd rfl o7 ?_
    have o8 := H.1
    replace H := H.2
    refine m_iaload hz (by unfold mA; decide) rfl o8 ?_
    have o9 := H.1
    replace H := H.2
    refine m_iastore hz (by unfold mA; decide) rfl o9 (fun I10 eI10 => ?_)
    replace H := H I10 eI10
    have o11 := H.1
    replace H := H.2
    refine w_iinc rfl rfl rfl o11 ?_
    refine w_goto rfl ?_
    exact H
set_option maxHeartbeats 4000000 in
set_option maxRecDepth 100000 in
theorem mr_laysFree {d : Nat} {Q : cm_Q} {z : cm_Z} {I : cm_I} (hz : mz z) {x1 : Int} {x2 : Int} {x3 : Int}  (H : cw d cd_Model_laysFree Q 3 [some (vR 12 209), some (vI x1), some (vI x2), some (vI x3), some (vI 0), none, none, none] [] (I, z)) : cm_call (d + 1) m_Model_laysFree [vR 12 209, vI x1, vI x2, vI x3] (I, z) Q := by
  refine cm_call_in (C := cd_Model_laysFree) (ls := [some (vR 12 209), some (vI x1), some (vI x2), some (vI x3), none, none, none, none]) rfl rfl (show 0 < 209 by decide) rfl ?_
  refine w_iconst rfl ⟨by decide, by decide⟩ ?_
  refine w_istore rfl rfl ?_
  exact H
set_option maxHeartbeats 4000000 in
set_option maxRecDepth 100000 in
theorem mr_laysBaseRow_9 {d : Nat} {Q : cm_Q} {z : cm_Z} {I : cm_I} (hz : mz z) {x1 : Int} {x2 : Int} {a3 : Nat} {x4 : Int} {x5 : Int} (p_a3 : mA a3) (H : (mI d m_Model_many [vR 12 209, vI x1] z I fun v2 I1 => ((v2 ≤ x5 → Q none (I1, z)) ∧ (x5 < v2 → (mI d m_Model_from [vR 12 209, vI x1] z I1 fun v4 I3 => (cm_i (x4 + v4) ∧ (cm_i ((x4 + v4) + x5) ∧ ((0:Int) ≤ x1 ∧ x1 < 16) ∧ (mI d m_Model_many [vR 12 209, vI x1] z I3 fun v9 I8 => (cm_i (v9 * x2) ∧ (cm_i ((I3 229 x1) + (v9 * x2)) ∧ (cm_i (((I3 229 x1) + (v9 * x2)) + x5) ∧ ((0:Int) ≤ (((I3 229 x1) + (v9 * x2)) + x5) ∧ (((I3 229 x1) + (v9 * x2)) + x5) < 72000) ∧ ((0:Int) ≤ ((x4 + v4) + x5) ∧ ((x4 + v4) + x5) < mLen a3) ∧ (∀ I15 : cm_I, I15 = iu I8 a3 ((x4 + v4) + x5) (I8 230 (((I3 229 x1) + (v9 * x2)) + x5)) → (cm_i (x5 + 1) ∧ cw d cd_Model_laysBaseRow Q 9 [some (vR 12 209), some (vI x1), some (vI x2), some (vR 20 a3), some (vI x4), some (vI (x5 + 1))] [] (I15, z)))))))))))))) : cw d cd_Model_laysBaseRow Q 9 [some (vR 12 209), some (vI x1), some (vI x2), some (vR 20 a3), some (vI x4), some (vI x5)] [] (I, z) := by
  refine w_iload rfl rfl ?_
  refine w_aload rfl rfl ?_
  refine w_iload rfl rfl ?_
  refine m_callI rfl (fun _ => rfl) rfl (mI_mono H fun v2 I1 H => ?_)
  refine w_icmp rfl (And.intro (fun hc => ?_) (fun hc => ?_))
  · replace H := H.1 hc
    exact w_return rfl H
  · replace H := H.2 hc
    refine w_aload rfl rfl ?_
    refine w_iload rfl rfl ?_
    refine w_aload rfl rfl ?_
    refine w_iload rfl rfl ?_
    refine m_callI rfl (fun _ => rfl) rfl (mI_mono H fun v4 I3 H => ?_)
    have o5 := H.1
    replace H := H.2
    refine w_iadd rfl o5 ?_
    refine w_iload rfl rfl ?_
    have o6 := H.1
    replace H := H.2
    refine w_iadd rfl o6 ?_
    refine w_aload rfl rfl ?_
    refine m_getR 36 20 230 hz rfl rfl rfl rfl rfl rfl (by decide) ?_
    refine w_aload rfl rfl ?_
    refine m_getR 35 20 229 hz rfl rfl rfl rfl rfl rfl (by decide) ?_
    refine w_iload rfl rfl ?_
    have o7 := H.1
    replace H := H.2
    refine m_iaload hz (by unfold mA; decide) rfl o7 ?_
    refine w_aload rfl rfl ?_
    refine w_iload rfl rfl ?_
    refine m_callI rfl (fun _ => rfl) rfl (mI_mono H fun v9 I8 H => ?_)
    refine w_iload rfl rfl ?_
    have o10 := H.1
    replace H := H.2
    refine w_imul rfl o10 ?_
    have o11 := H.1
    replace H := H.2
    refine w_iadd rfl o11 ?_
    refine w_iload rfl rfl ?_
    have o12 := H.1
    replace H := H.2
    refine w_iadd rfl o12 ?_
    have o13 := H.1
    replace H := H.2
    refine m_iaload hz (by unfold mA; decide) rfl o13 ?_
    have o14 := H.1
    replace H := H.2
    refine m_iastore hz p_a3 rfl o14 (fun I15 eI15 => ?_)
    replace H := H I15 eI15
    have o16 := H.1
    replace H := H.2
    refine w_iinc rfl rfl rfl o16 ?_
    refine w_goto rfl ?_
    exact H
set_option maxHeartbeats 4000000 in
set_option maxRecDepth 100000 in
theorem mr_laysBaseRow {d : Nat} {Q : cm_Q} {z : cm_Z} {I : cm_I} (hz : mz z) {x1 : Int} {x2 : Int} {a3 : Nat} {x4 : Int}  (H : (mU d m_Model_clears [vR 20 a3, vI x4] z I fun I1 => cw d cd_Model_laysBaseRow Q 9 [some (vR 12 209), some (vI x1), some (vI x2), some (vR 20 a3), some (vI x4), some (vI 0)] [] (I1, z))) : cm_call (d + 1) m_Model_laysBaseRow [vR 12 209, vI x1, vI x2, vR 20 a3, vI x4] (I, z) Q := by
  refine cm_call_in (C := cd_Model_laysBaseRow) (ls := [some (vR 12 209), some (vI x1), some (vI x2), some (vR 20 a3), some (vI x4), none]) rfl rfl (show 0 < 209 by decide) rfl ?_
  refine w_aload rfl rfl ?_
  refine w_iload rfl rfl ?_
  refine m_callU rfl (fun _ => rfl) rfl (mU_mono H fun I1 H => ?_)
  refine w_iconst rfl ⟨by decide, by decide⟩ ?_
  refine w_istore rfl rfl ?_
  exact H
set_option maxHeartbeats 4000000 in
set_option maxRecDepth 100000 in
theorem mr_series {d : Nat} {Q : cm_Q} {z : cm_Z} {I : cm_I} (hz : mz z) {x1 : Int}  (H : (∀ I1 : cm_I, I1 = iu I 209 0 0 → (mI d m_Model_within [vI x1, vI 0, vI 15] z I1 fun v3 I2 => ((¬ v3 = 0 → (mU d m_Model_laysBases [vR 12 209, vI x1] z I2 fun I4 => ((0:Int) ≤ x1 ∧ x1 < 16) ∧ Q (some (vI (I4 228 x1))) (I4, z))) ∧ (v3 = 0 → Q (some (vI (-1))) (I2, z)))))) : cm_call (d + 1) m_Model_series [vR 12 209, vI x1] (I, z) Q := by
  refine cm_call_in (C := cd_Model_series) (ls := [some (vR 12 209), some (vI x1)]) rfl rfl (show 0 < 209 by decide) rfl ?_
  refine w_aload rfl rfl ?_
  refine w_iconst rfl ⟨by decide, by decide⟩ ?_
  refine m_putI 0 rfl rfl rfl (by decide) (fun I1 eI1 => ?_)
  replace H := H I1 eI1
  refine w_iload rfl rfl ?_
  refine w_iconst rfl ⟨by decide, by decide⟩ ?_
  refine w_iconst rfl ⟨by decide, by decide⟩ ?_
  refine m_callI rfl (fun _ => rfl) rfl (mI_mono H fun v3 I2 H => ?_)
  refine w_if rfl (And.intro (fun hc => ?_) (fun hc => ?_))
  · replace H := H.1 hc
    refine w_aload rfl rfl ?_
    refine w_iload rfl rfl ?_
    refine m_callU rfl (fun _ => rfl) rfl (mU_mono H fun I4 H => ?_)
    refine w_aload rfl rfl ?_
    refine m_getR 34 20 228 hz rfl rfl rfl rfl rfl rfl (by decide) ?_
    refine w_iload rfl rfl ?_
    have o5 := H.1
    replace H := H.2
    refine m_iaload hz (by unfold mA; decide) rfl o5 ?_
    exact w_ireturn rfl H
  · replace H := H.2 hc
    refine w_iconst rfl ⟨by decide, by decide⟩ ?_
    exact w_ireturn rfl H
set_option maxHeartbeats 4000000 in
set_option maxRecDepth 100000 in
theorem mr_base {d : Nat} {Q : cm_Q} {z : cm_Z} {I : cm_I} (hz : mz z) {x1 : Int} {x2 : Int} {x3 : Int}  (H : (∀ I1 : cm_I, I1 = iu I 209 0 0 → (mI d m_Model_within [vI x1, vI 0, vI 15] z I1 fun v3 I2 => ((v3 = 0 → Q (some (vI (-1))) (I2, z)) ∧ (¬ v3 = 0 → (mI d m_Model_isKept [vR 12 209, vI x3] z I2 fun v5 I4 => ((¬ v5 = 0 → (mU d m_Model_laysBases [vR 12 209, vI x1] z I4 fun I6 => ((0:Int) ≤ x1 ∧ x1 < 16) ∧ (cm_i ((I6 228 x1) - 1) ∧ (mI d m_Model_within [vI x2, vI 0, vI ((I6 228 x1) - 1)] z I6 fun v10 I9 => ((¬ v10 = 0 → (cm_i (1140 * x3) ∧ (mU d m_Model_laysBaseRow [vR 12 209, vI x1, vI x2, vR 20 213, vI (1140 * x3)] z I9 fun I12 => (mI d m_Model_terms [vR 12 209, vI (1140 * x3)] z I12 fun v14 I13 => Q (some (vI v14)) (I13, z))))) ∧ (v10 = 0 → Q (some (vI (-1))) (I9, z))))))) ∧ (v5 = 0 → Q (some (vI (-1))) (I4, z))))))))) : cm_call (d + 1) m_Model_base [vR 12 209, vI x1, vI x2, vI x3] (I, z) Q := by
  refine cm_call_in (C := cd_Model_base) (ls := [some (vR 12 209), some (vI x1), some (vI x2), some (vI x3)]) rfl rfl (show 0 < 209 by decide) rfl ?_
  refine w_aload rfl rfl ?_
  refine w_iconst rfl ⟨by decide, by decide⟩ ?_
  refine m_putI 0 rfl rfl rfl (by decide) (fun I1 eI1 => ?_)
  replace H := H I1 eI1
  refine w_iload rfl rfl ?_
  refine w_iconst rfl ⟨by decide, by decide⟩ ?_
  refine w_iconst rfl ⟨by decide, by decide⟩ ?_
  refine m_callI rfl (fun _ => rfl) rfl (mI_mono H fun v3 I2 H => ?_)
  refine w_if rfl (And.intro (fun hc => ?_) (fun hc => ?_))
  · replace H := H.1 hc
    refine w_iconst rfl ⟨by decide, by decide⟩ ?_
    exact w_ireturn rfl H
  · replace H := H.2 hc
    refine w_aload rfl rfl ?_
    refine w_iload rfl rfl ?_
    refine m_callI rfl (fun _ => rfl) rfl (mI_mono H fun v5 I4 H => ?_)
    refine w_if rfl (And.intro (fun hc => ?_) (fun hc => ?_))
    · replace H := H.1 hc
      refine w_aload rfl rfl ?_
      refine w_iload rfl rfl ?_
      refine m_callU rfl (fun _ => rfl) rfl (mU_mono H fun I6 H => ?_)
      refine w_iload rfl rfl ?_
      refine w_iconst rfl ⟨by decide, by decide⟩ ?_
      refine w_aload rfl rfl ?_
      refine m_getR 34 20 228 hz rfl rfl rfl rfl rfl rfl (by decide) ?_
      refine w_iload rfl rfl ?_
      have o7 := H.1
      replace H := H.2
      refine m_iaload hz (by unfold mA; decide) rfl o7 ?_
      refine w_iconst rfl ⟨by decide, by decide⟩ ?_
      have o8 := H.1
      replace H := H.2
      refine w_isub rfl o8 ?_
      refine m_callI rfl (fun _ => rfl) rfl (mI_mono H fun v10 I9 H => ?_)
      refine w_if rfl (And.intro (fun hc => ?_) (fun hc => ?_))
      · replace H := H.1 hc
        refine w_aload rfl rfl ?_
        refine w_iload rfl rfl ?_
        refine w_iload rfl rfl ?_
        refine w_aload rfl rfl ?_
        refine m_getR 5 20 213 hz rfl rfl rfl rfl rfl rfl (by decide) ?_
        refine w_iconst rfl ⟨by decide, by decide⟩ ?_
        refine w_iload rfl rfl ?_
        have o11 := H.1
        replace H := H.2
        refine w_imul rfl o11 ?_
        refine m_callU rfl (fun _ => rfl) rfl (mU_mono H fun I12 H => ?_)
        refine w_aload rfl rfl ?_
        refine w_iconst rfl ⟨by decide, by decide⟩ ?_
        refine w_iload rfl rfl ?_
        refine w_imul rfl o11 ?_
        refine m_callI rfl (fun _ => rfl) rfl (mI_mono H fun v14 I13 H => ?_)
        exact w_ireturn rfl H
      · replace H := H.2 hc
        refine w_iconst rfl ⟨by decide, by decide⟩ ?_
        exact w_ireturn rfl H
    · replace H := H.2 hc
      refine w_iconst rfl ⟨by decide, by decide⟩ ?_
      exact w_ireturn rfl H
set_option maxHeartbeats 4000000 in
set_option maxRecDepth 100000 in
theorem mr_areAll_9 {d : Nat} {Q : cm_Q} {z : cm_Z} {I : cm_I} (hz : mz z) {x1 : Int} {x2 : Int} {z3 : Option cm_V} {z4 : Option cm_V} {z5 : Option cm_V} {z6 : Option cm_V} {z7 : Option cm_V} {z8 : Option cm_V}  (H : (((I 209 1) ≤ x2 → (mI d m_Model_many [vR 12 209, vI x1] z I fun v2 I1 => cw d cd_Model_areAll Q 53 [some (vR 12 209), some (vI x1), some (vI v2), some (vI 0), some (vI 0), some (vI 0), z6, z7, z8] [] (I1, z))) ∧ (x2 < (I 209 1) → (cm_i (1140 * x2) ∧ (mI d m_Model_degree [vR 12 209, vR 20 233, vI (1140 * x2)] z I fun v5 I4 => (cm_i (x1 + v5) ∧ (cm_i (x2 + 1) ∧ cw d cd_Model_areAll Q 9 [some (vR 12 209), some (vI (x1 + v5)), some (vI (x2 + 1)), z3, z4, z5, z6, z7, z8] [] (I4, z)))))))) : cw d cd_Model_areAll Q 9 [some (vR 12 209), some (vI x1), some (vI x2), z3, z4, z5, z6, z7, z8] [] (I, z) := by
  refine w_iload rfl rfl ?_
  refine w_aload rfl rfl ?_
  refine m_getI 1 rfl rfl rfl (by decide) ?_
  refine w_icmp rfl (And.intro (fun hc => ?_) (fun hc => ?_))
  · replace H := H.1 hc
    refine w_aload rfl rfl ?_
    refine w_iload rfl rfl ?_
    refine m_callI rfl (fun _ => rfl) rfl (mI_mono H fun v2 I1 H => ?_)
    refine w_istore rfl rfl ?_
    refine w_iconst rfl ⟨by decide, by decide⟩ ?_
    refine w_istore rfl rfl ?_
    refine w_iconst rfl ⟨by decide, by decide⟩ ?_
    refine w_istore rfl rfl ?_
    refine w_iconst rfl ⟨by decide, by decide⟩ ?_
    refine w_istore rfl rfl ?_
    exact H
  · replace H := H.2 hc
    refine w_iload rfl rfl ?_
    refine w_aload rfl rfl ?_
    refine w_aload rfl rfl ?_
    refine m_getR 40 20 233 hz rfl rfl rfl rfl rfl rfl (by decide) ?_
    refine w_iconst rfl ⟨by decide, by decide⟩ ?_
    refine w_iload rfl rfl ?_
    have o3 := H.1
    replace H := H.2
    refine w_imul rfl o3 ?_
    refine m_callI rfl (fun _ => rfl) rfl (mI_mono H fun v5 I4 H => ?_)
    have o6 := H.1
    replace H := H.2
    refine w_iadd rfl o6 ?_
    refine w_istore rfl rfl ?_
    have o7 := H.1
    replace H := H.2
    refine w_iinc rfl rfl rfl o7 ?_
    refine w_goto rfl ?_
    exact H
set_option maxHeartbeats 4000000 in
set_option maxRecDepth 100000 in
theorem mr_areAll_53 {d : Nat} {Q : cm_Q} {z : cm_Z} {I : cm_I} (hz : mz z) {x1 : Int} {x2 : Int} {x3 : Int} {x4 : Int} {x5 : Int} {z6 : Option cm_V} {z7 : Option cm_V} {z8 : Option cm_V}  (H : (((I 209 1) ≤ x5 → ((¬ x4 = x2 → Q (some (vI 0)) (I, z)) ∧ (x4 = x2 → Q (some (vI 1)) (I, z)))) ∧ (x5 < (I 209 1) → (cm_i (1140 * x5) ∧ (mI d m_Model_degree [vR 12 209, vR 20 233, vI (1140 * x5)] z I fun v3 I2 => (cm_i (x1 - v3) ∧ (mI d m_Model_from [vR 12 209, vI (x1 - v3)] z I2 fun v6 I5 => cw d cd_Model_areAll Q 88 [some (vR 12 209), some (vI x1), some (vI x2), some (vI x3), some (vI x4), some (vI x5), some (vI v3), some (vI v6), z8] [] (I5, z)))))))) : cw d cd_Model_areAll Q 53 [some (vR 12 209), some (vI x1), some (vI x2), some (vI x3), some (vI x4), some (vI x5), z6, z7, z8] [] (I, z) := by
  refine w_iload rfl rfl ?_
  refine w_aload rfl rfl ?_
  refine m_getI 1 rfl rfl rfl (by decide) ?_
  refine w_icmp rfl (And.intro (fun hc => ?_) (fun hc => ?_))
  · replace H := H.1 hc
    refine w_iload rfl rfl ?_
    refine w_iload rfl rfl ?_
    refine w_icmp rfl (And.intro (fun hc => ?_) (fun hc => ?_))
    · replace H := H.1 hc
      refine w_iconst rfl ⟨by decide, by decide⟩ ?_
      exact w_zreturn rfl (by decide) H
    · replace H := H.2 hc
      refine w_iconst rfl ⟨by decide, by decide⟩ ?_
      refine w_goto rfl ?_
      exact w_zreturn rfl (by decide) H
  · replace H := H.2 hc
    refine w_aload rfl rfl ?_
    refine w_aload rfl rfl ?_
    refine m_getR 40 20 233 hz rfl rfl rfl rfl rfl rfl (by decide) ?_
    refine w_iconst rfl ⟨by decide, by decide⟩ ?_
    refine w_iload rfl rfl ?_
    have o1 := H.1
    replace H := H.2
    refine w_imul rfl o1 ?_
    refine m_callI rfl (fun _ => rfl) rfl (mI_mono H fun v3 I2 H => ?_)
    refine w_istore rfl rfl ?_
    refine w_aload rfl rfl ?_
    refine w_iload rfl rfl ?_
    refine w_iload rfl rfl ?_
    have o4 := H.1
    replace H := H.2
    refine w_isub rfl o4 ?_
    refine m_callI rfl (fun _ => rfl) rfl (mI_mono H fun v6 I5 H => ?_)
    refine w_istore rfl rfl ?_
    exact H
set_option maxHeartbeats 4000000 in
set_option maxRecDepth 100000 in
theorem mr_areAll_88 {d : Nat} {Q : cm_Q} {z : cm_Z} {I : cm_I} (hz : mz z) {x1 : Int} {x2 : Int} {x3 : Int} {z4 : Option cm_V} {x5 : Int} {x6 : Int} {x7 : Int} {z8 : Option cm_V}  (H : (cm_i (x1 - x6) ∧ (cm_i ((x1 - x6) + 1) ∧ (mI d m_Model_from [vR 12 209, vI ((x1 - x6) + 1)] z I fun v4 I3 => ((v4 ≤ x7 → (mI d m_Model_steps [vR 12 209, vI x3, vI x2] z I3 fun v6 I5 => (cm_i (x5 + 1) ∧ cw d cd_Model_areAll Q 53 [some (vR 12 209), some (vI x1), some (vI x2), some (vI v6), some (vI v6), some (vI (x5 + 1)), some (vI x6), some (vI x7), z8] [] (I5, z)))) ∧ (x7 < v4 → (mU d m_Model_clearsRow [vR 12 209, vI x3] z I3 fun I8 => (mI d m_Model_from [vR 12 209, vI x6] z I8 fun v10 I9 => cw d cd_Model_areAll Q 116 [some (vR 12 209), some (vI x1), some (vI x2), some (vI x3), z4, some (vI x5), some (vI x6), some (vI x7), some (vI v10)] [] (I9, z))))))))) : cw d cd_Model_areAll Q 88 [some (vR 12 209), some (vI x1), some (vI x2), some (vI x3), z4, some (vI x5), some (vI x6), some (vI x7), z8] [] (I, z) := by
  refine w_iload rfl rfl ?_
  refine w_aload rfl rfl ?_
  refine w_iload rfl rfl ?_
  refine w_iload rfl rfl ?_
  have o1 := H.1
  replace H := H.2
  refine w_isub rfl o1 ?_
  refine w_iconst rfl ⟨by decide, by decide⟩ ?_
  have o2 := H.1
  replace H := H.2
  refine w_iadd rfl o2 ?_
  refine m_callI rfl (fun _ => rfl) rfl (mI_mono H fun v4 I3 H => ?_)
  refine w_icmp rfl (And.intro (fun hc => ?_) (fun hc => ?_))
  · replace H := H.1 hc
    refine w_aload rfl rfl ?_
    refine w_iload rfl rfl ?_
    refine w_iload rfl rfl ?_
    refine m_callI rfl (fun _ => rfl) rfl (mI_mono H fun v6 I5 H => ?_)
    refine w_istore rfl rfl ?_
    refine w_iload rfl rfl ?_
    refine w_istore rfl rfl ?_
    have o7 := H.1
    replace H := H.2
    refine w_iinc rfl rfl rfl o7 ?_
    refine w_goto rfl ?_
    exact H
  · replace H := H.2 hc
    refine w_aload rfl rfl ?_
    refine w_iload rfl rfl ?_
    refine m_callU rfl (fun _ => rfl) rfl (mU_mono H fun I8 H => ?_)
    refine w_aload rfl rfl ?_
    refine w_iload rfl rfl ?_
    refine m_callI rfl (fun _ => rfl) rfl (mI_mono H fun v10 I9 H => ?_)
    refine w_istore rfl rfl ?_
    exact H
set_option maxHeartbeats 4000000 in
set_option maxRecDepth 100000 in
theorem mr_areAll_116 {d : Nat} {Q : cm_Q} {z : cm_Z} {I : cm_I} (hz : mz z) {x1 : Int} {x2 : Int} {x3 : Int} {z4 : Option cm_V} {x5 : Int} {x6 : Int} {x7 : Int} {x8 : Int}  (H : (cm_i (x6 + 1) ∧ (mI d m_Model_from [vR 12 209, vI (x6 + 1)] z I fun v3 I2 => ((v3 ≤ x8 → (cm_i (x3 + 1) ∧ (cm_i (x7 + 1) ∧ cw d cd_Model_areAll Q 88 [some (vR 12 209), some (vI x1), some (vI x2), some (vI (x3 + 1)), z4, some (vI x5), some (vI x6), some (vI (x7 + 1)), some (vI x8)] [] (I2, z)))) ∧ (x8 < v3 → (cm_i (1140 * x5) ∧ (cm_i ((1140 * x5) + x8) ∧ ((0:Int) ≤ ((1140 * x5) + x8) ∧ ((1140 * x5) + x8) < 3420) ∧ (((I2 233 ((1140 * x5) + x8)) = 0 → (cm_i (x8 + 1) ∧ cw d cd_Model_areAll Q 116 [some (vR 12 209), some (vI x1), some (vI x2), some (vI x3), z4, some (vI x5), some (vI x6), some (vI x7), some (vI (x8 + 1))] [] (I2, z))) ∧ (¬ (I2 233 ((1140 * x5) + x8)) = 0 → (cm_i (160 * x3) ∧ ((0:Int) ≤ x8 ∧ x8 < 1140) ∧ ((0:Int) ≤ x7 ∧ x7 < 1140) ∧ (cm_i ((I2 210 x8) + (I2 210 x7)) ∧ (cm_i ((I2 211 x8) + (I2 211 x7)) ∧ (cm_i ((I2 212 x8) + (I2 212 x7)) ∧ (mI d m_Model_at [vR 12 209, vI ((I2 210 x8) + (I2 210 x7)), vI ((I2 211 x8) + (I2 211 x7)), vI ((I2 212 x8) + (I2 212 x7))] z I2 fun v17 I16 => (cm_i ((160 * x3) + v17) ∧ (mI d m_Model_from [vR 12 209, vI x1] z I16 fun v20 I19 => (cm_i (((160 * x3) + v17) - v20) ∧ ((0:Int) ≤ (((160 * x3) + v17) - v20) ∧ (((160 * x3) + v17) - v20) < 137600) ∧ (∀ I23 : cm_I, I23 = iu I19 226 (((160 * x3) + v17) - v20) (I19 233 ((1140 * x5) + x8)) → (cm_i (x8 + 1) ∧ cw d cd_Model_areAll Q 116 [some (vR 12 209), some (vI x1), some (vI x2), some (vI x3), z4, some (vI x5), some (vI x6), some (vI x7), some (vI (x8 + 1))] [] (I23, z)))))))))))))))))))) : cw d cd_Model_areAll Q 116 [some (vR 12 209), some (vI x1), some (vI x2), some (vI x3), z4, some (vI x5), some (vI x6), some (vI x7), some (vI x8)] [] (I, z) := by
  refine w_iload rfl rfl ?_
  refine w_aload rfl rfl ?_
  refine w_iload rfl rfl ?_
  refine w_iconst rfl ⟨by decide, by decide⟩ ?_
  have o1 := H.1
  replace H := H.2
  refine w_iadd rfl o1 ?_
  refine m_callI rfl (fun _ => rfl) rfl (mI_mono H fun v3 I2 H => ?_)
  refine w_icmp rfl (And.intro (fun hc => ?_) (fun hc => ?_))
  · replace H := H.1 hc
    have o4 := H.1
    replace H := H.2
    refine w_iinc rfl rfl rfl o4 ?_
    have o5 := H.1
    replace H := H.2
    refine w_iinc rfl rfl rfl o5 ?_
    refine w_goto rfl ?_
    exact H
  · replace H := H.2 hc
    refine w_aload rfl rfl ?_
    refine m_getR 40 20 233 hz rfl rfl rfl rfl rfl rfl (by decide) ?_
    refine w_iconst rfl ⟨by decide, by decide⟩ ?_
    refine w_iload rfl rfl ?_
    have o6 := H.1
    replace H := H.2
    refine w_imul rfl o6 ?_
    refine w_iload rfl rfl ?_
    have o7 := H.1
    replace H := H.2
    refine w_iadd rfl o7 ?_
    have o8 := H.1
    replace H := H.2
    refine m_iaload hz (by unfold mA; decide) rfl o8 ?_
    refine w_if rfl (And.intro (fun hc => ?_) (fun hc => ?_))
    · replace H := H.1 hc
      have o9 := H.1
      replace H := H.2
      refine w_iinc rfl rfl rfl o9 ?_
      refine w_goto rfl ?_
      exact H
    · replace H := H.2 hc
      refine w_aload rfl rfl ?_
      refine m_getR 32 20 226 hz rfl rfl rfl rfl rfl rfl (by decide) ?_
      refine w_iconst rfl ⟨by decide, by decide⟩ ?_
      refine w_iload rfl rfl ?_
      have o10 := H.1
      replace H := H.2
      refine w_imul rfl o10 ?_
      refine w_aload rfl rfl ?_
      refine w_aload rfl rfl ?_
      refine m_getR 2 20 210 hz rfl rfl rfl rfl rfl rfl (by decide) ?_
      refine w_iload rfl rfl ?_
      have o11 := H.1
      replace H := H.2
      refine m_iaload hz (by unfold mA; decide) rfl o11 ?_
      refine w_aload rfl rfl ?_
      refine m_getR 2 20 210 hz rfl rfl rfl rfl rfl rfl (by decide) ?_
      refine w_iload rfl rfl ?_
      have o12 := H.1
      replace H := H.2
      refine m_iaload hz (by unfold mA; decide) rfl o12 ?_
      have o13 := H.1
      replace H := H.2
      refine w_iadd rfl o13 ?_
      refine w_aload rfl rfl ?_
      refine m_getR 3 20 211 hz rfl rfl rfl rfl rfl rfl (by decide) ?_
      refine w_iload rfl rfl ?_
      refine m_iaload hz (by unfold mA; decide) rfl o11 ?_
      refine w_aload rfl rfl ?_
      refine m_getR 3 20 211 hz rfl rfl rfl rfl rfl rfl (by decide) ?_
      refine w_iload rfl rfl ?_
      refine m_iaload hz (by unfold mA; decide) rfl o12 ?_
      have o14 := H.1
      replace H := H.2
      refine w_iadd rfl o14 ?_
      refine w_aload rfl rfl ?_
      refine m_getR 4 20 212 hz rfl rfl rfl rfl rfl rfl (by decide) ?_
      refine w_iload rfl rfl ?_
      refine m_iaload hz (by unfold mA; decide) rfl o11 ?_
      refine w_aload rfl rfl ?_
      refine m_getR 4 20 212 hz rfl rfl rfl rfl rfl rfl (by decide) ?_
      refine w_iload rfl rfl ?_
      refine m_iaload hz (by unfold mA; decide) rfl o12 ?_
      have o15 := H.1
      replace H := H.2
      refine w_iadd rfl o15 ?_
      refine m_callI rfl (fun _ => rfl) rfl (mI_mono H fun v17 I16 H => ?_)
      have o18 := H.1
      replace H := H.2
      refine w_iadd rfl o18 ?_
      refine w_aload rfl rfl ?_
      refine w_iload rfl rfl ?_
      refine m_callI rfl (fun _ => rfl) rfl (mI_mono H fun v20 I19 H => ?_)
      have o21 := H.1
      replace H := H.2
      refine w_isub rfl o21 ?_
      refine w_aload rfl rfl ?_
      refine m_getR 40 20 233 hz rfl rfl rfl rfl rfl rfl (by decide) ?_
      refine w_iconst rfl ⟨by decide, by decide⟩ ?_
      refine w_iload rfl rfl ?_
      refine w_imul rfl o6 ?_
      refine w_iload rfl rfl ?_
      refine w_iadd rfl o7 ?_
      refine m_iaload hz (by unfold mA; decide) rfl o8 ?_
      have o22 := H.1
      replace H := H.2
      refine m_iastore hz (by unfold mA; decide) rfl o22 (fun I23 eI23 => ?_)
      replace H := H I23 eI23
      have o24 := H.1
      replace H := H.2
      refine w_iinc rfl rfl rfl o24 ?_
      refine w_goto rfl ?_
      exact H
set_option maxHeartbeats 4000000 in
set_option maxRecDepth 100000 in
theorem mr_areAll {d : Nat} {Q : cm_Q} {z : cm_Z} {I : cm_I} (hz : mz z)   (H : (cm_i (1 - (I 209 1)) ∧ cw d cd_Model_areAll Q 9 [some (vR 12 209), some (vI (1 - (I 209 1))), some (vI 0), none, none, none, none, none, none] [] (I, z))) : cm_call (d + 1) m_Model_areAll [vR 12 209] (I, z) Q := by
  refine cm_call_in (C := cd_Model_areAll) (ls := [some (vR 12 209), none, none, none, none, none, none, none, none]) rfl rfl (show 0 < 209 by decide) rfl ?_
  refine w_iconst rfl ⟨by decide, by decide⟩ ?_
  refine w_aload rfl rfl ?_
  refine m_getI 1 rfl rfl rfl (by decide) ?_
  have o1 := H.1
  replace H := H.2
  refine w_isub rfl o1 ?_
  refine w_istore rfl rfl ?_
  refine w_iconst rfl ⟨by decide, by decide⟩ ?_
  refine w_istore rfl rfl ?_
  exact H
set_option maxHeartbeats 4000000 in
set_option maxRecDepth 100000 in
theorem mr_isSystem_48 {d : Nat} {Q : cm_Q} {z : cm_Z} {I : cm_I} (hz : mz z) {x1 : Int} {x2 : Int} {x3 : Int} {x4 : Int} {x5 : Int} {x6 : Int} {z7 : Option cm_V}  (H : (((I 209 1) ≤ x6 → ((x4 ≤ 18 → cw d cd_Model_isSystem Q 173 [some (vR 12 209), some (vI x1), some (vI x2), some (vI x3), some (vI x4), some (vI x5), some (vI 0), z7] [] (I, z)) ∧ (18 < x4 → Q (some (vI (-1))) (I, z)))) ∧ (x6 < (I 209 1) → ((¬ x6 = 0 → ((¬ x6 = 1 → cw d cd_Model_isSystem Q 80 [some (vR 12 209), some (vI x1), some (vI x2), some (vI x3), some (vI x4), some (vI x5), some (vI x6), z7] [vI x3, vI 1140] (I, z)) ∧ (x6 = 1 → cw d cd_Model_isSystem Q 80 [some (vR 12 209), some (vI x1), some (vI x2), some (vI x3), some (vI x4), some (vI x5), some (vI x6), z7] [vI x2, vI 1140] (I, z)))) ∧ (x6 = 0 → cw d cd_Model_isSystem Q 80 [some (vR 12 209), some (vI x1), some (vI x2), some (vI x3), some (vI x4), some (vI x5), some (vI x6), z7] [vI x1, vI 1140] (I, z)))))) : cw d cd_Model_isSystem Q 48 [some (vR 12 209), some (vI x1), some (vI x2), some (vI x3), some (vI x4), some (vI x5), some (vI x6), z7] [] (I, z) := by
  refine w_iload rfl rfl ?_
  refine w_aload rfl rfl ?_
  refine m_getI 1 rfl rfl rfl (by decide) ?_
  refine w_icmp rfl (And.intro (fun hc => ?_) (fun hc => ?_))
  · replace H := H.1 hc
    refine w_iload rfl rfl ?_
    refine w_iconst rfl ⟨by decide, by decide⟩ ?_
    refine w_icmp rfl (And.intro (fun hc => ?_) (fun hc => ?_))
    · replace H := H.1 hc
      refine w_iconst rfl ⟨by decide, by decide⟩ ?_
      refine w_istore rfl rfl ?_
      exact H
    · replace H := H.2 hc
      refine w_iconst rfl ⟨by decide, by decide⟩ ?_
      exact w_ireturn rfl H
  · replace H := H.2 hc
    refine w_iconst rfl ⟨by decide, by decide⟩ ?_
    refine w_iload rfl rfl ?_
    refine w_if rfl (And.intro (fun hc => ?_) (fun hc => ?_))
    · replace H := H.1 hc
      refine w_iload rfl rfl ?_
      refine w_iconst rfl ⟨by decide, by decide⟩ ?_
      refine w_icmp rfl (And.intro (fun hc => ?_) (fun hc => ?_))
      · replace H := H.1 hc
        refine w_iload rfl rfl ?_
        exact H
      · replace H := H.2 hc
        refine w_iload rfl rfl ?_
        refine w_goto rfl ?_
        exact H
    · replace H := H.2 hc
      refine w_iload rfl rfl ?_
      refine w_goto rfl ?_
      exact H
set_option maxHeartbeats 4000000 in
set_option maxRecDepth 100000 in
theorem mr_isSystem_80 {d : Nat} {Q : cm_Q} {z : cm_Z} {I : cm_I} (hz : mz z) {x1 : Int} {x2 : Int} {x3 : Int} {x4 : Int} {x5 : Int} {x6 : Int} {z7 : Option cm_V} {s0 : Int} {s1 : Int}  (H : (cm_i (s1 * s0) ∧ (cm_i (1140 * x6) ∧ (mU d m_Model_copies [vR 20 213, vI (s1 * s0), vR 20 233, vI (1140 * x6)] z I fun I3 => (mI d m_Model_degree [vR 12 209, vR 20 213, vI (s1 * s0)] z I3 fun v5 I4 => (cm_i (x4 + v5) ∧ ((x5 = 0 → (cm_i (x6 + 1) ∧ cw d cd_Model_isSystem Q 48 [some (vR 12 209), some (vI x1), some (vI x2), some (vI x3), some (vI (x4 + v5)), some (vI 0), some (vI (x6 + 1)), some (vI (s1 * s0))] [] (I4, z))) ∧ (¬ x5 = 0 → (mI d m_Model_degree [vR 12 209, vR 20 213, vI (s1 * s0)] z I4 fun v9 I8 => ((v9 ≤ 0 → (cm_i (x6 + 1) ∧ cw d cd_Model_isSystem Q 48 [some (vR 12 209), some (vI x1), some (vI x2), some (vI x3), some (vI (x4 + v5)), some (vI 0), some (vI (x6 + 1)), some (vI (s1 * s0))] [] (I8, z))) ∧ (0 < v9 → (mI d m_Model_isOfOne [vR 12 209, vR 20 213, vI (s1 * s0)] z I8 fun v12 I11 => ((v12 = 0 → (cm_i (x6 + 1) ∧ cw d cd_Model_isSystem Q 48 [some (vR 12 209), some (vI x1), some (vI x2), some (vI x3), some (vI (x4 + v5)), some (vI 0), some (vI (x6 + 1)), some (vI (s1 * s0))] [] (I11, z))) ∧ (¬ v12 = 0 → (cm_i (x6 + 1) ∧ cw d cd_Model_isSystem Q 48 [some (vR 12 209), some (vI x1), some (vI x2), some (vI x3), some (vI (x4 + v5)), some (vI 1), some (vI (x6 + 1)), some (vI (s1 * s0))] [] (I11, z)))))))))))))))) : cw d cd_Model_isSystem Q 80 [some (vR 12 209), some (vI x1), some (vI x2), some (vI x3), some (vI x4), some (vI x5), some (vI x6), z7] [vI s0, vI s1] (I, z) := by
  have o1 := H.1
  replace H := H.2
  refine w_imul rfl o1 ?_
  refine w_istore rfl rfl ?_
  refine w_aload rfl rfl ?_
  refine m_getR 5 20 213 hz rfl rfl rfl rfl rfl rfl (by decide) ?_
  refine w_iload rfl rfl ?_
  refine w_aload rfl rfl ?_
  refine m_getR 40 20 233 hz rfl rfl rfl rfl rfl rfl (by decide) ?_
  refine w_iconst rfl ⟨by decide, by decide⟩ ?_
  refine w_iload rfl rfl ?_
  have o2 := H.1
  replace H := H.2
  refine w_imul rfl o2 ?_
  refine m_callU rfl (fun _ => rfl) rfl (mU_mono H fun I3 H => ?_)
  refine w_iload rfl rfl ?_
  refine w_aload rfl rfl ?_
  refine w_aload rfl rfl ?_
  refine m_getR 5 20 213 hz rfl rfl rfl rfl rfl rfl (by decide) ?_
  refine w_iload rfl rfl ?_
  refine m_callI rfl (fun _ => rfl) rfl (mI_mono H fun v5 I4 H => ?_)
  have o6 := H.1
  replace H := H.2
  refine w_iadd rfl o6 ?_
  refine w_istore rfl rfl ?_
  refine w_iload rfl rfl ?_
  refine w_if rfl (And.intro (fun hc => ?_) (fun hc => ?_))
  · replace H := H.1 hc
    refine w_iconst rfl ⟨by decide, by decide⟩ ?_
    refine w_istore rfl rfl ?_
    have o7 := H.1
    replace H := H.2
    refine w_iinc rfl rfl rfl o7 ?_
    refine w_goto rfl ?_
    exact H
  · replace H := H.2 hc
    refine w_aload rfl rfl ?_
    refine w_aload rfl rfl ?_
    refine m_getR 5 20 213 hz rfl rfl rfl rfl rfl rfl (by decide) ?_
    refine w_iload rfl rfl ?_
    refine m_callI rfl (fun _ => rfl) rfl (mI_mono H fun v9 I8 H => ?_)
    refine w_if rfl (And.intro (fun hc => ?_) (fun hc => ?_))
    · replace H := H.1 hc
      refine w_iconst rfl ⟨by decide, by decide⟩ ?_
      refine w_istore rfl rfl ?_
      have o10 := H.1
      replace H := H.2
      refine w_iinc rfl rfl rfl o10 ?_
      refine w_goto rfl ?_
      exact H
    · replace H := H.2 hc
      refine w_aload rfl rfl ?_
      refine w_aload rfl rfl ?_
      refine m_getR 5 20 213 hz rfl rfl rfl rfl rfl rfl (by decide) ?_
      refine w_iload rfl rfl ?_
      refine m_callI rfl (fun _ => rfl) rfl (mI_mono H fun v12 I11 H => ?_)
      refine w_if rfl (And.intro (fun hc => ?_) (fun hc => ?_))
      · replace H := H.1 hc
        refine w_iconst rfl ⟨by decide, by decide⟩ ?_
        refine w_istore rfl rfl ?_
        have o13 := H.1
        replace H := H.2
        refine w_iinc rfl rfl rfl o13 ?_
        refine w_goto rfl ?_
        exact H
      · replace H := H.2 hc
        refine w_iconst rfl ⟨by decide, by decide⟩ ?_
        refine w_goto rfl ?_
        refine w_istore rfl rfl ?_
        have o14 := H.1
        replace H := H.2
        refine w_iinc rfl rfl rfl o14 ?_
        refine w_goto rfl ?_
        exact H
set_option maxHeartbeats 4000000 in
set_option maxRecDepth 100000 in
theorem mr_isSystem_173 {d : Nat} {Q : cm_Q} {z : cm_Z} {I : cm_I} (hz : mz z) {z1 : Option cm_V} {z2 : Option cm_V} {z3 : Option cm_V} {z4 : Option cm_V} {x5 : Int} {x6 : Int} {z7 : Option cm_V}  (H : (((I 209 1) ≤ x6 → ((x5 = 0 → Q (some (vI 0)) (I, z)) ∧ (¬ x5 = 0 → (mI d m_Model_areAll [vR 12 209] z I fun v2 I1 => ((v2 = 0 → Q (some (vI 0)) (I1, z)) ∧ (¬ v2 = 0 → Q (some (vI 1)) (I1, z))))))) ∧ (x6 < (I 209 1) → ((x5 = 0 → (cm_i (x6 + 1) ∧ cw d cd_Model_isSystem Q 173 [some (vR 12 209), z1, z2, z3, z4, some (vI 0), some (vI (x6 + 1)), z7] [] (I, z))) ∧ (¬ x5 = 0 → (cm_i (1140 * x6) ∧ (mI d m_Model_isAlone [vR 12 209, vR 20 233, vI (1140 * x6)] z I fun v6 I5 => ((v6 = 0 → (cm_i (x6 + 1) ∧ cw d cd_Model_isSystem Q 173 [some (vR 12 209), z1, z2, z3, z4, some (vI 0), some (vI (x6 + 1)), z7] [] (I5, z))) ∧ (¬ v6 = 0 → (cm_i (x6 + 1) ∧ cw d cd_Model_isSystem Q 173 [some (vR 12 209), z1, z2, z3, z4, some (vI 1), some (vI (x6 + 1)), z7] [] (I5, z))))))))))) : cw d cd_Model_isSystem Q 173 [some (vR 12 209), z1, z2, z3, z4, some (vI x5), some (vI x6), z7] [] (I, z) := by
  refine w_iload rfl rfl ?_
  refine w_aload rfl rfl ?_
  refine m_getI 1 rfl rfl rfl (by decide) ?_
  refine w_icmp rfl (And.intro (fun hc => ?_) (fun hc => ?_))
  · replace H := H.1 hc
    refine w_iload rfl rfl ?_
    refine w_if rfl (And.intro (fun hc => ?_) (fun hc => ?_))
    · replace H := H.1 hc
      refine w_iconst rfl ⟨by decide, by decide⟩ ?_
      exact w_ireturn rfl H
    · replace H := H.2 hc
      refine w_aload rfl rfl ?_
      refine m_callI rfl (fun _ => rfl) rfl (mI_mono H fun v2 I1 H => ?_)
      refine w_if rfl (And.intro (fun hc => ?_) (fun hc => ?_))
      · replace H := H.1 hc
        refine w_iconst rfl ⟨by decide, by decide⟩ ?_
        exact w_ireturn rfl H
      · replace H := H.2 hc
        refine w_iconst rfl ⟨by decide, by decide⟩ ?_
        refine w_goto rfl ?_
        exact w_ireturn rfl H
  · replace H := H.2 hc
    refine w_iload rfl rfl ?_
    refine w_if rfl (And.intro (fun hc => ?_) (fun hc => ?_))
    · replace H := H.1 hc
      refine w_iconst rfl ⟨by decide, by decide⟩ ?_
      refine w_istore rfl rfl ?_
      have o3 := H.1
      replace H := H.2
      refine w_iinc rfl rfl rfl o3 ?_
      refine w_goto rfl ?_
      exact H
    · replace H := H.2 hc
      refine w_aload rfl rfl ?_
      refine w_aload rfl rfl ?_
      refine m_getR 40 20 233 hz rfl rfl rfl rfl rfl rfl (by decide) ?_
      refine w_iconst rfl ⟨by decide, by decide⟩ ?_
      refine w_iload rfl rfl ?_
      have o4 := H.1
      replace H := H.2
      refine w_imul rfl o4 ?_
      refine m_callI rfl (fun _ => rfl) rfl (mI_mono H fun v6 I5 H => ?_)
      refine w_if rfl (And.intro (fun hc => ?_) (fun hc => ?_))
      · replace H := H.1 hc
        refine w_iconst rfl ⟨by decide, by decide⟩ ?_
        refine w_istore rfl rfl ?_
        have o7 := H.1
        replace H := H.2
        refine w_iinc rfl rfl rfl o7 ?_
        refine w_goto rfl ?_
        exact H
      · replace H := H.2 hc
        refine w_iconst rfl ⟨by decide, by decide⟩ ?_
        refine w_goto rfl ?_
        refine w_istore rfl rfl ?_
        have o8 := H.1
        replace H := H.2
        refine w_iinc rfl rfl rfl o8 ?_
        refine w_goto rfl ?_
        exact H
set_option maxHeartbeats 4000000 in
set_option maxRecDepth 100000 in
theorem mr_isSystem {d : Nat} {Q : cm_Q} {z : cm_Z} {I : cm_I} (hz : mz z) {x1 : Int} {x2 : Int} {x3 : Int}  (H : (∀ I1 : cm_I, I1 = iu I 209 0 0 → (mI d m_Model_isKept [vR 12 209, vI x1] z I1 fun v3 I2 => ((v3 = 0 → Q (some (vI (-1))) (I2, z)) ∧ (¬ v3 = 0 → (mI d m_Model_isKept [vR 12 209, vI x2] z I2 fun v5 I4 => ((v5 = 0 → Q (some (vI (-1))) (I4, z)) ∧ (¬ v5 = 0 → ((¬ (I4 209 1) = 3 → cw d cd_Model_isSystem Q 48 [some (vR 12 209), some (vI x1), some (vI x2), some (vI x3), some (vI 0), some (vI 1), some (vI 0), none] [] (I4, z)) ∧ ((I4 209 1) = 3 → (mI d m_Model_isKept [vR 12 209, vI x3] z I4 fun v7 I6 => ((¬ v7 = 0 → cw d cd_Model_isSystem Q 48 [some (vR 12 209), some (vI x1), some (vI x2), some (vI x3), some (vI 0), some (vI 1), some (vI 0), none] [] (I6, z)) ∧ (v7 = 0 → Q (some (vI (-1))) (I6, z)))))))))))))) : cm_call (d + 1) m_Model_isSystem [vR 12 209, vI x1, vI x2, vI x3] (I, z) Q := by
  refine cm_call_in (C := cd_Model_isSystem) (ls := [some (vR 12 209), some (vI x1), some (vI x2), some (vI x3), none, none, none, none]) rfl rfl (show 0 < 209 by decide) rfl ?_
  refine w_aload rfl rfl ?_
  refine w_iconst rfl ⟨by decide, by decide⟩ ?_
  refine m_putI 0 rfl rfl rfl (by decide) (fun I1 eI1 => ?_)
  replace H := H I1 eI1
  refine w_aload rfl rfl ?_
  refine w_iload rfl rfl ?_
  refine m_callI rfl (fun _ => rfl) rfl (mI_mono H fun v3 I2 H => ?_)
  refine w_if rfl (And.intro (fun hc => ?_) (fun hc => ?_))
  · replace H := H.1 hc
    refine w_iconst rfl ⟨by decide, by decide⟩ ?_
    exact w_ireturn rfl H
  · replace H := H.2 hc
    refine w_aload rfl rfl ?_
    refine w_iload rfl rfl ?_
    refine m_callI rfl (fun _ => rfl) rfl (mI_mono H fun v5 I4 H => ?_)
    refine w_if rfl (And.intro (fun hc => ?_) (fun hc => ?_))
    · replace H := H.1 hc
      refine w_iconst rfl ⟨by decide, by decide⟩ ?_
      exact w_ireturn rfl H
    · replace H := H.2 hc
      refine w_aload rfl rfl ?_
      refine m_getI 1 rfl rfl rfl (by decide) ?_
      refine w_iconst rfl ⟨by decide, by decide⟩ ?_
      refine w_icmp rfl (And.intro (fun hc => ?_) (fun hc => ?_))
      · replace H := H.1 hc
        refine w_iconst rfl ⟨by decide, by decide⟩ ?_
        refine w_istore rfl rfl ?_
        refine w_iconst rfl ⟨by decide, by decide⟩ ?_
        refine w_istore rfl rfl ?_
        refine w_iconst rfl ⟨by decide, by decide⟩ ?_
        refine w_istore rfl rfl ?_
        exact H
      · replace H := H.2 hc
        refine w_aload rfl rfl ?_
        refine w_iload rfl rfl ?_
        refine m_callI rfl (fun _ => rfl) rfl (mI_mono H fun v7 I6 H => ?_)
        refine w_if rfl (And.intro (fun hc => ?_) (fun hc => ?_))
        · replace H := H.1 hc
          refine w_iconst rfl ⟨by decide, by decide⟩ ?_
          refine w_istore rfl rfl ?_
          refine w_iconst rfl ⟨by decide, by decide⟩ ?_
          refine w_istore rfl rfl ?_
          refine w_iconst rfl ⟨by decide, by decide⟩ ?_
          refine w_istore rfl rfl ?_
          exact H
        · replace H := H.2 hc
          refine w_iconst rfl ⟨by decide, by decide⟩ ?_
          exact w_ireturn rfl H
set_option maxHeartbeats 4000000 in
set_option maxRecDepth 100000 in
theorem mr_laysPrimary_31 {d : Nat} {Q : cm_Q} {z : cm_Z} {I : cm_I} (hz : mz z) {x1 : Int} {z2 : Option cm_V}  (H : ((6 < x1 → (∀ I1 : cm_I, I1 = iu I 209 49 0 → ((¬ (I1 209 1) = 2 → cw d cd_Model_laysPrimary Q 118 [some (vR 12 209), some (vI 216), some (vI (I1 209 11))] [] (I1, z)) ∧ ((I1 209 1) = 2 → cw d cd_Model_laysPrimary Q 118 [some (vR 12 209), some (vI 36), some (vI (I1 209 11))] [] (I1, z))))) ∧ (x1 ≤ 6 → cw d cd_Model_laysPrimary Q 39 [some (vR 12 209), some (vI x1), some (vI 0)] [] (I, z)))) : cw d cd_Model_laysPrimary Q 31 [some (vR 12 209), some (vI x1), z2] [] (I, z) := by
  refine w_iload rfl rfl ?_
  refine w_iconst rfl ⟨by decide, by decide⟩ ?_
  refine w_icmp rfl (And.intro (fun hc => ?_) (fun hc => ?_))
  · replace H := H.1 hc
    refine w_aload rfl rfl ?_
    refine w_iconst rfl ⟨by decide, by decide⟩ ?_
    refine m_putI 49 rfl rfl rfl (by decide) (fun I1 eI1 => ?_)
    replace H := H I1 eI1
    refine w_aload rfl rfl ?_
    refine m_getI 1 rfl rfl rfl (by decide) ?_
    refine w_iconst rfl ⟨by decide, by decide⟩ ?_
    refine w_icmp rfl (And.intro (fun hc => ?_) (fun hc => ?_))
    · replace H := H.1 hc
      refine w_iconst rfl ⟨by decide, by decide⟩ ?_
      refine w_istore rfl rfl ?_
      refine w_aload rfl rfl ?_
      refine m_getI 11 rfl rfl rfl (by decide) ?_
      refine w_istore rfl rfl ?_
      exact H
    · replace H := H.2 hc
      refine w_iconst rfl ⟨by decide, by decide⟩ ?_
      refine w_goto rfl ?_
      refine w_istore rfl rfl ?_
      refine w_aload rfl rfl ?_
      refine m_getI 11 rfl rfl rfl (by decide) ?_
      refine w_istore rfl rfl ?_
      exact H
  · replace H := H.2 hc
    refine w_iconst rfl ⟨by decide, by decide⟩ ?_
    refine w_istore rfl rfl ?_
    exact H
set_option maxHeartbeats 4000000 in
set_option maxRecDepth 100000 in
theorem mr_laysPrimary_39 {d : Nat} {Q : cm_Q} {z : cm_Z} {I : cm_I} (hz : mz z) {x1 : Int} {x2 : Int}  (H : ((0:Int) ≤ x1 ∧ x1 < 16) ∧ (((I 228 x1) ≤ x2 → (cm_i (x1 + 1) ∧ cw d cd_Model_laysPrimary Q 31 [some (vR 12 209), some (vI (x1 + 1)), some (vI x2)] [] (I, z))) ∧ (x2 < (I 228 x1) → ((0:Int) ≤ (I 209 46) ∧ (I 209 46) < 100) ∧ (∀ I4 : cm_I, I4 = iu I 237 (I 209 46) x1 → ((0:Int) ≤ (I4 209 46) ∧ (I4 209 46) < 100) ∧ (∀ I6 : cm_I, I6 = iu I4 238 (I4 209 46) x2 → (cm_i ((I6 209 46) + 1) ∧ (∀ I8 : cm_I, I8 = iu I6 209 46 ((I6 209 46) + 1) → (cm_i (x2 + 1) ∧ cw d cd_Model_laysPrimary Q 39 [some (vR 12 209), some (vI x1), some (vI (x2 + 1))] [] (I8, z))))))))) : cw d cd_Model_laysPrimary Q 39 [some (vR 12 209), some (vI x1), some (vI x2)] [] (I, z) := by
  refine w_iload rfl rfl ?_
  refine w_aload rfl rfl ?_
  refine m_getR 34 20 228 hz rfl rfl rfl rfl rfl rfl (by decide) ?_
  refine w_iload rfl rfl ?_
  have o1 := H.1
  replace H := H.2
  refine m_iaload hz (by unfold mA; decide) rfl o1 ?_
  refine w_icmp rfl (And.intro (fun hc => ?_) (fun hc => ?_))
  · replace H := H.1 hc
    have o2 := H.1
    replace H := H.2
    refine w_iinc rfl rfl rfl o2 ?_
    refine w_goto rfl ?_
    exact H
  · replace H := H.2 hc
    refine w_aload rfl rfl ?_
    refine m_getR 47 20 237 hz rfl rfl rfl rfl rfl rfl (by decide) ?_
    refine w_aload rfl rfl ?_
    refine m_getI 46 rfl rfl rfl (by decide) ?_
    refine w_iload rfl rfl ?_
    have o3 := H.1
    replace H := H.2
    refine m_iastore hz (by unfold mA; decide) rfl o3 (fun I4 eI4 => ?_)
    replace H := H I4 eI4
    refine w_aload rfl rfl ?_
    refine m_getR 48 20 238 hz rfl rfl rfl rfl rfl rfl (by decide) ?_
    refine w_aload rfl rfl ?_
    refine m_getI 46 rfl rfl rfl (by decide) ?_
    refine w_iload rfl rfl ?_
    have o5 := H.1
    replace H := H.2
    refine m_iastore hz (by unfold mA; decide) rfl o5 (fun I6 eI6 => ?_)
    replace H := H I6 eI6
    refine w_aload rfl rfl ?_
    refine w_dup rfl rfl ?_
    refine m_getI 46 rfl rfl rfl (by decide) ?_
    refine w_iconst rfl ⟨by decide, by decide⟩ ?_
    have o7 := H.1
    replace H := H.2
    refine w_iadd rfl o7 ?_
    refine m_putI 46 rfl rfl rfl (by decide) (fun I8 eI8 => ?_)
    replace H := H I8 eI8
    have o9 := H.1
    replace H := H.2
    refine w_iinc rfl rfl rfl o9 ?_
    refine w_goto rfl ?_
    exact H
set_option maxHeartbeats 4000000 in
set_option maxRecDepth 100000 in
theorem mr_laysPrimary_118 {d : Nat} {Q : cm_Q} {z : cm_Z} {I : cm_I} (hz : mz z) {x1 : Int} {x2 : Int}  (H : ((x1 < x2 → cw d cd_Model_laysPrimary Q 154 [some (vR 12 209), some (vI x1), some (vI x2)] [] (I, z)) ∧ (x2 ≤ x1 → ((¬ (I 209 42) = 0 → cw d cd_Model_laysPrimary Q 154 [some (vR 12 209), some (vI x1), some (vI x2)] [] (I, z)) ∧ ((I 209 42) = 0 → ((60 ≤ (I 209 49) → cw d cd_Model_laysPrimary Q 154 [some (vR 12 209), some (vI x1), some (vI x2)] [] (I, z)) ∧ ((I 209 49) < 60 → (mU d m_Model_asksProduct [vR 12 209, vI x2] z I fun I1 => (cm_i (x2 + (I1 209 11)) ∧ cw d cd_Model_laysPrimary Q 118 [some (vR 12 209), some (vI x1), some (vI (x2 + (I1 209 11)))] [] (I1, z)))))))))) : cw d cd_Model_laysPrimary Q 118 [some (vR 12 209), some (vI x1), some (vI x2)] [] (I, z) := by
  refine w_iload rfl rfl ?_
  refine w_iload rfl rfl ?_
  refine w_icmp rfl (And.intro (fun hc => ?_) (fun hc => ?_))
  · replace H := H.1 hc
    exact H
  · replace H := H.2 hc
    refine w_aload rfl rfl ?_
    refine m_getI 42 rfl rfl rfl (by decide) ?_
    refine w_if rfl (And.intro (fun hc => ?_) (fun hc => ?_))
    · replace H := H.1 hc
      exact H
    · replace H := H.2 hc
      refine w_aload rfl rfl ?_
      refine m_getI 49 rfl rfl rfl (by decide) ?_
      refine w_iconst rfl ⟨by decide, by decide⟩ ?_
      refine w_icmp rfl (And.intro (fun hc => ?_) (fun hc => ?_))
      · replace H := H.1 hc
        exact H
      · replace H := H.2 hc
        refine w_aload rfl rfl ?_
        refine w_iload rfl rfl ?_
        refine m_callU rfl (fun _ => rfl) rfl (mU_mono H fun I1 H => ?_)
        refine w_iload rfl rfl ?_
        refine w_aload rfl rfl ?_
        refine m_getI 11 rfl rfl rfl (by decide) ?_
        have o2 := H.1
        replace H := H.2
        refine w_iadd rfl o2 ?_
        refine w_istore rfl rfl ?_
        refine w_goto rfl ?_
        exact H
set_option maxHeartbeats 4000000 in
set_option maxRecDepth 100000 in
theorem mr_laysPrimary_154 {d : Nat} {Q : cm_Q} {z : cm_Z} {I : cm_I} (hz : mz z) {z1 : Option cm_V} {z2 : Option cm_V}  (H : (((I 209 42) = 0 → Q none (I, z)) ∧ (¬ (I 209 42) = 0 → (mU d m_Model_laysSecondary [vR 12 209] z I fun I1 => Q none (I1, z))))) : cw d cd_Model_laysPrimary Q 154 [some (vR 12 209), z1, z2] [] (I, z) := by
  refine w_aload rfl rfl ?_
  refine m_getI 42 rfl rfl rfl (by decide) ?_
  refine w_if rfl (And.intro (fun hc => ?_) (fun hc => ?_))
  · replace H := H.1 hc
    exact w_return rfl H
  · replace H := H.2 hc
    refine w_aload rfl rfl ?_
    refine m_callU rfl (fun _ => rfl) rfl (mU_mono H fun I1 H => ?_)
    exact w_return rfl H
set_option maxHeartbeats 4000000 in
set_option maxRecDepth 100000 in
theorem mr_laysPrimary {d : Nat} {Q : cm_Q} {z : cm_Z} {I : cm_I} (hz : mz z)   (H : (((I 209 41) = 0 → (∀ I1 : cm_I, I1 = iu I 209 41 1 → (∀ I2 : cm_I, I2 = iu I1 209 42 0 → (mU d m_Model_laysBases [vR 12 209, vI 6] z I2 fun I3 => (∀ I4 : cm_I, I4 = iu I3 209 46 0 → cw d cd_Model_laysPrimary Q 31 [some (vR 12 209), some (vI 1), none] [] (I4, z)))))) ∧ (¬ (I 209 41) = 0 → Q none (I, z)))) : cm_call (d + 1) m_Model_laysPrimary [vR 12 209] (I, z) Q := by
  refine cm_call_in (C := cd_Model_laysPrimary) (ls := [some (vR 12 209), none, none]) rfl rfl (show 0 < 209 by decide) rfl ?_
  refine w_aload rfl rfl ?_
  refine m_getI 41 rfl rfl rfl (by decide) ?_
  refine w_if rfl (And.intro (fun hc => ?_) (fun hc => ?_))
  · replace H := H.1 hc
    refine w_aload rfl rfl ?_
    refine w_iconst rfl ⟨by decide, by decide⟩ ?_
    refine m_putZ 41 rfl rfl rfl (by decide) (by decide) (fun I1 eI1 => ?_)
    replace H := H I1 eI1
    refine w_aload rfl rfl ?_
    refine w_iconst rfl ⟨by decide, by decide⟩ ?_
    refine m_putZ 42 rfl rfl rfl (by decide) (by decide) (fun I2 eI2 => ?_)
    replace H := H I2 eI2
    refine w_aload rfl rfl ?_
    refine w_iconst rfl ⟨by decide, by decide⟩ ?_
    refine m_callU rfl (fun _ => rfl) rfl (mU_mono H fun I3 H => ?_)
    refine w_aload rfl rfl ?_
    refine w_iconst rfl ⟨by decide, by decide⟩ ?_
    refine m_putI 46 rfl rfl rfl (by decide) (fun I4 eI4 => ?_)
    replace H := H I4 eI4
    refine w_iconst rfl ⟨by decide, by decide⟩ ?_
    refine w_istore rfl rfl ?_
    exact H
  · replace H := H.2 hc
    exact w_return rfl H
set_option maxHeartbeats 4000000 in
set_option maxRecDepth 100000 in
theorem mr_asksProduct_2 {d : Nat} {Q : cm_Q} {z : cm_Z} {I : cm_I} (hz : mz z) {x1 : Int} {x2 : Int} {z3 : Option cm_V} {z4 : Option cm_V} {z5 : Option cm_V}  (H : (((I 209 46) ≤ x2 → Q none (I, z)) ∧ (x2 < (I 209 46) → ((¬ (I 209 42) = 0 → Q none (I, z)) ∧ ((I 209 42) = 0 → ((60 ≤ (I 209 49) → Q none (I, z)) ∧ ((I 209 49) < 60 → (cm_i (x2 + 1) ∧ cw d cd_Model_asksProduct Q 30 [some (vR 12 209), some (vI x1), some (vI x2), some (vI (x2 + 1)), z4, z5] [] (I, z))))))))) : cw d cd_Model_asksProduct Q 2 [some (vR 12 209), some (vI x1), some (vI x2), z3, z4, z5] [] (I, z) := by
  refine w_iload rfl rfl ?_
  refine w_aload rfl rfl ?_
  refine m_getI 46 rfl rfl rfl (by decide) ?_
  refine w_icmp rfl (And.intro (fun hc => ?_) (fun hc => ?_))
  · replace H := H.1 hc
    exact w_return rfl H
  · replace H := H.2 hc
    refine w_aload rfl rfl ?_
    refine m_getI 42 rfl rfl rfl (by decide) ?_
    refine w_if rfl (And.intro (fun hc => ?_) (fun hc => ?_))
    · replace H := H.1 hc
      exact w_return rfl H
    · replace H := H.2 hc
      refine w_aload rfl rfl ?_
      refine m_getI 49 rfl rfl rfl (by decide) ?_
      refine w_iconst rfl ⟨by decide, by decide⟩ ?_
      refine w_icmp rfl (And.intro (fun hc => ?_) (fun hc => ?_))
      · replace H := H.1 hc
        exact w_return rfl H
      · replace H := H.2 hc
        refine w_iload rfl rfl ?_
        refine w_iconst rfl ⟨by decide, by decide⟩ ?_
        have o1 := H.1
        replace H := H.2
        refine w_iadd rfl o1 ?_
        refine w_istore rfl rfl ?_
        exact H
set_option maxHeartbeats 4000000 in
set_option maxRecDepth 100000 in
theorem mr_asksProduct_30 {d : Nat} {Q : cm_Q} {z : cm_Z} {I : cm_I} (hz : mz z) {x1 : Int} {x2 : Int} {x3 : Int} {z4 : Option cm_V} {z5 : Option cm_V}  (H : (((I 209 46) ≤ x3 → (cm_i (x2 + 1) ∧ cw d cd_Model_asksProduct Q 2 [some (vR 12 209), some (vI x1), some (vI (x2 + 1)), some (vI x3), z4, z5] [] (I, z))) ∧ (x3 < (I 209 46) → ((¬ (I 209 42) = 0 → (cm_i (x2 + 1) ∧ cw d cd_Model_asksProduct Q 2 [some (vR 12 209), some (vI x1), some (vI (x2 + 1)), some (vI x3), z4, z5] [] (I, z))) ∧ ((I 209 42) = 0 → ((60 ≤ (I 209 49) → (cm_i (x2 + 1) ∧ cw d cd_Model_asksProduct Q 2 [some (vR 12 209), some (vI x1), some (vI (x2 + 1)), some (vI x3), z4, z5] [] (I, z))) ∧ ((I 209 49) < 60 → ((0:Int) ≤ x2 ∧ x2 < 100) ∧ ((0:Int) ≤ x3 ∧ x3 < 100) ∧ (cm_i ((I 237 x2) * (I 237 x3)) ∧ ((¬ (I 209 1) = 2 → (cm_i (x3 + 1) ∧ cw d cd_Model_asksProduct Q 95 [some (vR 12 209), some (vI x1), some (vI x2), some (vI x3), some (vI ((I 237 x2) * (I 237 x3))), some (vI (x3 + 1))] [] (I, z))) ∧ ((I 209 1) = 2 → ((¬ ((I 237 x2) * (I 237 x3)) = x1 → (cm_i (x3 + 1) ∧ cw d cd_Model_asksProduct Q 95 [some (vR 12 209), some (vI x1), some (vI x2), some (vI x3), some (vI ((I 237 x2) * (I 237 x3))), some (vI (x3 + 1))] [] (I, z))) ∧ (((I 237 x2) * (I 237 x3)) = x1 → (mU d m_Model_asksThese [vR 12 209, vI x2, vI x3, vI 0] z I fun I9 => (cm_i (x3 + 1) ∧ cw d cd_Model_asksProduct Q 95 [some (vR 12 209), some (vI x1), some (vI x2), some (vI x3), some (vI ((I 237 x2) * (I 237 x3))), some (vI (x3 + 1))] [] (I9, z))))))))))))))) : cw d cd_Model_asksProduct Q 30 [some (vR 12 209), some (vI x1), some (vI x2), some (vI x3), z4, z5] [] (I, z) := by
  refine w_iload rfl rfl ?_
  refine w_aload rfl rfl ?_
  refine m_getI 46 rfl rfl rfl (by decide) ?_
  refine w_icmp rfl (And.intro (fun hc => ?_) (fun hc => ?_))
  · replace H := H.1 hc
    have o1 := H.1
    replace H := H.2
    refine w_iinc rfl rfl rfl o1 ?_
    refine w_goto rfl ?_
    exact H
  · replace H := H.2 hc
    refine w_aload rfl rfl ?_
    refine m_getI 42 rfl rfl rfl (by decide) ?_
    refine w_if rfl (And.intro (fun hc => ?_) (fun hc => ?_))
    · replace H := H.1 hc
      have o2 := H.1
      replace H := H.2
      refine w_iinc rfl rfl rfl o2 ?_
      refine w_goto rfl ?_
      exact H
    · replace H := H.2 hc
      refine w_aload rfl rfl ?_
      refine m_getI 49 rfl rfl rfl (by decide) ?_
      refine w_iconst rfl ⟨by decide, by decide⟩ ?_
      refine w_icmp rfl (And.intro (fun hc => ?_) (fun hc => ?_))
      · replace H := H.1 hc
        have o3 := H.1
        replace H := H.2
        refine w_iinc rfl rfl rfl o3 ?_
        refine w_goto rfl ?_
        exact H
      · replace H := H.2 hc
        refine w_aload rfl rfl ?_
        refine m_getR 47 20 237 hz rfl rfl rfl rfl rfl rfl (by decide) ?_
        refine w_iload rfl rfl ?_
        have o4 := H.1
        replace H := H.2
        refine m_iaload hz (by unfold mA; decide) rfl o4 ?_
        refine w_aload rfl rfl ?_
        refine m_getR 47 20 237 hz rfl rfl rfl rfl rfl rfl (by decide) ?_
        refine w_iload rfl rfl ?_
        have o5 := H.1
        replace H := H.2
        refine m_iaload hz (by unfold mA; decide) rfl o5 ?_
        have o6 := H.1
        replace H := H.2
        refine w_imul rfl o6 ?_
        refine w_istore rfl rfl ?_
        refine w_aload rfl rfl ?_
        refine m_getI 1 rfl rfl rfl (by decide) ?_
        refine w_iconst rfl ⟨by decide, by decide⟩ ?_
        refine w_icmp rfl (And.intro (fun hc => ?_) (fun hc => ?_))
        · replace H := H.1 hc
          refine w_iload rfl rfl ?_
          refine w_iconst rfl ⟨by decide, by decide⟩ ?_
          have o7 := H.1
          replace H := H.2
          refine w_iadd rfl o7 ?_
          refine w_istore rfl rfl ?_
          exact H
        · replace H := H.2 hc
          refine w_iload rfl rfl ?_
          refine w_iload rfl rfl ?_
          refine w_icmp rfl (And.intro (fun hc => ?_) (fun hc => ?_))
          · replace H := H.1 hc
            refine w_iload rfl rfl ?_
            refine w_iconst rfl ⟨by decide, by decide⟩ ?_
            have o8 := H.1
            replace H := H.2
            refine w_iadd rfl o8 ?_
            refine w_istore rfl rfl ?_
            exact H
          · replace H := H.2 hc
            refine w_aload rfl rfl ?_
            refine w_iload rfl rfl ?_
            refine w_iload rfl rfl ?_
            refine w_iconst rfl ⟨by decide, by decide⟩ ?_
            refine m_callU rfl (fun _ => rfl) rfl (mU_mono H fun I9 H => ?_)
            refine w_iload rfl rfl ?_
            refine w_iconst rfl ⟨by decide, by decide⟩ ?_
            have o10 := H.1
            replace H := H.2
            refine w_iadd rfl o10 ?_
            refine w_istore rfl rfl ?_
            exact H
set_option maxHeartbeats 4000000 in
set_option maxRecDepth 100000 in
theorem mr_asksProduct_95 {d : Nat} {Q : cm_Q} {z : cm_Z} {I : cm_I} (hz : mz z) {x1 : Int} {x2 : Int} {x3 : Int} {x4 : Int} {x5 : Int}  (H : ((¬ (I 209 1) = 3 → (cm_i (x3 + 1) ∧ cw d cd_Model_asksProduct Q 30 [some (vR 12 209), some (vI x1), some (vI x2), some (vI (x3 + 1)), some (vI x4), some (vI x5)] [] (I, z))) ∧ ((I 209 1) = 3 → (((I 209 46) ≤ x5 → (cm_i (x3 + 1) ∧ cw d cd_Model_asksProduct Q 30 [some (vR 12 209), some (vI x1), some (vI x2), some (vI (x3 + 1)), some (vI x4), some (vI x5)] [] (I, z))) ∧ (x5 < (I 209 46) → ((¬ (I 209 42) = 0 → (cm_i (x3 + 1) ∧ cw d cd_Model_asksProduct Q 30 [some (vR 12 209), some (vI x1), some (vI x2), some (vI (x3 + 1)), some (vI x4), some (vI x5)] [] (I, z))) ∧ ((I 209 42) = 0 → ((60 ≤ (I 209 49) → (cm_i (x3 + 1) ∧ cw d cd_Model_asksProduct Q 30 [some (vR 12 209), some (vI x1), some (vI x2), some (vI (x3 + 1)), some (vI x4), some (vI x5)] [] (I, z))) ∧ ((I 209 49) < 60 → ((0:Int) ≤ x5 ∧ x5 < 100) ∧ (cm_i (x4 * (I 237 x5)) ∧ ((¬ (x4 * (I 237 x5)) = x1 → (cm_i (x5 + 1) ∧ cw d cd_Model_asksProduct Q 95 [some (vR 12 209), some (vI x1), some (vI x2), some (vI x3), some (vI x4), some (vI (x5 + 1))] [] (I, z))) ∧ ((x4 * (I 237 x5)) = x1 → (mU d m_Model_asksThese [vR 12 209, vI x2, vI x3, vI x5] z I fun I8 => (cm_i (x5 + 1) ∧ cw d cd_Model_asksProduct Q 95 [some (vR 12 209), some (vI x1), some (vI x2), some (vI x3), some (vI x4), some (vI (x5 + 1))] [] (I8, z))))))))))))))) : cw d cd_Model_asksProduct Q 95 [some (vR 12 209), some (vI x1), some (vI x2), some (vI x3), some (vI x4), some (vI x5)] [] (I, z) := by
  refine w_aload rfl rfl ?_
  refine m_getI 1 rfl rfl rfl (by decide) ?_
  refine w_iconst rfl ⟨by decide, by decide⟩ ?_
  refine w_icmp rfl (And.intro (fun hc => ?_) (fun hc => ?_))
  · replace H := H.1 hc
    have o1 := H.1
    replace H := H.2
    refine w_iinc rfl rfl rfl o1 ?_
    refine w_goto rfl ?_
    exact H
  · replace H := H.2 hc
    refine w_iload rfl rfl ?_
    refine w_aload rfl rfl ?_
    refine m_getI 46 rfl rfl rfl (by decide) ?_
    refine w_icmp rfl (And.intro (fun hc => ?_) (fun hc => ?_))
    · replace H := H.1 hc
      have o2 := H.1
      replace H := H.2
      refine w_iinc rfl rfl rfl o2 ?_
      refine w_goto rfl ?_
      exact H
    · replace H := H.2 hc
      refine w_aload rfl rfl ?_
      refine m_getI 42 rfl rfl rfl (by decide) ?_
      refine w_if rfl (And.intro (fun hc => ?_) (fun hc => ?_))
      · replace H := H.1 hc
        have o3 := H.1
        replace H := H.2
        refine w_iinc rfl rfl rfl o3 ?_
        refine w_goto rfl ?_
        exact H
      · replace H := H.2 hc
        refine w_aload rfl rfl ?_
        refine m_getI 49 rfl rfl rfl (by decide) ?_
        refine w_iconst rfl ⟨by decide, by decide⟩ ?_
        refine w_icmp rfl (And.intro (fun hc => ?_) (fun hc => ?_))
        · replace H := H.1 hc
          have o4 := H.1
          replace H := H.2
          refine w_iinc rfl rfl rfl o4 ?_
          refine w_goto rfl ?_
          exact H
        · replace H := H.2 hc
          refine w_iload rfl rfl ?_
          refine w_aload rfl rfl ?_
          refine m_getR 47 20 237 hz rfl rfl rfl rfl rfl rfl (by decide) ?_
          refine w_iload rfl rfl ?_
          have o5 := H.1
          replace H := H.2
          refine m_iaload hz (by unfold mA; decide) rfl o5 ?_
          have o6 := H.1
          replace H := H.2
          refine w_imul rfl o6 ?_
          refine w_iload rfl rfl ?_
          refine w_icmp rfl (And.intro (fun hc => ?_) (fun hc => ?_))
          · replace H := H.1 hc
            have o7 := H.1
            replace H := H.2
            refine w_iinc rfl rfl rfl o7 ?_
            refine w_goto rfl ?_
            exact H
          · replace H := H.2 hc
            refine w_aload rfl rfl ?_
            refine w_iload rfl rfl ?_
            refine w_iload rfl rfl ?_
            refine w_iload rfl rfl ?_
            refine m_callU rfl (fun _ => rfl) rfl (mU_mono H fun I8 H => ?_)
            have o9 := H.1
            replace H := H.2
            refine w_iinc rfl rfl rfl o9 ?_
            refine w_goto rfl ?_
            exact H
set_option maxHeartbeats 4000000 in
set_option maxRecDepth 100000 in
theorem mr_asksProduct {d : Nat} {Q : cm_Q} {z : cm_Z} {I : cm_I} (hz : mz z) {x1 : Int}  (H : cw d cd_Model_asksProduct Q 2 [some (vR 12 209), some (vI x1), some (vI 0), none, none, none] [] (I, z)) : cm_call (d + 1) m_Model_asksProduct [vR 12 209, vI x1] (I, z) Q := by
  refine cm_call_in (C := cd_Model_asksProduct) (ls := [some (vR 12 209), some (vI x1), none, none, none, none]) rfl rfl (show 0 < 209 by decide) rfl ?_
  refine w_iconst rfl ⟨by decide, by decide⟩ ?_
  refine w_istore rfl rfl ?_
  exact H
set_option maxHeartbeats 4000000 in
set_option maxRecDepth 100000 in
theorem mr_asksThese_13 {d : Nat} {Q : cm_Q} {z : cm_Z} {I : cm_I} (hz : mz z) {x1 : Int} {x2 : Int} {x3 : Int} {x4 : Int} {z5 : Option cm_V}  (H : (((I 209 1) ≤ x4 → (mI d m_Model_areAll [vR 12 209] z I fun v2 I1 => (v2 = 0 ∨ v2 = 1) ∧ (∀ I4 : cm_I, I4 = iu I1 209 42 v2 → cw d cd_Model_asksThese Q 117 [some (vR 12 209), some (vI x1), some (vI x2), some (vI x3), some (vI 0), z5] [] (I4, z)))) ∧ (x4 < (I 209 1) → ((¬ x4 = 0 → ((¬ x4 = 1 → cw d cd_Model_asksThese Q 42 [some (vR 12 209), some (vI x1), some (vI x2), some (vI x3), some (vI x4), z5] [vI x3] (I, z)) ∧ (x4 = 1 → cw d cd_Model_asksThese Q 42 [some (vR 12 209), some (vI x1), some (vI x2), some (vI x3), some (vI x4), z5] [vI x2] (I, z)))) ∧ (x4 = 0 → cw d cd_Model_asksThese Q 42 [some (vR 12 209), some (vI x1), some (vI x2), some (vI x3), some (vI x4), z5] [vI x1] (I, z)))))) : cw d cd_Model_asksThese Q 13 [some (vR 12 209), some (vI x1), some (vI x2), some (vI x3), some (vI x4), z5] [] (I, z) := by
  refine w_iload rfl rfl ?_
  refine w_aload rfl rfl ?_
  refine m_getI 1 rfl rfl rfl (by decide) ?_
  refine w_icmp rfl (And.intro (fun hc => ?_) (fun hc => ?_))
  · replace H := H.1 hc
    refine w_aload rfl rfl ?_
    refine w_aload rfl rfl ?_
    refine m_callI rfl (fun _ => rfl) rfl (mI_mono H fun v2 I1 H => ?_)
    have o3 := H.1
    replace H := H.2
    refine m_putZ 42 rfl rfl rfl o3 (by decide) (fun I4 eI4 => ?_)
    replace H := H I4 eI4
    refine w_iconst rfl ⟨by decide, by decide⟩ ?_
    refine w_istore rfl rfl ?_
    exact H
  · replace H := H.2 hc
    refine w_iload rfl rfl ?_
    refine w_if rfl (And.intro (fun hc => ?_) (fun hc => ?_))
    · replace H := H.1 hc
      refine w_iload rfl rfl ?_
      refine w_iconst rfl ⟨by decide, by decide⟩ ?_
      refine w_icmp rfl (And.intro (fun hc => ?_) (fun hc => ?_))
      · replace H := H.1 hc
        refine w_iload rfl rfl ?_
        exact H
      · replace H := H.2 hc
        refine w_iload rfl rfl ?_
        refine w_goto rfl ?_
        exact H
    · replace H := H.2 hc
      refine w_iload rfl rfl ?_
      refine w_goto rfl ?_
      exact H
set_option maxHeartbeats 4000000 in
set_option maxRecDepth 100000 in
theorem mr_asksThese_42 {d : Nat} {Q : cm_Q} {z : cm_Z} {I : cm_I} (hz : mz z) {x1 : Int} {x2 : Int} {x3 : Int} {x4 : Int} {z5 : Option cm_V} {s0 : Int}  (H : ((0:Int) ≤ s0 ∧ s0 < 100) ∧ ((0:Int) ≤ x4 ∧ x4 < 3) ∧ (∀ I3 : cm_I, I3 = iu I 234 x4 (I 237 s0) → (∀ I4 : cm_I, I4 = iu I3 235 x4 (I3 238 s0) → (cm_i (1140 * x4) ∧ (mU d m_Model_laysBaseRow [vR 12 209, vI (I4 237 s0), vI (I4 238 s0), vR 20 233, vI (1140 * x4)] z I4 fun I6 => (cm_i (x4 + 1) ∧ cw d cd_Model_asksThese Q 13 [some (vR 12 209), some (vI x1), some (vI x2), some (vI x3), some (vI (x4 + 1)), some (vI s0)] [] (I6, z))))))) : cw d cd_Model_asksThese Q 42 [some (vR 12 209), some (vI x1), some (vI x2), some (vI x3), some (vI x4), z5] [vI s0] (I, z) := by
  refine w_istore rfl rfl ?_
  refine w_aload rfl rfl ?_
  refine m_getR 43 20 234 hz rfl rfl rfl rfl rfl rfl (by decide) ?_
  refine w_iload rfl rfl ?_
  refine w_aload rfl rfl ?_
  refine m_getR 47 20 237 hz rfl rfl rfl rfl rfl rfl (by decide) ?_
  refine w_iload rfl rfl ?_
  have o1 := H.1
  replace H := H.2
  refine m_iaload hz (by unfold mA; decide) rfl o1 ?_
  have o2 := H.1
  replace H := H.2
  refine m_iastore hz (by unfold mA; decide) rfl o2 (fun I3 eI3 => ?_)
  replace H := H I3 eI3
  refine w_aload rfl rfl ?_
  refine m_getR 44 20 235 hz rfl rfl rfl rfl rfl rfl (by decide) ?_
  refine w_iload rfl rfl ?_
  refine w_aload rfl rfl ?_
  refine m_getR 48 20 238 hz rfl rfl rfl rfl rfl rfl (by decide) ?_
  refine w_iload rfl rfl ?_
  refine m_iaload hz (by unfold mA; decide) rfl o1 ?_
  refine m_iastore hz (by unfold mA; decide) rfl o2 (fun I4 eI4 => ?_)
  replace H := H I4 eI4
  refine w_aload rfl rfl ?_
  refine w_aload rfl rfl ?_
  refine m_getR 47 20 237 hz rfl rfl rfl rfl rfl rfl (by decide) ?_
  refine w_iload rfl rfl ?_
  refine m_iaload hz (by unfold mA; decide) rfl o1 ?_
  refine w_aload rfl rfl ?_
  refine m_getR 48 20 238 hz rfl rfl rfl rfl rfl rfl (by decide) ?_
  refine w_iload rfl rfl ?_
  refine m_iaload hz (by unfold mA; decide) rfl o1 ?_
  refine w_aload rfl rfl ?_
  refine m_getR 40 20 233 hz rfl rfl rfl rfl rfl rfl (by decide) ?_
  refine w_iconst rfl ⟨by decide, by decide⟩ ?_
  refine w_iload rfl rfl ?_
  have o5 := H.1
  replace H := H.2
  refine w_imul rfl o5 ?_
  refine m_callU rfl (fun _ => rfl) rfl (mU_mono H fun I6 H => ?_)
  have o7 := H.1
  replace H := H.2
  refine w_iinc rfl rfl rfl o7 ?_
  refine w_goto rfl ?_
  exact H
set_option maxHeartbeats 4000000 in
set_option maxRecDepth 100000 in
theorem mr_asksThese_117 {d : Nat} {Q : cm_Q} {z : cm_Z} {I : cm_I} (hz : mz z) {z1 : Option cm_V} {z2 : Option cm_V} {z3 : Option cm_V} {x4 : Int} {z5 : Option cm_V}  (H : ((3420 ≤ x4 → Q none (I, z)) ∧ (x4 < 3420 → (((I 209 42) = 0 → Q none (I, z)) ∧ (¬ (I 209 42) = 0 → ((0:Int) ≤ x4 ∧ x4 < 3420) ∧ (∀ I2 : cm_I, I2 = iu I 236 x4 (I 233 x4) → (cm_i (x4 + 1) ∧ cw d cd_Model_asksThese Q 117 [some (vR 12 209), z1, z2, z3, some (vI (x4 + 1)), z5] [] (I2, z)))))))) : cw d cd_Model_asksThese Q 117 [some (vR 12 209), z1, z2, z3, some (vI x4), z5] [] (I, z) := by
  refine w_iload rfl rfl ?_
  refine w_iconst rfl ⟨by decide, by decide⟩ ?_
  refine w_icmp rfl (And.intro (fun hc => ?_) (fun hc => ?_))
  · replace H := H.1 hc
    exact w_return rfl H
  · replace H := H.2 hc
    refine w_aload rfl rfl ?_
    refine m_getI 42 rfl rfl rfl (by decide) ?_
    refine w_if rfl (And.intro (fun hc => ?_) (fun hc => ?_))
    · replace H := H.1 hc
      exact w_return rfl H
    · replace H := H.2 hc
      refine w_aload rfl rfl ?_
      refine m_getR 45 20 236 hz rfl rfl rfl rfl rfl rfl (by decide) ?_
      refine w_iload rfl rfl ?_
      refine w_aload rfl rfl ?_
      refine m_getR 40 20 233 hz rfl rfl rfl rfl rfl rfl (by decide) ?_
      refine w_iload rfl rfl ?_
      have o1 := H.1
      replace H := H.2
      refine m_iaload hz (by unfold mA; decide) rfl o1 ?_
      refine m_iastore hz (by unfold mA; decide) rfl o1 (fun I2 eI2 => ?_)
      replace H := H I2 eI2
      have o3 := H.1
      replace H := H.2
      refine w_iinc rfl rfl rfl o3 ?_
      refine w_goto rfl ?_
      exact H
set_option maxHeartbeats 4000000 in
set_option maxRecDepth 100000 in
theorem mr_asksThese {d : Nat} {Q : cm_Q} {z : cm_Z} {I : cm_I} (hz : mz z) {x1 : Int} {x2 : Int} {x3 : Int}  (H : (cm_i ((I 209 49) + 1) ∧ (∀ I2 : cm_I, I2 = iu I 209 49 ((I 209 49) + 1) → cw d cd_Model_asksThese Q 13 [some (vR 12 209), some (vI x1), some (vI x2), some (vI x3), some (vI 0), none] [] (I2, z)))) : cm_call (d + 1) m_Model_asksThese [vR 12 209, vI x1, vI x2, vI x3] (I, z) Q := by
  refine cm_call_in (C := cd_Model_asksThese) (ls := [some (vR 12 209), some (vI x1), some (vI x2), some (vI x3), none, none]) rfl rfl (show 0 < 209 by decide) rfl ?_
  refine w_aload rfl rfl ?_
  refine w_dup rfl rfl ?_
  refine m_getI 49 rfl rfl rfl (by decide) ?_
  refine w_iconst rfl ⟨by decide, by decide⟩ ?_
  have o1 := H.1
  replace H := H.2
  refine w_iadd rfl o1 ?_
  refine m_putI 49 rfl rfl rfl (by decide) (fun I2 eI2 => ?_)
  replace H := H I2 eI2
  refine w_iconst rfl ⟨by decide, by decide⟩ ?_
  refine w_istore rfl rfl ?_
  exact H
set_option maxHeartbeats 4000000 in
set_option maxRecDepth 100000 in
theorem mr_primary {d : Nat} {Q : cm_Q} {z : cm_Z} {I : cm_I} (hz : mz z) {x1 : Int} {x2 : Int}  (H : (∀ I1 : cm_I, I1 = iu I 209 0 0 → (cm_i ((I1 209 1) - 1) ∧ (mI d m_Model_within [vI x1, vI 0, vI ((I1 209 1) - 1)] z I1 fun v4 I3 => ((v4 = 0 → Q (some (vI (-1))) (I3, z)) ∧ (¬ v4 = 0 → (mI d m_Model_within [vI x2, vI 0, vI 1] z I3 fun v6 I5 => ((¬ v6 = 0 → (mU d m_Model_laysPrimary [vR 12 209] z I5 fun I7 => ((¬ (I7 209 42) = 0 → ((¬ x2 = 0 → ((0:Int) ≤ x1 ∧ x1 < 3) ∧ Q (some (vI (I7 235 x1))) (I7, z)) ∧ (x2 = 0 → ((0:Int) ≤ x1 ∧ x1 < 3) ∧ Q (some (vI (I7 234 x1))) (I7, z)))) ∧ ((I7 209 42) = 0 → Q (some (vI (-1))) (I7, z))))) ∧ (v6 = 0 → Q (some (vI (-1))) (I5, z)))))))))) : cm_call (d + 1) m_Model_primary [vR 12 209, vI x1, vI x2] (I, z) Q := by
  refine cm_call_in (C := cd_Model_primary) (ls := [some (vR 12 209), some (vI x1), some (vI x2)]) rfl rfl (show 0 < 209 by decide) rfl ?_
  refine w_aload rfl rfl ?_
  refine w_iconst rfl ⟨by decide, by decide⟩ ?_
  refine m_putI 0 rfl rfl rfl (by decide) (fun I1 eI1 => ?_)
  replace H := H I1 eI1
  refine w_iload rfl rfl ?_
  refine w_iconst rfl ⟨by decide, by decide⟩ ?_
  refine w_aload rfl rfl ?_
  refine m_getI 1 rfl rfl rfl (by decide) ?_
  refine w_iconst rfl ⟨by decide, by decide⟩ ?_
  have o2 := H.1
  replace H := H.2
  refine w_isub rfl o2 ?_
  refine m_callI rfl (fun _ => rfl) rfl (mI_mono H fun v4 I3 H => ?_)
  refine w_if rfl (And.intro (fun hc => ?_) (fun hc => ?_))
  · replace H := H.1 hc
    refine w_iconst rfl ⟨by decide, by decide⟩ ?_
    exact w_ireturn rfl H
  · replace H := H.2 hc
    refine w_iload rfl rfl ?_
    refine w_iconst rfl ⟨by decide, by decide⟩ ?_
    refine w_iconst rfl ⟨by decide, by decide⟩ ?_
    refine m_callI rfl (fun _ => rfl) rfl (mI_mono H fun v6 I5 H => ?_)
    refine w_if rfl (And.intro (fun hc => ?_) (fun hc => ?_))
    · replace H := H.1 hc
      refine w_aload rfl rfl ?_
      refine m_callU rfl (fun _ => rfl) rfl (mU_mono H fun I7 H => ?_)
      refine w_aload rfl rfl ?_
      refine m_getI 42 rfl rfl rfl (by decide) ?_
      refine w_if rfl (And.intro (fun hc => ?_) (fun hc => ?_))
      · replace H := H.1 hc
        refine w_iload rfl rfl ?_
        refine w_if rfl (And.intro (fun hc => ?_) (fun hc => ?_))
        · replace H := H.1 hc
          refine w_aload rfl rfl ?_
          refine m_getR 44 20 235 hz rfl rfl rfl rfl rfl rfl (by decide) ?_
          refine w_iload rfl rfl ?_
          have o8 := H.1
          replace H := H.2
          refine m_iaload hz (by unfold mA; decide) rfl o8 ?_
          exact w_ireturn rfl H
        · replace H := H.2 hc
          refine w_aload rfl rfl ?_
          refine m_getR 43 20 234 hz rfl rfl rfl rfl rfl rfl (by decide) ?_
          refine w_iload rfl rfl ?_
          have o9 := H.1
          replace H := H.2
          refine m_iaload hz (by unfold mA; decide) rfl o9 ?_
          refine w_goto rfl ?_
          exact w_ireturn rfl H
      · replace H := H.2 hc
        refine w_iconst rfl ⟨by decide, by decide⟩ ?_
        refine w_goto rfl ?_
        exact w_ireturn rfl H
    · replace H := H.2 hc
      refine w_iconst rfl ⟨by decide, by decide⟩ ?_
      exact w_ireturn rfl H
set_option maxHeartbeats 4000000 in
set_option maxRecDepth 100000 in
theorem mr_laysProducts_7 {d : Nat} {Q : cm_Q} {z : cm_Z} {I : cm_I} (hz : mz z) {x1 : Int} {x2 : Int} {z3 : Option cm_V} {z4 : Option cm_V} {z5 : Option cm_V} {z6 : Option cm_V} {z7 : Option cm_V}  (H : (((I 209 50) ≤ x2 → Q none (I, z)) ∧ (x2 < (I 209 50) → ((0:Int) ≤ x2 ∧ x2 < 220) ∧ (cm_i (x1 - (I 239 x2)) ∧ cw d cd_Model_laysProducts Q 27 [some (vR 12 209), some (vI x1), some (vI x2), some (vI (x1 - (I 239 x2))), some (vI 0), z5, z6, z7] [] (I, z))))) : cw d cd_Model_laysProducts Q 7 [some (vR 12 209), some (vI x1), some (vI x2), z3, z4, z5, z6, z7] [] (I, z) := by
  refine w_iload rfl rfl ?_
  refine w_aload rfl rfl ?_
  refine m_getI 50 rfl rfl rfl (by decide) ?_
  refine w_icmp rfl (And.intro (fun hc => ?_) (fun hc => ?_))
  · replace H := H.1 hc
    exact w_return rfl H
  · replace H := H.2 hc
    refine w_iload rfl rfl ?_
    refine w_aload rfl rfl ?_
    refine m_getR 51 20 239 hz rfl rfl rfl rfl rfl rfl (by decide) ?_
    refine w_iload rfl rfl ?_
    have o1 := H.1
    replace H := H.2
    refine m_iaload hz (by unfold mA; decide) rfl o1 ?_
    have o2 := H.1
    replace H := H.2
    refine w_isub rfl o2 ?_
    refine w_istore rfl rfl ?_
    refine w_iconst rfl ⟨by decide, by decide⟩ ?_
    refine w_istore rfl rfl ?_
    exact H
set_option maxHeartbeats 4000000 in
set_option maxRecDepth 100000 in
theorem mr_laysProducts_27 {d : Nat} {Q : cm_Q} {z : cm_Z} {I : cm_I} (hz : mz z) {x1 : Int} {x2 : Int} {x3 : Int} {x4 : Int} {z5 : Option cm_V} {z6 : Option cm_V} {z7 : Option cm_V}  (H : (cm_i (x4 * (I 234 0)) ∧ ((x3 < (x4 * (I 234 0)) → (cm_i (x2 + 1) ∧ cw d cd_Model_laysProducts Q 7 [some (vR 12 209), some (vI x1), some (vI (x2 + 1)), some (vI x3), some (vI x4), z5, z6, z7] [] (I, z))) ∧ ((x4 * (I 234 0)) ≤ x3 → cw d cd_Model_laysProducts Q 43 [some (vR 12 209), some (vI x1), some (vI x2), some (vI x3), some (vI x4), some (vI 0), z6, z7] [] (I, z))))) : cw d cd_Model_laysProducts Q 27 [some (vR 12 209), some (vI x1), some (vI x2), some (vI x3), some (vI x4), z5, z6, z7] [] (I, z) := by
  refine w_iload rfl rfl ?_
  refine w_aload rfl rfl ?_
  refine m_getR 43 20 234 hz rfl rfl rfl rfl rfl rfl (by decide) ?_
  refine w_iconst rfl ⟨by decide, by decide⟩ ?_
  refine m_iaload hz (by unfold mA; decide) rfl (by decide) ?_
  have o1 := H.1
  replace H := H.2
  refine w_imul rfl o1 ?_
  refine w_iload rfl rfl ?_
  refine w_icmp rfl (And.intro (fun hc => ?_) (fun hc => ?_))
  · replace H := H.1 hc
    have o2 := H.1
    replace H := H.2
    refine w_iinc rfl rfl rfl o2 ?_
    refine w_goto rfl ?_
    exact H
  · replace H := H.2 hc
    refine w_iconst rfl ⟨by decide, by decide⟩ ?_
    refine w_istore rfl rfl ?_
    exact H
set_option maxHeartbeats 4000000 in
set_option maxRecDepth 100000 in
theorem mr_laysProducts_43 {d : Nat} {Q : cm_Q} {z : cm_Z} {I : cm_I} (hz : mz z) {x1 : Int} {x2 : Int} {x3 : Int} {x4 : Int} {x5 : Int} {z6 : Option cm_V} {z7 : Option cm_V}  (H : (cm_i (x4 * (I 234 0)) ∧ (cm_i (x5 * (I 234 1)) ∧ (cm_i ((x4 * (I 234 0)) + (x5 * (I 234 1))) ∧ ((x3 < ((x4 * (I 234 0)) + (x5 * (I 234 1))) → (cm_i (x4 + 1) ∧ cw d cd_Model_laysProducts Q 27 [some (vR 12 209), some (vI x1), some (vI x2), some (vI x3), some (vI (x4 + 1)), some (vI x5), z6, z7] [] (I, z))) ∧ (((x4 * (I 234 0)) + (x5 * (I 234 1))) ≤ x3 → (cm_i (x3 - (x4 * (I 234 0))) ∧ (cm_i ((x3 - (x4 * (I 234 0))) - (x5 * (I 234 1))) ∧ ((¬ (I 209 1) = 2 → (0 < (I 234 2) ∧ ((¬ (Int.tmod ((x3 - (x4 * (I 234 0))) - (x5 * (I 234 1))) (I 234 2)) = 0 → cw d cd_Model_laysProducts Q 127 [some (vR 12 209), some (vI x1), some (vI x2), some (vI x3), some (vI x4), some (vI x5), some (vI ((x3 - (x4 * (I 234 0))) - (x5 * (I 234 1)))), z7] [vI 0] (I, z)) ∧ ((Int.tmod ((x3 - (x4 * (I 234 0))) - (x5 * (I 234 1))) (I 234 2)) = 0 → cw d cd_Model_laysProducts Q 127 [some (vR 12 209), some (vI x1), some (vI x2), some (vI x3), some (vI x4), some (vI x5), some (vI ((x3 - (x4 * (I 234 0))) - (x5 * (I 234 1)))), z7] [vI 1] (I, z))))) ∧ ((I 209 1) = 2 → ((¬ ((x3 - (x4 * (I 234 0))) - (x5 * (I 234 1))) = 0 → cw d cd_Model_laysProducts Q 127 [some (vR 12 209), some (vI x1), some (vI x2), some (vI x3), some (vI x4), some (vI x5), some (vI ((x3 - (x4 * (I 234 0))) - (x5 * (I 234 1)))), z7] [vI 0] (I, z)) ∧ (((x3 - (x4 * (I 234 0))) - (x5 * (I 234 1))) = 0 → cw d cd_Model_laysProducts Q 127 [some (vR 12 209), some (vI x1), some (vI x2), some (vI x3), some (vI x4), some (vI x5), some (vI ((x3 - (x4 * (I 234 0))) - (x5 * (I 234 1)))), z7] [vI 1] (I, z))))))))))))) : cw d cd_Model_laysProducts Q 43 [some (vR 12 209), some (vI x1), some (vI x2), some (vI x3), some (vI x4), some (vI x5), z6, z7] [] (I, z) := by
  refine w_iload rfl rfl ?_
  refine w_aload rfl rfl ?_
  refine m_getR 43 20 234 hz rfl rfl rfl rfl rfl rfl (by decide) ?_
  refine w_iconst rfl ⟨by decide, by decide⟩ ?_
  refine m_iaload hz (by unfold mA; decide) rfl (by decide) ?_
  have o1 := H.1
  replace H := H.2
  refine w_imul rfl o1 ?_
  refine w_iload rfl rfl ?_
  refine w_aload rfl rfl ?_
  refine m_getR 43 20 234 hz rfl rfl rfl rfl rfl rfl (by decide) ?_
  refine w_iconst rfl ⟨by decide, by decide⟩ ?_
  refine m_iaload hz (by unfold mA; decide) rfl (by decide) ?_
  have o2 := H.1
  replace H := H.2
  refine w_imul rfl o2 ?_
  have o3 := H.1
  replace H := H.2
  refine w_iadd rfl o3 ?_
  refine w_iload rfl rfl ?_
  refine w_icmp rfl (And.intro (fun hc => ?_) (fun hc => ?_))
  · replace H := H.1 hc
    have o4 := H.1
    replace H := H.2
    refine w_iinc rfl rfl rfl o4 ?_
    refine w_goto rfl ?_
    exact H
  · replace H := H.2 hc
    refine w_iload rfl rfl ?_
    refine w_iload rfl rfl ?_
    refine w_aload rfl rfl ?_
    refine m_getR 43 20 234 hz rfl rfl rfl rfl rfl rfl (by decide) ?_
    refine w_iconst rfl ⟨by decide, by decide⟩ ?_
    refine m_iaload hz (by unfold mA; decide) rfl (by decide) ?_
    refine w_imul rfl o1 ?_
    have o5 := H.1
    replace H := H.2
    refine w_isub rfl o5 ?_
    refine w_iload rfl rfl ?_
    refine w_aload rfl rfl ?_
    refine m_getR 43 20 234 hz rfl rfl rfl rfl rfl rfl (by decide) ?_
    refine w_iconst rfl ⟨by decide, by decide⟩ ?_
    refine m_iaload hz (by unfold mA; decide) rfl (by decide) ?_
    refine w_imul rfl o2 ?_
    have o6 := H.1
    replace H := H.2
    refine w_isub rfl o6 ?_
    refine w_istore rfl rfl ?_
    refine w_aload rfl rfl ?_
    refine m_getI 1 rfl rfl rfl (by decide) ?_
    refine w_iconst rfl ⟨by decide, by decide⟩ ?_
    refine w_icmp rfl (And.intro (fun hc => ?_) (fun hc => ?_))
    · replace H := H.1 hc
      refine w_iload rfl rfl ?_
      refine w_aload rfl rfl ?_
      refine m_getR 43 20 234 hz rfl rfl rfl rfl rfl rfl (by decide) ?_
      refine w_iconst rfl ⟨by decide, by decide⟩ ?_
      refine m_iaload hz (by unfold mA; decide) rfl (by decide) ?_
      have o7 := H.1
      replace H := H.2
      refine w_irem rfl o7 ?_
      refine w_if rfl (And.intro (fun hc => ?_) (fun hc => ?_))
      · replace H := H.1 hc
        refine w_iconst rfl ⟨by decide, by decide⟩ ?_
        exact H
      · replace H := H.2 hc
        refine w_iconst rfl ⟨by decide, by decide⟩ ?_
        refine w_goto rfl ?_
        exact H
    · replace H := H.2 hc
      refine w_iload rfl rfl ?_
      refine w_if rfl (And.intro (fun hc => ?_) (fun hc => ?_))
      · replace H := H.1 hc
        refine w_iconst rfl ⟨by decide, by decide⟩ ?_
        refine w_goto rfl ?_
        exact H
      · replace H := H.2 hc
        refine w_iconst rfl ⟨by decide, by decide⟩ ?_
        refine w_goto rfl ?_
        exact H
set_option maxHeartbeats 4000000 in
set_option maxRecDepth 100000 in
theorem mr_laysProducts_127 {d : Nat} {Q : cm_Q} {z : cm_Z} {I : cm_I} (hz : mz z) {x1 : Int} {x2 : Int} {x3 : Int} {x4 : Int} {x5 : Int} {x6 : Int} {z7 : Option cm_V} {s0 : Int}  (H : ((s0 = 0 → (cm_i (x5 + 1) ∧ cw d cd_Model_laysProducts Q 43 [some (vR 12 209), some (vI x1), some (vI x2), some (vI x3), some (vI x4), some (vI (x5 + 1)), some (vI x6), some (vI s0)] [] (I, z))) ∧ (¬ s0 = 0 → ((¬ (I 209 1) = 2 → (0 < (I 234 2) ∧ (mU d m_Model_laysProduct [vR 12 209, vI x2, vI x4, vI x5, vI (Int.tdiv x6 (I 234 2)), vI x1] z I fun I3 => (cm_i (x5 + 1) ∧ cw d cd_Model_laysProducts Q 43 [some (vR 12 209), some (vI x1), some (vI x2), some (vI x3), some (vI x4), some (vI (x5 + 1)), some (vI x6), some (vI s0)] [] (I3, z))))) ∧ ((I 209 1) = 2 → (mU d m_Model_laysProduct [vR 12 209, vI x2, vI x4, vI x5, vI 0, vI x1] z I fun I5 => (cm_i (x5 + 1) ∧ cw d cd_Model_laysProducts Q 43 [some (vR 12 209), some (vI x1), some (vI x2), some (vI x3), some (vI x4), some (vI (x5 + 1)), some (vI x6), some (vI s0)] [] (I5, z)))))))) : cw d cd_Model_laysProducts Q 127 [some (vR 12 209), some (vI x1), some (vI x2), some (vI x3), some (vI x4), some (vI x5), some (vI x6), z7] [vI s0] (I, z) := by
  refine w_istore rfl rfl ?_
  refine w_iload rfl rfl ?_
  refine w_if rfl (And.intro (fun hc => ?_) (fun hc => ?_))
  · replace H := H.1 hc
    have o1 := H.1
    replace H := H.2
    refine w_iinc rfl rfl rfl o1 ?_
    refine w_goto rfl ?_
    exact H
  · replace H := H.2 hc
    refine w_aload rfl rfl ?_
    refine w_iload rfl rfl ?_
    refine w_iload rfl rfl ?_
    refine w_iload rfl rfl ?_
    refine w_aload rfl rfl ?_
    refine m_getI 1 rfl rfl rfl (by decide) ?_
    refine w_iconst rfl ⟨by decide, by decide⟩ ?_
    refine w_icmp rfl (And.intro (fun hc => ?_) (fun hc => ?_))
    · replace H := H.1 hc
      refine w_iload rfl rfl ?_
      refine w_aload rfl rfl ?_
      refine m_getR 43 20 234 hz rfl rfl rfl rfl rfl rfl (by decide) ?_
      refine w_iconst rfl ⟨by decide, by decide⟩ ?_
      refine m_iaload hz (by unfold mA; decide) rfl (by decide) ?_
      have o2 := H.1
      replace H := H.2
      refine w_idiv rfl o2 ?_
      refine w_iload rfl rfl ?_
      refine m_callU rfl (fun _ => rfl) rfl (mU_mono H fun I3 H => ?_)
      have o4 := H.1
      replace H := H.2
      refine w_iinc rfl rfl rfl o4 ?_
      refine w_goto rfl ?_
      exact H
    · replace H := H.2 hc
      refine w_iconst rfl ⟨by decide, by decide⟩ ?_
      refine w_goto rfl ?_
      refine w_iload rfl rfl ?_
      refine m_callU rfl (fun _ => rfl) rfl (mU_mono H fun I5 H => ?_)
      have o6 := H.1
      replace H := H.2
      refine w_iinc rfl rfl rfl o6 ?_
      refine w_goto rfl ?_
      exact H
set_option maxHeartbeats 4000000 in
set_option maxRecDepth 100000 in
theorem mr_laysProducts {d : Nat} {Q : cm_Q} {z : cm_Z} {I : cm_I} (hz : mz z) {x1 : Int}  (H : (∀ I1 : cm_I, I1 = iu I 209 53 0 → cw d cd_Model_laysProducts Q 7 [some (vR 12 209), some (vI x1), some (vI 0), none, none, none, none, none] [] (I1, z))) : cm_call (d + 1) m_Model_laysProducts [vR 12 209, vI x1] (I, z) Q := by
  refine cm_call_in (C := cd_Model_laysProducts) (ls := [some (vR 12 209), some (vI x1), none, none, none, none, none, none]) rfl rfl (show 0 < 209 by decide) rfl ?_
  refine w_aload rfl rfl ?_
  refine w_iconst rfl ⟨by decide, by decide⟩ ?_
  refine m_putI 53 rfl rfl rfl (by decide) (fun I1 eI1 => ?_)
  replace H := H I1 eI1
  refine w_iconst rfl ⟨by decide, by decide⟩ ?_
  refine w_istore rfl rfl ?_
  exact H
set_option maxHeartbeats 4000000 in
set_option maxRecDepth 100000 in
theorem mr_timesPrimary_2 {d : Nat} {Q : cm_Q} {z : cm_Z} {I : cm_I} (hz : mz z) {x1 : Int} {x2 : Int} {x3 : Int}  (H : ((x2 ≤ x3 → Q none (I, z)) ∧ (x3 < x2 → (cm_i (1140 * x1) ∧ (mU d m_Model_multiplies [vR 12 209, vR 20 214, vI 0, vR 20 236, vI (1140 * x1), vR 20 216, vI 0] z I fun I2 => (mU d m_Model_copies [vR 20 216, vI 0, vR 20 214, vI 0] z I2 fun I3 => (cm_i (x3 + 1) ∧ cw d cd_Model_timesPrimary Q 2 [some (vR 12 209), some (vI x1), some (vI x2), some (vI (x3 + 1))] [] (I3, z)))))))) : cw d cd_Model_timesPrimary Q 2 [some (vR 12 209), some (vI x1), some (vI x2), some (vI x3)] [] (I, z) := by
  refine w_iload rfl rfl ?_
  refine w_iload rfl rfl ?_
  refine w_icmp rfl (And.intro (fun hc => ?_) (fun hc => ?_))
  · replace H := H.1 hc
    exact w_return rfl H
  · replace H := H.2 hc
    refine w_aload rfl rfl ?_
    refine w_aload rfl rfl ?_
    refine m_getR 6 20 214 hz rfl rfl rfl rfl rfl rfl (by decide) ?_
    refine w_iconst rfl ⟨by decide, by decide⟩ ?_
    refine w_aload rfl rfl ?_
    refine m_getR 45 20 236 hz rfl rfl rfl rfl rfl rfl (by decide) ?_
    refine w_iconst rfl ⟨by decide, by decide⟩ ?_
    refine w_iload rfl rfl ?_
    have o1 := H.1
    replace H := H.2
    refine w_imul rfl o1 ?_
    refine w_aload rfl rfl ?_
    refine m_getR 8 20 216 hz rfl rfl rfl rfl rfl rfl (by decide) ?_
    refine w_iconst rfl ⟨by decide, by decide⟩ ?_
    refine m_callU rfl (fun _ => rfl) rfl (mU_mono H fun I2 H => ?_)
    refine w_aload rfl rfl ?_
    refine m_getR 8 20 216 hz rfl rfl rfl rfl rfl rfl (by decide) ?_
    refine w_iconst rfl ⟨by decide, by decide⟩ ?_
    refine w_aload rfl rfl ?_
    refine m_getR 6 20 214 hz rfl rfl rfl rfl rfl rfl (by decide) ?_
    refine w_iconst rfl ⟨by decide, by decide⟩ ?_
    refine m_callU rfl (fun _ => rfl) rfl (mU_mono H fun I3 H => ?_)
    have o4 := H.1
    replace H := H.2
    refine w_iinc rfl rfl rfl o4 ?_
    refine w_goto rfl ?_
    exact H
set_option maxHeartbeats 4000000 in
set_option maxRecDepth 100000 in
theorem mr_timesPrimary {d : Nat} {Q : cm_Q} {z : cm_Z} {I : cm_I} (hz : mz z) {x1 : Int} {x2 : Int}  (H : cw d cd_Model_timesPrimary Q 2 [some (vR 12 209), some (vI x1), some (vI x2), some (vI 0)] [] (I, z)) : cm_call (d + 1) m_Model_timesPrimary [vR 12 209, vI x1, vI x2] (I, z) Q := by
  refine cm_call_in (C := cd_Model_timesPrimary) (ls := [some (vR 12 209), some (vI x1), some (vI x2), none]) rfl rfl (show 0 < 209 by decide) rfl ?_
  refine w_iconst rfl ⟨by decide, by decide⟩ ?_
  refine w_istore rfl rfl ?_
  exact H
set_option maxHeartbeats 4000000 in
set_option maxRecDepth 100000 in
theorem mr_laysProduct_51 {d : Nat} {Q : cm_Q} {z : cm_Z} {I : cm_I} (hz : mz z) {x1 : Int} {x2 : Int} {x3 : Int} {x4 : Int} {x5 : Int} {x6 : Int}  (H : (mI d m_Model_many [vR 12 209, vI x5] z I fun v2 I1 => ((v2 ≤ x6 → ((0:Int) ≤ (I1 209 53) ∧ (I1 209 53) < 160) ∧ (∀ I4 : cm_I, I4 = iu I1 241 (I1 209 53) x1 → ((0:Int) ≤ (I4 209 53) ∧ (I4 209 53) < 160) ∧ (∀ I6 : cm_I, I6 = iu I4 242 (I4 209 53) x2 → ((0:Int) ≤ (I6 209 53) ∧ (I6 209 53) < 160) ∧ (∀ I8 : cm_I, I8 = iu I6 243 (I6 209 53) x3 → ((0:Int) ≤ (I8 209 53) ∧ (I8 209 53) < 160) ∧ (∀ I10 : cm_I, I10 = iu I8 244 (I8 209 53) x4 → (cm_i ((I10 209 53) + 1) ∧ (∀ I12 : cm_I, I12 = iu I10 209 53 ((I10 209 53) + 1) → Q none (I12, z)))))))) ∧ (x6 < v2 → (cm_i (160 * (I1 209 53)) ∧ (cm_i ((160 * (I1 209 53)) + x6) ∧ (mI d m_Model_from [vR 12 209, vI x5] z I1 fun v16 I15 => (cm_i (v16 + x6) ∧ ((0:Int) ≤ (v16 + x6) ∧ (v16 + x6) < 1140) ∧ ((0:Int) ≤ ((160 * (I1 209 53)) + x6) ∧ ((160 * (I1 209 53)) + x6) < 137600) ∧ (∀ I20 : cm_I, I20 = iu I15 226 ((160 * (I1 209 53)) + x6) (I15 214 (v16 + x6)) → (cm_i (x6 + 1) ∧ cw d cd_Model_laysProduct Q 51 [some (vR 12 209), some (vI x1), some (vI x2), some (vI x3), some (vI x4), some (vI x5), some (vI (x6 + 1))] [] (I20, z))))))))))) : cw d cd_Model_laysProduct Q 51 [some (vR 12 209), some (vI x1), some (vI x2), some (vI x3), some (vI x4), some (vI x5), some (vI x6)] [] (I, z) := by
  refine w_iload rfl rfl ?_
  refine w_aload rfl rfl ?_
  refine w_iload rfl rfl ?_
  refine m_callI rfl (fun _ => rfl) rfl (mI_mono H fun v2 I1 H => ?_)
  refine w_icmp rfl (And.intro (fun hc => ?_) (fun hc => ?_))
  · replace H := H.1 hc
    refine w_aload rfl rfl ?_
    refine m_getR 54 20 241 hz rfl rfl rfl rfl rfl rfl (by decide) ?_
    refine w_aload rfl rfl ?_
    refine m_getI 53 rfl rfl rfl (by decide) ?_
    refine w_iload rfl rfl ?_
    have o3 := H.1
    replace H := H.2
    refine m_iastore hz (by unfold mA; decide) rfl o3 (fun I4 eI4 => ?_)
    replace H := H I4 eI4
    refine w_aload rfl rfl ?_
    refine m_getR 55 20 242 hz rfl rfl rfl rfl rfl rfl (by decide) ?_
    refine w_aload rfl rfl ?_
    refine m_getI 53 rfl rfl rfl (by decide) ?_
    refine w_iload rfl rfl ?_
    have o5 := H.1
    replace H := H.2
    refine m_iastore hz (by unfold mA; decide) rfl o5 (fun I6 eI6 => ?_)
    replace H := H I6 eI6
    refine w_aload rfl rfl ?_
    refine m_getR 56 20 243 hz rfl rfl rfl rfl rfl rfl (by decide) ?_
    refine w_aload rfl rfl ?_
    refine m_getI 53 rfl rfl rfl (by decide) ?_
    refine w_iload rfl rfl ?_
    have o7 := H.1
    replace H := H.2
    refine m_iastore hz (by unfold mA; decide) rfl o7 (fun I8 eI8 => ?_)
    replace H := H I8 eI8
    refine w_aload rfl rfl ?_
    refine m_getR 57 20 244 hz rfl rfl rfl rfl rfl rfl (by decide) ?_
    refine w_aload rfl rfl ?_
    refine m_getI 53 rfl rfl rfl (by decide) ?_
    refine w_iload rfl rfl ?_
    have o9 := H.1
    replace H := H.2
    refine m_iastore hz (by unfold mA; decide) rfl o9 (fun I10 eI10 => ?_)
    replace H := H I10 eI10
    refine w_aload rfl rfl ?_
    refine w_dup rfl rfl ?_
    refine m_getI 53 rfl rfl rfl (by decide) ?_
    refine w_iconst rfl ⟨by decide, by decide⟩ ?_
    have o11 := H.1
    replace H := H.2
    refine w_iadd rfl o11 ?_
    refine m_putI 53 rfl rfl rfl (by decide) (fun I12 eI12 => ?_)
    replace H := H I12 eI12
    exact w_return rfl H
  · replace H := H.2 hc
    refine w_aload rfl rfl ?_
    refine m_getR 32 20 226 hz rfl rfl rfl rfl rfl rfl (by decide) ?_
    refine w_iconst rfl ⟨by decide, by decide⟩ ?_
    refine w_aload rfl rfl ?_
    refine m_getI 53 rfl rfl rfl (by decide) ?_
    have o13 := H.1
    replace H := H.2
    refine w_imul rfl o13 ?_
    refine w_iload rfl rfl ?_
    have o14 := H.1
    replace H := H.2
    refine w_iadd rfl o14 ?_
    refine w_aload rfl rfl ?_
    refine m_getR 6 20 214 hz rfl rfl rfl rfl rfl rfl (by decide) ?_
    refine w_aload rfl rfl ?_
    refine w_iload rfl rfl ?_
    refine m_callI rfl (fun _ => rfl) rfl (mI_mono H fun v16 I15 H => ?_)
    refine w_iload rfl rfl ?_
    have o17 := H.1
    replace H := H.2
    refine w_iadd rfl o17 ?_
    have o18 := H.1
    replace H := H.2
    refine m_iaload hz (by unfold mA; decide) rfl o18 ?_
    have o19 := H.1
    replace H := H.2
    refine m_iastore hz (by unfold mA; decide) rfl o19 (fun I20 eI20 => ?_)
    replace H := H I20 eI20
    have o21 := H.1
    replace H := H.2
    refine w_iinc rfl rfl rfl o21 ?_
    refine w_goto rfl ?_
    exact H
set_option maxHeartbeats 4000000 in
set_option maxRecDepth 100000 in
theorem mr_laysProduct {d : Nat} {Q : cm_Q} {z : cm_Z} {I : cm_I} (hz : mz z) {x1 : Int} {x2 : Int} {x3 : Int} {x4 : Int} {x5 : Int}  (H : ((0:Int) ≤ x1 ∧ x1 < 220) ∧ (mU d m_Model_laysBaseRow [vR 12 209, vI (I 239 x1), vI (I 240 x1), vR 20 214, vI 0] z I fun I2 => (mU d m_Model_timesPrimary [vR 12 209, vI 0, vI x2] z I2 fun I3 => (mU d m_Model_timesPrimary [vR 12 209, vI 1, vI x3] z I3 fun I4 => (mU d m_Model_timesPrimary [vR 12 209, vI 2, vI x4] z I4 fun I5 => (mU d m_Model_clearsRow [vR 12 209, vI (I5 209 53)] z I5 fun I6 => cw d cd_Model_laysProduct Q 51 [some (vR 12 209), some (vI x1), some (vI x2), some (vI x3), some (vI x4), some (vI x5), some (vI 0)] [] (I6, z))))))) : cm_call (d + 1) m_Model_laysProduct [vR 12 209, vI x1, vI x2, vI x3, vI x4, vI x5] (I, z) Q := by
  refine cm_call_in (C := cd_Model_laysProduct) (ls := [some (vR 12 209), some (vI x1), some (vI x2), some (vI x3), some (vI x4), some (vI x5), none]) rfl rfl (show 0 < 209 by decide) rfl ?_
  refine w_aload rfl rfl ?_
  refine w_aload rfl rfl ?_
  refine m_getR 51 20 239 hz rfl rfl rfl rfl rfl rfl (by decide) ?_
  refine w_iload rfl rfl ?_
  have o1 := H.1
  replace H := H.2
  refine m_iaload hz (by unfold mA; decide) rfl o1 ?_
  refine w_aload rfl rfl ?_
  refine m_getR 52 20 240 hz rfl rfl rfl rfl rfl rfl (by decide) ?_
  refine w_iload rfl rfl ?_
  refine m_iaload hz (by unfold mA; decide) rfl o1 ?_
  refine w_aload rfl rfl ?_
  refine m_getR 6 20 214 hz rfl rfl rfl rfl rfl rfl (by decide) ?_
  refine w_iconst rfl ⟨by decide, by decide⟩ ?_
  refine m_callU rfl (fun _ => rfl) rfl (mU_mono H fun I2 H => ?_)
  refine w_aload rfl rfl ?_
  refine w_iconst rfl ⟨by decide, by decide⟩ ?_
  refine w_iload rfl rfl ?_
  refine m_callU rfl (fun _ => rfl) rfl (mU_mono H fun I3 H => ?_)
  refine w_aload rfl rfl ?_
  refine w_iconst rfl ⟨by decide, by decide⟩ ?_
  refine w_iload rfl rfl ?_
  refine m_callU rfl (fun _ => rfl) rfl (mU_mono H fun I4 H => ?_)
  refine w_aload rfl rfl ?_
  refine w_iconst rfl ⟨by decide, by decide⟩ ?_
  refine w_iload rfl rfl ?_
  refine m_callU rfl (fun _ => rfl) rfl (mU_mono H fun I5 H => ?_)
  refine w_aload rfl rfl ?_
  refine w_aload rfl rfl ?_
  refine m_getI 53 rfl rfl rfl (by decide) ?_
  refine m_callU rfl (fun _ => rfl) rfl (mU_mono H fun I6 H => ?_)
  refine w_iconst rfl ⟨by decide, by decide⟩ ?_
  refine w_istore rfl rfl ?_
  exact H
set_option maxHeartbeats 4000000 in
set_option maxRecDepth 100000 in
theorem mr_laysSecondary_13 {d : Nat} {Q : cm_Q} {z : cm_Z} {I : cm_I} (hz : mz z) {x1 : Int} {z2 : Option cm_V} {z3 : Option cm_V} {z4 : Option cm_V} {z5 : Option cm_V}  (H : ((15 < x1 → Q none (I, z)) ∧ (x1 ≤ 15 → (mI d m_Model_many [vR 12 209, vI x1] z I fun v2 I1 => (mU d m_Model_laysProducts [vR 12 209, vI x1] z I1 fun I3 => (mI d m_Model_steps [vR 12 209, vI (I3 209 53), vI v2] z I3 fun v5 I4 => cw d cd_Model_laysSecondary Q 43 [some (vR 12 209), some (vI x1), some (vI v2), some (vI v5), some (vI 0), z5] [] (I4, z))))))) : cw d cd_Model_laysSecondary Q 13 [some (vR 12 209), some (vI x1), z2, z3, z4, z5] [] (I, z) := by
  refine w_iload rfl rfl ?_
  refine w_iconst rfl ⟨by decide, by decide⟩ ?_
  refine w_icmp rfl (And.intro (fun hc => ?_) (fun hc => ?_))
  · replace H := H.1 hc
    exact w_return rfl H
  · replace H := H.2 hc
    refine w_aload rfl rfl ?_
    refine w_iload rfl rfl ?_
    refine m_callI rfl (fun _ => rfl) rfl (mI_mono H fun v2 I1 H => ?_)
    refine w_istore rfl rfl ?_
    refine w_aload rfl rfl ?_
    refine w_iload rfl rfl ?_
    refine m_callU rfl (fun _ => rfl) rfl (mU_mono H fun I3 H => ?_)
    refine w_aload rfl rfl ?_
    refine w_aload rfl rfl ?_
    refine m_getI 53 rfl rfl rfl (by decide) ?_
    refine w_iload rfl rfl ?_
    refine m_callI rfl (fun _ => rfl) rfl (mI_mono H fun v5 I4 H => ?_)
    refine w_istore rfl rfl ?_
    refine w_iconst rfl ⟨by decide, by decide⟩ ?_
    refine w_istore rfl rfl ?_
    exact H
set_option maxHeartbeats 4000000 in
set_option maxRecDepth 100000 in
theorem mr_laysSecondary_43 {d : Nat} {Q : cm_Q} {z : cm_Z} {I : cm_I} (hz : mz z) {x1 : Int} {x2 : Int} {x3 : Int} {x4 : Int} {z5 : Option cm_V}  (H : ((0:Int) ≤ x1 ∧ x1 < 16) ∧ (((I 228 x1) ≤ x4 → (cm_i (x1 + 1) ∧ cw d cd_Model_laysSecondary Q 13 [some (vR 12 209), some (vI (x1 + 1)), some (vI x2), some (vI x3), some (vI x4), z5] [] (I, z))) ∧ (x4 < (I 228 x1) → (mU d m_Model_clearsRow [vR 12 209, vI x3] z I fun I3 => cw d cd_Model_laysSecondary Q 62 [some (vR 12 209), some (vI x1), some (vI x2), some (vI x3), some (vI x4), some (vI 0)] [] (I3, z))))) : cw d cd_Model_laysSecondary Q 43 [some (vR 12 209), some (vI x1), some (vI x2), some (vI x3), some (vI x4), z5] [] (I, z) := by
  refine w_iload rfl rfl ?_
  refine w_aload rfl rfl ?_
  refine m_getR 34 20 228 hz rfl rfl rfl rfl rfl rfl (by decide) ?_
  refine w_iload rfl rfl ?_
  have o1 := H.1
  replace H := H.2
  refine m_iaload hz (by unfold mA; decide) rfl o1 ?_
  refine w_icmp rfl (And.intro (fun hc => ?_) (fun hc => ?_))
  · replace H := H.1 hc
    have o2 := H.1
    replace H := H.2
    refine w_iinc rfl rfl rfl o2 ?_
    refine w_goto rfl ?_
    exact H
  · replace H := H.2 hc
    refine w_aload rfl rfl ?_
    refine w_iload rfl rfl ?_
    refine m_callU rfl (fun _ => rfl) rfl (mU_mono H fun I3 H => ?_)
    refine w_iconst rfl ⟨by decide, by decide⟩ ?_
    refine w_istore rfl rfl ?_
    exact H
set_option maxHeartbeats 4000000 in
set_option maxRecDepth 100000 in
theorem mr_laysSecondary_62 {d : Nat} {Q : cm_Q} {z : cm_Z} {I : cm_I} (hz : mz z) {x1 : Int} {x2 : Int} {x3 : Int} {x4 : Int} {x5 : Int}  (H : ((x2 ≤ x5 → (cm_i (x3 + 1) ∧ (mI d m_Model_steps [vR 12 209, vI (x3 + 1), vI x2] z I fun v3 I2 => ((v3 ≤ x3 → (cm_i (x4 + 1) ∧ cw d cd_Model_laysSecondary Q 43 [some (vR 12 209), some (vI x1), some (vI x2), some (vI x3), some (vI (x4 + 1)), some (vI v3)] [] (I2, z))) ∧ (x3 < v3 → ((0:Int) ≤ (I2 209 50) ∧ (I2 209 50) < 220) ∧ (∀ I6 : cm_I, I6 = iu I2 239 (I2 209 50) x1 → ((0:Int) ≤ (I6 209 50) ∧ (I6 209 50) < 220) ∧ (∀ I8 : cm_I, I8 = iu I6 240 (I6 209 50) x4 → (cm_i ((I8 209 50) + 1) ∧ (∀ I10 : cm_I, I10 = iu I8 209 50 ((I8 209 50) + 1) → (cm_i (x4 + 1) ∧ cw d cd_Model_laysSecondary Q 43 [some (vR 12 209), some (vI x1), some (vI x2), some (vI v3), some (vI (x4 + 1)), some (vI v3)] [] (I10, z))))))))))) ∧ (x5 < x2 → (cm_i (160 * x3) ∧ (cm_i ((160 * x3) + x5) ∧ ((0:Int) ≤ x1 ∧ x1 < 16) ∧ (cm_i (x2 * x4) ∧ (cm_i ((I 229 x1) + (x2 * x4)) ∧ (cm_i (((I 229 x1) + (x2 * x4)) + x5) ∧ ((0:Int) ≤ (((I 229 x1) + (x2 * x4)) + x5) ∧ (((I 229 x1) + (x2 * x4)) + x5) < 72000) ∧ ((0:Int) ≤ ((160 * x3) + x5) ∧ ((160 * x3) + x5) < 137600) ∧ (∀ I20 : cm_I, I20 = iu I 226 ((160 * x3) + x5) (I 230 (((I 229 x1) + (x2 * x4)) + x5)) → (cm_i (x5 + 1) ∧ cw d cd_Model_laysSecondary Q 62 [some (vR 12 209), some (vI x1), some (vI x2), some (vI x3), some (vI x4), some (vI (x5 + 1))] [] (I20, z))))))))))) : cw d cd_Model_laysSecondary Q 62 [some (vR 12 209), some (vI x1), some (vI x2), some (vI x3), some (vI x4), some (vI x5)] [] (I, z) := by
  refine w_iload rfl rfl ?_
  refine w_iload rfl rfl ?_
  refine w_icmp rfl (And.intro (fun hc => ?_) (fun hc => ?_))
  · replace H := H.1 hc
    refine w_aload rfl rfl ?_
    refine w_iload rfl rfl ?_
    refine w_iconst rfl ⟨by decide, by decide⟩ ?_
    have o1 := H.1
    replace H := H.2
    refine w_iadd rfl o1 ?_
    refine w_iload rfl rfl ?_
    refine m_callI rfl (fun _ => rfl) rfl (mI_mono H fun v3 I2 H => ?_)
    refine w_istore rfl rfl ?_
    refine w_iload rfl rfl ?_
    refine w_iload rfl rfl ?_
    refine w_icmp rfl (And.intro (fun hc => ?_) (fun hc => ?_))
    · replace H := H.1 hc
      have o4 := H.1
      replace H := H.2
      refine w_iinc rfl rfl rfl o4 ?_
      refine w_goto rfl ?_
      exact H
    · replace H := H.2 hc
      refine w_aload rfl rfl ?_
      refine m_getR 51 20 239 hz rfl rfl rfl rfl rfl rfl (by decide) ?_
      refine w_aload rfl rfl ?_
      refine m_getI 50 rfl rfl rfl (by decide) ?_
      refine w_iload rfl rfl ?_
      have o5 := H.1
      replace H := H.2
      refine m_iastore hz (by unfold mA; decide) rfl o5 (fun I6 eI6 => ?_)
      replace H := H I6 eI6
      refine w_aload rfl rfl ?_
      refine m_getR 52 20 240 hz rfl rfl rfl rfl rfl rfl (by decide) ?_
      refine w_aload rfl rfl ?_
      refine m_getI 50 rfl rfl rfl (by decide) ?_
      refine w_iload rfl rfl ?_
      have o7 := H.1
      replace H := H.2
      refine m_iastore hz (by unfold mA; decide) rfl o7 (fun I8 eI8 => ?_)
      replace H := H I8 eI8
      refine w_aload rfl rfl ?_
      refine w_dup rfl rfl ?_
      refine m_getI 50 rfl rfl rfl (by decide) ?_
      refine w_iconst rfl ⟨by decide, by decide⟩ ?_
      have o9 := H.1
      replace H := H.2
      refine w_iadd rfl o9 ?_
      refine m_putI 50 rfl rfl rfl (by decide) (fun I10 eI10 => ?_)
      replace H := H I10 eI10
      refine w_iload rfl rfl ?_
      refine w_istore rfl rfl ?_
      have o11 := H.1
      replace H := H.2
      refine w_iinc rfl rfl rfl o11 ?_
      refine w_goto rfl ?_
      exact H
  · replace H := H.2 hc
    refine w_aload rfl rfl ?_
    refine m_getR 32 20 226 hz rfl rfl rfl rfl rfl rfl (by decide) ?_
    refine w_iconst rfl ⟨by decide, by decide⟩ ?_
    refine w_iload rfl rfl ?_
    have o12 := H.1
    replace H := H.2
    refine w_imul rfl o12 ?_
    refine w_iload rfl rfl ?_
    have o13 := H.1
    replace H := H.2
    refine w_iadd rfl o13 ?_
    refine w_aload rfl rfl ?_
    refine m_getR 36 20 230 hz rfl rfl rfl rfl rfl rfl (by decide) ?_
    refine w_aload rfl rfl ?_
    refine m_getR 35 20 229 hz rfl rfl rfl rfl rfl rfl (by decide) ?_
    refine w_iload rfl rfl ?_
    have o14 := H.1
    replace H := H.2
    refine m_iaload hz (by unfold mA; decide) rfl o14 ?_
    refine w_iload rfl rfl ?_
    refine w_iload rfl rfl ?_
    have o15 := H.1
    replace H := H.2
    refine w_imul rfl o15 ?_
    have o16 := H.1
    replace H := H.2
    refine w_iadd rfl o16 ?_
    refine w_iload rfl rfl ?_
    have o17 := H.1
    replace H := H.2
    refine w_iadd rfl o17 ?_
    have o18 := H.1
    replace H := H.2
    refine m_iaload hz (by unfold mA; decide) rfl o18 ?_
    have o19 := H.1
    replace H := H.2
    refine m_iastore hz (by unfold mA; decide) rfl o19 (fun I20 eI20 => ?_)
    replace H := H I20 eI20
    have o21 := H.1
    replace H := H.2
    refine w_iinc rfl rfl rfl o21 ?_
    refine w_goto rfl ?_
    exact H
set_option maxHeartbeats 4000000 in
set_option maxRecDepth 100000 in
theorem mr_laysSecondary {d : Nat} {Q : cm_Q} {z : cm_Z} {I : cm_I} (hz : mz z)   (H : (mU d m_Model_laysBases [vR 12 209, vI 15] z I fun I1 => (∀ I2 : cm_I, I2 = iu I1 209 50 0 → cw d cd_Model_laysSecondary Q 13 [some (vR 12 209), some (vI 0), none, none, none, none] [] (I2, z)))) : cm_call (d + 1) m_Model_laysSecondary [vR 12 209] (I, z) Q := by
  refine cm_call_in (C := cd_Model_laysSecondary) (ls := [some (vR 12 209), none, none, none, none, none]) rfl rfl (show 0 < 209 by decide) rfl ?_
  refine w_aload rfl rfl ?_
  refine w_iconst rfl ⟨by decide, by decide⟩ ?_
  refine m_callU rfl (fun _ => rfl) rfl (mU_mono H fun I1 H => ?_)
  refine w_aload rfl rfl ?_
  refine w_iconst rfl ⟨by decide, by decide⟩ ?_
  refine m_putI 50 rfl rfl rfl (by decide) (fun I2 eI2 => ?_)
  replace H := H I2 eI2
  refine w_iconst rfl ⟨by decide, by decide⟩ ?_
  refine w_istore rfl rfl ?_
  exact H
set_option maxHeartbeats 4000000 in
set_option maxRecDepth 100000 in
theorem mr_secondaries {d : Nat} {Q : cm_Q} {z : cm_Z} {I : cm_I} (hz : mz z)   (H : (∀ I1 : cm_I, I1 = iu I 209 0 0 → (mU d m_Model_laysPrimary [vR 12 209] z I1 fun I2 => (((I2 209 42) = 0 → Q (some (vI (-1))) (I2, z)) ∧ (¬ (I2 209 42) = 0 → Q (some (vI (I2 209 50))) (I2, z)))))) : cm_call (d + 1) m_Model_secondaries [vR 12 209] (I, z) Q := by
  refine cm_call_in (C := cd_Model_secondaries) (ls := [some (vR 12 209)]) rfl rfl (show 0 < 209 by decide) rfl ?_
  refine w_aload rfl rfl ?_
  refine w_iconst rfl ⟨by decide, by decide⟩ ?_
  refine m_putI 0 rfl rfl rfl (by decide) (fun I1 eI1 => ?_)
  replace H := H I1 eI1
  refine w_aload rfl rfl ?_
  refine m_callU rfl (fun _ => rfl) rfl (mU_mono H fun I2 H => ?_)
  refine w_aload rfl rfl ?_
  refine m_getI 42 rfl rfl rfl (by decide) ?_
  refine w_if rfl (And.intro (fun hc => ?_) (fun hc => ?_))
  · replace H := H.1 hc
    refine w_iconst rfl ⟨by decide, by decide⟩ ?_
    exact w_ireturn rfl H
  · replace H := H.2 hc
    refine w_aload rfl rfl ?_
    refine m_getI 50 rfl rfl rfl (by decide) ?_
    refine w_goto rfl ?_
    exact w_ireturn rfl H
set_option maxHeartbeats 4000000 in
set_option maxRecDepth 100000 in
theorem mr_secondary {d : Nat} {Q : cm_Q} {z : cm_Z} {I : cm_I} (hz : mz z) {x1 : Int} {x2 : Int}  (H : (∀ I1 : cm_I, I1 = iu I 209 0 0 → (mU d m_Model_laysPrimary [vR 12 209] z I1 fun I2 => (((I2 209 42) = 0 → Q (some (vI (-1))) (I2, z)) ∧ (¬ (I2 209 42) = 0 → (cm_i ((I2 209 50) - 1) ∧ (mI d m_Model_within [vI x1, vI 0, vI ((I2 209 50) - 1)] z I2 fun v5 I4 => ((v5 = 0 → Q (some (vI (-1))) (I4, z)) ∧ (¬ v5 = 0 → (mI d m_Model_within [vI x2, vI 0, vI 1] z I4 fun v7 I6 => ((¬ v7 = 0 → ((¬ x2 = 0 → ((0:Int) ≤ x1 ∧ x1 < 220) ∧ Q (some (vI (I6 240 x1))) (I6, z)) ∧ (x2 = 0 → ((0:Int) ≤ x1 ∧ x1 < 220) ∧ Q (some (vI (I6 239 x1))) (I6, z)))) ∧ (v7 = 0 → Q (some (vI (-1))) (I6, z))))))))))))) : cm_call (d + 1) m_Model_secondary [vR 12 209, vI x1, vI x2] (I, z) Q := by
  refine cm_call_in (C := cd_Model_secondary) (ls := [some (vR 12 209), some (vI x1), some (vI x2)]) rfl rfl (show 0 < 209 by decide) rfl ?_
  refine w_aload rfl rfl ?_
  refine w_iconst rfl ⟨by decide, by decide⟩ ?_
  refine m_putI 0 rfl rfl rfl (by decide) (fun I1 eI1 => ?_)
  replace H := H I1 eI1
  refine w_aload rfl rfl ?_
  refine m_callU rfl (fun _ => rfl) rfl (mU_mono H fun I2 H => ?_)
  refine w_aload rfl rfl ?_
  refine m_getI 42 rfl rfl rfl (by decide) ?_
  refine w_if rfl (And.intro (fun hc => ?_) (fun hc => ?_))
  · replace H := H.1 hc
    refine w_iconst rfl ⟨by decide, by decide⟩ ?_
    exact w_ireturn rfl H
  · replace H := H.2 hc
    refine w_iload rfl rfl ?_
    refine w_iconst rfl ⟨by decide, by decide⟩ ?_
    refine w_aload rfl rfl ?_
    refine m_getI 50 rfl rfl rfl (by decide) ?_
    refine w_iconst rfl ⟨by decide, by decide⟩ ?_
    have o3 := H.1
    replace H := H.2
    refine w_isub rfl o3 ?_
    refine m_callI rfl (fun _ => rfl) rfl (mI_mono H fun v5 I4 H => ?_)
    refine w_if rfl (And.intro (fun hc => ?_) (fun hc => ?_))
    · replace H := H.1 hc
      refine w_iconst rfl ⟨by decide, by decide⟩ ?_
      exact w_ireturn rfl H
    · replace H := H.2 hc
      refine w_iload rfl rfl ?_
      refine w_iconst rfl ⟨by decide, by decide⟩ ?_
      refine w_iconst rfl ⟨by decide, by decide⟩ ?_
      refine m_callI rfl (fun _ => rfl) rfl (mI_mono H fun v7 I6 H => ?_)
      refine w_if rfl (And.intro (fun hc => ?_) (fun hc => ?_))
      · replace H := H.1 hc
        refine w_iload rfl rfl ?_
        refine w_if rfl (And.intro (fun hc => ?_) (fun hc => ?_))
        · replace H := H.1 hc
          refine w_aload rfl rfl ?_
          refine m_getR 52 20 240 hz rfl rfl rfl rfl rfl rfl (by decide) ?_
          refine w_iload rfl rfl ?_
          have o8 := H.1
          replace H := H.2
          refine m_iaload hz (by unfold mA; decide) rfl o8 ?_
          exact w_ireturn rfl H
        · replace H := H.2 hc
          refine w_aload rfl rfl ?_
          refine m_getR 51 20 239 hz rfl rfl rfl rfl rfl rfl (by decide) ?_
          refine w_iload rfl rfl ?_
          have o9 := H.1
          replace H := H.2
          refine m_iaload hz (by unfold mA; decide) rfl o9 ?_
          refine w_goto rfl ?_
          exact w_ireturn rfl H
      · replace H := H.2 hc
        refine w_iconst rfl ⟨by decide, by decide⟩ ?_
        exact w_ireturn rfl H
set_option maxHeartbeats 4000000 in
set_option maxRecDepth 100000 in
theorem mr_numerator_32 {d : Nat} {Q : cm_Q} {z : cm_Z} {I : cm_I} (hz : mz z) {x1 : Int} {x2 : Int} {x3 : Int}  (H : (((I 209 50) ≤ x3 → Q (some (vI x2)) (I, z)) ∧ (x3 < (I 209 50) → ((0:Int) ≤ x3 ∧ x3 < 220) ∧ ((¬ (I 239 x3) = x1 → (cm_i (x2 + 0) ∧ (cm_i (x3 + 1) ∧ cw d cd_Model_numerator Q 32 [some (vR 12 209), some (vI x1), some (vI (x2 + 0)), some (vI (x3 + 1))] [] (I, z)))) ∧ ((I 239 x3) = x1 → (cm_i (x2 + 1) ∧ (cm_i (x3 + 1) ∧ cw d cd_Model_numerator Q 32 [some (vR 12 209), some (vI x1), some (vI (x2 + 1)), some (vI (x3 + 1))] [] (I, z)))))))) : cw d cd_Model_numerator Q 32 [some (vR 12 209), some (vI x1), some (vI x2), some (vI x3)] [] (I, z) := by
  refine w_iload rfl rfl ?_
  refine w_aload rfl rfl ?_
  refine m_getI 50 rfl rfl rfl (by decide) ?_
  refine w_icmp rfl (And.intro (fun hc => ?_) (fun hc => ?_))
  · replace H := H.1 hc
    refine w_iload rfl rfl ?_
    exact w_ireturn rfl H
  · replace H := H.2 hc
    refine w_iload rfl rfl ?_
    refine w_aload rfl rfl ?_
    refine m_getR 51 20 239 hz rfl rfl rfl rfl rfl rfl (by decide) ?_
    refine w_iload rfl rfl ?_
    have o1 := H.1
    replace H := H.2
    refine m_iaload hz (by unfold mA; decide) rfl o1 ?_
    refine w_iload rfl rfl ?_
    refine w_icmp rfl (And.intro (fun hc => ?_) (fun hc => ?_))
    · replace H := H.1 hc
      refine w_iconst rfl ⟨by decide, by decide⟩ ?_
      have o2 := H.1
      replace H := H.2
      refine w_iadd rfl o2 ?_
      refine w_istore rfl rfl ?_
      have o3 := H.1
      replace H := H.2
      refine w_iinc rfl rfl rfl o3 ?_
      refine w_goto rfl ?_
      exact H
    · replace H := H.2 hc
      refine w_iconst rfl ⟨by decide, by decide⟩ ?_
      refine w_goto rfl ?_
      have o4 := H.1
      replace H := H.2
      refine w_iadd rfl o4 ?_
      refine w_istore rfl rfl ?_
      have o5 := H.1
      replace H := H.2
      refine w_iinc rfl rfl rfl o5 ?_
      refine w_goto rfl ?_
      exact H
set_option maxHeartbeats 4000000 in
set_option maxRecDepth 100000 in
theorem mr_numerator {d : Nat} {Q : cm_Q} {z : cm_Z} {I : cm_I} (hz : mz z) {x1 : Int}  (H : (∀ I1 : cm_I, I1 = iu I 209 0 0 → (mU d m_Model_laysPrimary [vR 12 209] z I1 fun I2 => (((I2 209 42) = 0 → Q (some (vI (-1))) (I2, z)) ∧ (¬ (I2 209 42) = 0 → (mI d m_Model_within [vI x1, vI 0, vI 15] z I2 fun v4 I3 => ((¬ v4 = 0 → cw d cd_Model_numerator Q 32 [some (vR 12 209), some (vI x1), some (vI 0), some (vI 0)] [] (I3, z)) ∧ (v4 = 0 → Q (some (vI (-1))) (I3, z))))))))) : cm_call (d + 1) m_Model_numerator [vR 12 209, vI x1] (I, z) Q := by
  refine cm_call_in (C := cd_Model_numerator) (ls := [some (vR 12 209), some (vI x1), none, none]) rfl rfl (show 0 < 209 by decide) rfl ?_
  refine w_aload rfl rfl ?_
  refine w_iconst rfl ⟨by decide, by decide⟩ ?_
  refine m_putI 0 rfl rfl rfl (by decide) (fun I1 eI1 => ?_)
  replace H := H I1 eI1
  refine w_aload rfl rfl ?_
  refine m_callU rfl (fun _ => rfl) rfl (mU_mono H fun I2 H => ?_)
  refine w_aload rfl rfl ?_
  refine m_getI 42 rfl rfl rfl (by decide) ?_
  refine w_if rfl (And.intro (fun hc => ?_) (fun hc => ?_))
  · replace H := H.1 hc
    refine w_iconst rfl ⟨by decide, by decide⟩ ?_
    exact w_ireturn rfl H
  · replace H := H.2 hc
    refine w_iload rfl rfl ?_
    refine w_iconst rfl ⟨by decide, by decide⟩ ?_
    refine w_iconst rfl ⟨by decide, by decide⟩ ?_
    refine m_callI rfl (fun _ => rfl) rfl (mI_mono H fun v4 I3 H => ?_)
    refine w_if rfl (And.intro (fun hc => ?_) (fun hc => ?_))
    · replace H := H.1 hc
      refine w_iconst rfl ⟨by decide, by decide⟩ ?_
      refine w_istore rfl rfl ?_
      refine w_iconst rfl ⟨by decide, by decide⟩ ?_
      refine w_istore rfl rfl ?_
      exact H
    · replace H := H.2 hc
      refine w_iconst rfl ⟨by decide, by decide⟩ ?_
      exact w_ireturn rfl H
set_option maxHeartbeats 4000000 in
set_option maxRecDepth 100000 in
theorem mr_solves_15 {d : Nat} {Q : cm_Q} {z : cm_Z} {I : cm_I} (hz : mz z) {a1 : Nat} {x2 : Int} {x3 : Int} {x4 : Int} {z5 : Option cm_V} {z6 : Option cm_V}  (H : ((x3 < x4 → Q none (I, z)) ∧ (x4 ≤ x3 → (mI d m_Model_from [vR 12 209, vI x4] z I fun v2 I1 => cw d cd_Model_solves Q 32 [some (vR 12 209), some (vR 20 a1), some (vI x2), some (vI x3), some (vI x4), some (vI 0), some (vI v2)] [] (I1, z))))) : cw d cd_Model_solves Q 15 [some (vR 12 209), some (vR 20 a1), some (vI x2), some (vI x3), some (vI x4), z5, z6] [] (I, z) := by
  refine w_iload rfl rfl ?_
  refine w_iload rfl rfl ?_
  refine w_icmp rfl (And.intro (fun hc => ?_) (fun hc => ?_))
  · replace H := H.1 hc
    exact w_return rfl H
  · replace H := H.2 hc
    refine w_iconst rfl ⟨by decide, by decide⟩ ?_
    refine w_istore rfl rfl ?_
    refine w_aload rfl rfl ?_
    refine w_iload rfl rfl ?_
    refine m_callI rfl (fun _ => rfl) rfl (mI_mono H fun v2 I1 H => ?_)
    refine w_istore rfl rfl ?_
    exact H
set_option maxHeartbeats 4000000 in
set_option maxRecDepth 100000 in
theorem mr_solves_32 {d : Nat} {Q : cm_Q} {z : cm_Z} {I : cm_I} (hz : mz z) {a1 : Nat} {x2 : Int} {x3 : Int} {x4 : Int} {x5 : Int} {x6 : Int} (p_a1 : mA a1) (H : (cm_i (x4 + 1) ∧ (mI d m_Model_from [vR 12 209, vI (x4 + 1)] z I fun v3 I2 => ((v3 ≤ x6 → ((x5 = 0 → cw d cd_Model_solves Q 15 [some (vR 12 209), some (vR 20 a1), some (vI x2), some (vI x3), some (vI (x4 + 1)), some (vI x5), some (vI x6)] [] (I2, z)) ∧ (¬ x5 = 0 → (mU d m_Model_solvesDegree [vR 12 209, vR 20 a1, vI x2, vI x4] z I2 fun I4 => cw d cd_Model_solves Q 15 [some (vR 12 209), some (vR 20 a1), some (vI x2), some (vI x3), some (vI (x4 + 1)), some (vI x5), some (vI x6)] [] (I4, z))))) ∧ (x6 < v3 → ((¬ x5 = 0 → (cm_i (x6 + 1) ∧ cw d cd_Model_solves Q 32 [some (vR 12 209), some (vR 20 a1), some (vI x2), some (vI x3), some (vI x4), some (vI 1), some (vI (x6 + 1))] [] (I2, z))) ∧ (x5 = 0 → (cm_i (x2 + x6) ∧ ((0:Int) ≤ (x2 + x6) ∧ (x2 + x6) < mLen a1) ∧ (((I2 a1 (x2 + x6)) = 0 → (cm_i (x6 + 1) ∧ cw d cd_Model_solves Q 32 [some (vR 12 209), some (vR 20 a1), some (vI x2), some (vI x3), some (vI x4), some (vI 0), some (vI (x6 + 1))] [] (I2, z))) ∧ (¬ (I2 a1 (x2 + x6)) = 0 → (cm_i (x6 + 1) ∧ cw d cd_Model_solves Q 32 [some (vR 12 209), some (vR 20 a1), some (vI x2), some (vI x3), some (vI x4), some (vI 1), some (vI (x6 + 1))] [] (I2, z)))))))))))) : cw d cd_Model_solves Q 32 [some (vR 12 209), some (vR 20 a1), some (vI x2), some (vI x3), some (vI x4), some (vI x5), some (vI x6)] [] (I, z) := by
  refine w_iload rfl rfl ?_
  refine w_aload rfl rfl ?_
  refine w_iload rfl rfl ?_
  refine w_iconst rfl ⟨by decide, by decide⟩ ?_
  have o1 := H.1
  replace H := H.2
  refine w_iadd rfl o1 ?_
  refine m_callI rfl (fun _ => rfl) rfl (mI_mono H fun v3 I2 H => ?_)
  refine w_icmp rfl (And.intro (fun hc => ?_) (fun hc => ?_))
  · replace H := H.1 hc
    refine w_iload rfl rfl ?_
    refine w_if rfl (And.intro (fun hc => ?_) (fun hc => ?_))
    · replace H := H.1 hc
      refine w_iinc rfl rfl rfl o1 ?_
      refine w_goto rfl ?_
      exact H
    · replace H := H.2 hc
      refine w_aload rfl rfl ?_
      refine w_aload rfl rfl ?_
      refine w_iload rfl rfl ?_
      refine w_iload rfl rfl ?_
      refine m_callU rfl (fun _ => rfl) rfl (mU_mono H fun I4 H => ?_)
      refine w_iinc rfl rfl rfl o1 ?_
      refine w_goto rfl ?_
      exact H
  · replace H := H.2 hc
    refine w_iload rfl rfl ?_
    refine w_if rfl (And.intro (fun hc => ?_) (fun hc => ?_))
    · replace H := H.1 hc
      refine w_iconst rfl ⟨by decide, by decide⟩ ?_
      refine w_goto rfl ?_
      refine w_istore rfl rfl ?_
      have o5 := H.1
      replace H := H.2
      refine w_iinc rfl rfl rfl o5 ?_
      refine w_goto rfl ?_
      exact H
    · replace H := H.2 hc
      refine w_aload rfl rfl ?_
      refine w_iload rfl rfl ?_
      refine w_iload rfl rfl ?_
      have o6 := H.1
      replace H := H.2
      refine w_iadd rfl o6 ?_
      have o7 := H.1
      replace H := H.2
      refine m_iaload hz p_a1 rfl o7 ?_
      refine w_if rfl (And.intro (fun hc => ?_) (fun hc => ?_))
      · replace H := H.1 hc
        refine w_iconst rfl ⟨by decide, by decide⟩ ?_
        refine w_istore rfl rfl ?_
        have o8 := H.1
        replace H := H.2
        refine w_iinc rfl rfl rfl o8 ?_
        refine w_goto rfl ?_
        exact H
      · replace H := H.2 hc
        refine w_iconst rfl ⟨by decide, by decide⟩ ?_
        refine w_goto rfl ?_
        refine w_istore rfl rfl ?_
        have o9 := H.1
        replace H := H.2
        refine w_iinc rfl rfl rfl o9 ?_
        refine w_goto rfl ?_
        exact H
set_option maxHeartbeats 4000000 in
set_option maxRecDepth 100000 in
theorem mr_solves {d : Nat} {Q : cm_Q} {z : cm_Z} {I : cm_I} (hz : mz z) {a1 : Nat} {x2 : Int}  (H : (∀ I1 : cm_I, I1 = iu I 209 60 0 → (mI d m_Model_degree [vR 12 209, vR 20 a1, vI x2] z I1 fun v3 I2 => cw d cd_Model_solves Q 15 [some (vR 12 209), some (vR 20 a1), some (vI x2), some (vI v3), some (vI 0), none, none] [] (I2, z)))) : cm_call (d + 1) m_Model_solves [vR 12 209, vR 20 a1, vI x2] (I, z) Q := by
  refine cm_call_in (C := cd_Model_solves) (ls := [some (vR 12 209), some (vR 20 a1), some (vI x2), none, none, none, none]) rfl rfl (show 0 < 209 by decide) rfl ?_
  refine w_aload rfl rfl ?_
  refine w_iconst rfl ⟨by decide, by decide⟩ ?_
  refine m_putI 60 rfl rfl rfl (by decide) (fun I1 eI1 => ?_)
  replace H := H I1 eI1
  refine w_aload rfl rfl ?_
  refine w_aload rfl rfl ?_
  refine w_iload rfl rfl ?_
  refine m_callI rfl (fun _ => rfl) rfl (mI_mono H fun v3 I2 H => ?_)
  refine w_istore rfl rfl ?_
  refine w_iconst rfl ⟨by decide, by decide⟩ ?_
  refine w_istore rfl rfl ?_
  exact H
set_option maxHeartbeats 4000000 in
set_option maxRecDepth 100000 in
theorem mr_solvesDegree_15 {d : Nat} {Q : cm_Q} {z : cm_Z} {I : cm_I} (hz : mz z) {a1 : Nat} {x2 : Int} {x3 : Int} {x4 : Int} {x5 : Int} {z6 : Option cm_V} {z7 : Option cm_V} {z8 : Option cm_V} {z9 : Option cm_V}  (H : (((I 209 53) ≤ x5 → cw d cd_Model_solvesDegree Q 76 [some (vR 12 209), some (vR 20 a1), some (vI x2), some (vI x3), some (vI x4), some (vI 0), z6, z7, z8, z9] [] (I, z)) ∧ (x5 < (I 209 53) → cw d cd_Model_solvesDegree Q 27 [some (vR 12 209), some (vR 20 a1), some (vI x2), some (vI x3), some (vI x4), some (vI x5), some (vI 0), z7, z8, z9] [] (I, z)))) : cw d cd_Model_solvesDegree Q 15 [some (vR 12 209), some (vR 20 a1), some (vI x2), some (vI x3), some (vI x4), some (vI x5), z6, z7, z8, z9] [] (I, z) := by
  refine w_iload rfl rfl ?_
  refine w_aload rfl rfl ?_
  refine m_getI 53 rfl rfl rfl (by decide) ?_
  refine w_icmp rfl (And.intro (fun hc => ?_) (fun hc => ?_))
  · replace H := H.1 hc
    refine w_iconst rfl ⟨by decide, by decide⟩ ?_
    refine w_istore rfl rfl ?_
    exact H
  · replace H := H.2 hc
    refine w_iconst rfl ⟨by decide, by decide⟩ ?_
    refine w_istore rfl rfl ?_
    exact H
set_option maxHeartbeats 4000000 in
set_option maxRecDepth 100000 in
theorem mr_solvesDegree_27 {d : Nat} {Q : cm_Q} {z : cm_Z} {I : cm_I} (hz : mz z) {a1 : Nat} {x2 : Int} {x3 : Int} {x4 : Int} {x5 : Int} {x6 : Int} {z7 : Option cm_V} {z8 : Option cm_V} {z9 : Option cm_V}  (H : ((x4 ≤ x6 → (cm_i (x5 + 1) ∧ cw d cd_Model_solvesDegree Q 15 [some (vR 12 209), some (vR 20 a1), some (vI x2), some (vI x3), some (vI x4), some (vI (x5 + 1)), some (vI x6), z7, z8, z9] [] (I, z))) ∧ (x6 < x4 → (cm_i (x4 * x5) ∧ (cm_i ((x4 * x5) + x6) ∧ (cm_i (160 * x5) ∧ (cm_i ((160 * x5) + x6) ∧ ((0:Int) ≤ ((160 * x5) + x6) ∧ ((160 * x5) + x6) < 137600) ∧ ((0:Int) ≤ ((x4 * x5) + x6) ∧ ((x4 * x5) + x6) < 21760) ∧ (∀ I8 : cm_I, I8 = iu I 247 ((x4 * x5) + x6) (I 226 ((160 * x5) + x6)) → (cm_i (x6 + 1) ∧ cw d cd_Model_solvesDegree Q 27 [some (vR 12 209), some (vR 20 a1), some (vI x2), some (vI x3), some (vI x4), some (vI x5), some (vI (x6 + 1)), z7, z8, z9] [] (I8, z)))))))))) : cw d cd_Model_solvesDegree Q 27 [some (vR 12 209), some (vR 20 a1), some (vI x2), some (vI x3), some (vI x4), some (vI x5), some (vI x6), z7, z8, z9] [] (I, z) := by
  refine w_iload rfl rfl ?_
  refine w_iload rfl rfl ?_
  refine w_icmp rfl (And.intro (fun hc => ?_) (fun hc => ?_))
  · replace H := H.1 hc
    have o1 := H.1
    replace H := H.2
    refine w_iinc rfl rfl rfl o1 ?_
    refine w_goto rfl ?_
    exact H
  · replace H := H.2 hc
    refine w_aload rfl rfl ?_
    refine m_getR 62 20 247 hz rfl rfl rfl rfl rfl rfl (by decide) ?_
    refine w_iload rfl rfl ?_
    refine w_iload rfl rfl ?_
    have o2 := H.1
    replace H := H.2
    refine w_imul rfl o2 ?_
    refine w_iload rfl rfl ?_
    have o3 := H.1
    replace H := H.2
    refine w_iadd rfl o3 ?_
    refine w_aload rfl rfl ?_
    refine m_getR 32 20 226 hz rfl rfl rfl rfl rfl rfl (by decide) ?_
    refine w_iconst rfl ⟨by decide, by decide⟩ ?_
    refine w_iload rfl rfl ?_
    have o4 := H.1
    replace H := H.2
    refine w_imul rfl o4 ?_
    refine w_iload rfl rfl ?_
    have o5 := H.1
    replace H := H.2
    refine w_iadd rfl o5 ?_
    have o6 := H.1
    replace H := H.2
    refine m_iaload hz (by unfold mA; decide) rfl o6 ?_
    have o7 := H.1
    replace H := H.2
    refine m_iastore hz (by unfold mA; decide) rfl o7 (fun I8 eI8 => ?_)
    replace H := H I8 eI8
    have o9 := H.1
    replace H := H.2
    refine w_iinc rfl rfl rfl o9 ?_
    refine w_goto rfl ?_
    exact H
set_option maxHeartbeats 4000000 in
set_option maxRecDepth 100000 in
theorem mr_solvesDegree_76 {d : Nat} {Q : cm_Q} {z : cm_Z} {I : cm_I} (hz : mz z) {a1 : Nat} {x2 : Int} {x3 : Int} {x4 : Int} {x5 : Int} {z6 : Option cm_V} {z7 : Option cm_V} {z8 : Option cm_V} {z9 : Option cm_V}  (H : ((x4 ≤ x5 → (mI d m_Model_steps [vR 12 209, vI x4, vI (I 209 53)] z I fun v2 I1 => cw d cd_Model_solvesDegree Q 183 [some (vR 12 209), some (vR 20 a1), some (vI x2), some (vI x3), some (vI x4), some (vI v2), some (vI 0), z7, z8, z9] [] (I1, z))) ∧ (x5 < x4 → (mU d m_Model_clearsRow [vR 12 209, vI x5] z I fun I3 => cw d cd_Model_solvesDegree Q 92 [some (vR 12 209), some (vR 20 a1), some (vI x2), some (vI x3), some (vI x4), some (vI x5), some (vI 0), z7, z8, z9] [] (I3, z))))) : cw d cd_Model_solvesDegree Q 76 [some (vR 12 209), some (vR 20 a1), some (vI x2), some (vI x3), some (vI x4), some (vI x5), z6, z7, z8, z9] [] (I, z) := by
  refine w_iload rfl rfl ?_
  refine w_iload rfl rfl ?_
  refine w_icmp rfl (And.intro (fun hc => ?_) (fun hc => ?_))
  · replace H := H.1 hc
    refine w_aload rfl rfl ?_
    refine w_iload rfl rfl ?_
    refine w_aload rfl rfl ?_
    refine m_getI 53 rfl rfl rfl (by decide) ?_
    refine m_callI rfl (fun _ => rfl) rfl (mI_mono H fun v2 I1 H => ?_)
    refine w_istore rfl rfl ?_
    refine w_iconst rfl ⟨by decide, by decide⟩ ?_
    refine w_istore rfl rfl ?_
    exact H
  · replace H := H.2 hc
    refine w_aload rfl rfl ?_
    refine w_iload rfl rfl ?_
    refine m_callU rfl (fun _ => rfl) rfl (mU_mono H fun I3 H => ?_)
    refine w_iconst rfl ⟨by decide, by decide⟩ ?_
    refine w_istore rfl rfl ?_
    exact H
set_option maxHeartbeats 4000000 in
set_option maxRecDepth 100000 in
theorem mr_solvesDegree_92 {d : Nat} {Q : cm_Q} {z : cm_Z} {I : cm_I} (hz : mz z) {a1 : Nat} {x2 : Int} {x3 : Int} {x4 : Int} {x5 : Int} {x6 : Int} {z7 : Option cm_V} {z8 : Option cm_V} {z9 : Option cm_V} (p_a1 : mA a1) (H : (((I 209 53) ≤ x6 → (cm_i (160 * x5) ∧ (cm_i ((160 * x5) + (I 209 53)) ∧ (mI d m_Model_from [vR 12 209, vI x3] z I fun v4 I3 => (cm_i (x2 + v4) ∧ (cm_i ((x2 + v4) + x5) ∧ ((0:Int) ≤ ((x2 + v4) + x5) ∧ ((x2 + v4) + x5) < mLen a1) ∧ ((0:Int) ≤ ((160 * x5) + (I 209 53)) ∧ ((160 * x5) + (I 209 53)) < 137600) ∧ (∀ I9 : cm_I, I9 = iu I3 226 ((160 * x5) + (I 209 53)) (I3 a1 ((x2 + v4) + x5)) → (cm_i (x5 + 1) ∧ cw d cd_Model_solvesDegree Q 76 [some (vR 12 209), some (vR 20 a1), some (vI x2), some (vI x3), some (vI x4), some (vI (x5 + 1)), some (vI x6), z7, z8, z9] [] (I9, z))))))))) ∧ (x6 < (I 209 53) → (cm_i (160 * x5) ∧ (cm_i ((160 * x5) + x6) ∧ (cm_i (x4 * x6) ∧ (cm_i ((x4 * x6) + x5) ∧ ((0:Int) ≤ ((x4 * x6) + x5) ∧ ((x4 * x6) + x5) < 21760) ∧ ((0:Int) ≤ ((160 * x5) + x6) ∧ ((160 * x5) + x6) < 137600) ∧ (∀ I17 : cm_I, I17 = iu I 226 ((160 * x5) + x6) (I 247 ((x4 * x6) + x5)) → (cm_i (x6 + 1) ∧ cw d cd_Model_solvesDegree Q 92 [some (vR 12 209), some (vR 20 a1), some (vI x2), some (vI x3), some (vI x4), some (vI x5), some (vI (x6 + 1)), z7, z8, z9] [] (I17, z)))))))))) : cw d cd_Model_solvesDegree Q 92 [some (vR 12 209), some (vR 20 a1), some (vI x2), some (vI x3), some (vI x4), some (vI x5), some (vI x6), z7, z8, z9] [] (I, z) := by
  refine w_iload rfl rfl ?_
  refine w_aload rfl rfl ?_
  refine m_getI 53 rfl rfl rfl (by decide) ?_
  refine w_icmp rfl (And.intro (fun hc => ?_) (fun hc => ?_))
  · replace H := H.1 hc
    refine w_aload rfl rfl ?_
    refine m_getR 32 20 226 hz rfl rfl rfl rfl rfl rfl (by decide) ?_
    refine w_iconst rfl ⟨by decide, by decide⟩ ?_
    refine w_iload rfl rfl ?_
    have o1 := H.1
    replace H := H.2
    refine w_imul rfl o1 ?_
    refine w_aload rfl rfl ?_
    refine m_getI 53 rfl rfl rfl (by decide) ?_
    have o2 := H.1
    replace H := H.2
    refine w_iadd rfl o2 ?_
    refine w_aload rfl rfl ?_
    refine w_iload rfl rfl ?_
    refine w_aload rfl rfl ?_
    refine w_iload rfl rfl ?_
    refine m_callI rfl (fun _ => rfl) rfl (mI_mono H fun v4 I3 H => ?_)
    have o5 := H.1
    replace H := H.2
    refine w_iadd rfl o5 ?_
    refine w_iload rfl rfl ?_
    have o6 := H.1
    replace H := H.2
    refine w_iadd rfl o6 ?_
    have o7 := H.1
    replace H := H.2
    refine m_iaload hz p_a1 rfl o7 ?_
    have o8 := H.1
    replace H := H.2
    refine m_iastore hz (by unfold mA; decide) rfl o8 (fun I9 eI9 => ?_)
    replace H := H I9 eI9
    have o10 := H.1
    replace H := H.2
    refine w_iinc rfl rfl rfl o10 ?_
    refine w_goto rfl ?_
    exact H
  · replace H := H.2 hc
    refine w_aload rfl rfl ?_
    refine m_getR 32 20 226 hz rfl rfl rfl rfl rfl rfl (by decide) ?_
    refine w_iconst rfl ⟨by decide, by decide⟩ ?_
    refine w_iload rfl rfl ?_
    have o11 := H.1
    replace H := H.2
    refine w_imul rfl o11 ?_
    refine w_iload rfl rfl ?_
    have o12 := H.1
    replace H := H.2
    refine w_iadd rfl o12 ?_
    refine w_aload rfl rfl ?_
    refine m_getR 62 20 247 hz rfl rfl rfl rfl rfl rfl (by decide) ?_
    refine w_iload rfl rfl ?_
    refine w_iload rfl rfl ?_
    have o13 := H.1
    replace H := H.2
    refine w_imul rfl o13 ?_
    refine w_iload rfl rfl ?_
    have o14 := H.1
    replace H := H.2
    refine w_iadd rfl o14 ?_
    have o15 := H.1
    replace H := H.2
    refine m_iaload hz (by unfold mA; decide) rfl o15 ?_
    have o16 := H.1
    replace H := H.2
    refine m_iastore hz (by unfold mA; decide) rfl o16 (fun I17 eI17 => ?_)
    replace H := H I17 eI17
    have o18 := H.1
    replace H := H.2
    refine w_iinc rfl rfl rfl o18 ?_
    refine w_goto rfl ?_
    exact H
set_option maxHeartbeats 4000000 in
set_option maxRecDepth 100000 in
theorem mr_solvesDegree_183 {d : Nat} {Q : cm_Q} {z : cm_Z} {I : cm_I} (hz : mz z) {z1 : Option cm_V} {z2 : Option cm_V} {z3 : Option cm_V} {z4 : Option cm_V} {x5 : Int} {x6 : Int} {z7 : Option cm_V} {z8 : Option cm_V} {z9 : Option cm_V}  (H : ((x5 ≤ x6 → Q none (I, z)) ∧ (x6 < x5 → (cm_i (160 * x6) ∧ (cm_i ((160 * x6) + (I 209 53)) ∧ ((0:Int) ≤ ((160 * x6) + (I 209 53)) ∧ ((160 * x6) + (I 209 53)) < 137600) ∧ (((I 226 ((160 * x6) + (I 209 53))) = 0 → (cm_i (x6 + 1) ∧ cw d cd_Model_solvesDegree Q 183 [some (vR 12 209), z1, z2, z3, z4, some (vI x5), some (vI (x6 + 1)), some (vI (I 226 ((160 * x6) + (I 209 53)))), z8, z9] [] (I, z))) ∧ (¬ (I 226 ((160 * x6) + (I 209 53))) = 0 → ((0:Int) ≤ x6 ∧ x6 < 160) ∧ (cm_i (5 * (I 209 60)) ∧ ((0:Int) ≤ (I 227 x6) ∧ (I 227 x6) < 160) ∧ ((0:Int) ≤ (5 * (I 209 60)) ∧ (5 * (I 209 60)) < 4080) ∧ (∀ I9 : cm_I, I9 = iu I 246 (5 * (I 209 60)) (I 241 (I 227 x6)) → (cm_i ((5 * (I 209 60)) + 1) ∧ ((0:Int) ≤ ((5 * (I 209 60)) + 1) ∧ ((5 * (I 209 60)) + 1) < 4080) ∧ (∀ I12 : cm_I, I12 = iu I9 246 ((5 * (I 209 60)) + 1) (I9 242 (I 227 x6)) → (cm_i ((5 * (I 209 60)) + 2) ∧ ((0:Int) ≤ ((5 * (I 209 60)) + 2) ∧ ((5 * (I 209 60)) + 2) < 4080) ∧ (∀ I15 : cm_I, I15 = iu I12 246 ((5 * (I 209 60)) + 2) (I12 243 (I 227 x6)) → (cm_i ((5 * (I 209 60)) + 3) ∧ ((0:Int) ≤ ((5 * (I 209 60)) + 3) ∧ ((5 * (I 209 60)) + 3) < 4080) ∧ (∀ I18 : cm_I, I18 = iu I15 246 ((5 * (I 209 60)) + 3) (I15 244 (I 227 x6)) → (cm_i ((5 * (I 209 60)) + 4) ∧ ((0:Int) ≤ ((5 * (I 209 60)) + 4) ∧ ((5 * (I 209 60)) + 4) < 4080) ∧ (∀ I21 : cm_I, I21 = iu I18 246 ((5 * (I 209 60)) + 4) (I 226 ((160 * x6) + (I 209 53))) → (cm_i ((I21 209 60) + 1) ∧ (∀ I23 : cm_I, I23 = iu I21 209 60 ((I21 209 60) + 1) → (cm_i (x6 + 1) ∧ cw d cd_Model_solvesDegree Q 183 [some (vR 12 209), z1, z2, z3, z4, some (vI x5), some (vI (x6 + 1)), some (vI (I 226 ((160 * x6) + (I 209 53)))), some (vI (I 227 x6)), some (vI (5 * (I 209 60)))] [] (I23, z))))))))))))))))))))) : cw d cd_Model_solvesDegree Q 183 [some (vR 12 209), z1, z2, z3, z4, some (vI x5), some (vI x6), z7, z8, z9] [] (I, z) := by
  refine w_iload rfl rfl ?_
  refine w_iload rfl rfl ?_
  refine w_icmp rfl (And.intro (fun hc => ?_) (fun hc => ?_))
  · replace H := H.1 hc
    exact w_return rfl H
  · replace H := H.2 hc
    refine w_aload rfl rfl ?_
    refine m_getR 32 20 226 hz rfl rfl rfl rfl rfl rfl (by decide) ?_
    refine w_iconst rfl ⟨by decide, by decide⟩ ?_
    refine w_iload rfl rfl ?_
    have o1 := H.1
    replace H := H.2
    refine w_imul rfl o1 ?_
    refine w_aload rfl rfl ?_
    refine m_getI 53 rfl rfl rfl (by decide) ?_
    have o2 := H.1
    replace H := H.2
    refine w_iadd rfl o2 ?_
    have o3 := H.1
    replace H := H.2
    refine m_iaload hz (by unfold mA; decide) rfl o3 ?_
    refine w_istore rfl rfl ?_
    refine w_iload rfl rfl ?_
    refine w_if rfl (And.intro (fun hc => ?_) (fun hc => ?_))
    · replace H := H.1 hc
      have o4 := H.1
      replace H := H.2
      refine w_iinc rfl rfl rfl o4 ?_
      refine w_goto rfl ?_
      exact H
    · replace H := H.2 hc
      refine w_aload rfl rfl ?_
      refine m_getR 33 20 227 hz rfl rfl rfl rfl rfl rfl (by decide) ?_
      refine w_iload rfl rfl ?_
      have o5 := H.1
      replace H := H.2
      refine m_iaload hz (by unfold mA; decide) rfl o5 ?_
      refine w_istore rfl rfl ?_
      refine w_iconst rfl ⟨by decide, by decide⟩ ?_
      refine w_aload rfl rfl ?_
      refine m_getI 60 rfl rfl rfl (by decide) ?_
      have o6 := H.1
      replace H := H.2
      refine w_imul rfl o6 ?_
      refine w_istore rfl rfl ?_
      refine w_aload rfl rfl ?_
      refine m_getR 61 20 246 hz rfl rfl rfl rfl rfl rfl (by decide) ?_
      refine w_iload rfl rfl ?_
      refine w_aload rfl rfl ?_
      refine m_getR 54 20 241 hz rfl rfl rfl rfl rfl rfl (by decide) ?_
      refine w_iload rfl rfl ?_
      have o7 := H.1
      replace H := H.2
      refine m_iaload hz (by unfold mA; decide) rfl o7 ?_
      have o8 := H.1
      replace H := H.2
      refine m_iastore hz (by unfold mA; decide) rfl o8 (fun I9 eI9 => ?_)
      replace H := H I9 eI9
      refine w_aload rfl rfl ?_
      refine m_getR 61 20 246 hz rfl rfl rfl rfl rfl rfl (by decide) ?_
      refine w_iload rfl rfl ?_
      refine w_iconst rfl ⟨by decide, by decide⟩ ?_
      have o10 := H.1
      replace H := H.2
      refine w_iadd rfl o10 ?_
      refine w_aload rfl rfl ?_
      refine m_getR 55 20 242 hz rfl rfl rfl rfl rfl rfl (by decide) ?_
      refine w_iload rfl rfl ?_
      refine m_iaload hz (by unfold mA; decide) rfl o7 ?_
      have o11 := H.1
      replace H := H.2
      refine m_iastore hz (by unfold mA; decide) rfl o11 (fun I12 eI12 => ?_)
      replace H := H I12 eI12
      refine w_aload rfl rfl ?_
      refine m_getR 61 20 246 hz rfl rfl rfl rfl rfl rfl (by decide) ?_
      refine w_iload rfl rfl ?_
      refine w_iconst rfl ⟨by decide, by decide⟩ ?_
      have o13 := H.1
      replace H := H.2
      refine w_iadd rfl o13 ?_
      refine w_aload rfl rfl ?_
      refine m_getR 56 20 243 hz rfl rfl rfl rfl rfl rfl (by decide) ?_
      refine w_iload rfl rfl ?_
      refine m_iaload hz (by unfold mA; decide) rfl o7 ?_
      have o14 := H.1
      replace H := H.2
      refine m_iastore hz (by unfold mA; decide) rfl o14 (fun I15 eI15 => ?_)
      replace H := H I15 eI15
      refine w_aload rfl rfl ?_
      refine m_getR 61 20 246 hz rfl rfl rfl rfl rfl rfl (by decide) ?_
      refine w_iload rfl rfl ?_
      refine w_iconst rfl ⟨by decide, by decide⟩ ?_
      have o16 := H.1
      replace H := H.2
      refine w_iadd rfl o16 ?_
      refine w_aload rfl rfl ?_
      refine m_getR 57 20 244 hz rfl rfl rfl rfl rfl rfl (by decide) ?_
      refine w_iload rfl rfl ?_
      refine m_iaload hz (by unfold mA; decide) rfl o7 ?_
      have o17 := H.1
      replace H := H.2
      refine m_iastore hz (by unfold mA; decide) rfl o17 (fun I18 eI18 => ?_)
      replace H := H I18 eI18
      refine w_aload rfl rfl ?_
      refine m_getR 61 20 246 hz rfl rfl rfl rfl rfl rfl (by decide) ?_
      refine w_iload rfl rfl ?_
      refine w_iconst rfl ⟨by decide, by decide⟩ ?_
      have o19 := H.1
      replace H := H.2
      refine w_iadd rfl o19 ?_
      refine w_iload rfl rfl ?_
      have o20 := H.1
      replace H := H.2
      refine m_iastore hz (by unfold mA; decide) rfl o20 (fun I21 eI21 => ?_)
      replace H := H I21 eI21
      refine w_aload rfl rfl ?_
      refine w_dup rfl rfl ?_
      refine m_getI 60 rfl rfl rfl (by decide) ?_
      refine w_iconst rfl ⟨by decide, by decide⟩ ?_
      have o22 := H.1
      replace H := H.2
      refine w_iadd rfl o22 ?_
      refine m_putI 60 rfl rfl rfl (by decide) (fun I23 eI23 => ?_)
      replace H := H I23 eI23
      have o24 := H.1
      replace H := H.2
      refine w_iinc rfl rfl rfl o24 ?_
      refine w_goto rfl ?_
      exact H
set_option maxHeartbeats 4000000 in
set_option maxRecDepth 100000 in
theorem mr_solvesDegree {d : Nat} {Q : cm_Q} {z : cm_Z} {I : cm_I} (hz : mz z) {a1 : Nat} {x2 : Int} {x3 : Int}  (H : (mI d m_Model_many [vR 12 209, vI x3] z I fun v2 I1 => (mU d m_Model_laysProducts [vR 12 209, vI x3] z I1 fun I3 => cw d cd_Model_solvesDegree Q 15 [some (vR 12 209), some (vR 20 a1), some (vI x2), some (vI x3), some (vI v2), some (vI 0), none, none, none, none] [] (I3, z)))) : cm_call (d + 1) m_Model_solvesDegree [vR 12 209, vR 20 a1, vI x2, vI x3] (I, z) Q := by
  refine cm_call_in (C := cd_Model_solvesDegree) (ls := [some (vR 12 209), some (vR 20 a1), some (vI x2), some (vI x3), none, none, none, none, none, none]) rfl rfl (show 0 < 209 by decide) rfl ?_
  refine w_aload rfl rfl ?_
  refine w_iload rfl rfl ?_
  refine m_callI rfl (fun _ => rfl) rfl (mI_mono H fun v2 I1 H => ?_)
  refine w_istore rfl rfl ?_
  refine w_aload rfl rfl ?_
  refine w_iload rfl rfl ?_
  refine m_callU rfl (fun _ => rfl) rfl (mU_mono H fun I3 H => ?_)
  refine w_iconst rfl ⟨by decide, by decide⟩ ?_
  refine w_istore rfl rfl ?_
  exact H
set_option maxHeartbeats 4000000 in
set_option maxRecDepth 100000 in
theorem mr_told_3 {d : Nat} {Q : cm_Q} {z : cm_Z} {I : cm_I} (hz : mz z) {a0 : Nat} {x1 : Int} {x2 : Int} {x3 : Int} {x4 : Int} {x5 : Int} {x6 : Int} (p_a0 : mA a0) (H : ((x1 ≤ x6 → Q (some (vI 0)) (I, z)) ∧ (x6 < x1 → (cm_i (5 * x6) ∧ ((0:Int) ≤ (5 * x6) ∧ (5 * x6) < mLen a0) ∧ ((¬ (I a0 (5 * x6)) = x2 → (cm_i (x6 + 1) ∧ cw d cd_Model_told Q 3 [some (vR 20 a0), some (vI x1), some (vI x2), some (vI x3), some (vI x4), some (vI x5), some (vI (x6 + 1))] [] (I, z))) ∧ ((I a0 (5 * x6)) = x2 → (cm_i ((5 * x6) + 1) ∧ ((0:Int) ≤ ((5 * x6) + 1) ∧ ((5 * x6) + 1) < mLen a0) ∧ ((¬ (I a0 ((5 * x6) + 1)) = x3 → (cm_i (x6 + 1) ∧ cw d cd_Model_told Q 3 [some (vR 20 a0), some (vI x1), some (vI x2), some (vI x3), some (vI x4), some (vI x5), some (vI (x6 + 1))] [] (I, z))) ∧ ((I a0 ((5 * x6) + 1)) = x3 → (cm_i ((5 * x6) + 2) ∧ ((0:Int) ≤ ((5 * x6) + 2) ∧ ((5 * x6) + 2) < mLen a0) ∧ ((¬ (I a0 ((5 * x6) + 2)) = x4 → (cm_i (x6 + 1) ∧ cw d cd_Model_told Q 3 [some (vR 20 a0), some (vI x1), some (vI x2), some (vI x3), some (vI x4), some (vI x5), some (vI (x6 + 1))] [] (I, z))) ∧ ((I a0 ((5 * x6) + 2)) = x4 → (cm_i ((5 * x6) + 3) ∧ ((0:Int) ≤ ((5 * x6) + 3) ∧ ((5 * x6) + 3) < mLen a0) ∧ ((¬ (I a0 ((5 * x6) + 3)) = x5 → (cm_i (x6 + 1) ∧ cw d cd_Model_told Q 3 [some (vR 20 a0), some (vI x1), some (vI x2), some (vI x3), some (vI x4), some (vI x5), some (vI (x6 + 1))] [] (I, z))) ∧ ((I a0 ((5 * x6) + 3)) = x5 → (cm_i ((5 * x6) + 4) ∧ ((0:Int) ≤ ((5 * x6) + 4) ∧ ((5 * x6) + 4) < mLen a0) ∧ Q (some (vI (I a0 ((5 * x6) + 4)))) (I, z))))))))))))))))) : cw d cd_Model_told Q 3 [some (vR 20 a0), some (vI x1), some (vI x2), some (vI x3), some (vI x4), some (vI x5), some (vI x6)] [] (I, z) := by
  refine w_iload rfl rfl ?_
  refine w_iload rfl rfl ?_
  refine w_icmp rfl (And.intro (fun hc => ?_) (fun hc => ?_))
  · replace H := H.1 hc
    refine w_iconst rfl ⟨by decide, by decide⟩ ?_
    exact w_ireturn rfl H
  · replace H := H.2 hc
    refine w_aload rfl rfl ?_
    refine w_iconst rfl ⟨by decide, by decide⟩ ?_
    refine w_iload rfl rfl ?_
    have o1 := H.1
    replace H := H.2
    refine w_imul rfl o1 ?_
    have o2 := H.1
    replace H := H.2
    refine m_iaload hz p_a0 rfl o2 ?_
    refine w_iload rfl rfl ?_
    refine w_icmp rfl (And.intro (fun hc => ?_) (fun hc => ?_))
    · replace H := H.1 hc
      have o3 := H.1
      replace H := H.2
      refine w_iinc rfl rfl rfl o3 ?_
      refine w_goto rfl ?_
      exact H
    · replace H := H.2 hc
      refine w_aload rfl rfl ?_
      refine w_iconst rfl ⟨by decide, by decide⟩ ?_
      refine w_iload rfl rfl ?_
      refine w_imul rfl o1 ?_
      refine w_iconst rfl ⟨by decide, by decide⟩ ?_
      have o4 := H.1
      replace H := H.2
      refine w_iadd rfl o4 ?_
      have o5 := H.1
      replace H := H.2
      refine m_iaload hz p_a0 rfl o5 ?_
      refine w_iload rfl rfl ?_
      refine w_icmp rfl (And.intro (fun hc => ?_) (fun hc => ?_))
      · replace H := H.1 hc
        have o6 := H.1
        replace H := H.2
        refine w_iinc rfl rfl rfl o6 ?_
        refine w_goto rfl ?_
        exact H
      · replace H := H.2 hc
        refine w_aload rfl rfl ?_
        refine w_iconst rfl ⟨by decide, by decide⟩ ?_
        refine w_iload rfl rfl ?_
        refine w_imul rfl o1 ?_
        refine w_iconst rfl ⟨by decide, by decide⟩ ?_
        have o7 := H.1
        replace H := H.2
        refine w_iadd rfl o7 ?_
        have o8 := H.1
        replace H := H.2
        refine m_iaload hz p_a0 rfl o8 ?_
        refine w_iload rfl rfl ?_
        refine w_icmp rfl (And.intro (fun hc => ?_) (fun hc => ?_))
        · replace H := H.1 hc
          have o9 := H.1
          replace H := H.2
          refine w_iinc rfl rfl rfl o9 ?_
          refine w_goto rfl ?_
          exact H
        · replace H := H.2 hc
          refine w_aload rfl rfl ?_
          refine w_iconst rfl ⟨by decide, by decide⟩ ?_
          refine w_iload rfl rfl ?_
          refine w_imul rfl o1 ?_
          refine w_iconst rfl ⟨by decide, by decide⟩ ?_
          have o10 := H.1
          replace H := H.2
          refine w_iadd rfl o10 ?_
          have o11 := H.1
          replace H := H.2
          refine m_iaload hz p_a0 rfl o11 ?_
          refine w_iload rfl rfl ?_
          refine w_icmp rfl (And.intro (fun hc => ?_) (fun hc => ?_))
          · replace H := H.1 hc
            have o12 := H.1
            replace H := H.2
            refine w_iinc rfl rfl rfl o12 ?_
            refine w_goto rfl ?_
            exact H
          · replace H := H.2 hc
            refine w_aload rfl rfl ?_
            refine w_iconst rfl ⟨by decide, by decide⟩ ?_
            refine w_iload rfl rfl ?_
            refine w_imul rfl o1 ?_
            refine w_iconst rfl ⟨by decide, by decide⟩ ?_
            have o13 := H.1
            replace H := H.2
            refine w_iadd rfl o13 ?_
            have o14 := H.1
            replace H := H.2
            refine m_iaload hz p_a0 rfl o14 ?_
            exact w_ireturn rfl H
set_option maxHeartbeats 4000000 in
set_option maxRecDepth 100000 in
theorem mr_told {d : Nat} {Q : cm_Q} {z : cm_Z} {I : cm_I} (hz : mz z) {a0 : Nat} {x1 : Int} {x2 : Int} {x3 : Int} {x4 : Int} {x5 : Int}  (H : cw d cd_Model_told Q 3 [some (vR 20 a0), some (vI x1), some (vI x2), some (vI x3), some (vI x4), some (vI x5), some (vI 0)] [] (I, z)) : cm_call (d + 1) m_Model_told [vR 20 a0, vI x1, vI x2, vI x3, vI x4, vI x5] (I, z) Q := by
  refine cm_call_in (C := cd_Model_told) (ls := [some (vR 20 a0), some (vI x1), some (vI x2), some (vI x3), some (vI x4), some (vI x5), none]) rfl rfl trivial rfl ?_
  refine w_iconst rfl ⟨by decide, by decide⟩ ?_
  refine w_istore rfl rfl ?_
  exact H
set_option maxHeartbeats 4000000 in
set_option maxRecDepth 100000 in
theorem mr_rewrite_70 {d : Nat} {Q : cm_Q} {z : cm_Z} {I : cm_I} (hz : mz z) {z1 : Option cm_V} {x2 : Int}  (H : (cm_i (5 * (I 209 60)) ∧ (((5 * (I 209 60)) ≤ x2 → Q (some (vI (I 209 60))) (I, z)) ∧ (x2 < (5 * (I 209 60)) → ((0:Int) ≤ x2 ∧ x2 < 4080) ∧ (∀ I3 : cm_I, I3 = iu I 245 x2 (I 246 x2) → (cm_i (x2 + 1) ∧ cw d cd_Model_rewrite Q 70 [some (vR 12 209), z1, some (vI (x2 + 1))] [] (I3, z))))))) : cw d cd_Model_rewrite Q 70 [some (vR 12 209), z1, some (vI x2)] [] (I, z) := by
  refine w_iload rfl rfl ?_
  refine w_iconst rfl ⟨by decide, by decide⟩ ?_
  refine w_aload rfl rfl ?_
  refine m_getI 60 rfl rfl rfl (by decide) ?_
  have o1 := H.1
  replace H := H.2
  refine w_imul rfl o1 ?_
  refine w_icmp rfl (And.intro (fun hc => ?_) (fun hc => ?_))
  · replace H := H.1 hc
    refine w_aload rfl rfl ?_
    refine m_getI 60 rfl rfl rfl (by decide) ?_
    exact w_ireturn rfl H
  · replace H := H.2 hc
    refine w_aload rfl rfl ?_
    refine m_getR 59 20 245 hz rfl rfl rfl rfl rfl rfl (by decide) ?_
    refine w_iload rfl rfl ?_
    refine w_aload rfl rfl ?_
    refine m_getR 61 20 246 hz rfl rfl rfl rfl rfl rfl (by decide) ?_
    refine w_iload rfl rfl ?_
    have o2 := H.1
    replace H := H.2
    refine m_iaload hz (by unfold mA; decide) rfl o2 ?_
    refine m_iastore hz (by unfold mA; decide) rfl o2 (fun I3 eI3 => ?_)
    replace H := H I3 eI3
    have o4 := H.1
    replace H := H.2
    refine w_iinc rfl rfl rfl o4 ?_
    refine w_goto rfl ?_
    exact H
set_option maxHeartbeats 4000000 in
set_option maxRecDepth 100000 in
theorem mr_rewrite {d : Nat} {Q : cm_Q} {z : cm_Z} {I : cm_I} (hz : mz z) {x1 : Int}  (H : (∀ I1 : cm_I, I1 = iu I 209 0 0 → (mI d m_Model_isKept [vR 12 209, vI x1] z I1 fun v3 I2 => ((¬ v3 = 0 → (mU d m_Model_laysPrimary [vR 12 209] z I2 fun I4 => ((¬ (I4 209 42) = 0 → (cm_i (1140 * x1) ∧ (mI d m_Model_isAlone [vR 12 209, vR 20 213, vI (1140 * x1)] z I4 fun v7 I6 => ((¬ v7 = 0 → (mU d m_Model_solves [vR 12 209, vR 20 213, vI (1140 * x1)] z I6 fun I8 => (∀ I9 : cm_I, I9 = iu I8 209 58 (I8 209 60) → cw d cd_Model_rewrite Q 70 [some (vR 12 209), some (vI x1), some (vI 0)] [] (I9, z)))) ∧ (v7 = 0 → Q (some (vI (-2))) (I6, z)))))) ∧ ((I4 209 42) = 0 → Q (some (vI (-1))) (I4, z))))) ∧ (v3 = 0 → Q (some (vI (-1))) (I2, z)))))) : cm_call (d + 1) m_Model_rewrite [vR 12 209, vI x1] (I, z) Q := by
  refine cm_call_in (C := cd_Model_rewrite) (ls := [some (vR 12 209), some (vI x1), none]) rfl rfl (show 0 < 209 by decide) rfl ?_
  refine w_aload rfl rfl ?_
  refine w_iconst rfl ⟨by decide, by decide⟩ ?_
  refine m_putI 0 rfl rfl rfl (by decide) (fun I1 eI1 => ?_)
  replace H := H I1 eI1
  refine w_aload rfl rfl ?_
  refine w_iload rfl rfl ?_
  refine m_callI rfl (fun _ => rfl) rfl (mI_mono H fun v3 I2 H => ?_)
  refine w_if rfl (And.intro (fun hc => ?_) (fun hc => ?_))
  · replace H := H.1 hc
    refine w_aload rfl rfl ?_
    refine m_callU rfl (fun _ => rfl) rfl (mU_mono H fun I4 H => ?_)
    refine w_aload rfl rfl ?_
    refine m_getI 42 rfl rfl rfl (by decide) ?_
    refine w_if rfl (And.intro (fun hc => ?_) (fun hc => ?_))
    · replace H := H.1 hc
      refine w_aload rfl rfl ?_
      refine w_aload rfl rfl ?_
      refine m_getR 5 20 213 hz rfl rfl rfl rfl rfl rfl (by decide) ?_
      refine w_iconst rfl ⟨by decide, by decide⟩ ?_
      refine w_iload rfl rfl ?_
      have o5 := H.1
      replace H := H.2
      refine w_imul rfl o5 ?_
      refine m_callI rfl (fun _ => rfl) rfl (mI_mono H fun v7 I6 H => ?_)
      refine w_if rfl (And.intro (fun hc => ?_) (fun hc => ?_))
      · replace H := H.1 hc
        refine w_aload rfl rfl ?_
        refine w_aload rfl rfl ?_
        refine m_getR 5 20 213 hz rfl rfl rfl rfl rfl rfl (by decide) ?_
        refine w_iconst rfl ⟨by decide, by decide⟩ ?_
        refine w_iload rfl rfl ?_
        refine w_imul rfl o5 ?_
        refine m_callU rfl (fun _ => rfl) rfl (mU_mono H fun I8 H => ?_)
        refine w_aload rfl rfl ?_
        refine w_aload rfl rfl ?_
        refine m_getI 60 rfl rfl rfl (by decide) ?_
        refine m_putI 58 rfl rfl rfl (by decide) (fun I9 eI9 => ?_)
        replace H := H I9 eI9
        refine w_iconst rfl ⟨by decide, by decide⟩ ?_
        refine w_istore rfl rfl ?_
        exact H
      · replace H := H.2 hc
        refine w_iconst rfl ⟨by decide, by decide⟩ ?_
        exact w_ireturn rfl H
    · replace H := H.2 hc
      refine w_iconst rfl ⟨by decide, by decide⟩ ?_
      exact w_ireturn rfl H
  · replace H := H.2 hc
    refine w_iconst rfl ⟨by decide, by decide⟩ ?_
    exact w_ireturn rfl H
set_option maxHeartbeats 4000000 in
set_option maxRecDepth 100000 in
theorem mr_arePowers {d : Nat} {Q : cm_Q} {z : cm_Z} {I : cm_I} (hz : mz z) {x1 : Int} {x2 : Int} {x3 : Int} {x4 : Int}  (H : (cm_i ((I 209 50) - 1) ∧ (mI d m_Model_within [vI x1, vI 0, vI ((I 209 50) - 1)] z I fun v3 I2 => ((v3 = 0 → Q (some (vI 0)) (I2, z)) ∧ (¬ v3 = 0 → ((x2 < 0 → Q (some (vI 0)) (I2, z)) ∧ (0 ≤ x2 → ((x3 < 0 → Q (some (vI 0)) (I2, z)) ∧ (0 ≤ x3 → ((x4 < 0 → Q (some (vI 0)) (I2, z)) ∧ (0 ≤ x4 → (((I2 209 1) = 3 → Q (some (vI 1)) (I2, z)) ∧ (¬ (I2 209 1) = 3 → ((¬ x4 = 0 → Q (some (vI 0)) (I2, z)) ∧ (x4 = 0 → Q (some (vI 1)) (I2, z)))))))))))))))) : cm_call (d + 1) m_Model_arePowers [vR 12 209, vI x1, vI x2, vI x3, vI x4] (I, z) Q := by
  refine cm_call_in (C := cd_Model_arePowers) (ls := [some (vR 12 209), some (vI x1), some (vI x2), some (vI x3), some (vI x4)]) rfl rfl (show 0 < 209 by decide) rfl ?_
  refine w_iload rfl rfl ?_
  refine w_iconst rfl ⟨by decide, by decide⟩ ?_
  refine w_aload rfl rfl ?_
  refine m_getI 50 rfl rfl rfl (by decide) ?_
  refine w_iconst rfl ⟨by decide, by decide⟩ ?_
  have o1 := H.1
  replace H := H.2
  refine w_isub rfl o1 ?_
  refine m_callI rfl (fun _ => rfl) rfl (mI_mono H fun v3 I2 H => ?_)
  refine w_if rfl (And.intro (fun hc => ?_) (fun hc => ?_))
  · replace H := H.1 hc
    refine w_iconst rfl ⟨by decide, by decide⟩ ?_
    exact w_zreturn rfl (by decide) H
  · replace H := H.2 hc
    refine w_iload rfl rfl ?_
    refine w_if rfl (And.intro (fun hc => ?_) (fun hc => ?_))
    · replace H := H.1 hc
      refine w_iconst rfl ⟨by decide, by decide⟩ ?_
      exact w_zreturn rfl (by decide) H
    · replace H := H.2 hc
      refine w_iload rfl rfl ?_
      refine w_if rfl (And.intro (fun hc => ?_) (fun hc => ?_))
      · replace H := H.1 hc
        refine w_iconst rfl ⟨by decide, by decide⟩ ?_
        exact w_zreturn rfl (by decide) H
      · replace H := H.2 hc
        refine w_iload rfl rfl ?_
        refine w_if rfl (And.intro (fun hc => ?_) (fun hc => ?_))
        · replace H := H.1 hc
          refine w_iconst rfl ⟨by decide, by decide⟩ ?_
          exact w_zreturn rfl (by decide) H
        · replace H := H.2 hc
          refine w_aload rfl rfl ?_
          refine m_getI 1 rfl rfl rfl (by decide) ?_
          refine w_iconst rfl ⟨by decide, by decide⟩ ?_
          refine w_icmp rfl (And.intro (fun hc => ?_) (fun hc => ?_))
          · replace H := H.1 hc
            refine w_iconst rfl ⟨by decide, by decide⟩ ?_
            refine w_goto rfl ?_
            exact w_zreturn rfl (by decide) H
          · replace H := H.2 hc
            refine w_iload rfl rfl ?_
            refine w_if rfl (And.intro (fun hc => ?_) (fun hc => ?_))
            · replace H := H.1 hc
              refine w_iconst rfl ⟨by decide, by decide⟩ ?_
              exact w_zreturn rfl (by decide) H
            · replace H := H.2 hc
              refine w_iconst rfl ⟨by decide, by decide⟩ ?_
              refine w_goto rfl ?_
              exact w_zreturn rfl (by decide) H
set_option maxHeartbeats 4000000 in
set_option maxRecDepth 100000 in
theorem mr_rewritten {d : Nat} {Q : cm_Q} {z : cm_Z} {I : cm_I} (hz : mz z) {x1 : Int} {x2 : Int} {x3 : Int} {x4 : Int}  (H : (∀ I1 : cm_I, I1 = iu I 209 0 0 → (((I1 209 58) = (-1) → Q (some (vI (-1))) (I1, z)) ∧ (¬ (I1 209 58) = (-1) → (mI d m_Model_arePowers [vR 12 209, vI x1, vI x2, vI x3, vI x4] z I1 fun v3 I2 => ((¬ v3 = 0 → (mI d m_Model_told [vR 20 245, vI (I2 209 58), vI x1, vI x2, vI x3, vI x4] z I2 fun v5 I4 => Q (some (vI v5)) (I4, z))) ∧ (v3 = 0 → Q (some (vI (-1))) (I2, z)))))))) : cm_call (d + 1) m_Model_rewritten [vR 12 209, vI x1, vI x2, vI x3, vI x4] (I, z) Q := by
  refine cm_call_in (C := cd_Model_rewritten) (ls := [some (vR 12 209), some (vI x1), some (vI x2), some (vI x3), some (vI x4)]) rfl rfl (show 0 < 209 by decide) rfl ?_
  refine w_aload rfl rfl ?_
  refine w_iconst rfl ⟨by decide, by decide⟩ ?_
  refine m_putI 0 rfl rfl rfl (by decide) (fun I1 eI1 => ?_)
  replace H := H I1 eI1
  refine w_aload rfl rfl ?_
  refine m_getI 58 rfl rfl rfl (by decide) ?_
  refine w_iconst rfl ⟨by decide, by decide⟩ ?_
  refine w_icmp rfl (And.intro (fun hc => ?_) (fun hc => ?_))
  · replace H := H.1 hc
    refine w_iconst rfl ⟨by decide, by decide⟩ ?_
    refine w_goto rfl ?_
    exact w_ireturn rfl H
  · replace H := H.2 hc
    refine w_aload rfl rfl ?_
    refine w_iload rfl rfl ?_
    refine w_iload rfl rfl ?_
    refine w_iload rfl rfl ?_
    refine w_iload rfl rfl ?_
    refine m_callI rfl (fun _ => rfl) rfl (mI_mono H fun v3 I2 H => ?_)
    refine w_if rfl (And.intro (fun hc => ?_) (fun hc => ?_))
    · replace H := H.1 hc
      refine w_aload rfl rfl ?_
      refine m_getR 59 20 245 hz rfl rfl rfl rfl rfl rfl (by decide) ?_
      refine w_aload rfl rfl ?_
      refine m_getI 58 rfl rfl rfl (by decide) ?_
      refine w_iload rfl rfl ?_
      refine w_iload rfl rfl ?_
      refine w_iload rfl rfl ?_
      refine w_iload rfl rfl ?_
      refine m_callI rfl (fun _ => rfl) rfl (mI_mono H fun v5 I4 H => ?_)
      exact w_ireturn rfl H
    · replace H := H.2 hc
      refine w_iconst rfl ⟨by decide, by decide⟩ ?_
      refine w_goto rfl ?_
      exact w_ireturn rfl H
set_option maxHeartbeats 4000000 in
set_option maxRecDepth 100000 in
theorem mr_relation {d : Nat} {Q : cm_Q} {z : cm_Z} {I : cm_I} (hz : mz z) {x1 : Int} {x2 : Int} {x3 : Int} {x4 : Int} {x5 : Int} {x6 : Int}  (H : (∀ I1 : cm_I, I1 = iu I 209 0 0 → (mU d m_Model_laysPrimary [vR 12 209] z I1 fun I2 => (((I2 209 42) = 0 → Q (some (vI (-1))) (I2, z)) ∧ (¬ (I2 209 42) = 0 → (cm_i ((I2 209 50) - 1) ∧ (mI d m_Model_within [vI x1, vI 0, vI ((I2 209 50) - 1)] z I2 fun v5 I4 => ((v5 = 0 → Q (some (vI (-1))) (I4, z)) ∧ (¬ v5 = 0 → (cm_i ((I4 209 50) - 1) ∧ (mI d m_Model_within [vI x2, vI 0, vI ((I4 209 50) - 1)] z I4 fun v8 I7 => ((v8 = 0 → Q (some (vI (-1))) (I7, z)) ∧ (¬ v8 = 0 → (mI d m_Model_arePowers [vR 12 209, vI x3, vI x4, vI x5, vI x6] z I7 fun v10 I9 => ((¬ v10 = 0 → ((0:Int) ≤ x1 ∧ x1 < 220) ∧ ((0:Int) ≤ x2 ∧ x2 < 220) ∧ (cm_i ((I9 239 x1) + (I9 239 x2)) ∧ ((((I9 239 x1) + (I9 239 x2)) ≤ 15 → (mU d m_Model_laysBaseRow [vR 12 209, vI (I9 239 x1), vI (I9 240 x1), vR 20 214, vI 0] z I9 fun I14 => (mU d m_Model_laysBaseRow [vR 12 209, vI (I14 239 x2), vI (I14 240 x2), vR 20 215, vI 0] z I14 fun I15 => (mU d m_Model_multiplies [vR 12 209, vR 20 214, vI 0, vR 20 215, vI 0, vR 20 216, vI 0] z I15 fun I16 => (mU d m_Model_copies [vR 20 216, vI 0, vR 20 215, vI 0] z I16 fun I17 => (mU d m_Model_solves [vR 12 209, vR 20 215, vI 0] z I17 fun I18 => (mI d m_Model_told [vR 20 246, vI (I18 209 60), vI x3, vI x4, vI x5, vI x6] z I18 fun v20 I19 => Q (some (vI v20)) (I19, z)))))))) ∧ (15 < ((I9 239 x1) + (I9 239 x2)) → Q (some (vI (-2))) (I9, z))))) ∧ (v10 = 0 → Q (some (vI (-1))) (I9, z))))))))))))))))) : cm_call (d + 1) m_Model_relation [vR 12 209, vI x1, vI x2, vI x3, vI x4, vI x5, vI x6] (I, z) Q := by
  refine cm_call_in (C := cd_Model_relation) (ls := [some (vR 12 209), some (vI x1), some (vI x2), some (vI x3), some (vI x4), some (vI x5), some (vI x6)]) rfl rfl (show 0 < 209 by decide) rfl ?_
  refine w_aload rfl rfl ?_
  refine w_iconst rfl ⟨by decide, by decide⟩ ?_
  refine m_putI 0 rfl rfl rfl (by decide) (fun I1 eI1 => ?_)
  replace H := H I1 eI1
  refine w_aload rfl rfl ?_
  refine m_callU rfl (fun _ => rfl) rfl (mU_mono H fun I2 H => ?_)
  refine w_aload rfl rfl ?_
  refine m_getI 42 rfl rfl rfl (by decide) ?_
  refine w_if rfl (And.intro (fun hc => ?_) (fun hc => ?_))
  · replace H := H.1 hc
    refine w_iconst rfl ⟨by decide, by decide⟩ ?_
    exact w_ireturn rfl H
  · replace H := H.2 hc
    refine w_iload rfl rfl ?_
    refine w_iconst rfl ⟨by decide, by decide⟩ ?_
    refine w_aload rfl rfl ?_
    refine m_getI 50 rfl rfl rfl (by decide) ?_
    refine w_iconst rfl ⟨by decide, by decide⟩ ?_
    have o3 := H.1
    replace H := H.2
    refine w_isub rfl o3 ?_
    refine m_callI rfl (fun _ => rfl) rfl (mI_mono H fun v5 I4 H => ?_)
    refine w_if rfl (And.intro (fun hc => ?_) (fun hc => ?_))
    · replace H := H.1 hc
      refine w_iconst rfl ⟨by decide, by decide⟩ ?_
      exact w_ireturn rfl H
    · replace H := H.2 hc
      refine w_iload rfl rfl ?_
      refine w_iconst rfl ⟨by decide, by decide⟩ ?_
      refine w_aload rfl rfl ?_
      refine m_getI 50 rfl rfl rfl (by decide) ?_
      refine w_iconst rfl ⟨by decide, by decide⟩ ?_
      have o6 := H.1
      replace H := H.2
      refine w_isub rfl o6 ?_
      refine m_callI rfl (fun _ => rfl) rfl (mI_mono H fun v8 I7 H => ?_)
      refine w_if rfl (And.intro (fun hc => ?_) (fun hc => ?_))
      · replace H := H.1 hc
        refine w_iconst rfl ⟨by decide, by decide⟩ ?_
        exact w_ireturn rfl H
      · replace H := H.2 hc
        refine w_aload rfl rfl ?_
        refine w_iload rfl rfl ?_
        refine w_iload rfl rfl ?_
        refine w_iload rfl rfl ?_
        refine w_iload rfl rfl ?_
        refine m_callI rfl (fun _ => rfl) rfl (mI_mono H fun v10 I9 H => ?_)
        refine w_if rfl (And.intro (fun hc => ?_) (fun hc => ?_))
        · replace H := H.1 hc
          refine w_aload rfl rfl ?_
          refine m_getR 51 20 239 hz rfl rfl rfl rfl rfl rfl (by decide) ?_
          refine w_iload rfl rfl ?_
          have o11 := H.1
          replace H := H.2
          refine m_iaload hz (by unfold mA; decide) rfl o11 ?_
          refine w_aload rfl rfl ?_
          refine m_getR 51 20 239 hz rfl rfl rfl rfl rfl rfl (by decide) ?_
          refine w_iload rfl rfl ?_
          have o12 := H.1
          replace H := H.2
          refine m_iaload hz (by unfold mA; decide) rfl o12 ?_
          have o13 := H.1
          replace H := H.2
          refine w_iadd rfl o13 ?_
          refine w_iconst rfl ⟨by decide, by decide⟩ ?_
          refine w_icmp rfl (And.intro (fun hc => ?_) (fun hc => ?_))
          · replace H := H.1 hc
            refine w_aload rfl rfl ?_
            refine w_aload rfl rfl ?_
            refine m_getR 51 20 239 hz rfl rfl rfl rfl rfl rfl (by decide) ?_
            refine w_iload rfl rfl ?_
            refine m_iaload hz (by unfold mA; decide) rfl o11 ?_
            refine w_aload rfl rfl ?_
            refine m_getR 52 20 240 hz rfl rfl rfl rfl rfl rfl (by decide) ?_
            refine w_iload rfl rfl ?_
            refine m_iaload hz (by unfold mA; decide) rfl o11 ?_
            refine w_aload rfl rfl ?_
            refine m_getR 6 20 214 hz rfl rfl rfl rfl rfl rfl (by decide) ?_
            refine w_iconst rfl ⟨by decide, by decide⟩ ?_
            refine m_callU rfl (fun _ => rfl) rfl (mU_mono H fun I14 H => ?_)
            refine w_aload rfl rfl ?_
            refine w_aload rfl rfl ?_
            refine m_getR 51 20 239 hz rfl rfl rfl rfl rfl rfl (by decide) ?_
            refine w_iload rfl rfl ?_
            refine m_iaload hz (by unfold mA; decide) rfl o12 ?_
            refine w_aload rfl rfl ?_
            refine m_getR 52 20 240 hz rfl rfl rfl rfl rfl rfl (by decide) ?_
            refine w_iload rfl rfl ?_
            refine m_iaload hz (by unfold mA; decide) rfl o12 ?_
            refine w_aload rfl rfl ?_
            refine m_getR 7 20 215 hz rfl rfl rfl rfl rfl rfl (by decide) ?_
            refine w_iconst rfl ⟨by decide, by decide⟩ ?_
            refine m_callU rfl (fun _ => rfl) rfl (mU_mono H fun I15 H => ?_)
            refine w_aload rfl rfl ?_
            refine w_aload rfl rfl ?_
            refine m_getR 6 20 214 hz rfl rfl rfl rfl rfl rfl (by decide) ?_
            refine w_iconst rfl ⟨by decide, by decide⟩ ?_
            refine w_aload rfl rfl ?_
            refine m_getR 7 20 215 hz rfl rfl rfl rfl rfl rfl (by decide) ?_
            refine w_iconst rfl ⟨by decide, by decide⟩ ?_
            refine w_aload rfl rfl ?_
            refine m_getR 8 20 216 hz rfl rfl rfl rfl rfl rfl (by decide) ?_
            refine w_iconst rfl ⟨by decide, by decide⟩ ?_
            refine m_callU rfl (fun _ => rfl) rfl (mU_mono H fun I16 H => ?_)
            refine w_aload rfl rfl ?_
            refine m_getR 8 20 216 hz rfl rfl rfl rfl rfl rfl (by decide) ?_
            refine w_iconst rfl ⟨by decide, by decide⟩ ?_
            refine w_aload rfl rfl ?_
            refine m_getR 7 20 215 hz rfl rfl rfl rfl rfl rfl (by decide) ?_
            refine w_iconst rfl ⟨by decide, by decide⟩ ?_
            refine m_callU rfl (fun _ => rfl) rfl (mU_mono H fun I17 H => ?_)
            refine w_aload rfl rfl ?_
            refine w_aload rfl rfl ?_
            refine m_getR 7 20 215 hz rfl rfl rfl rfl rfl rfl (by decide) ?_
            refine w_iconst rfl ⟨by decide, by decide⟩ ?_
            refine m_callU rfl (fun _ => rfl) rfl (mU_mono H fun I18 H => ?_)
            refine w_aload rfl rfl ?_
            refine m_getR 61 20 246 hz rfl rfl rfl rfl rfl rfl (by decide) ?_
            refine w_aload rfl rfl ?_
            refine m_getI 60 rfl rfl rfl (by decide) ?_
            refine w_iload rfl rfl ?_
            refine w_iload rfl rfl ?_
            refine w_iload rfl rfl ?_
            refine w_iload rfl rfl ?_
            refine m_callI rfl (fun _ => rfl) rfl (mI_mono H fun v20 I19 H => ?_)
            exact w_ireturn rfl H
          · replace H := H.2 hc
            refine w_iconst rfl ⟨by decide, by decide⟩ ?_
            exact w_ireturn rfl H
        · replace H := H.2 hc
          refine w_iconst rfl ⟨by decide, by decide⟩ ?_
          exact w_ireturn rfl H
set_option maxHeartbeats 4000000 in
set_option maxRecDepth 100000 in
theorem mr_count {d : Nat} {Q : cm_Q} {z : cm_Z} {I : cm_I} (hz : mz z) {x1 : Int}  (H : (∀ I1 : cm_I, I1 = iu I 209 0 0 → ((¬ x1 = 0 → ((¬ x1 = 1 → Q (some (vI (-1))) (I1, z)) ∧ (x1 = 1 → Q (some (vI (I1 209 58))) (I1, z)))) ∧ (x1 = 0 → Q (some (vI (I1 209 14))) (I1, z))))) : cm_call (d + 1) m_Model_count [vR 12 209, vI x1] (I, z) Q := by
  refine cm_call_in (C := cd_Model_count) (ls := [some (vR 12 209), some (vI x1)]) rfl rfl (show 0 < 209 by decide) rfl ?_
  refine w_aload rfl rfl ?_
  refine w_iconst rfl ⟨by decide, by decide⟩ ?_
  refine m_putI 0 rfl rfl rfl (by decide) (fun I1 eI1 => ?_)
  replace H := H I1 eI1
  refine w_iload rfl rfl ?_
  refine w_if rfl (And.intro (fun hc => ?_) (fun hc => ?_))
  · replace H := H.1 hc
    refine w_iload rfl rfl ?_
    refine w_iconst rfl ⟨by decide, by decide⟩ ?_
    refine w_icmp rfl (And.intro (fun hc => ?_) (fun hc => ?_))
    · replace H := H.1 hc
      refine w_iconst rfl ⟨by decide, by decide⟩ ?_
      exact w_ireturn rfl H
    · replace H := H.2 hc
      refine w_aload rfl rfl ?_
      refine m_getI 58 rfl rfl rfl (by decide) ?_
      refine w_goto rfl ?_
      exact w_ireturn rfl H
  · replace H := H.2 hc
    refine w_aload rfl rfl ?_
    refine m_getI 14 rfl rfl rfl (by decide) ?_
    refine w_goto rfl ?_
    exact w_ireturn rfl H
