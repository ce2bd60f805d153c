/-! RULES: what must hold at an entry or a cut place (printed by wip/whole/genrules.py) -/
set_option maxHeartbeats 4000000 in
set_option maxRecDepth 100000 in
theorem r_Model_thrown {d : Nat} {Q : cm_Q} {h : cm_H} {a0 : Nat} (p_a0 : 0 < a0) (H : Q (some (vI (ch_I h a0 0))) h) : cm_call (d + 1) m_Model_thrown [vR 12 a0] h Q := by
  refine cm_call_in (C := cd_Model_thrown) (ls := [some (vR 12 a0)]) rfl rfl p_a0 rfl ?_
  refine w_aload rfl rfl ?_
  refine w_getI 0 rfl rfl rfl p_a0 ?_
  exact w_ireturn rfl H
set_option maxHeartbeats 4000000 in
set_option maxRecDepth 100000 in
theorem r_Model_within {d : Nat} {Q : cm_Q} {h : cm_H} {x0 : Int} {x1 : Int} {x2 : Int}  (H : ((x0 < x1 → Q (some (vI 0)) h) ∧ (x1 ≤ x0 → ((x2 < x0 → Q (some (vI 0)) h) ∧ (x0 ≤ x2 → Q (some (vI 1)) h))))) : cm_call (d + 1) m_Model_within [vI x0, vI x1, vI x2] h Q := by
  refine cm_call_in (C := cd_Model_within) (ls := [some (vI x0), some (vI x1), some (vI x2)]) rfl rfl trivial rfl ?_
  refine w_iload rfl rfl ?_
  refine w_iload rfl rfl ?_
  refine w_icmp rfl (And.intro (fun hc => ?_) (fun hc => ?_))
  · replace H := H.1 hc
    refine w_iconst rfl ⟨by decide, by decide⟩ ?_
    exact w_zreturn rfl (by decide) H
  · replace H := H.2 hc
    refine w_iload rfl rfl ?_
    refine w_iload rfl rfl ?_
    refine w_icmp rfl (And.intro (fun hc => ?_) (fun hc => ?_))
    · replace H := H.1 hc
      refine w_iconst rfl ⟨by decide, by decide⟩ ?_
      exact w_zreturn rfl (by decide) H
    · replace H := H.2 hc
      refine w_iconst rfl ⟨by decide, by decide⟩ ?_
      refine w_goto rfl ?_
      exact w_zreturn rfl (by decide) H
set_option maxHeartbeats 4000000 in
set_option maxRecDepth 100000 in
theorem r_Model_of {d : Nat} {Q : cm_Q} {h : cm_H} {y0 : Int}  (H : ((0 ≤ (if (Int.tmod y0 2521) < 0 then -1 else if (Int.tmod y0 2521) = 0 then 0 else 1) → (cm_i (Int.tmod y0 2521) ∧ Q (some (vI (Int.tmod y0 2521))) h)) ∧ ((if (Int.tmod y0 2521) < 0 then -1 else if (Int.tmod y0 2521) = 0 then 0 else 1) < 0 → (cm_l ((Int.tmod y0 2521) + 2521) ∧ (cm_i ((Int.tmod y0 2521) + 2521) ∧ Q (some (vI ((Int.tmod y0 2521) + 2521))) h))))) : cm_call (d + 1) m_Model_of [vL y0] h Q := by
  refine cm_call_in (C := cd_Model_of) (ls := [some (vL y0), none, none, none]) rfl rfl trivial rfl ?_
  refine w_lload rfl rfl ?_
  refine w_lconst rfl ⟨by decide, by decide⟩ ?_
  refine w_lrem rfl (by decide) ?_
  refine w_lstore rfl rfl ?_
  refine w_lload rfl rfl ?_
  refine w_lconst rfl ⟨by decide, by decide⟩ ?_
  refine w_lcmp rfl ?_
  refine w_if rfl (And.intro (fun hc => ?_) (fun hc => ?_))
  · replace H := H.1 hc
    refine w_lload rfl rfl ?_
    have o1 := H.1
    replace H := H.2
    refine w_l2i rfl o1 ?_
    exact w_ireturn rfl H
  · replace H := H.2 hc
    refine w_lload rfl rfl ?_
    refine w_lconst rfl ⟨by decide, by decide⟩ ?_
    have o2 := H.1
    replace H := H.2
    refine w_ladd rfl o2 ?_
    refine w_goto rfl ?_
    have o3 := H.1
    replace H := H.2
    refine w_l2i rfl o3 ?_
    exact w_ireturn rfl H
set_option maxHeartbeats 4000000 in
set_option maxRecDepth 100000 in
theorem r_Model_inverse_10 {d : Nat} {Q : cm_Q} {h : cm_H} {z0 : Option cm_V} {y1 : Int} {z2 : Option cm_V} {y3 : Int} {z4 : Option cm_V} {x5 : Int}  (H : ((x5 ≤ 0 → (cm_i y1 ∧ Q (some (vI y1)) h)) ∧ (0 < x5 → ((¬ (Int.tmod x5 2) = 1 → cw d cd_Model_inverse Q 34 [z0, some (vL y1), z2, some (vL y3), z4, some (vI x5)] [vL y1] h) ∧ ((Int.tmod x5 2) = 1 → (cm_l (y1 * y3) ∧ cw d cd_Model_inverse Q 34 [z0, some (vL y1), z2, some (vL y3), z4, some (vI x5)] [vL (Int.tmod (y1 * y3) 2521)] h)))))) : cw d cd_Model_inverse Q 10 [z0, some (vL y1), z2, some (vL y3), z4, some (vI x5)] [] h := by
  refine w_iload rfl rfl ?_
  refine w_if rfl (And.intro (fun hc => ?_) (fun hc => ?_))
  · replace H := H.1 hc
    refine w_lload rfl rfl ?_
    have o1 := H.1
    replace H := H.2
    refine w_l2i rfl o1 ?_
    exact w_ireturn rfl H
  · replace H := H.2 hc
    refine w_iload rfl rfl ?_
    refine w_iconst rfl ⟨by decide, by decide⟩ ?_
    refine w_irem rfl (by decide) ?_
    refine w_iconst rfl ⟨by decide, by decide⟩ ?_
    refine w_icmp rfl (And.intro (fun hc => ?_) (fun hc => ?_))
    · replace H := H.1 hc
      refine w_lload rfl rfl ?_
      exact H
    · replace H := H.2 hc
      refine w_lload rfl rfl ?_
      refine w_lload rfl rfl ?_
      have o2 := H.1
      replace H := H.2
      refine w_lmul rfl o2 ?_
      refine w_lconst rfl ⟨by decide, by decide⟩ ?_
      refine w_lrem rfl (by decide) ?_
      refine w_goto rfl ?_
      exact H
set_option maxHeartbeats 4000000 in
set_option maxRecDepth 100000 in
theorem r_Model_inverse_34 {d : Nat} {Q : cm_Q} {h : cm_H} {z0 : Option cm_V} {z1 : Option cm_V} {z2 : Option cm_V} {y3 : Int} {z4 : Option cm_V} {x5 : Int} {w0 : Int}  (H : (cm_l (y3 * y3) ∧ cw d cd_Model_inverse Q 10 [z0, some (vL w0), none, some (vL (Int.tmod (y3 * y3) 2521)), none, some (vI (Int.tdiv x5 2))] [] h)) : cw d cd_Model_inverse Q 34 [z0, z1, z2, some (vL y3), z4, some (vI x5)] [vL w0] h := by
  refine w_lstore rfl rfl ?_
  refine w_lload rfl rfl ?_
  refine w_lload rfl rfl ?_
  have o1 := H.1
  replace H := H.2
  refine w_lmul rfl o1 ?_
  refine w_lconst rfl ⟨by decide, by decide⟩ ?_
  refine w_lrem rfl (by decide) ?_
  refine w_lstore rfl rfl ?_
  refine w_iload rfl rfl ?_
  refine w_iconst rfl ⟨by decide, by decide⟩ ?_
  refine w_idiv rfl (by decide) ?_
  refine w_istore rfl rfl ?_
  refine w_goto rfl ?_
  exact H
set_option maxHeartbeats 4000000 in
set_option maxRecDepth 100000 in
theorem r_Model_inverse {d : Nat} {Q : cm_Q} {h : cm_H} {x0 : Int}  (H : cw d cd_Model_inverse Q 10 [some (vI x0), some (vL 1), none, some (vL x0), none, some (vI 2519)] [] h) : cm_call (d + 1) m_Model_inverse [vI x0] h Q := by
  refine cm_call_in (C := cd_Model_inverse) (ls := [some (vI x0), none, none, none, none, none]) rfl rfl trivial rfl ?_
  refine w_lconst rfl ⟨by decide, by decide⟩ ?_
  refine w_lstore rfl rfl ?_
  refine w_iload rfl rfl ?_
  refine w_i2l rfl ?_
  refine w_lstore rfl rfl ?_
  refine w_iconst rfl ⟨by decide, by decide⟩ ?_
  refine w_istore rfl rfl ?_
  exact H
set_option maxHeartbeats 4000000 in
set_option maxRecDepth 100000 in
theorem r_Model_many {d : Nat} {Q : cm_Q} {h : cm_H} {a0 : Nat} {x1 : Int} (p_a0 : 0 < a0) (H : ((¬ (ch_I h a0 1) = 2 → (cm_i (x1 + 1) ∧ (cm_i (x1 + 2) ∧ (cm_i ((x1 + 1) * (x1 + 2)) ∧ Q (some (vI (Int.tdiv ((x1 + 1) * (x1 + 2)) 2))) h)))) ∧ ((ch_I h a0 1) = 2 → (cm_i (x1 + 1) ∧ Q (some (vI (x1 + 1))) h)))) : cm_call (d + 1) m_Model_many [vR 12 a0, vI x1] h Q := by
  refine cm_call_in (C := cd_Model_many) (ls := [some (vR 12 a0), some (vI x1)]) rfl rfl p_a0 rfl ?_
  refine w_aload rfl rfl ?_
  refine w_getI 1 rfl rfl rfl p_a0 ?_
  refine w_iconst rfl ⟨by decide, by decide⟩ ?_
  refine w_icmp rfl (And.intro (fun hc => ?_) (fun hc => ?_))
  · replace H := H.1 hc
    refine w_iload rfl rfl ?_
    refine w_iconst rfl ⟨by decide, by decide⟩ ?_
    have o1 := H.1
    replace H := H.2
    refine w_iadd rfl o1 ?_
    refine w_iload rfl rfl ?_
    refine w_iconst rfl ⟨by decide, by decide⟩ ?_
    have o2 := H.1
    replace H := H.2
    refine w_iadd rfl o2 ?_
    have o3 := H.1
    replace H := H.2
    refine w_imul rfl o3 ?_
    refine w_iconst rfl ⟨by decide, by decide⟩ ?_
    refine w_idiv rfl (by decide) ?_
    exact w_ireturn rfl H
  · replace H := H.2 hc
    refine w_iload rfl rfl ?_
    refine w_iconst rfl ⟨by decide, by decide⟩ ?_
    have o4 := H.1
    replace H := H.2
    refine w_iadd rfl o4 ?_
    refine w_goto rfl ?_
    exact w_ireturn rfl H
set_option maxHeartbeats 4000000 in
set_option maxRecDepth 100000 in
theorem r_Model_from {d : Nat} {Q : cm_Q} {h : cm_H} {a0 : Nat} {x1 : Int} (p_a0 : 0 < a0) (H : ((¬ (ch_I h a0 1) = 2 → (cm_i (x1 + 1) ∧ (cm_i (x1 * (x1 + 1)) ∧ (cm_i (x1 + 2) ∧ (cm_i ((x1 * (x1 + 1)) * (x1 + 2)) ∧ Q (some (vI (Int.tdiv ((x1 * (x1 + 1)) * (x1 + 2)) 6))) h))))) ∧ ((ch_I h a0 1) = 2 → (cm_i (x1 + 1) ∧ (cm_i (x1 * (x1 + 1)) ∧ Q (some (vI (Int.tdiv (x1 * (x1 + 1)) 2))) h))))) : cm_call (d + 1) m_Model_from [vR 12 a0, vI x1] h Q := by
  refine cm_call_in (C := cd_Model_from) (ls := [some (vR 12 a0), some (vI x1)]) rfl rfl p_a0 rfl ?_
  refine w_aload rfl rfl ?_
  refine w_getI 1 rfl rfl rfl p_a0 ?_
  refine w_iconst rfl ⟨by decide, by decide⟩ ?_
  refine w_icmp rfl (And.intro (fun hc => ?_) (fun hc => ?_))
  · replace H := H.1 hc
    refine w_iload rfl rfl ?_
    refine w_iload rfl rfl ?_
    refine w_iconst rfl ⟨by decide, by decide⟩ ?_
    have o1 := H.1
    replace H := H.2
    refine w_iadd rfl o1 ?_
    have o2 := H.1
    replace H := H.2
    refine w_imul rfl o2 ?_
    refine w_iload rfl rfl ?_
    refine w_iconst rfl ⟨by decide, by decide⟩ ?_
    have o3 := H.1
    replace H := H.2
    refine w_iadd rfl o3 ?_
    have o4 := H.1
    replace H := H.2
    refine w_imul rfl o4 ?_
    refine w_iconst rfl ⟨by decide, by decide⟩ ?_
    refine w_idiv rfl (by decide) ?_
    exact w_ireturn rfl H
  · replace H := H.2 hc
    refine w_iload rfl rfl ?_
    refine w_iload rfl rfl ?_
    refine w_iconst rfl ⟨by decide, by decide⟩ ?_
    have o5 := H.1
    replace H := H.2
    refine w_iadd rfl o5 ?_
    have o6 := H.1
    replace H := H.2
    refine w_imul rfl o6 ?_
    refine w_iconst rfl ⟨by decide, by decide⟩ ?_
    refine w_idiv rfl (by decide) ?_
    refine w_goto rfl ?_
    exact w_ireturn rfl H
set_option maxHeartbeats 4000000 in
set_option maxRecDepth 100000 in
theorem r_Model_at {d : Nat} {Q : cm_Q} {h : cm_H} {a0 : Nat} {x1 : Int} {x2 : Int} {x3 : Int} (p_a0 : 0 < a0) (H : (cm_i (x1 + x2) ∧ (cm_i ((x1 + x2) + x3) ∧ (cm_i (((x1 + x2) + x3) - x1) ∧ (cI d m_Model_from [vR 12 a0, vI ((x1 + x2) + x3)] h fun v5 h4 => ((¬ (ch_I h4 a0 1) = 2 → (cm_i ((((x1 + x2) + x3) - x1) + 1) ∧ (cm_i ((((x1 + x2) + x3) - x1) * ((((x1 + x2) + x3) - x1) + 1)) ∧ (cm_i ((Int.tdiv ((((x1 + x2) + x3) - x1) * ((((x1 + x2) + x3) - x1) + 1)) 2) + x3) ∧ (cm_i (v5 + ((Int.tdiv ((((x1 + x2) + x3) - x1) * ((((x1 + x2) + x3) - x1) + 1)) 2) + x3)) ∧ Q (some (vI (v5 + ((Int.tdiv ((((x1 + x2) + x3) - x1) * ((((x1 + x2) + x3) - x1) + 1)) 2) + x3)))) h4))))) ∧ ((ch_I h4 a0 1) = 2 → (cm_i (v5 + x2) ∧ Q (some (vI (v5 + x2))) h4)))))))) : cm_call (d + 1) m_Model_at [vR 12 a0, vI x1, vI x2, vI x3] h Q := by
  refine cm_call_in (C := cd_Model_at) (ls := [some (vR 12 a0), some (vI x1), some (vI x2), some (vI x3), none, none]) rfl rfl p_a0 rfl ?_
  refine w_iload rfl rfl ?_
  refine w_iload rfl rfl ?_
  have o1 := H.1
  replace H := H.2
  refine w_iadd rfl o1 ?_
  refine w_iload rfl rfl ?_
  have o2 := H.1
  replace H := H.2
  refine w_iadd rfl o2 ?_
  refine w_istore rfl rfl ?_
  refine w_iload rfl rfl ?_
  refine w_iload rfl rfl ?_
  have o3 := H.1
  replace H := H.2
  refine w_isub rfl o3 ?_
  refine w_istore rfl rfl ?_
  refine w_aload rfl rfl ?_
  refine w_iload rfl rfl ?_
  refine w_callI rfl (fun _ => rfl) rfl (cI_mono H fun v5 h4 H => ?_)
  refine w_aload rfl rfl ?_
  refine w_getI 1 rfl rfl rfl p_a0 ?_
  refine w_iconst rfl ⟨by decide, by decide⟩ ?_
  refine w_icmp rfl (And.intro (fun hc => ?_) (fun hc => ?_))
  · replace H := H.1 hc
    refine w_iload rfl rfl ?_
    refine w_iload rfl rfl ?_
    refine w_iconst rfl ⟨by decide, by decide⟩ ?_
    have o6 := H.1
    replace H := H.2
    refine w_iadd rfl o6 ?_
    have o7 := H.1
    replace H := H.2
    refine w_imul rfl o7 ?_
    refine w_iconst rfl ⟨by decide, by decide⟩ ?_
    refine w_idiv rfl (by decide) ?_
    refine w_iload rfl rfl ?_
    have o8 := H.1
    replace H := H.2
    refine w_iadd rfl o8 ?_
    have o9 := H.1
    replace H := H.2
    refine w_iadd rfl o9 ?_
    exact w_ireturn rfl H
  · replace H := H.2 hc
    refine w_iload rfl rfl ?_
    refine w_goto rfl ?_
    have o10 := H.1
    replace H := H.2
    refine w_iadd rfl o10 ?_
    exact w_ireturn rfl H
set_option maxHeartbeats 4000000 in
set_option maxRecDepth 100000 in
theorem r_Model_laysMonomials_2 {d : Nat} {Q : cm_Q} {h : cm_H} {a0 : Nat} {x1 : Int} {z2 : Option cm_V} {z3 : Option cm_V} {z4 : Option cm_V}  (H : ((17 < x1 → Q none h) ∧ (x1 ≤ 17 → cw d cd_Model_laysMonomials Q 10 [some (vR 12 a0), some (vI x1), some (vI x1), z3, z4] [] h))) : cw d cd_Model_laysMonomials Q 2 [some (vR 12 a0), some (vI x1), z2, z3, z4] [] h := by
  refine w_iload rfl rfl ?_
  refine w_iconst rfl ⟨by decide, by decide⟩ ?_
  refine w_icmp rfl (And.intro (fun hc => ?_) (fun hc => ?_))
  · replace H := H.1 hc
    exact w_return rfl H
  · replace H := H.2 hc
    refine w_iload rfl rfl ?_
    refine w_istore rfl rfl ?_
    exact H
set_option maxHeartbeats 4000000 in
set_option maxRecDepth 100000 in
theorem r_Model_laysMonomials_10 {d : Nat} {Q : cm_Q} {h : cm_H} {a0 : Nat} {x1 : Int} {x2 : Int} {z3 : Option cm_V} {z4 : Option cm_V}  (H : ((x2 < 0 → (cm_i (x1 + 1) ∧ cw d cd_Model_laysMonomials Q 2 [some (vR 12 a0), some (vI (x1 + 1)), some (vI x2), z3, z4] [] h)) ∧ (0 ≤ x2 → (cm_i (x1 - x2) ∧ cw d cd_Model_laysMonomials Q 18 [some (vR 12 a0), some (vI x1), some (vI x2), some (vI (x1 - x2)), z4] [] h)))) : cw d cd_Model_laysMonomials Q 10 [some (vR 12 a0), some (vI x1), some (vI x2), z3, z4] [] h := by
  refine w_iload rfl rfl ?_
  refine w_if rfl (And.intro (fun hc => ?_) (fun hc => ?_))
  · replace H := H.1 hc
    have o1 := H.1
    replace H := H.2
    refine w_iinc rfl rfl rfl o1 ?_
    refine w_goto rfl ?_
    exact H
  · replace H := H.2 hc
    refine w_iload rfl rfl ?_
    refine w_iload rfl rfl ?_
    have o2 := H.1
    replace H := H.2
    refine w_isub rfl o2 ?_
    refine w_istore rfl rfl ?_
    exact H
set_option maxHeartbeats 4000000 in
set_option maxRecDepth 100000 in
theorem r_Model_laysMonomials_18 {d : Nat} {Q : cm_Q} {h : cm_H} {a0 : Nat} {x1 : Int} {x2 : Int} {x3 : Int} {z4 : Option cm_V} (p_a0 : 0 < a0) (H : ((¬ (ch_I h a0 1) = 2 → cw d cd_Model_laysMonomials Q 34 [some (vR 12 a0), some (vI x1), some (vI x2), some (vI x3), z4] [vI 0, vI x3] h) ∧ ((ch_I h a0 1) = 2 → (cm_i (x1 - x2) ∧ cw d cd_Model_laysMonomials Q 34 [some (vR 12 a0), some (vI x1), some (vI x2), some (vI x3), z4] [vI (x1 - x2), vI x3] h)))) : cw d cd_Model_laysMonomials Q 18 [some (vR 12 a0), some (vI x1), some (vI x2), some (vI x3), z4] [] h := by
  refine w_iload rfl rfl ?_
  refine w_aload rfl rfl ?_
  refine w_getI 1 rfl rfl rfl p_a0 ?_
  refine w_iconst rfl ⟨by decide, by decide⟩ ?_
  refine w_icmp rfl (And.intro (fun hc => ?_) (fun hc => ?_))
  · replace H := H.1 hc
    refine w_iconst rfl ⟨by decide, by decide⟩ ?_
    exact H
  · replace H := H.2 hc
    refine w_iload rfl rfl ?_
    refine w_iload rfl rfl ?_
    have o1 := H.1
    replace H := H.2
    refine w_isub rfl o1 ?_
    refine w_goto rfl ?_
    exact H
set_option maxHeartbeats 4000000 in
set_option maxRecDepth 100000 in
theorem r_Model_laysMonomials_34 {d : Nat} {Q : cm_Q} {h : cm_H} {a0 : Nat} {x1 : Int} {x2 : Int} {x3 : Int} {z4 : Option cm_V} {s0 : Int} {s1 : Int} (p_a0 : 0 < a0) (H : ((s1 < s0 → (cm_i (x2 + (-1)) ∧ cw d cd_Model_laysMonomials Q 10 [some (vR 12 a0), some (vI x1), some (vI (x2 + (-1))), some (vI x3), z4] [] h)) ∧ (s0 ≤ s1 → (cm_i (x1 - x2) ∧ (cm_i ((x1 - x2) - x3) ∧ (cI d m_Model_at [vR 12 a0, vI x2, vI x3, vI ((x1 - x2) - x3)] h fun v5 h4 => (0 < ((ch_R h4 a0 2)) ∧ ((0:Int) ≤ v5 ∧ v5 < ch_L h4 (ch_R h4 a0 2)) ∧ (∀ h8 : cm_H, h8 = ch_u h4 (ch_R h4 a0 2) v5 x2 → (0 < ((ch_R h8 a0 3)) ∧ ((0:Int) ≤ v5 ∧ v5 < ch_L h8 (ch_R h8 a0 3)) ∧ (∀ h11 : cm_H, h11 = ch_u h8 (ch_R h8 a0 3) v5 x3 → (0 < ((ch_R h11 a0 4)) ∧ ((0:Int) ≤ v5 ∧ v5 < ch_L h11 (ch_R h11 a0 4)) ∧ (∀ h14 : cm_H, h14 = ch_u h11 (ch_R h11 a0 4) v5 ((x1 - x2) - x3) → (cm_i (x3 + (-1)) ∧ cw d cd_Model_laysMonomials Q 18 [some (vR 12 a0), some (vI x1), some (vI x2), some (vI (x3 + (-1))), some (vI v5)] [] h14))))))))))))) : cw d cd_Model_laysMonomials Q 34 [some (vR 12 a0), some (vI x1), some (vI x2), some (vI x3), z4] [vI s0, vI s1] h := by
  refine w_icmp rfl (And.intro (fun hc => ?_) (fun hc => ?_))
  · replace H := H.1 hc
    have o1 := H.1
    replace H := H.2
    refine w_iinc rfl rfl rfl o1 ?_
    refine w_goto rfl ?_
    exact H
  · replace H := H.2 hc
    refine w_aload rfl rfl ?_
    refine w_iload rfl rfl ?_
    refine w_iload rfl rfl ?_
    refine w_iload rfl rfl ?_
    refine w_iload rfl rfl ?_
    have o2 := H.1
    replace H := H.2
    refine w_isub rfl o2 ?_
    refine w_iload rfl rfl ?_
    have o3 := H.1
    replace H := H.2
    refine w_isub rfl o3 ?_
    refine w_callI rfl (fun _ => rfl) rfl (cI_mono H fun v5 h4 H => ?_)
    refine w_istore rfl rfl ?_
    refine w_aload rfl rfl ?_
    refine w_getR 2 20 rfl rfl rfl rfl p_a0 ?_
    refine w_iload rfl rfl ?_
    refine w_iload rfl rfl ?_
    have o6 := H.1
    replace H := H.2
    have o7 := H.1
    replace H := H.2
    refine w_iastore rfl o6 o7 (fun h8 eh8 => ?_)
    replace H := H h8 eh8
    refine w_aload rfl rfl ?_
    refine w_getR 3 20 rfl rfl rfl rfl p_a0 ?_
    refine w_iload rfl rfl ?_
    refine w_iload rfl rfl ?_
    have o9 := H.1
    replace H := H.2
    have o10 := H.1
    replace H := H.2
    refine w_iastore rfl o9 o10 (fun h11 eh11 => ?_)
    replace H := H h11 eh11
    refine w_aload rfl rfl ?_
    refine w_getR 4 20 rfl rfl rfl rfl p_a0 ?_
    refine w_iload rfl rfl ?_
    refine w_iload rfl rfl ?_
    refine w_iload rfl rfl ?_
    refine w_isub rfl o2 ?_
    refine w_iload rfl rfl ?_
    refine w_isub rfl o3 ?_
    have o12 := H.1
    replace H := H.2
    have o13 := H.1
    replace H := H.2
    refine w_iastore rfl o12 o13 (fun h14 eh14 => ?_)
    replace H := H h14 eh14
    have o15 := H.1
    replace H := H.2
    refine w_iinc rfl rfl rfl o15 ?_
    refine w_goto rfl ?_
    exact H
set_option maxHeartbeats 4000000 in
set_option maxRecDepth 100000 in
theorem r_Model_laysMonomials {d : Nat} {Q : cm_Q} {h : cm_H} {a0 : Nat} (p_a0 : 0 < a0) (H : cw d cd_Model_laysMonomials Q 2 [some (vR 12 a0), some (vI 0), none, none, none] [] h) : cm_call (d + 1) m_Model_laysMonomials [vR 12 a0] h Q := by
  refine cm_call_in (C := cd_Model_laysMonomials) (ls := [some (vR 12 a0), none, none, none, none]) rfl rfl p_a0 rfl ?_
  refine w_iconst rfl ⟨by decide, by decide⟩ ?_
  refine w_istore rfl rfl ?_
  exact H
set_option maxHeartbeats 4000000 in
set_option maxRecDepth 100000 in
theorem r_Model_degreeAt {d : Nat} {Q : cm_Q} {h : cm_H} {a0 : Nat} {x1 : Int} (p_a0 : 0 < a0) (H : (0 < ((ch_R h a0 2)) ∧ ((0:Int) ≤ x1 ∧ x1 < ch_L h (ch_R h a0 2)) ∧ (0 < ((ch_R h a0 3)) ∧ ((0:Int) ≤ x1 ∧ x1 < ch_L h (ch_R h a0 3)) ∧ (cm_i ((ch_I h (ch_R h a0 2) x1) + (ch_I h (ch_R h a0 3) x1)) ∧ (0 < ((ch_R h a0 4)) ∧ ((0:Int) ≤ x1 ∧ x1 < ch_L h (ch_R h a0 4)) ∧ (cm_i (((ch_I h (ch_R h a0 2) x1) + (ch_I h (ch_R h a0 3) x1)) + (ch_I h (ch_R h a0 4) x1)) ∧ Q (some (vI (((ch_I h (ch_R h a0 2) x1) + (ch_I h (ch_R h a0 3) x1)) + (ch_I h (ch_R h a0 4) x1)))) h)))))) : cm_call (d + 1) m_Model_degreeAt [vR 12 a0, vI x1] h Q := by
  refine cm_call_in (C := cd_Model_degreeAt) (ls := [some (vR 12 a0), some (vI x1)]) rfl rfl p_a0 rfl ?_
  refine w_aload rfl rfl ?_
  refine w_getR 2 20 rfl rfl rfl rfl p_a0 ?_
  refine w_iload rfl rfl ?_
  have o1 := H.1
  replace H := H.2
  have o2 := H.1
  replace H := H.2
  refine w_iaload rfl o1 o2 ?_
  refine w_aload rfl rfl ?_
  refine w_getR 3 20 rfl rfl rfl rfl p_a0 ?_
  refine w_iload rfl rfl ?_
  have o3 := H.1
  replace H := H.2
  have o4 := H.1
  replace H := H.2
  refine w_iaload rfl o3 o4 ?_
  have o5 := H.1
  replace H := H.2
  refine w_iadd rfl o5 ?_
  refine w_aload rfl rfl ?_
  refine w_getR 4 20 rfl rfl rfl rfl p_a0 ?_
  refine w_iload rfl rfl ?_
  have o6 := H.1
  replace H := H.2
  have o7 := H.1
  replace H := H.2
  refine w_iaload rfl o6 o7 ?_
  have o8 := H.1
  replace H := H.2
  refine w_iadd rfl o8 ?_
  exact w_ireturn rfl H
set_option maxHeartbeats 4000000 in
set_option maxRecDepth 100000 in
theorem r_Model_all {d : Nat} {Q : cm_Q} {h : cm_H} {a0 : Nat} (p_a0 : 0 < a0) (H : (cI d m_Model_from [vR 12 a0, vI 16] h fun v2 h1 => Q (some (vI v2)) h1)) : cm_call (d + 1) m_Model_all [vR 12 a0] h Q := by
  refine cm_call_in (C := cd_Model_all) (ls := [some (vR 12 a0)]) rfl rfl p_a0 rfl ?_
  refine w_aload rfl rfl ?_
  refine w_iconst rfl ⟨by decide, by decide⟩ ?_
  refine w_callI rfl (fun _ => rfl) rfl (cI_mono H fun v2 h1 H => ?_)
  exact w_ireturn rfl H
set_option maxHeartbeats 4000000 in
set_option maxRecDepth 100000 in
theorem r_Model_copies_3 {d : Nat} {Q : cm_Q} {h : cm_H} {a0 : Nat} {x1 : Int} {a2 : Nat} {x3 : Int} {x4 : Int} (p_a0 : 0 < a0) (p_a2 : 0 < a2) (H : ((1140 ≤ x4 → Q none h) ∧ (x4 < 1140 → (cm_i (x3 + x4) ∧ (cm_i (x1 + x4) ∧ ((0:Int) ≤ (x1 + x4) ∧ (x1 + x4) < ch_L h a0) ∧ ((0:Int) ≤ (x3 + x4) ∧ (x3 + x4) < ch_L h a2) ∧ (∀ h5 : cm_H, h5 = ch_u h a2 (x3 + x4) (ch_I h a0 (x1 + x4)) → (cm_i (x4 + 1) ∧ cw d cd_Model_copies Q 3 [some (vR 20 a0), some (vI x1), some (vR 20 a2), some (vI x3), some (vI (x4 + 1))] [] h5))))))) : cw d cd_Model_copies Q 3 [some (vR 20 a0), some (vI x1), some (vR 20 a2), some (vI x3), some (vI x4)] [] h := by
  refine w_iload rfl rfl ?_
  refine w_iconst rfl ⟨by decide, by decide⟩ ?_
  refine w_icmp rfl (And.intro (fun hc => ?_) (fun hc => ?_))
  · replace H := H.1 hc
    exact w_return rfl H
  · replace H := H.2 hc
    refine w_aload rfl rfl ?_
    refine w_iload rfl rfl ?_
    refine w_iload rfl rfl ?_
    have o1 := H.1
    replace H := H.2
    refine w_iadd rfl o1 ?_
    refine w_aload rfl rfl ?_
    refine w_iload rfl rfl ?_
    refine w_iload rfl rfl ?_
    have o2 := H.1
    replace H := H.2
    refine w_iadd rfl o2 ?_
    have o3 := H.1
    replace H := H.2
    refine w_iaload rfl p_a0 o3 ?_
    have o4 := H.1
    replace H := H.2
    refine w_iastore rfl p_a2 o4 (fun h5 eh5 => ?_)
    replace H := H h5 eh5
    have o6 := H.1
    replace H := H.2
    refine w_iinc rfl rfl rfl o6 ?_
    refine w_goto rfl ?_
    exact H
set_option maxHeartbeats 4000000 in
set_option maxRecDepth 100000 in
theorem r_Model_copies {d : Nat} {Q : cm_Q} {h : cm_H} {a0 : Nat} {x1 : Int} {a2 : Nat} {x3 : Int}  (H : cw d cd_Model_copies Q 3 [some (vR 20 a0), some (vI x1), some (vR 20 a2), some (vI x3), some (vI 0)] [] h) : cm_call (d + 1) m_Model_copies [vR 20 a0, vI x1, vR 20 a2, vI x3] h Q := by
  refine cm_call_in (C := cd_Model_copies) (ls := [some (vR 20 a0), some (vI x1), some (vR 20 a2), some (vI x3), none]) rfl rfl trivial rfl ?_
  refine w_iconst rfl ⟨by decide, by decide⟩ ?_
  refine w_istore rfl rfl ?_
  exact H
set_option maxHeartbeats 4000000 in
set_option maxRecDepth 100000 in
theorem r_Model_clears_2 {d : Nat} {Q : cm_Q} {h : cm_H} {a0 : Nat} {x1 : Int} {x2 : Int} (p_a0 : 0 < a0) (H : ((1140 ≤ x2 → Q none h) ∧ (x2 < 1140 → (cm_i (x1 + x2) ∧ ((0:Int) ≤ (x1 + x2) ∧ (x1 + x2) < ch_L h a0) ∧ (∀ h3 : cm_H, h3 = ch_u h a0 (x1 + x2) 0 → (cm_i (x2 + 1) ∧ cw d cd_Model_clears Q 2 [some (vR 20 a0), some (vI x1), some (vI (x2 + 1))] [] h3)))))) : cw d cd_Model_clears Q 2 [some (vR 20 a0), some (vI x1), some (vI x2)] [] h := by
  refine w_iload rfl rfl ?_
  refine w_iconst rfl ⟨by decide, by decide⟩ ?_
  refine w_icmp rfl (And.intro (fun hc => ?_) (fun hc => ?_))
  · replace H := H.1 hc
    exact w_return rfl H
  · replace H := H.2 hc
    refine w_aload rfl rfl ?_
    refine w_iload rfl rfl ?_
    refine w_iload rfl rfl ?_
    have o1 := H.1
    replace H := H.2
    refine w_iadd rfl o1 ?_
    refine w_iconst rfl ⟨by decide, by decide⟩ ?_
    have o2 := H.1
    replace H := H.2
    refine w_iastore rfl p_a0 o2 (fun h3 eh3 => ?_)
    replace H := H h3 eh3
    have o4 := H.1
    replace H := H.2
    refine w_iinc rfl rfl rfl o4 ?_
    refine w_goto rfl ?_
    exact H
set_option maxHeartbeats 4000000 in
set_option maxRecDepth 100000 in
theorem r_Model_clears {d : Nat} {Q : cm_Q} {h : cm_H} {a0 : Nat} {x1 : Int}  (H : cw d cd_Model_clears Q 2 [some (vR 20 a0), some (vI x1), some (vI 0)] [] h) : cm_call (d + 1) m_Model_clears [vR 20 a0, vI x1] h Q := by
  refine cm_call_in (C := cd_Model_clears) (ls := [some (vR 20 a0), some (vI x1), none]) rfl rfl trivial rfl ?_
  refine w_iconst rfl ⟨by decide, by decide⟩ ?_
  refine w_istore rfl rfl ?_
  exact H
set_option maxHeartbeats 4000000 in
set_option maxRecDepth 100000 in
theorem r_Model_degree_9 {d : Nat} {Q : cm_Q} {h : cm_H} {a0 : Nat} {a1 : Nat} {x2 : Int} {x3 : Int} (p_a1 : 0 < a1) (H : ((x3 ≤ 0 → Q (some (vI 0)) h) ∧ (0 < x3 → (cm_i (x2 + x3) ∧ ((0:Int) ≤ (x2 + x3) ∧ (x2 + x3) < ch_L h a1) ∧ (((ch_I h a1 (x2 + x3)) = 0 → (cm_i (x3 + (-1)) ∧ cw d cd_Model_degree Q 9 [some (vR 12 a0), some (vR 20 a1), some (vI x2), some (vI (x3 + (-1)))] [] h)) ∧ (¬ (ch_I h a1 (x2 + x3)) = 0 → (cI d m_Model_degreeAt [vR 12 a0, vI x3] h fun v5 h4 => Q (some (vI v5)) h4))))))) : cw d cd_Model_degree Q 9 [some (vR 12 a0), some (vR 20 a1), some (vI x2), some (vI x3)] [] h := by
  refine w_iload rfl rfl ?_
  refine w_if rfl (And.intro (fun hc => ?_) (fun hc => ?_))
  · replace H := H.1 hc
    refine w_iconst rfl ⟨by decide, by decide⟩ ?_
    exact w_ireturn rfl H
  · replace H := H.2 hc
    refine w_aload rfl rfl ?_
    refine w_iload rfl rfl ?_
    refine w_iload rfl rfl ?_
    have o1 := H.1
    replace H := H.2
    refine w_iadd rfl o1 ?_
    have o2 := H.1
    replace H := H.2
    refine w_iaload rfl p_a1 o2 ?_
    refine w_if rfl (And.intro (fun hc => ?_) (fun hc => ?_))
    · replace H := H.1 hc
      have o3 := H.1
      replace H := H.2
      refine w_iinc rfl rfl rfl o3 ?_
      refine w_goto rfl ?_
      exact H
    · replace H := H.2 hc
      refine w_aload rfl rfl ?_
      refine w_iload rfl rfl ?_
      refine w_callI rfl (fun _ => rfl) rfl (cI_mono H fun v5 h4 H => ?_)
      exact w_ireturn rfl H
set_option maxHeartbeats 4000000 in
set_option maxRecDepth 100000 in
theorem r_Model_degree {d : Nat} {Q : cm_Q} {h : cm_H} {a0 : Nat} {a1 : Nat} {x2 : Int} (p_a0 : 0 < a0) (H : (cI d m_Model_from [vR 12 a0, vI 18] h fun v2 h1 => (cm_i (v2 - 1) ∧ cw d cd_Model_degree Q 9 [some (vR 12 a0), some (vR 20 a1), some (vI x2), some (vI (v2 - 1))] [] h1))) : cm_call (d + 1) m_Model_degree [vR 12 a0, vR 20 a1, vI x2] h Q := by
  refine cm_call_in (C := cd_Model_degree) (ls := [some (vR 12 a0), some (vR 20 a1), some (vI x2), none]) rfl rfl p_a0 rfl ?_
  refine w_aload rfl rfl ?_
  refine w_iconst rfl ⟨by decide, by decide⟩ ?_
  refine w_callI rfl (fun _ => rfl) rfl (cI_mono H fun v2 h1 H => ?_)
  refine w_iconst rfl ⟨by decide, by decide⟩ ?_
  have o3 := H.1
  replace H := H.2
  refine w_isub rfl o3 ?_
  refine w_istore rfl rfl ?_
  exact H
set_option maxHeartbeats 4000000 in
set_option maxRecDepth 100000 in
theorem r_Model_isNothing_5 {d : Nat} {Q : cm_Q} {h : cm_H} {z0 : Option cm_V} {a1 : Nat} {x2 : Int} {x3 : Int} {x4 : Int} (p_a1 : 0 < a1) (H : ((1140 ≤ x4 → ((x3 = 0 ∨ x3 = 1) ∧ Q (some (vI x3)) h)) ∧ (x4 < 1140 → ((x3 = 0 → ((x3 = 0 ∨ x3 = 1) ∧ Q (some (vI x3)) h)) ∧ (¬ x3 = 0 → (cm_i (x2 + x4) ∧ ((0:Int) ≤ (x2 + x4) ∧ (x2 + x4) < ch_L h a1) ∧ ((¬ (ch_I h a1 (x2 + x4)) = 0 → (cm_i (x4 + 1) ∧ cw d cd_Model_isNothing Q 5 [z0, some (vR 20 a1), some (vI x2), some (vI 0), some (vI (x4 + 1))] [] h)) ∧ ((ch_I h a1 (x2 + x4)) = 0 → (cm_i (x4 + 1) ∧ cw d cd_Model_isNothing Q 5 [z0, some (vR 20 a1), some (vI x2), some (vI 1), some (vI (x4 + 1))] [] h))))))))) : cw d cd_Model_isNothing Q 5 [z0, some (vR 20 a1), some (vI x2), some (vI x3), some (vI x4)] [] h := by
  refine w_iload rfl rfl ?_
  refine w_iconst rfl ⟨by decide, by decide⟩ ?_
  refine w_icmp rfl (And.intro (fun hc => ?_) (fun hc => ?_))
  · replace H := H.1 hc
    refine w_iload rfl rfl ?_
    exact w_zreturn rfl H.1 H.2
  · replace H := H.2 hc
    refine w_iload rfl rfl ?_
    refine w_if rfl (And.intro (fun hc => ?_) (fun hc => ?_))
    · replace H := H.1 hc
      refine w_iload rfl rfl ?_
      exact w_zreturn rfl H.1 H.2
    · replace H := H.2 hc
      refine w_aload rfl rfl ?_
      refine w_iload rfl rfl ?_
      refine w_iload rfl rfl ?_
      have o1 := H.1
      replace H := H.2
      refine w_iadd rfl o1 ?_
      have o2 := H.1
      replace H := H.2
      refine w_iaload rfl p_a1 o2 ?_
      refine w_if rfl (And.intro (fun hc => ?_) (fun hc => ?_))
      · replace H := H.1 hc
        refine w_iconst rfl ⟨by decide, by decide⟩ ?_
        refine w_istore rfl rfl ?_
        have o3 := H.1
        replace H := H.2
        refine w_iinc rfl rfl rfl o3 ?_
        refine w_goto rfl ?_
        exact H
      · replace H := H.2 hc
        refine w_iconst rfl ⟨by decide, by decide⟩ ?_
        refine w_goto rfl ?_
        refine w_istore rfl rfl ?_
        have o4 := H.1
        replace H := H.2
        refine w_iinc rfl rfl rfl o4 ?_
        refine w_goto rfl ?_
        exact H
set_option maxHeartbeats 4000000 in
set_option maxRecDepth 100000 in
theorem r_Model_isNothing {d : Nat} {Q : cm_Q} {h : cm_H} {a0 : Nat} {a1 : Nat} {x2 : Int} (p_a0 : 0 < a0) (H : cw d cd_Model_isNothing Q 5 [some (vR 12 a0), some (vR 20 a1), some (vI x2), some (vI 1), some (vI 0)] [] h) : cm_call (d + 1) m_Model_isNothing [vR 12 a0, vR 20 a1, vI x2] h Q := by
  refine cm_call_in (C := cd_Model_isNothing) (ls := [some (vR 12 a0), some (vR 20 a1), some (vI x2), none, none]) rfl rfl p_a0 rfl ?_
  refine w_iconst rfl ⟨by decide, by decide⟩ ?_
  refine w_istore rfl rfl ?_
  refine w_iconst rfl ⟨by decide, by decide⟩ ?_
  refine w_istore rfl rfl ?_
  exact H
set_option maxHeartbeats 4000000 in
set_option maxRecDepth 100000 in
theorem r_Model_multiplies_39 {d : Nat} {Q : cm_Q} {h : cm_H} {a0 : Nat} {a1 : Nat} {x2 : Int} {a3 : Nat} {x4 : Int} {a5 : Nat} {x6 : Int} {x7 : Int} {x8 : Int} {x9 : Int} {z10 : Option cm_V} {z11 : Option cm_V} (p_a1 : 0 < a1) (H : ((x7 ≤ x9 → Q none h) ∧ (x9 < x7 → (cm_i (x2 + x9) ∧ ((0:Int) ≤ (x2 + x9) ∧ (x2 + x9) < ch_L h a1) ∧ (((ch_I h a1 (x2 + x9)) = 0 → (cm_i (x9 + 1) ∧ cw d cd_Model_multiplies Q 39 [some (vR 12 a0), some (vR 20 a1), some (vI x2), some (vR 20 a3), some (vI x4), some (vR 20 a5), some (vI x6), some (vI x7), some (vI x8), some (vI (x9 + 1)), z10, z11] [] h)) ∧ (¬ (ch_I h a1 (x2 + x9)) = 0 → cw d cd_Model_multiplies Q 58 [some (vR 12 a0), some (vR 20 a1), some (vI x2), some (vR 20 a3), some (vI x4), some (vR 20 a5), some (vI x6), some (vI x7), some (vI x8), some (vI x9), some (vI 0), z11] [] h)))))) : cw d cd_Model_multiplies Q 39 [some (vR 12 a0), some (vR 20 a1), some (vI x2), some (vR 20 a3), some (vI x4), some (vR 20 a5), some (vI x6), some (vI x7), some (vI x8), some (vI x9), z10, z11] [] h := by
  refine w_iload rfl rfl ?_
  refine w_iload rfl rfl ?_
  refine w_icmp rfl (And.intro (fun hc => ?_) (fun hc => ?_))
  · replace H := H.1 hc
    exact w_return rfl H
  · replace H := H.2 hc
    refine w_aload rfl rfl ?_
    refine w_iload rfl rfl ?_
    refine w_iload rfl rfl ?_
    have o1 := H.1
    replace H := H.2
    refine w_iadd rfl o1 ?_
    have o2 := H.1
    replace H := H.2
    refine w_iaload rfl p_a1 o2 ?_
    refine w_if rfl (And.intro (fun hc => ?_) (fun hc => ?_))
    · replace H := H.1 hc
      have o3 := H.1
      replace H := H.2
      refine w_iinc rfl rfl rfl o3 ?_
      refine w_goto rfl ?_
      exact H
    · replace H := H.2 hc
      refine w_iconst rfl ⟨by decide, by decide⟩ ?_
      refine w_istore rfl rfl ?_
      exact H
set_option maxHeartbeats 4000000 in
set_option maxRecDepth 100000 in
theorem r_Model_multiplies_58 {d : Nat} {Q : cm_Q} {h : cm_H} {a0 : Nat} {a1 : Nat} {x2 : Int} {a3 : Nat} {x4 : Int} {a5 : Nat} {x6 : Int} {x7 : Int} {x8 : Int} {x9 : Int} {x10 : Int} {z11 : Option cm_V} (p_a3 : 0 < a3) (p_a0 : 0 < a0) (p_a5 : 0 < a5) (p_a1 : 0 < a1) (H : ((x8 ≤ x10 → (cm_i (x9 + 1) ∧ cw d cd_Model_multiplies Q 39 [some (vR 12 a0), some (vR 20 a1), some (vI x2), some (vR 20 a3), some (vI x4), some (vR 20 a5), some (vI x6), some (vI x7), some (vI x8), some (vI (x9 + 1)), some (vI x10), z11] [] h)) ∧ (x10 < x8 → (cm_i (x4 + x10) ∧ ((0:Int) ≤ (x4 + x10) ∧ (x4 + x10) < ch_L h a3) ∧ (((ch_I h a3 (x4 + x10)) = 0 → (cm_i (x10 + 1) ∧ cw d cd_Model_multiplies Q 58 [some (vR 12 a0), some (vR 20 a1), some (vI x2), some (vR 20 a3), some (vI x4), some (vR 20 a5), some (vI x6), some (vI x7), some (vI x8), some (vI x9), some (vI (x10 + 1)), z11] [] h)) ∧ (¬ (ch_I h a3 (x4 + x10)) = 0 → (0 < ((ch_R h a0 2)) ∧ ((0:Int) ≤ x9 ∧ x9 < ch_L h (ch_R h a0 2)) ∧ ((0:Int) ≤ x10 ∧ x10 < ch_L h (ch_R h a0 2)) ∧ (cm_i ((ch_I h (ch_R h a0 2) x9) + (ch_I h (ch_R h a0 2) x10)) ∧ (0 < ((ch_R h a0 3)) ∧ ((0:Int) ≤ x9 ∧ x9 < ch_L h (ch_R h a0 3)) ∧ ((0:Int) ≤ x10 ∧ x10 < ch_L h (ch_R h a0 3)) ∧ (cm_i ((ch_I h (ch_R h a0 3) x9) + (ch_I h (ch_R h a0 3) x10)) ∧ (0 < ((ch_R h a0 4)) ∧ ((0:Int) ≤ x9 ∧ x9 < ch_L h (ch_R h a0 4)) ∧ ((0:Int) ≤ x10 ∧ x10 < ch_L h (ch_R h a0 4)) ∧ (cm_i ((ch_I h (ch_R h a0 4) x9) + (ch_I h (ch_R h a0 4) x10)) ∧ (cI d m_Model_at [vR 12 a0, vI ((ch_I h (ch_R h a0 2) x9) + (ch_I h (ch_R h a0 2) x10)), vI ((ch_I h (ch_R h a0 3) x9) + (ch_I h (ch_R h a0 3) x10)), vI ((ch_I h (ch_R h a0 4) x9) + (ch_I h (ch_R h a0 4) x10))] h fun v18 h17 => (cm_i (x6 + v18) ∧ ((0:Int) ≤ (x6 + v18) ∧ (x6 + v18) < ch_L h17 a5) ∧ (cm_i (x2 + x9) ∧ ((0:Int) ≤ (x2 + x9) ∧ (x2 + x9) < ch_L h17 a1) ∧ ((0:Int) ≤ (x4 + x10) ∧ (x4 + x10) < ch_L h17 a3) ∧ (cm_i ((ch_I h17 a1 (x2 + x9)) * (ch_I h17 a3 (x4 + x10))) ∧ (cm_i ((ch_I h17 a5 (x6 + v18)) + ((ch_I h17 a1 (x2 + x9)) * (ch_I h17 a3 (x4 + x10)))) ∧ (∀ h26 : cm_H, h26 = ch_u h17 a5 (x6 + v18) (Int.tmod ((ch_I h17 a5 (x6 + v18)) + ((ch_I h17 a1 (x2 + x9)) * (ch_I h17 a3 (x4 + x10)))) 2521) → (cm_i (x10 + 1) ∧ cw d cd_Model_multiplies Q 58 [some (vR 12 a0), some (vR 20 a1), some (vI x2), some (vR 20 a3), some (vI x4), some (vR 20 a5), some (vI x6), some (vI x7), some (vI x8), some (vI x9), some (vI (x10 + 1)), some (vI (x6 + v18))] [] h26))))))))))))))))))) : cw d cd_Model_multiplies Q 58 [some (vR 12 a0), some (vR 20 a1), some (vI x2), some (vR 20 a3), some (vI x4), some (vR 20 a5), some (vI x6), some (vI x7), some (vI x8), some (vI x9), some (vI x10), z11] [] h := by
  refine w_iload rfl rfl ?_
  refine w_iload rfl rfl ?_
  refine w_icmp rfl (And.intro (fun hc => ?_) (fun hc => ?_))
  · replace H := H.1 hc
    have o1 := H.1
    replace H := H.2
    refine w_iinc rfl rfl rfl o1 ?_
    refine w_goto rfl ?_
    exact H
  · replace H := H.2 hc
    refine w_aload rfl rfl ?_
    refine w_iload rfl rfl ?_
    refine w_iload rfl rfl ?_
    have o2 := H.1
    replace H := H.2
    refine w_iadd rfl o2 ?_
    have o3 := H.1
    replace H := H.2
    refine w_iaload rfl p_a3 o3 ?_
    refine w_if rfl (And.intro (fun hc => ?_) (fun hc => ?_))
    · replace H := H.1 hc
      have o4 := H.1
      replace H := H.2
      refine w_iinc rfl rfl rfl o4 ?_
      refine w_goto rfl ?_
      exact H
    · replace H := H.2 hc
      refine w_iload rfl rfl ?_
      refine w_aload rfl rfl ?_
      refine w_aload rfl rfl ?_
      refine w_getR 2 20 rfl rfl rfl rfl p_a0 ?_
      refine w_iload rfl rfl ?_
      have o5 := H.1
      replace H := H.2
      have o6 := H.1
      replace H := H.2
      refine w_iaload rfl o5 o6 ?_
      refine w_aload rfl rfl ?_
      refine w_getR 2 20 rfl rfl rfl rfl p_a0 ?_
      refine w_iload rfl rfl ?_
      have o7 := H.1
      replace H := H.2
      refine w_iaload rfl o5 o7 ?_
      have o8 := H.1
      replace H := H.2
      refine w_iadd rfl o8 ?_
      refine w_aload rfl rfl ?_
      refine w_getR 3 20 rfl rfl rfl rfl p_a0 ?_
      refine w_iload rfl rfl ?_
      have o9 := H.1
      replace H := H.2
      have o10 := H.1
      replace H := H.2
      refine w_iaload rfl o9 o10 ?_
      refine w_aload rfl rfl ?_
      refine w_getR 3 20 rfl rfl rfl rfl p_a0 ?_
      refine w_iload rfl rfl ?_
      have o11 := H.1
      replace H := H.2
      refine w_iaload rfl o9 o11 ?_
      have o12 := H.1
      replace H := H.2
      refine w_iadd rfl o12 ?_
      refine w_aload rfl rfl ?_
      refine w_getR 4 20 rfl rfl rfl rfl p_a0 ?_
      refine w_iload rfl rfl ?_
      have o13 := H.1
      replace H := H.2
      have o14 := H.1
      replace H := H.2
      refine w_iaload rfl o13 o14 ?_
      refine w_aload rfl rfl ?_
      refine w_getR 4 20 rfl rfl rfl rfl p_a0 ?_
      refine w_iload rfl rfl ?_
      have o15 := H.1
      replace H := H.2
      refine w_iaload rfl o13 o15 ?_
      have o16 := H.1
      replace H := H.2
      refine w_iadd rfl o16 ?_
      refine w_callI rfl (fun _ => rfl) rfl (cI_mono H fun v18 h17 H => ?_)
      have o19 := H.1
      replace H := H.2
      refine w_iadd rfl o19 ?_
      refine w_istore rfl rfl ?_
      refine w_aload rfl rfl ?_
      refine w_iload rfl rfl ?_
      refine w_aload rfl rfl ?_
      refine w_iload rfl rfl ?_
      have o20 := H.1
      replace H := H.2
      refine w_iaload rfl p_a5 o20 ?_
      refine w_aload rfl rfl ?_
      refine w_iload rfl rfl ?_
      refine w_iload rfl rfl ?_
      have o21 := H.1
      replace H := H.2
      refine w_iadd rfl o21 ?_
      have o22 := H.1
      replace H := H.2
      refine w_iaload rfl p_a1 o22 ?_
      refine w_aload rfl rfl ?_
      refine w_iload rfl rfl ?_
      refine w_iload rfl rfl ?_
      refine w_iadd rfl o2 ?_
      have o23 := H.1
      replace H := H.2
      refine w_iaload rfl p_a3 o23 ?_
      have o24 := H.1
      replace H := H.2
      refine w_imul rfl o24 ?_
      have o25 := H.1
      replace H := H.2
      refine w_iadd rfl o25 ?_
      refine w_iconst rfl ⟨by decide, by decide⟩ ?_
      refine w_irem rfl (by decide) ?_
      refine w_iastore rfl p_a5 o20 (fun h26 eh26 => ?_)
      replace H := H h26 eh26
      have o27 := H.1
      replace H := H.2
      refine w_iinc rfl rfl rfl o27 ?_
      refine w_goto rfl ?_
      exact H
set_option maxHeartbeats 4000000 in
set_option maxRecDepth 100000 in
theorem r_Model_multiplies {d : Nat} {Q : cm_Q} {h : cm_H} {a0 : Nat} {a1 : Nat} {x2 : Int} {a3 : Nat} {x4 : Int} {a5 : Nat} {x6 : Int} (p_a0 : 0 < a0) (H : (cU d m_Model_clears [vR 20 a5, vI x6] h fun h1 => (cI d m_Model_degree [vR 12 a0, vR 20 a1, vI x2] h1 fun v3 h2 => (cm_i (v3 + 1) ∧ (cI d m_Model_from [vR 12 a0, vI (v3 + 1)] h2 fun v6 h5 => (cI d m_Model_degree [vR 12 a0, vR 20 a3, vI x4] h5 fun v8 h7 => (cm_i (v8 + 1) ∧ (cI d m_Model_from [vR 12 a0, vI (v8 + 1)] h7 fun v11 h10 => cw d cd_Model_multiplies Q 39 [some (vR 12 a0), some (vR 20 a1), some (vI x2), some (vR 20 a3), some (vI x4), some (vR 20 a5), some (vI x6), some (vI v6), some (vI v11), some (vI 0), none, none] [] h10)))))))) : cm_call (d + 1) m_Model_multiplies [vR 12 a0, vR 20 a1, vI x2, vR 20 a3, vI x4, vR 20 a5, vI x6] h Q := by
  refine cm_call_in (C := cd_Model_multiplies) (ls := [some (vR 12 a0), some (vR 20 a1), some (vI x2), some (vR 20 a3), some (vI x4), some (vR 20 a5), some (vI x6), none, none, none, none, none]) rfl rfl p_a0 rfl ?_
  refine w_aload rfl rfl ?_
  refine w_iload rfl rfl ?_
  refine w_callU rfl (fun _ => rfl) rfl (cU_mono H fun h1 H => ?_)
  refine w_aload rfl rfl ?_
  refine w_aload rfl rfl ?_
  refine w_aload rfl rfl ?_
  refine w_iload rfl rfl ?_
  refine w_callI rfl (fun _ => rfl) rfl (cI_mono H fun v3 h2 H => ?_)
  refine w_iconst rfl ⟨by decide, by decide⟩ ?_
  have o4 := H.1
  replace H := H.2
  refine w_iadd rfl o4 ?_
  refine w_callI rfl (fun _ => rfl) rfl (cI_mono H fun v6 h5 H => ?_)
  refine w_istore rfl rfl ?_
  refine w_aload rfl rfl ?_
  refine w_aload rfl rfl ?_
  refine w_aload rfl rfl ?_
  refine w_iload rfl rfl ?_
  refine w_callI rfl (fun _ => rfl) rfl (cI_mono H fun v8 h7 H => ?_)
  refine w_iconst rfl ⟨by decide, by decide⟩ ?_
  have o9 := H.1
  replace H := H.2
  refine w_iadd rfl o9 ?_
  refine w_callI rfl (fun _ => rfl) rfl (cI_mono H fun v11 h10 H => ?_)
  refine w_istore rfl rfl ?_
  refine w_iconst rfl ⟨by decide, by decide⟩ ?_
  refine w_istore rfl rfl ?_
  exact H
set_option maxHeartbeats 4000000 in
set_option maxRecDepth 100000 in
theorem r_Model_terms_4 {d : Nat} {Q : cm_Q} {h : cm_H} {a0 : Nat} {x1 : Int} {x2 : Int} {x3 : Int} (p_a0 : 0 < a0) (H : ((1140 ≤ x3 → Q (some (vI x2)) h) ∧ (x3 < 1140 → (cm_i (x1 + x3) ∧ (0 < ((ch_R h a0 5)) ∧ ((0:Int) ≤ (x1 + x3) ∧ (x1 + x3) < ch_L h (ch_R h a0 5)) ∧ ((¬ (ch_I h (ch_R h a0 5) (x1 + x3)) = 0 → (cm_i (x2 + 1) ∧ (cm_i (x3 + 1) ∧ cw d cd_Model_terms Q 4 [some (vR 12 a0), some (vI x1), some (vI (x2 + 1)), some (vI (x3 + 1))] [] h))) ∧ ((ch_I h (ch_R h a0 5) (x1 + x3)) = 0 → (cm_i (x2 + 0) ∧ (cm_i (x3 + 1) ∧ cw d cd_Model_terms Q 4 [some (vR 12 a0), some (vI x1), some (vI (x2 + 0)), some (vI (x3 + 1))] [] h))))))))) : cw d cd_Model_terms Q 4 [some (vR 12 a0), some (vI x1), some (vI x2), some (vI x3)] [] h := by
  refine w_iload rfl rfl ?_
  refine w_iconst rfl ⟨by decide, by decide⟩ ?_
  refine w_icmp rfl (And.intro (fun hc => ?_) (fun hc => ?_))
  · replace H := H.1 hc
    refine w_iload rfl rfl ?_
    exact w_ireturn rfl H
  · replace H := H.2 hc
    refine w_iload rfl rfl ?_
    refine w_aload rfl rfl ?_
    refine w_getR 5 20 rfl rfl rfl rfl p_a0 ?_
    refine w_iload rfl rfl ?_
    refine w_iload rfl rfl ?_
    have o1 := H.1
    replace H := H.2
    refine w_iadd rfl o1 ?_
    have o2 := H.1
    replace H := H.2
    have o3 := H.1
    replace H := H.2
    refine w_iaload rfl o2 o3 ?_
    refine w_if rfl (And.intro (fun hc => ?_) (fun hc => ?_))
    · replace H := H.1 hc
      refine w_iconst rfl ⟨by decide, by decide⟩ ?_
      have o4 := H.1
      replace H := H.2
      refine w_iadd rfl o4 ?_
      refine w_istore rfl rfl ?_
      have o5 := H.1
      replace H := H.2
      refine w_iinc rfl rfl rfl o5 ?_
      refine w_goto rfl ?_
      exact H
    · replace H := H.2 hc
      refine w_iconst rfl ⟨by decide, by decide⟩ ?_
      refine w_goto rfl ?_
      have o6 := H.1
      replace H := H.2
      refine w_iadd rfl o6 ?_
      refine w_istore rfl rfl ?_
      have o7 := H.1
      replace H := H.2
      refine w_iinc rfl rfl rfl o7 ?_
      refine w_goto rfl ?_
      exact H
set_option maxHeartbeats 4000000 in
set_option maxRecDepth 100000 in
theorem r_Model_terms {d : Nat} {Q : cm_Q} {h : cm_H} {a0 : Nat} {x1 : Int} (p_a0 : 0 < a0) (H : cw d cd_Model_terms Q 4 [some (vR 12 a0), some (vI x1), some (vI 0), some (vI 0)] [] h) : cm_call (d + 1) m_Model_terms [vR 12 a0, vI x1] h Q := by
  refine cm_call_in (C := cd_Model_terms) (ls := [some (vR 12 a0), some (vI x1), none, none]) rfl rfl p_a0 rfl ?_
  refine w_iconst rfl ⟨by decide, by decide⟩ ?_
  refine w_istore rfl rfl ?_
  refine w_iconst rfl ⟨by decide, by decide⟩ ?_
  refine w_istore rfl rfl ?_
  exact H
set_option maxHeartbeats 4000000 in
set_option maxRecDepth 100000 in
theorem r_Model_init {d : Nat} {Q : cm_Q} {h : cm_H} {a0 : Nat} (p_a0 : 0 < a0) (H : (∀ h1 : cm_H, h1 = ch_u h a0 1 2 → (∀ h2 : cm_H, h2 = ch_new h1 20 1140 (Int.toNat 1140) → (∀ h3 : cm_H, h3 = ch_r h2 a0 2 (ch_n h1) → (∀ h4 : cm_H, h4 = ch_new h3 20 1140 (Int.toNat 1140) → (∀ h5 : cm_H, h5 = ch_r h4 a0 3 (ch_n h3) → (∀ h6 : cm_H, h6 = ch_new h5 20 1140 (Int.toNat 1140) → (∀ h7 : cm_H, h7 = ch_r h6 a0 4 (ch_n h5) → (∀ h8 : cm_H, h8 = ch_new h7 20 6840 (Int.toNat 6840) → (∀ h9 : cm_H, h9 = ch_r h8 a0 5 (ch_n h7) → (∀ h10 : cm_H, h10 = ch_new h9 20 1140 (Int.toNat 1140) → (∀ h11 : cm_H, h11 = ch_r h10 a0 6 (ch_n h9) → (∀ h12 : cm_H, h12 = ch_new h11 20 1140 (Int.toNat 1140) → (∀ h13 : cm_H, h13 = ch_r h12 a0 7 (ch_n h11) → (∀ h14 : cm_H, h14 = ch_new h13 20 1140 (Int.toNat 1140) → (∀ h15 : cm_H, h15 = ch_r h14 a0 8 (ch_n h13) → (∀ h16 : cm_H, h16 = ch_new h15 20 36 (Int.toNat 36) → (∀ h17 : cm_H, h17 = ch_r h16 a0 10 (ch_n h15) → (∀ h18 : cm_H, h18 = ch_u h17 a0 11 1 → (∀ h19 : cm_H, h19 = ch_new h18 20 441 (Int.toNat 441) → (∀ h20 : cm_H, h20 = ch_r h19 a0 12 (ch_n h18) → (∀ h21 : cm_H, h21 = ch_new h20 21 400 (Int.toNat 400) → (∀ h22 : cm_H, h22 = ch_r h21 a0 13 (ch_n h20) → (∀ h23 : cm_H, h23 = ch_new h22 20 36 (Int.toNat 36) → (∀ h24 : cm_H, h24 = ch_r h23 a0 21 (ch_n h22) → (∀ h25 : cm_H, h25 = ch_new h24 20 4 (Int.toNat 4) → (∀ h26 : cm_H, h26 = ch_r h25 a0 22 (ch_n h24) → (∀ h27 : cm_H, h27 = ch_new h26 20 36 (Int.toNat 36) → (∀ h28 : cm_H, h28 = ch_r h27 a0 25 (ch_n h26) → (∀ h29 : cm_H, h29 = ch_new h28 20 34200 (Int.toNat 34200) → (∀ h30 : cm_H, h30 = ch_r h29 a0 26 (ch_n h28) → (∀ h31 : cm_H, h31 = ch_new h30 20 111000 (Int.toNat 111000) → (∀ h32 : cm_H, h32 = ch_r h31 a0 30 (ch_n h30) → (∀ h33 : cm_H, h33 = ch_new h32 20 54720 (Int.toNat 54720) → (∀ h34 : cm_H, h34 = ch_r h33 a0 31 (ch_n h32) → (∀ h35 : cm_H, h35 = ch_new h34 20 137600 (Int.toNat 137600) → (∀ h36 : cm_H, h36 = ch_r h35 a0 32 (ch_n h34) → (∀ h37 : cm_H, h37 = ch_new h36 20 160 (Int.toNat 160) → (∀ h38 : cm_H, h38 = ch_r h37 a0 33 (ch_n h36) → (∀ h39 : cm_H, h39 = ch_new h38 20 16 (Int.toNat 16) → (∀ h40 : cm_H, h40 = ch_r h39 a0 34 (ch_n h38) → (∀ h41 : cm_H, h41 = ch_new h40 20 16 (Int.toNat 16) → (∀ h42 : cm_H, h42 = ch_r h41 a0 35 (ch_n h40) → (∀ h43 : cm_H, h43 = ch_new h42 20 72000 (Int.toNat 72000) → (∀ h44 : cm_H, h44 = ch_r h43 a0 36 (ch_n h42) → (∀ h45 : cm_H, h45 = ch_new h44 22 160 (Int.toNat 160) → (∀ h46 : cm_H, h46 = ch_r h45 a0 38 (ch_n h44) → (∀ h47 : cm_H, h47 = ch_new h46 20 18600 (Int.toNat 18600) → (∀ h48 : cm_H, h48 = ch_r h47 a0 39 (ch_n h46) → (∀ h49 : cm_H, h49 = ch_new h48 20 3420 (Int.toNat 3420) → (∀ h50 : cm_H, h50 = ch_r h49 a0 40 (ch_n h48) → (∀ h51 : cm_H, h51 = ch_new h50 20 3 (Int.toNat 3) → (∀ h52 : cm_H, h52 = ch_r h51 a0 43 (ch_n h50) → (∀ h53 : cm_H, h53 = ch_new h52 20 3 (Int.toNat 3) → (∀ h54 : cm_H, h54 = ch_r h53 a0 44 (ch_n h52) → (∀ h55 : cm_H, h55 = ch_new h54 20 3420 (Int.toNat 3420) → (∀ h56 : cm_H, h56 = ch_r h55 a0 45 (ch_n h54) → (∀ h57 : cm_H, h57 = ch_new h56 20 100 (Int.toNat 100) → (∀ h58 : cm_H, h58 = ch_r h57 a0 47 (ch_n h56) → (∀ h59 : cm_H, h59 = ch_new h58 20 100 (Int.toNat 100) → (∀ h60 : cm_H, h60 = ch_r h59 a0 48 (ch_n h58) → (∀ h61 : cm_H, h61 = ch_new h60 20 220 (Int.toNat 220) → (∀ h62 : cm_H, h62 = ch_r h61 a0 51 (ch_n h60) → (∀ h63 : cm_H, h63 = ch_new h62 20 220 (Int.toNat 220) → (∀ h64 : cm_H, h64 = ch_r h63 a0 52 (ch_n h62) → (∀ h65 : cm_H, h65 = ch_new h64 20 160 (Int.toNat 160) → (∀ h66 : cm_H, h66 = ch_r h65 a0 54 (ch_n h64) → (∀ h67 : cm_H, h67 = ch_new h66 20 160 (Int.toNat 160) → (∀ h68 : cm_H, h68 = ch_r h67 a0 55 (ch_n h66) → (∀ h69 : cm_H, h69 = ch_new h68 20 160 (Int.toNat 160) → (∀ h70 : cm_H, h70 = ch_r h69 a0 56 (ch_n h68) → (∀ h71 : cm_H, h71 = ch_new h70 20 160 (Int.toNat 160) → (∀ h72 : cm_H, h72 = ch_r h71 a0 57 (ch_n h70) → (∀ h73 : cm_H, h73 = ch_u h72 a0 58 (-1) → (∀ h74 : cm_H, h74 = ch_new h73 20 4080 (Int.toNat 4080) → (∀ h75 : cm_H, h75 = ch_r h74 a0 59 (ch_n h73) → (∀ h76 : cm_H, h76 = ch_new h75 20 4080 (Int.toNat 4080) → (∀ h77 : cm_H, h77 = ch_r h76 a0 61 (ch_n h75) → (∀ h78 : cm_H, h78 = ch_new h77 20 21760 (Int.toNat 21760) → (∀ h79 : cm_H, h79 = ch_r h78 a0 62 (ch_n h77) → (cU d m_Model_laysMonomials [vR 12 a0] h79 fun h80 => (cI d m_Model_laysGroup [vR 12 a0] h80 fun v82 h81 => Q none h81)))))))))))))))))))))))))))))))))))))))))))))))))))))))))))))))))))))))))))))))))) : cm_call (d + 1) m_Model_init [vR 12 a0] h Q := by
  refine cm_call_in (C := cd_Model_init) (ls := [some (vR 12 a0)]) rfl rfl p_a0 rfl ?_
  refine w_aload rfl rfl ?_
  refine w_objInit rfl rfl p_a0 ?_
  refine w_aload rfl rfl ?_
  refine w_iconst rfl ⟨by decide, by decide⟩ ?_
  refine w_putI 1 rfl rfl rfl p_a0 (fun h1 eh1 => ?_)
  replace H := H h1 eh1
  refine w_aload rfl rfl ?_
  refine w_iconst rfl ⟨by decide, by decide⟩ ?_
  refine w_newI rfl (by decide) (fun h2 eh2 => ?_)
  replace H := H h2 eh2
  refine w_putR 2 rfl rfl rfl rfl p_a0 (fun h3 eh3 => ?_)
  replace H := H h3 eh3
  refine w_aload rfl rfl ?_
  refine w_iconst rfl ⟨by decide, by decide⟩ ?_
  refine w_newI rfl (by decide) (fun h4 eh4 => ?_)
  replace H := H h4 eh4
  refine w_putR 3 rfl rfl rfl rfl p_a0 (fun h5 eh5 => ?_)
  replace H := H h5 eh5
  refine w_aload rfl rfl ?_
  refine w_iconst rfl ⟨by decide, by decide⟩ ?_
  refine w_newI rfl (by decide) (fun h6 eh6 => ?_)
  replace H := H h6 eh6
  refine w_putR 4 rfl rfl rfl rfl p_a0 (fun h7 eh7 => ?_)
  replace H := H h7 eh7
  refine w_aload rfl rfl ?_
  refine w_iconst rfl ⟨by decide, by decide⟩ ?_
  refine w_newI rfl (by decide) (fun h8 eh8 => ?_)
  replace H := H h8 eh8
  refine w_putR 5 rfl rfl rfl rfl p_a0 (fun h9 eh9 => ?_)
  replace H := H h9 eh9
  refine w_aload rfl rfl ?_
  refine w_iconst rfl ⟨by decide, by decide⟩ ?_
  refine w_newI rfl (by decide) (fun h10 eh10 => ?_)
  replace H := H h10 eh10
  refine w_putR 6 rfl rfl rfl rfl p_a0 (fun h11 eh11 => ?_)
  replace H := H h11 eh11
  refine w_aload rfl rfl ?_
  refine w_iconst rfl ⟨by decide, by decide⟩ ?_
  refine w_newI rfl (by decide) (fun h12 eh12 => ?_)
  replace H := H h12 eh12
  refine w_putR 7 rfl rfl rfl rfl p_a0 (fun h13 eh13 => ?_)
  replace H := H h13 eh13
  refine w_aload rfl rfl ?_
  refine w_iconst rfl ⟨by decide, by decide⟩ ?_
  refine w_newI rfl (by decide) (fun h14 eh14 => ?_)
  replace H := H h14 eh14
  refine w_putR 8 rfl rfl rfl rfl p_a0 (fun h15 eh15 => ?_)
  replace H := H h15 eh15
  refine w_aload rfl rfl ?_
  refine w_iconst rfl ⟨by decide, by decide⟩ ?_
  refine w_newI rfl (by decide) (fun h16 eh16 => ?_)
  replace H := H h16 eh16
  refine w_putR 10 rfl rfl rfl rfl p_a0 (fun h17 eh17 => ?_)
  replace H := H h17 eh17
  refine w_aload rfl rfl ?_
  refine w_iconst rfl ⟨by decide, by decide⟩ ?_
  refine w_putI 11 rfl rfl rfl p_a0 (fun h18 eh18 => ?_)
  replace H := H h18 eh18
  refine w_aload rfl rfl ?_
  refine w_iconst rfl ⟨by decide, by decide⟩ ?_
  refine w_newI rfl (by decide) (fun h19 eh19 => ?_)
  replace H := H h19 eh19
  refine w_putR 12 rfl rfl rfl rfl p_a0 (fun h20 eh20 => ?_)
  replace H := H h20 eh20
  refine w_aload rfl rfl ?_
  refine w_iconst rfl ⟨by decide, by decide⟩ ?_
  refine w_newB rfl (by decide) (fun h21 eh21 => ?_)
  replace H := H h21 eh21
  refine w_putR 13 rfl rfl rfl rfl p_a0 (fun h22 eh22 => ?_)
  replace H := H h22 eh22
  refine w_aload rfl rfl ?_
  refine w_iconst rfl ⟨by decide, by decide⟩ ?_
  refine w_newI rfl (by decide) (fun h23 eh23 => ?_)
  replace H := H h23 eh23
  refine w_putR 21 rfl rfl rfl rfl p_a0 (fun h24 eh24 => ?_)
  replace H := H h24 eh24
  refine w_aload rfl rfl ?_
  refine w_iconst rfl ⟨by decide, by decide⟩ ?_
  refine w_newI rfl (by decide) (fun h25 eh25 => ?_)
  replace H := H h25 eh25
  refine w_putR 22 rfl rfl rfl rfl p_a0 (fun h26 eh26 => ?_)
  replace H := H h26 eh26
  refine w_aload rfl rfl ?_
  refine w_iconst rfl ⟨by decide, by decide⟩ ?_
  refine w_newI rfl (by decide) (fun h27 eh27 => ?_)
  replace H := H h27 eh27
  refine w_putR 25 rfl rfl rfl rfl p_a0 (fun h28 eh28 => ?_)
  replace H := H h28 eh28
  refine w_aload rfl rfl ?_
  refine w_iconst rfl ⟨by decide, by decide⟩ ?_
  refine w_newI rfl (by decide) (fun h29 eh29 => ?_)
  replace H := H h29 eh29
  refine w_putR 26 rfl rfl rfl rfl p_a0 (fun h30 eh30 => ?_)
  replace H := H h30 eh30
  refine w_aload rfl rfl ?_
  refine w_iconst rfl ⟨by decide, by decide⟩ ?_
  refine w_newI rfl (by decide) (fun h31 eh31 => ?_)
  replace H := H h31 eh31
  refine w_putR 30 rfl rfl rfl rfl p_a0 (fun h32 eh32 => ?_)
  replace H := H h32 eh32
  refine w_aload rfl rfl ?_
  refine w_iconst rfl ⟨by decide, by decide⟩ ?_
  refine w_newI rfl (by decide) (fun h33 eh33 => ?_)
  replace H := H h33 eh33
  refine w_putR 31 rfl rfl rfl rfl p_a0 (fun h34 eh34 => ?_)
  replace H := H h34 eh34
  refine w_aload rfl rfl ?_
  refine w_iconst rfl ⟨by decide, by decide⟩ ?_
  refine w_newI rfl (by decide) (fun h35 eh35 => ?_)
  replace H := H h35 eh35
  refine w_putR 32 rfl rfl rfl rfl p_a0 (fun h36 eh36 => ?_)
  replace H := H h36 eh36
  refine w_aload rfl rfl ?_
  refine w_iconst rfl ⟨by decide, by decide⟩ ?_
  refine w_newI rfl (by decide) (fun h37 eh37 => ?_)
  replace H := H h37 eh37
  refine w_putR 33 rfl rfl rfl rfl p_a0 (fun h38 eh38 => ?_)
  replace H := H h38 eh38
  refine w_aload rfl rfl ?_
  refine w_iconst rfl ⟨by decide, by decide⟩ ?_
  refine w_newI rfl (by decide) (fun h39 eh39 => ?_)
  replace H := H h39 eh39
  refine w_putR 34 rfl rfl rfl rfl p_a0 (fun h40 eh40 => ?_)
  replace H := H h40 eh40
  refine w_aload rfl rfl ?_
  refine w_iconst rfl ⟨by decide, by decide⟩ ?_
  refine w_newI rfl (by decide) (fun h41 eh41 => ?_)
  replace H := H h41 eh41
  refine w_putR 35 rfl rfl rfl rfl p_a0 (fun h42 eh42 => ?_)
  replace H := H h42 eh42
  refine w_aload rfl rfl ?_
  refine w_iconst rfl ⟨by decide, by decide⟩ ?_
  refine w_newI rfl (by decide) (fun h43 eh43 => ?_)
  replace H := H h43 eh43
  refine w_putR 36 rfl rfl rfl rfl p_a0 (fun h44 eh44 => ?_)
  replace H := H h44 eh44
  refine w_aload rfl rfl ?_
  refine w_iconst rfl ⟨by decide, by decide⟩ ?_
  refine w_newZ rfl (by decide) (fun h45 eh45 => ?_)
  replace H := H h45 eh45
  refine w_putR 38 rfl rfl rfl rfl p_a0 (fun h46 eh46 => ?_)
  replace H := H h46 eh46
  refine w_aload rfl rfl ?_
  refine w_iconst rfl ⟨by decide, by decide⟩ ?_
  refine w_newI rfl (by decide) (fun h47 eh47 => ?_)
  replace H := H h47 eh47
  refine w_putR 39 rfl rfl rfl rfl p_a0 (fun h48 eh48 => ?_)
  replace H := H h48 eh48
  refine w_aload rfl rfl ?_
  refine w_iconst rfl ⟨by decide, by decide⟩ ?_
  refine w_newI rfl (by decide) (fun h49 eh49 => ?_)
  replace H := H h49 eh49
  refine w_putR 40 rfl rfl rfl rfl p_a0 (fun h50 eh50 => ?_)
  replace H := H h50 eh50
  refine w_aload rfl rfl ?_
  refine w_iconst rfl ⟨by decide, by decide⟩ ?_
  refine w_newI rfl (by decide) (fun h51 eh51 => ?_)
  replace H := H h51 eh51
  refine w_putR 43 rfl rfl rfl rfl p_a0 (fun h52 eh52 => ?_)
  replace H := H h52 eh52
  refine w_aload rfl rfl ?_
  refine w_iconst rfl ⟨by decide, by decide⟩ ?_
  refine w_newI rfl (by decide) (fun h53 eh53 => ?_)
  replace H := H h53 eh53
  refine w_putR 44 rfl rfl rfl rfl p_a0 (fun h54 eh54 => ?_)
  replace H := H h54 eh54
  refine w_aload rfl rfl ?_
  refine w_iconst rfl ⟨by decide, by decide⟩ ?_
  refine w_newI rfl (by decide) (fun h55 eh55 => ?_)
  replace H := H h55 eh55
  refine w_putR 45 rfl rfl rfl rfl p_a0 (fun h56 eh56 => ?_)
  replace H := H h56 eh56
  refine w_aload rfl rfl ?_
  refine w_iconst rfl ⟨by decide, by decide⟩ ?_
  refine w_newI rfl (by decide) (fun h57 eh57 => ?_)
  replace H := H h57 eh57
  refine w_putR 47 rfl rfl rfl rfl p_a0 (fun h58 eh58 => ?_)
  replace H := H h58 eh58
  refine w_aload rfl rfl ?_
  refine w_iconst rfl ⟨by decide, by decide⟩ ?_
  refine w_newI rfl (by decide) (fun h59 eh59 => ?_)
  replace H := H h59 eh59
  refine w_putR 48 rfl rfl rfl rfl p_a0 (fun h60 eh60 => ?_)
  replace H := H h60 eh60
  refine w_aload rfl rfl ?_
  refine w_iconst rfl ⟨by decide, by decide⟩ ?_
  refine w_newI rfl (by decide) (fun h61 eh61 => ?_)
  replace H := H h61 eh61
  refine w_putR 51 rfl rfl rfl rfl p_a0 (fun h62 eh62 => ?_)
  replace H := H h62 eh62
  refine w_aload rfl rfl ?_
  refine w_iconst rfl ⟨by decide, by decide⟩ ?_
  refine w_newI rfl (by decide) (fun h63 eh63 => ?_)
  replace H := H h63 eh63
  refine w_putR 52 rfl rfl rfl rfl p_a0 (fun h64 eh64 => ?_)
  replace H := H h64 eh64
  refine w_aload rfl rfl ?_
  refine w_iconst rfl ⟨by decide, by decide⟩ ?_
  refine w_newI rfl (by decide) (fun h65 eh65 => ?_)
  replace H := H h65 eh65
  refine w_putR 54 rfl rfl rfl rfl p_a0 (fun h66 eh66 => ?_)
  replace H := H h66 eh66
  refine w_aload rfl rfl ?_
  refine w_iconst rfl ⟨by decide, by decide⟩ ?_
  refine w_newI rfl (by decide) (fun h67 eh67 => ?_)
  replace H := H h67 eh67
  refine w_putR 55 rfl rfl rfl rfl p_a0 (fun h68 eh68 => ?_)
  replace H := H h68 eh68
  refine w_aload rfl rfl ?_
  refine w_iconst rfl ⟨by decide, by decide⟩ ?_
  refine w_newI rfl (by decide) (fun h69 eh69 => ?_)
  replace H := H h69 eh69
  refine w_putR 56 rfl rfl rfl rfl p_a0 (fun h70 eh70 => ?_)
  replace H := H h70 eh70
  refine w_aload rfl rfl ?_
  refine w_iconst rfl ⟨by decide, by decide⟩ ?_
  refine w_newI rfl (by decide) (fun h71 eh71 => ?_)
  replace H := H h71 eh71
  refine w_putR 57 rfl rfl rfl rfl p_a0 (fun h72 eh72 => ?_)
  replace H := H h72 eh72
  refine w_aload rfl rfl ?_
  refine w_iconst rfl ⟨by decide, by decide⟩ ?_
  refine w_putI 58 rfl rfl rfl p_a0 (fun h73 eh73 => ?_)
  replace H := H h73 eh73
  refine w_aload rfl rfl ?_
  refine w_iconst rfl ⟨by decide, by decide⟩ ?_
  refine w_newI rfl (by decide) (fun h74 eh74 => ?_)
  replace H := H h74 eh74
  refine w_putR 59 rfl rfl rfl rfl p_a0 (fun h75 eh75 => ?_)
  replace H := H h75 eh75
  refine w_aload rfl rfl ?_
  refine w_iconst rfl ⟨by decide, by decide⟩ ?_
  refine w_newI rfl (by decide) (fun h76 eh76 => ?_)
  replace H := H h76 eh76
  refine w_putR 61 rfl rfl rfl rfl p_a0 (fun h77 eh77 => ?_)
  replace H := H h77 eh77
  refine w_aload rfl rfl ?_
  refine w_iconst rfl ⟨by decide, by decide⟩ ?_
  refine w_newI rfl (by decide) (fun h78 eh78 => ?_)
  replace H := H h78 eh78
  refine w_putR 62 rfl rfl rfl rfl p_a0 (fun h79 eh79 => ?_)
  replace H := H h79 eh79
  refine w_aload rfl rfl ?_
  refine w_callU rfl (fun _ => rfl) rfl (cU_mono H fun h80 H => ?_)
  refine w_aload rfl rfl ?_
  refine w_callI rfl (fun _ => rfl) rfl (cI_mono H fun v82 h81 H => ?_)
  refine w_pop rfl rfl ?_
  exact w_return rfl H
set_option maxHeartbeats 4000000 in
set_option maxRecDepth 100000 in
theorem r_Model_entry {d : Nat} {Q : cm_Q} {h : cm_H} {a0 : Nat} {a1 : Nat} {x2 : Int} {x3 : Int} {x4 : Int} (p_a0 : 0 < a0) (p_a1 : 0 < a1) (H : (cm_i (9 * x2) ∧ (cm_i (3 * x3) ∧ (cm_i ((9 * x2) + (3 * x3)) ∧ (cm_i (((9 * x2) + (3 * x3)) + x4) ∧ ((0:Int) ≤ (((9 * x2) + (3 * x3)) + x4) ∧ (((9 * x2) + (3 * x3)) + x4) < ch_L h a1) ∧ Q (some (vI (ch_I h a1 (((9 * x2) + (3 * x3)) + x4)))) h))))) : cm_call (d + 1) m_Model_entry [vR 12 a0, vR 20 a1, vI x2, vI x3, vI x4] h Q := by
  refine cm_call_in (C := cd_Model_entry) (ls := [some (vR 12 a0), some (vR 20 a1), some (vI x2), some (vI x3), some (vI x4)]) rfl rfl p_a0 rfl ?_
  refine w_aload rfl rfl ?_
  refine w_iconst rfl ⟨by decide, by decide⟩ ?_
  refine w_iload rfl rfl ?_
  have o1 := H.1
  replace H := H.2
  refine w_imul rfl o1 ?_
  refine w_iconst rfl ⟨by decide, by decide⟩ ?_
  refine w_iload rfl rfl ?_
  have o2 := H.1
  replace H := H.2
  refine w_imul rfl o2 ?_
  have o3 := H.1
  replace H := H.2
  refine w_iadd rfl o3 ?_
  refine w_iload rfl rfl ?_
  have o4 := H.1
  replace H := H.2
  refine w_iadd rfl o4 ?_
  have o5 := H.1
  replace H := H.2
  refine w_iaload rfl p_a1 o5 ?_
  exact w_ireturn rfl H
set_option maxHeartbeats 4000000 in
set_option maxRecDepth 100000 in
theorem r_Model_times_3 {d : Nat} {Q : cm_Q} {h : cm_H} {a0 : Nat} {a1 : Nat} {x2 : Int} {a3 : Nat} {x4 : Int} {a5 : Nat} {x6 : Int} {x7 : Int} {z8 : Option cm_V} {z9 : Option cm_V} {z10 : Option cm_V} {z11 : Option cm_V} (p_a0 : 0 < a0) (H : (((ch_I h a0 1) ≤ x7 → Q none h) ∧ (x7 < (ch_I h a0 1) → cw d cd_Model_times Q 15 [some (vR 12 a0), some (vR 20 a1), some (vI x2), some (vR 20 a3), some (vI x4), some (vR 20 a5), some (vI x6), some (vI x7), some (vI 0), z9, z10, z11] [] h))) : cw d cd_Model_times Q 3 [some (vR 12 a0), some (vR 20 a1), some (vI x2), some (vR 20 a3), some (vI x4), some (vR 20 a5), some (vI x6), some (vI x7), z8, z9, z10, z11] [] h := by
  refine w_iload rfl rfl ?_
  refine w_aload rfl rfl ?_
  refine w_getI 1 rfl rfl rfl p_a0 ?_
  refine w_icmp rfl (And.intro (fun hc => ?_) (fun hc => ?_))
  · replace H := H.1 hc
    exact w_return rfl H
  · replace H := H.2 hc
    refine w_iconst rfl ⟨by decide, by decide⟩ ?_
    refine w_istore rfl rfl ?_
    exact H
set_option maxHeartbeats 4000000 in
set_option maxRecDepth 100000 in
theorem r_Model_times_15 {d : Nat} {Q : cm_Q} {h : cm_H} {a0 : Nat} {a1 : Nat} {x2 : Int} {a3 : Nat} {x4 : Int} {a5 : Nat} {x6 : Int} {x7 : Int} {x8 : Int} {z9 : Option cm_V} {z10 : Option cm_V} {z11 : Option cm_V} (p_a0 : 0 < a0) (H : (((ch_I h a0 1) ≤ x8 → (cm_i (x7 + 1) ∧ cw d cd_Model_times Q 3 [some (vR 12 a0), some (vR 20 a1), some (vI x2), some (vR 20 a3), some (vI x4), some (vR 20 a5), some (vI x6), some (vI (x7 + 1)), some (vI x8), z9, z10, z11] [] h)) ∧ (x8 < (ch_I h a0 1) → cw d cd_Model_times Q 30 [some (vR 12 a0), some (vR 20 a1), some (vI x2), some (vR 20 a3), some (vI x4), some (vR 20 a5), some (vI x6), some (vI x7), some (vI x8), some (vL 0), none, some (vI 0)] [] h))) : cw d cd_Model_times Q 15 [some (vR 12 a0), some (vR 20 a1), some (vI x2), some (vR 20 a3), some (vI x4), some (vR 20 a5), some (vI x6), some (vI x7), some (vI x8), z9, z10, z11] [] h := by
  refine w_iload rfl rfl ?_
  refine w_aload rfl rfl ?_
  refine w_getI 1 rfl rfl rfl p_a0 ?_
  refine w_icmp rfl (And.intro (fun hc => ?_) (fun hc => ?_))
  · replace H := H.1 hc
    have o1 := H.1
    replace H := H.2
    refine w_iinc rfl rfl rfl o1 ?_
    refine w_goto rfl ?_
    exact H
  · replace H := H.2 hc
    refine w_lconst rfl ⟨by decide, by decide⟩ ?_
    refine w_lstore rfl rfl ?_
    refine w_iconst rfl ⟨by decide, by decide⟩ ?_
    refine w_istore rfl rfl ?_
    exact H
set_option maxHeartbeats 4000000 in
set_option maxRecDepth 100000 in
theorem r_Model_times_30 {d : Nat} {Q : cm_Q} {h : cm_H} {a0 : Nat} {a1 : Nat} {x2 : Int} {a3 : Nat} {x4 : Int} {a5 : Nat} {x6 : Int} {x7 : Int} {x8 : Int} {y9 : Int} {z10 : Option cm_V} {x11 : Int} (p_a0 : 0 < a0) (p_a5 : 0 < a5) (H : (((ch_I h a0 1) ≤ x11 → (cm_i (9 * x6) ∧ (cm_i (3 * x7) ∧ (cm_i ((9 * x6) + (3 * x7)) ∧ (cm_i (((9 * x6) + (3 * x7)) + x8) ∧ (cI d m_Model_of [vL y9] h fun v6 h5 => ((0:Int) ≤ (((9 * x6) + (3 * x7)) + x8) ∧ (((9 * x6) + (3 * x7)) + x8) < ch_L h5 a5) ∧ (∀ h8 : cm_H, h8 = ch_u h5 a5 (((9 * x6) + (3 * x7)) + x8) v6 → (cm_i (x8 + 1) ∧ cw d cd_Model_times Q 15 [some (vR 12 a0), some (vR 20 a1), some (vI x2), some (vR 20 a3), some (vI x4), some (vR 20 a5), some (vI x6), some (vI x7), some (vI (x8 + 1)), some (vL y9), z10, some (vI x11)] [] h8)))))))) ∧ (x11 < (ch_I h a0 1) → (cI d m_Model_entry [vR 12 a0, vR 20 a1, vI x2, vI x7, vI x11] h fun v11 h10 => (cI d m_Model_entry [vR 12 a0, vR 20 a3, vI x4, vI x11, vI x8] h10 fun v13 h12 => (cm_l (v11 * v13) ∧ (cm_l (y9 + (v11 * v13)) ∧ (cm_i (x11 + 1) ∧ cw d cd_Model_times Q 30 [some (vR 12 a0), some (vR 20 a1), some (vI x2), some (vR 20 a3), some (vI x4), some (vR 20 a5), some (vI x6), some (vI x7), some (vI x8), some (vL (y9 + (v11 * v13))), none, some (vI (x11 + 1))] [] h12)))))))) : cw d cd_Model_times Q 30 [some (vR 12 a0), some (vR 20 a1), some (vI x2), some (vR 20 a3), some (vI x4), some (vR 20 a5), some (vI x6), some (vI x7), some (vI x8), some (vL y9), z10, some (vI x11)] [] h := by
  refine w_iload rfl rfl ?_
  refine w_aload rfl rfl ?_
  refine w_getI 1 rfl rfl rfl p_a0 ?_
  refine w_icmp rfl (And.intro (fun hc => ?_) (fun hc => ?_))
  · replace H := H.1 hc
    refine w_aload rfl rfl ?_
    refine w_iconst rfl ⟨by decide, by decide⟩ ?_
    refine w_iload rfl rfl ?_
    have o1 := H.1
    replace H := H.2
    refine w_imul rfl o1 ?_
    refine w_iconst rfl ⟨by decide, by decide⟩ ?_
    refine w_iload rfl rfl ?_
    have o2 := H.1
    replace H := H.2
    refine w_imul rfl o2 ?_
    have o3 := H.1
    replace H := H.2
    refine w_iadd rfl o3 ?_
    refine w_iload rfl rfl ?_
    have o4 := H.1
    replace H := H.2
    refine w_iadd rfl o4 ?_
    refine w_lload rfl rfl ?_
    refine w_callI rfl (fun _ => rfl) rfl (cI_mono H fun v6 h5 H => ?_)
    have o7 := H.1
    replace H := H.2
    refine w_iastore rfl p_a5 o7 (fun h8 eh8 => ?_)
    replace H := H h8 eh8
    have o9 := H.1
    replace H := H.2
    refine w_iinc rfl rfl rfl o9 ?_
    refine w_goto rfl ?_
    exact H
  · replace H := H.2 hc
    refine w_lload rfl rfl ?_
    refine w_aload rfl rfl ?_
    refine w_aload rfl rfl ?_
    refine w_iload rfl rfl ?_
    refine w_iload rfl rfl ?_
    refine w_iload rfl rfl ?_
    refine w_callI rfl (fun _ => rfl) rfl (cI_mono H fun v11 h10 H => ?_)
    refine w_i2l rfl ?_
    refine w_aload rfl rfl ?_
    refine w_aload rfl rfl ?_
    refine w_iload rfl rfl ?_
    refine w_iload rfl rfl ?_
    refine w_iload rfl rfl ?_
    refine w_callI rfl (fun _ => rfl) rfl (cI_mono H fun v13 h12 H => ?_)
    refine w_i2l rfl ?_
    have o14 := H.1
    replace H := H.2
    refine w_lmul rfl o14 ?_
    have o15 := H.1
    replace H := H.2
    refine w_ladd rfl o15 ?_
    refine w_lstore rfl rfl ?_
    have o16 := H.1
    replace H := H.2
    refine w_iinc rfl rfl rfl o16 ?_
    refine w_goto rfl ?_
    exact H
set_option maxHeartbeats 4000000 in
set_option maxRecDepth 100000 in
theorem r_Model_times {d : Nat} {Q : cm_Q} {h : cm_H} {a0 : Nat} {a1 : Nat} {x2 : Int} {a3 : Nat} {x4 : Int} {a5 : Nat} {x6 : Int} (p_a0 : 0 < a0) (H : cw d cd_Model_times Q 3 [some (vR 12 a0), some (vR 20 a1), some (vI x2), some (vR 20 a3), some (vI x4), some (vR 20 a5), some (vI x6), some (vI 0), none, none, none, none] [] h) : cm_call (d + 1) m_Model_times [vR 12 a0, vR 20 a1, vI x2, vR 20 a3, vI x4, vR 20 a5, vI x6] h Q := by
  refine cm_call_in (C := cd_Model_times) (ls := [some (vR 12 a0), some (vR 20 a1), some (vI x2), some (vR 20 a3), some (vI x4), some (vR 20 a5), some (vI x6), none, none, none, none, none]) rfl rfl p_a0 rfl ?_
  refine w_iconst rfl ⟨by decide, by decide⟩ ?_
  refine w_istore rfl rfl ?_
  exact H
set_option maxHeartbeats 4000000 in
set_option maxRecDepth 100000 in
theorem r_Model_areSame_6 {d : Nat} {Q : cm_Q} {h : cm_H} {a0 : Nat} {a1 : Nat} {x2 : Int} {a3 : Nat} {x4 : Int} {x5 : Int} {x6 : Int} {z7 : Option cm_V} (p_a0 : 0 < a0) (H : (((ch_I h a0 1) ≤ x6 → ((x5 = 0 ∨ x5 = 1) ∧ Q (some (vI x5)) h)) ∧ (x6 < (ch_I h a0 1) → cw d cd_Model_areSame Q 18 [some (vR 12 a0), some (vR 20 a1), some (vI x2), some (vR 20 a3), some (vI x4), some (vI x5), some (vI x6), some (vI 0)] [] h))) : cw d cd_Model_areSame Q 6 [some (vR 12 a0), some (vR 20 a1), some (vI x2), some (vR 20 a3), some (vI x4), some (vI x5), some (vI x6), z7] [] h := by
  refine w_iload rfl rfl ?_
  refine w_aload rfl rfl ?_
  refine w_getI 1 rfl rfl rfl p_a0 ?_
  refine w_icmp rfl (And.intro (fun hc => ?_) (fun hc => ?_))
  · replace H := H.1 hc
    refine w_iload rfl rfl ?_
    exact w_zreturn rfl H.1 H.2
  · replace H := H.2 hc
    refine w_iconst rfl ⟨by decide, by decide⟩ ?_
    refine w_istore rfl rfl ?_
    exact H
set_option maxHeartbeats 4000000 in
set_option maxRecDepth 100000 in
theorem r_Model_areSame_18 {d : Nat} {Q : cm_Q} {h : cm_H} {a0 : Nat} {a1 : Nat} {x2 : Int} {a3 : Nat} {x4 : Int} {x5 : Int} {x6 : Int} {x7 : Int} (p_a0 : 0 < a0) (H : (((ch_I h a0 1) ≤ x7 → (cm_i (x6 + 1) ∧ cw d cd_Model_areSame Q 6 [some (vR 12 a0), some (vR 20 a1), some (vI x2), some (vR 20 a3), some (vI x4), some (vI x5), some (vI (x6 + 1)), some (vI x7)] [] h)) ∧ (x7 < (ch_I h a0 1) → ((x5 = 0 → (cm_i (x7 + 1) ∧ cw d cd_Model_areSame Q 18 [some (vR 12 a0), some (vR 20 a1), some (vI x2), some (vR 20 a3), some (vI x4), some (vI 0), some (vI x6), some (vI (x7 + 1))] [] h)) ∧ (¬ x5 = 0 → (cI d m_Model_entry [vR 12 a0, vR 20 a1, vI x2, vI x6, vI x7] h fun v4 h3 => (cI d m_Model_entry [vR 12 a0, vR 20 a3, vI x4, vI x6, vI x7] h3 fun v6 h5 => ((¬ v4 = v6 → (cm_i (x7 + 1) ∧ cw d cd_Model_areSame Q 18 [some (vR 12 a0), some (vR 20 a1), some (vI x2), some (vR 20 a3), some (vI x4), some (vI 0), some (vI x6), some (vI (x7 + 1))] [] h5)) ∧ (v4 = v6 → (cm_i (x7 + 1) ∧ cw d cd_Model_areSame Q 18 [some (vR 12 a0), some (vR 20 a1), some (vI x2), some (vR 20 a3), some (vI x4), some (vI 1), some (vI x6), some (vI (x7 + 1))] [] h5)))))))))) : cw d cd_Model_areSame Q 18 [some (vR 12 a0), some (vR 20 a1), some (vI x2), some (vR 20 a3), some (vI x4), some (vI x5), some (vI x6), some (vI x7)] [] h := by
  refine w_iload rfl rfl ?_
  refine w_aload rfl rfl ?_
  refine w_getI 1 rfl rfl rfl p_a0 ?_
  refine w_icmp rfl (And.intro (fun hc => ?_) (fun hc => ?_))
  · replace H := H.1 hc
    have o1 := H.1
    replace H := H.2
    refine w_iinc rfl rfl rfl o1 ?_
    refine w_goto rfl ?_
    exact H
  · replace H := H.2 hc
    refine w_iload rfl rfl ?_
    refine w_if rfl (And.intro (fun hc => ?_) (fun hc => ?_))
    · replace H := H.1 hc
      refine w_iconst rfl ⟨by decide, by decide⟩ ?_
      refine w_istore rfl rfl ?_
      have o2 := H.1
      replace H := H.2
      refine w_iinc rfl rfl rfl o2 ?_
      refine w_goto rfl ?_
      exact H
    · replace H := H.2 hc
      refine w_aload rfl rfl ?_
      refine w_aload rfl rfl ?_
      refine w_iload rfl rfl ?_
      refine w_iload rfl rfl ?_
      refine w_iload rfl rfl ?_
      refine w_callI rfl (fun _ => rfl) rfl (cI_mono H fun v4 h3 H => ?_)
      refine w_aload rfl rfl ?_
      refine w_aload rfl rfl ?_
      refine w_iload rfl rfl ?_
      refine w_iload rfl rfl ?_
      refine w_iload rfl rfl ?_
      refine w_callI rfl (fun _ => rfl) rfl (cI_mono H fun v6 h5 H => ?_)
      refine w_icmp rfl (And.intro (fun hc => ?_) (fun hc => ?_))
      · replace H := H.1 hc
        refine w_iconst rfl ⟨by decide, by decide⟩ ?_
        refine w_istore rfl rfl ?_
        have o7 := H.1
        replace H := H.2
        refine w_iinc rfl rfl rfl o7 ?_
        refine w_goto rfl ?_
        exact H
      · replace H := H.2 hc
        refine w_iconst rfl ⟨by decide, by decide⟩ ?_
        refine w_goto rfl ?_
        refine w_istore rfl rfl ?_
        have o8 := H.1
        replace H := H.2
        refine w_iinc rfl rfl rfl o8 ?_
        refine w_goto rfl ?_
        exact H
set_option maxHeartbeats 4000000 in
set_option maxRecDepth 100000 in
theorem r_Model_areSame {d : Nat} {Q : cm_Q} {h : cm_H} {a0 : Nat} {a1 : Nat} {x2 : Int} {a3 : Nat} {x4 : Int} (p_a0 : 0 < a0) (H : cw d cd_Model_areSame Q 6 [some (vR 12 a0), some (vR 20 a1), some (vI x2), some (vR 20 a3), some (vI x4), some (vI 1), some (vI 0), none] [] h) : cm_call (d + 1) m_Model_areSame [vR 12 a0, vR 20 a1, vI x2, vR 20 a3, vI x4] h Q := by
  refine cm_call_in (C := cd_Model_areSame) (ls := [some (vR 12 a0), some (vR 20 a1), some (vI x2), some (vR 20 a3), some (vI x4), none, none, none]) rfl rfl p_a0 rfl ?_
  refine w_iconst rfl ⟨by decide, by decide⟩ ?_
  refine w_istore rfl rfl ?_
  refine w_iconst rfl ⟨by decide, by decide⟩ ?_
  refine w_istore rfl rfl ?_
  exact H
set_option maxHeartbeats 4000000 in
set_option maxRecDepth 100000 in
theorem r_Model_find_2 {d : Nat} {Q : cm_Q} {h : cm_H} {a0 : Nat} {x1 : Int} (p_a0 : 0 < a0) (H : (cI d m_Model_areSame [vR 12 a0, vR 20 (ch_R h a0 12), vI x1, vR 20 (ch_R h a0 12), vI (ch_I h a0 11)] h fun v2 h1 => ((¬ v2 = 0 → Q (some (vI x1)) h1) ∧ (v2 = 0 → (cm_i (x1 + 1) ∧ cw d cd_Model_find Q 2 [some (vR 12 a0), some (vI (x1 + 1))] [] h1))))) : cw d cd_Model_find Q 2 [some (vR 12 a0), some (vI x1)] [] h := by
  refine w_aload rfl rfl ?_
  refine w_aload rfl rfl ?_
  refine w_getR 12 20 rfl rfl rfl rfl p_a0 ?_
  refine w_iload rfl rfl ?_
  refine w_aload rfl rfl ?_
  refine w_getR 12 20 rfl rfl rfl rfl p_a0 ?_
  refine w_aload rfl rfl ?_
  refine w_getI 11 rfl rfl rfl p_a0 ?_
  refine w_callI rfl (fun _ => rfl) rfl (cI_mono H fun v2 h1 H => ?_)
  refine w_if rfl (And.intro (fun hc => ?_) (fun hc => ?_))
  · replace H := H.1 hc
    refine w_iload rfl rfl ?_
    exact w_ireturn rfl H
  · replace H := H.2 hc
    have o3 := H.1
    replace H := H.2
    refine w_iinc rfl rfl rfl o3 ?_
    refine w_goto rfl ?_
    exact H
set_option maxHeartbeats 4000000 in
set_option maxRecDepth 100000 in
theorem r_Model_find {d : Nat} {Q : cm_Q} {h : cm_H} {a0 : Nat} (p_a0 : 0 < a0) (H : cw d cd_Model_find Q 2 [some (vR 12 a0), some (vI 0)] [] h) : cm_call (d + 1) m_Model_find [vR 12 a0] h Q := by
  refine cm_call_in (C := cd_Model_find) (ls := [some (vR 12 a0), none]) rfl rfl p_a0 rfl ?_
  refine w_iconst rfl ⟨by decide, by decide⟩ ?_
  refine w_istore rfl rfl ?_
  exact H
set_option maxHeartbeats 4000000 in
set_option maxRecDepth 100000 in
theorem r_Model_laysGroup_7 {d : Nat} {Q : cm_Q} {h : cm_H} {a0 : Nat} {x1 : Int} {z2 : Option cm_V}  (H : ((3 ≤ x1 → cw d cd_Model_laysGroup Q 53 [some (vR 12 a0), some (vI 0), z2] [] h) ∧ (x1 < 3 → cw d cd_Model_laysGroup Q 14 [some (vR 12 a0), some (vI x1), some (vI 0)] [] h))) : cw d cd_Model_laysGroup Q 7 [some (vR 12 a0), some (vI x1), z2] [] h := by
  refine w_iload rfl rfl ?_
  refine w_iconst rfl ⟨by decide, by decide⟩ ?_
  refine w_icmp rfl (And.intro (fun hc => ?_) (fun hc => ?_))
  · replace H := H.1 hc
    refine w_iconst rfl ⟨by decide, by decide⟩ ?_
    refine w_istore rfl rfl ?_
    exact H
  · replace H := H.2 hc
    refine w_iconst rfl ⟨by decide, by decide⟩ ?_
    refine w_istore rfl rfl ?_
    exact H
set_option maxHeartbeats 4000000 in
set_option maxRecDepth 100000 in
theorem r_Model_laysGroup_14 {d : Nat} {Q : cm_Q} {h : cm_H} {a0 : Nat} {x1 : Int} {x2 : Int} (p_a0 : 0 < a0) (H : ((3 ≤ x2 → (cm_i (x1 + 1) ∧ cw d cd_Model_laysGroup Q 7 [some (vR 12 a0), some (vI (x1 + 1)), some (vI x2)] [] h)) ∧ (x2 < 3 → (cm_i (3 * x1) ∧ (cm_i ((3 * x1) + x2) ∧ ((¬ x1 = x2 → (0 < ((ch_R h a0 12)) ∧ ((0:Int) ≤ ((3 * x1) + x2) ∧ ((3 * x1) + x2) < ch_L h (ch_R h a0 12)) ∧ (∀ h6 : cm_H, h6 = ch_u h (ch_R h a0 12) ((3 * x1) + x2) 0 → (cm_i (x2 + 1) ∧ cw d cd_Model_laysGroup Q 14 [some (vR 12 a0), some (vI x1), some (vI (x2 + 1))] [] h6)))) ∧ (x1 = x2 → (0 < ((ch_R h a0 12)) ∧ ((0:Int) ≤ ((3 * x1) + x2) ∧ ((3 * x1) + x2) < ch_L h (ch_R h a0 12)) ∧ (∀ h10 : cm_H, h10 = ch_u h (ch_R h a0 12) ((3 * x1) + x2) 1 → (cm_i (x2 + 1) ∧ cw d cd_Model_laysGroup Q 14 [some (vR 12 a0), some (vI x1), some (vI (x2 + 1))] [] h10)))))))))) : cw d cd_Model_laysGroup Q 14 [some (vR 12 a0), some (vI x1), some (vI x2)] [] h := by
  refine w_iload rfl rfl ?_
  refine w_iconst rfl ⟨by decide, by decide⟩ ?_
  refine w_icmp rfl (And.intro (fun hc => ?_) (fun hc => ?_))
  · replace H := H.1 hc
    have o1 := H.1
    replace H := H.2
    refine w_iinc rfl rfl rfl o1 ?_
    refine w_goto rfl ?_
    exact H
  · replace H := H.2 hc
    refine w_aload rfl rfl ?_
    refine w_getR 12 20 rfl rfl rfl rfl p_a0 ?_
    refine w_iconst rfl ⟨by decide, by decide⟩ ?_
    refine w_iload rfl rfl ?_
    have o2 := H.1
    replace H := H.2
    refine w_imul rfl o2 ?_
    refine w_iload rfl rfl ?_
    have o3 := H.1
    replace H := H.2
    refine w_iadd rfl o3 ?_
    refine w_iload rfl rfl ?_
    refine w_iload rfl rfl ?_
    refine w_icmp rfl (And.intro (fun hc => ?_) (fun hc => ?_))
    · replace H := H.1 hc
      refine w_iconst rfl ⟨by decide, by decide⟩ ?_
      have o4 := H.1
      replace H := H.2
      have o5 := H.1
      replace H := H.2
      refine w_iastore rfl o4 o5 (fun h6 eh6 => ?_)
      replace H := H h6 eh6
      have o7 := H.1
      replace H := H.2
      refine w_iinc rfl rfl rfl o7 ?_
      refine w_goto rfl ?_
      exact H
    · replace H := H.2 hc
      refine w_iconst rfl ⟨by decide, by decide⟩ ?_
      refine w_goto rfl ?_
      have o8 := H.1
      replace H := H.2
      have o9 := H.1
      replace H := H.2
      refine w_iastore rfl o8 o9 (fun h10 eh10 => ?_)
      replace H := H h10 eh10
      have o11 := H.1
      replace H := H.2
      refine w_iinc rfl rfl rfl o11 ?_
      refine w_goto rfl ?_
      exact H
set_option maxHeartbeats 4000000 in
set_option maxRecDepth 100000 in
theorem r_Model_laysGroup_53 {d : Nat} {Q : cm_Q} {h : cm_H} {a0 : Nat} {x1 : Int} {z2 : Option cm_V} (p_a0 : 0 < a0) (H : (((ch_I h a0 11) ≤ x1 → Q (some (vI 1)) h) ∧ (x1 < (ch_I h a0 11) → cw d cd_Model_laysGroup Q 63 [some (vR 12 a0), some (vI x1), some (vI 0)] [] h))) : cw d cd_Model_laysGroup Q 53 [some (vR 12 a0), some (vI x1), z2] [] h := by
  refine w_iload rfl rfl ?_
  refine w_aload rfl rfl ?_
  refine w_getI 11 rfl rfl rfl p_a0 ?_
  refine w_icmp rfl (And.intro (fun hc => ?_) (fun hc => ?_))
  · replace H := H.1 hc
    refine w_iconst rfl ⟨by decide, by decide⟩ ?_
    exact w_zreturn rfl (by decide) H
  · replace H := H.2 hc
    refine w_iconst rfl ⟨by decide, by decide⟩ ?_
    refine w_istore rfl rfl ?_
    exact H
set_option maxHeartbeats 4000000 in
set_option maxRecDepth 100000 in
theorem r_Model_laysGroup_63 {d : Nat} {Q : cm_Q} {h : cm_H} {a0 : Nat} {x1 : Int} {x2 : Int} (p_a0 : 0 < a0) (H : (((ch_I h a0 9) ≤ x2 → (cm_i (x1 + 1) ∧ cw d cd_Model_laysGroup Q 53 [some (vR 12 a0), some (vI (x1 + 1)), some (vI x2)] [] h)) ∧ (x2 < (ch_I h a0 9) → (cU d m_Model_times [vR 12 a0, vR 20 (ch_R h a0 12), vI x1, vR 20 (ch_R h a0 10), vI x2, vR 20 (ch_R h a0 12), vI (ch_I h a0 11)] h fun h2 => (cI d m_Model_find [vR 12 a0] h2 fun v4 h3 => ((¬ v4 = (ch_I h3 a0 11) → (cm_i (x2 + 1) ∧ cw d cd_Model_laysGroup Q 63 [some (vR 12 a0), some (vI x1), some (vI (x2 + 1))] [] h3)) ∧ (v4 = (ch_I h3 a0 11) → ((¬ (ch_I h3 a0 11) = 48 → (cm_i ((ch_I h3 a0 11) + 1) ∧ (∀ h7 : cm_H, h7 = ch_u h3 a0 11 ((ch_I h3 a0 11) + 1) → (cm_i (x2 + 1) ∧ cw d cd_Model_laysGroup Q 63 [some (vR 12 a0), some (vI x1), some (vI (x2 + 1))] [] h7)))) ∧ ((ch_I h3 a0 11) = 48 → Q (some (vI 0)) h3))))))))) : cw d cd_Model_laysGroup Q 63 [some (vR 12 a0), some (vI x1), some (vI x2)] [] h := by
  refine w_iload rfl rfl ?_
  refine w_aload rfl rfl ?_
  refine w_getI 9 rfl rfl rfl p_a0 ?_
  refine w_icmp rfl (And.intro (fun hc => ?_) (fun hc => ?_))
  · replace H := H.1 hc
    have o1 := H.1
    replace H := H.2
    refine w_iinc rfl rfl rfl o1 ?_
    refine w_goto rfl ?_
    exact H
  · replace H := H.2 hc
    refine w_aload rfl rfl ?_
    refine w_aload rfl rfl ?_
    refine w_getR 12 20 rfl rfl rfl rfl p_a0 ?_
    refine w_iload rfl rfl ?_
    refine w_aload rfl rfl ?_
    refine w_getR 10 20 rfl rfl rfl rfl p_a0 ?_
    refine w_iload rfl rfl ?_
    refine w_aload rfl rfl ?_
    refine w_getR 12 20 rfl rfl rfl rfl p_a0 ?_
    refine w_aload rfl rfl ?_
    refine w_getI 11 rfl rfl rfl p_a0 ?_
    refine w_callU rfl (fun _ => rfl) rfl (cU_mono H fun h2 H => ?_)
    refine w_aload rfl rfl ?_
    refine w_callI rfl (fun _ => rfl) rfl (cI_mono H fun v4 h3 H => ?_)
    refine w_aload rfl rfl ?_
    refine w_getI 11 rfl rfl rfl p_a0 ?_
    refine w_icmp rfl (And.intro (fun hc => ?_) (fun hc => ?_))
    · replace H := H.1 hc
      have o5 := H.1
      replace H := H.2
      refine w_iinc rfl rfl rfl o5 ?_
      refine w_goto rfl ?_
      exact H
    · replace H := H.2 hc
      refine w_aload rfl rfl ?_
      refine w_getI 11 rfl rfl rfl p_a0 ?_
      refine w_iconst rfl ⟨by decide, by decide⟩ ?_
      refine w_icmp rfl (And.intro (fun hc => ?_) (fun hc => ?_))
      · replace H := H.1 hc
        refine w_aload rfl rfl ?_
        refine w_dup rfl rfl ?_
        refine w_getI 11 rfl rfl rfl p_a0 ?_
        refine w_iconst rfl ⟨by decide, by decide⟩ ?_
        have o6 := H.1
        replace H := H.2
        refine w_iadd rfl o6 ?_
        refine w_putI 11 rfl rfl rfl p_a0 (fun h7 eh7 => ?_)
        replace H := H h7 eh7
        have o8 := H.1
        replace H := H.2
        refine w_iinc rfl rfl rfl o8 ?_
        refine w_goto rfl ?_
        exact H
      · replace H := H.2 hc
        refine w_iconst rfl ⟨by decide, by decide⟩ ?_
        exact w_zreturn rfl (by decide) H
set_option maxHeartbeats 4000000 in
set_option maxRecDepth 100000 in
theorem r_Model_laysGroup {d : Nat} {Q : cm_Q} {h : cm_H} {a0 : Nat} (p_a0 : 0 < a0) (H : (∀ h1 : cm_H, h1 = ch_u h a0 11 1 → cw d cd_Model_laysGroup Q 7 [some (vR 12 a0), some (vI 0), none] [] h1)) : cm_call (d + 1) m_Model_laysGroup [vR 12 a0] h Q := by
  refine cm_call_in (C := cd_Model_laysGroup) (ls := [some (vR 12 a0), none, none]) rfl rfl p_a0 rfl ?_
  refine w_aload rfl rfl ?_
  refine w_iconst rfl ⟨by decide, by decide⟩ ?_
  refine w_putI 11 rfl rfl rfl p_a0 (fun h1 eh1 => ?_)
  replace H := H h1 eh1
  refine w_iconst rfl ⟨by decide, by decide⟩ ?_
  refine w_istore rfl rfl ?_
  exact H
set_option maxHeartbeats 4000000 in
set_option maxRecDepth 100000 in
theorem r_Model_determinant_56 {d : Nat} {Q : cm_Q} {h : cm_H} {a0 : Nat} {a1 : Nat} {x2 : Int} {y3 : Int} {z4 : Option cm_V} {x5 : Int} {z6 : Option cm_V} {z7 : Option cm_V} {z8 : Option cm_V} {z9 : Option cm_V}  (H : ((3 ≤ x5 → (cI d m_Model_of [vL y3] h fun v2 h1 => Q (some (vI v2)) h1)) ∧ (x5 < 3 → (cm_i (x5 + 1) ∧ (cm_i (x5 + 2) ∧ (cI d m_Model_entry [vR 12 a0, vR 20 a1, vI x2, vI 1, vI (Int.tmod (x5 + 1) 3)] h fun v6 h5 => (cI d m_Model_entry [vR 12 a0, vR 20 a1, vI x2, vI 2, vI (Int.tmod (x5 + 2) 3)] h5 fun v8 h7 => (cm_l (v6 * v8) ∧ (cI d m_Model_entry [vR 12 a0, vR 20 a1, vI x2, vI 1, vI (Int.tmod (x5 + 2) 3)] h7 fun v11 h10 => (cI d m_Model_entry [vR 12 a0, vR 20 a1, vI x2, vI 2, vI (Int.tmod (x5 + 1) 3)] h10 fun v13 h12 => (cm_l (v11 * v13) ∧ (cm_l ((v6 * v8) - (v11 * v13)) ∧ (cI d m_Model_of [vL ((v6 * v8) - (v11 * v13))] h12 fun v17 h16 => (cI d m_Model_entry [vR 12 a0, vR 20 a1, vI x2, vI 0, vI x5] h16 fun v19 h18 => (cm_l (v19 * v17) ∧ (cm_l (y3 + (v19 * v17)) ∧ cw d cd_Model_determinant Q 56 [some (vR 12 a0), some (vR 20 a1), some (vI x2), some (vL (y3 + (v19 * v17))), none, some (vI (x5 + 1)), some (vI (Int.tmod (x5 + 1) 3)), some (vI (Int.tmod (x5 + 2) 3)), some (vL v17), none] [] h18)))))))))))))))) : cw d cd_Model_determinant Q 56 [some (vR 12 a0), some (vR 20 a1), some (vI x2), some (vL y3), z4, some (vI x5), z6, z7, z8, z9] [] h := by
  refine w_iload rfl rfl ?_
  refine w_iconst rfl ⟨by decide, by decide⟩ ?_
  refine w_icmp rfl (And.intro (fun hc => ?_) (fun hc => ?_))
  · replace H := H.1 hc
    refine w_lload rfl rfl ?_
    refine w_callI rfl (fun _ => rfl) rfl (cI_mono H fun v2 h1 H => ?_)
    exact w_ireturn rfl H
  · replace H := H.2 hc
    refine w_iload rfl rfl ?_
    refine w_iconst rfl ⟨by decide, by decide⟩ ?_
    have o3 := H.1
    replace H := H.2
    refine w_iadd rfl o3 ?_
    refine w_iconst rfl ⟨by decide, by decide⟩ ?_
    refine w_irem rfl (by decide) ?_
    refine w_istore rfl rfl ?_
    refine w_iload rfl rfl ?_
    refine w_iconst rfl ⟨by decide, by decide⟩ ?_
    have o4 := H.1
    replace H := H.2
    refine w_iadd rfl o4 ?_
    refine w_iconst rfl ⟨by decide, by decide⟩ ?_
    refine w_irem rfl (by decide) ?_
    refine w_istore rfl rfl ?_
    refine w_aload rfl rfl ?_
    refine w_aload rfl rfl ?_
    refine w_iload rfl rfl ?_
    refine w_iconst rfl ⟨by decide, by decide⟩ ?_
    refine w_iload rfl rfl ?_
    refine w_callI rfl (fun _ => rfl) rfl (cI_mono H fun v6 h5 H => ?_)
    refine w_i2l rfl ?_
    refine w_aload rfl rfl ?_
    refine w_aload rfl rfl ?_
    refine w_iload rfl rfl ?_
    refine w_iconst rfl ⟨by decide, by decide⟩ ?_
    refine w_iload rfl rfl ?_
    refine w_callI rfl (fun _ => rfl) rfl (cI_mono H fun v8 h7 H => ?_)
    refine w_i2l rfl ?_
    have o9 := H.1
    replace H := H.2
    refine w_lmul rfl o9 ?_
    refine w_aload rfl rfl ?_
    refine w_aload rfl rfl ?_
    refine w_iload rfl rfl ?_
    refine w_iconst rfl ⟨by decide, by decide⟩ ?_
    refine w_iload rfl rfl ?_
    refine w_callI rfl (fun _ => rfl) rfl (cI_mono H fun v11 h10 H => ?_)
    refine w_i2l rfl ?_
    refine w_aload rfl rfl ?_
    refine w_aload rfl rfl ?_
    refine w_iload rfl rfl ?_
    refine w_iconst rfl ⟨by decide, by decide⟩ ?_
    refine w_iload rfl rfl ?_
    refine w_callI rfl (fun _ => rfl) rfl (cI_mono H fun v13 h12 H => ?_)
    refine w_i2l rfl ?_
    have o14 := H.1
    replace H := H.2
    refine w_lmul rfl o14 ?_
    have o15 := H.1
    replace H := H.2
    refine w_lsub rfl o15 ?_
    refine w_callI rfl (fun _ => rfl) rfl (cI_mono H fun v17 h16 H => ?_)
    refine w_i2l rfl ?_
    refine w_lstore rfl rfl ?_
    refine w_lload rfl rfl ?_
    refine w_aload rfl rfl ?_
    refine w_aload rfl rfl ?_
    refine w_iload rfl rfl ?_
    refine w_iconst rfl ⟨by decide, by decide⟩ ?_
    refine w_iload rfl rfl ?_
    refine w_callI rfl (fun _ => rfl) rfl (cI_mono H fun v19 h18 H => ?_)
    refine w_i2l rfl ?_
    refine w_lload rfl rfl ?_
    have o20 := H.1
    replace H := H.2
    refine w_lmul rfl o20 ?_
    have o21 := H.1
    replace H := H.2
    refine w_ladd rfl o21 ?_
    refine w_lstore rfl rfl ?_
    refine w_iinc rfl rfl rfl o3 ?_
    refine w_goto rfl ?_
    exact H
set_option maxHeartbeats 4000000 in
set_option maxRecDepth 100000 in
theorem r_Model_determinant {d : Nat} {Q : cm_Q} {h : cm_H} {a0 : Nat} {a1 : Nat} {x2 : Int} (p_a0 : 0 < a0) (H : ((¬ (ch_I h a0 1) = 2 → cw d cd_Model_determinant Q 56 [some (vR 12 a0), some (vR 20 a1), some (vI x2), some (vL 0), none, some (vI 0), none, none, none, none] [] h) ∧ ((ch_I h a0 1) = 2 → (cI d m_Model_entry [vR 12 a0, vR 20 a1, vI x2, vI 0, vI 0] h fun v2 h1 => (cI d m_Model_entry [vR 12 a0, vR 20 a1, vI x2, vI 1, vI 1] h1 fun v4 h3 => (cm_l (v2 * v4) ∧ (cI d m_Model_entry [vR 12 a0, vR 20 a1, vI x2, vI 0, vI 1] h3 fun v7 h6 => (cI d m_Model_entry [vR 12 a0, vR 20 a1, vI x2, vI 1, vI 0] h6 fun v9 h8 => (cm_l (v7 * v9) ∧ (cm_l ((v2 * v4) - (v7 * v9)) ∧ (cI d m_Model_of [vL ((v2 * v4) - (v7 * v9))] h8 fun v13 h12 => Q (some (vI v13)) h12))))))))))) : cm_call (d + 1) m_Model_determinant [vR 12 a0, vR 20 a1, vI x2] h Q := by
  refine cm_call_in (C := cd_Model_determinant) (ls := [some (vR 12 a0), some (vR 20 a1), some (vI x2), none, none, none, none, none, none, none]) rfl rfl p_a0 rfl ?_
  refine w_aload rfl rfl ?_
  refine w_getI 1 rfl rfl rfl p_a0 ?_
  refine w_iconst rfl ⟨by decide, by decide⟩ ?_
  refine w_icmp rfl (And.intro (fun hc => ?_) (fun hc => ?_))
  · replace H := H.1 hc
    refine w_lconst rfl ⟨by decide, by decide⟩ ?_
    refine w_lstore rfl rfl ?_
    refine w_iconst rfl ⟨by decide, by decide⟩ ?_
    refine w_istore rfl rfl ?_
    exact H
  · replace H := H.2 hc
    refine w_aload rfl rfl ?_
    refine w_aload rfl rfl ?_
    refine w_iload rfl rfl ?_
    refine w_iconst rfl ⟨by decide, by decide⟩ ?_
    refine w_iconst rfl ⟨by decide, by decide⟩ ?_
    refine w_callI rfl (fun _ => rfl) rfl (cI_mono H fun v2 h1 H => ?_)
    refine w_i2l rfl ?_
    refine w_aload rfl rfl ?_
    refine w_aload rfl rfl ?_
    refine w_iload rfl rfl ?_
    refine w_iconst rfl ⟨by decide, by decide⟩ ?_
    refine w_iconst rfl ⟨by decide, by decide⟩ ?_
    refine w_callI rfl (fun _ => rfl) rfl (cI_mono H fun v4 h3 H => ?_)
    refine w_i2l rfl ?_
    have o5 := H.1
    replace H := H.2
    refine w_lmul rfl o5 ?_
    refine w_aload rfl rfl ?_
    refine w_aload rfl rfl ?_
    refine w_iload rfl rfl ?_
    refine w_iconst rfl ⟨by decide, by decide⟩ ?_
    refine w_iconst rfl ⟨by decide, by decide⟩ ?_
    refine w_callI rfl (fun _ => rfl) rfl (cI_mono H fun v7 h6 H => ?_)
    refine w_i2l rfl ?_
    refine w_aload rfl rfl ?_
    refine w_aload rfl rfl ?_
    refine w_iload rfl rfl ?_
    refine w_iconst rfl ⟨by decide, by decide⟩ ?_
    refine w_iconst rfl ⟨by decide, by decide⟩ ?_
    refine w_callI rfl (fun _ => rfl) rfl (cI_mono H fun v9 h8 H => ?_)
    refine w_i2l rfl ?_
    have o10 := H.1
    replace H := H.2
    refine w_lmul rfl o10 ?_
    have o11 := H.1
    replace H := H.2
    refine w_lsub rfl o11 ?_
    refine w_callI rfl (fun _ => rfl) rfl (cI_mono H fun v13 h12 H => ?_)
    exact w_ireturn rfl H
set_option maxHeartbeats 4000000 in
set_option maxRecDepth 100000 in
theorem r_Model_product {d : Nat} {Q : cm_Q} {h : cm_H} {a0 : Nat} {x1 : Int} {x2 : Int} (p_a0 : 0 < a0) (H : (cU d m_Model_times [vR 12 a0, vR 20 (ch_R h a0 12), vI x1, vR 20 (ch_R h a0 12), vI x2, vR 20 (ch_R h a0 12), vI (ch_I h a0 11)] h fun h1 => (cI d m_Model_find [vR 12 a0] h1 fun v3 h2 => Q (some (vI v3)) h2))) : cm_call (d + 1) m_Model_product [vR 12 a0, vI x1, vI x2] h Q := by
  refine cm_call_in (C := cd_Model_product) (ls := [some (vR 12 a0), some (vI x1), some (vI x2)]) rfl rfl p_a0 rfl ?_
  refine w_aload rfl rfl ?_
  refine w_aload rfl rfl ?_
  refine w_getR 12 20 rfl rfl rfl rfl p_a0 ?_
  refine w_iload rfl rfl ?_
  refine w_aload rfl rfl ?_
  refine w_getR 12 20 rfl rfl rfl rfl p_a0 ?_
  refine w_iload rfl rfl ?_
  refine w_aload rfl rfl ?_
  refine w_getR 12 20 rfl rfl rfl rfl p_a0 ?_
  refine w_aload rfl rfl ?_
  refine w_getI 11 rfl rfl rfl p_a0 ?_
  refine w_callU rfl (fun _ => rfl) rfl (cU_mono H fun h1 H => ?_)
  refine w_aload rfl rfl ?_
  refine w_callI rfl (fun _ => rfl) rfl (cI_mono H fun v3 h2 H => ?_)
  exact w_ireturn rfl H
set_option maxHeartbeats 4000000 in
set_option maxRecDepth 100000 in
theorem r_Model_inverseOf_2 {d : Nat} {Q : cm_Q} {h : cm_H} {a0 : Nat} {x1 : Int} {x2 : Int}  (H : (cI d m_Model_product [vR 12 a0, vI x1, vI x2] h fun v2 h1 => ((v2 = 0 → Q (some (vI x2)) h1) ∧ (¬ v2 = 0 → (cm_i (x2 + 1) ∧ cw d cd_Model_inverseOf Q 2 [some (vR 12 a0), some (vI x1), some (vI (x2 + 1))] [] h1))))) : cw d cd_Model_inverseOf Q 2 [some (vR 12 a0), some (vI x1), some (vI x2)] [] h := by
  refine w_aload rfl rfl ?_
  refine w_iload rfl rfl ?_
  refine w_iload rfl rfl ?_
  refine w_callI rfl (fun _ => rfl) rfl (cI_mono H fun v2 h1 H => ?_)
  refine w_if rfl (And.intro (fun hc => ?_) (fun hc => ?_))
  · replace H := H.1 hc
    refine w_iload rfl rfl ?_
    exact w_ireturn rfl H
  · replace H := H.2 hc
    have o3 := H.1
    replace H := H.2
    refine w_iinc rfl rfl rfl o3 ?_
    refine w_goto rfl ?_
    exact H
set_option maxHeartbeats 4000000 in
set_option maxRecDepth 100000 in
theorem r_Model_inverseOf {d : Nat} {Q : cm_Q} {h : cm_H} {a0 : Nat} {x1 : Int} (p_a0 : 0 < a0) (H : cw d cd_Model_inverseOf Q 2 [some (vR 12 a0), some (vI x1), some (vI 0)] [] h) : cm_call (d + 1) m_Model_inverseOf [vR 12 a0, vI x1] h Q := by
  refine cm_call_in (C := cd_Model_inverseOf) (ls := [some (vR 12 a0), some (vI x1), none]) rfl rfl p_a0 rfl ?_
  refine w_iconst rfl ⟨by decide, by decide⟩ ?_
  refine w_istore rfl rfl ?_
  exact H
set_option maxHeartbeats 4000000 in
set_option maxRecDepth 100000 in
theorem r_Model_orderOf_4 {d : Nat} {Q : cm_Q} {h : cm_H} {a0 : Nat} {x1 : Int} {x2 : Int} {x3 : Int}  (H : ((x3 = 0 → Q (some (vI x2)) h) ∧ (¬ x3 = 0 → (cm_i (x2 + 1) ∧ (cI d m_Model_product [vR 12 a0, vI x3, vI x1] h fun v3 h2 => cw d cd_Model_orderOf Q 4 [some (vR 12 a0), some (vI x1), some (vI (x2 + 1)), some (vI v3)] [] h2))))) : cw d cd_Model_orderOf Q 4 [some (vR 12 a0), some (vI x1), some (vI x2), some (vI x3)] [] h := by
  refine w_iload rfl rfl ?_
  refine w_if rfl (And.intro (fun hc => ?_) (fun hc => ?_))
  · replace H := H.1 hc
    refine w_iload rfl rfl ?_
    exact w_ireturn rfl H
  · replace H := H.2 hc
    have o1 := H.1
    replace H := H.2
    refine w_iinc rfl rfl rfl o1 ?_
    refine w_aload rfl rfl ?_
    refine w_iload rfl rfl ?_
    refine w_iload rfl rfl ?_
    refine w_callI rfl (fun _ => rfl) rfl (cI_mono H fun v3 h2 H => ?_)
    refine w_istore rfl rfl ?_
    refine w_goto rfl ?_
    exact H
set_option maxHeartbeats 4000000 in
set_option maxRecDepth 100000 in
theorem r_Model_orderOf {d : Nat} {Q : cm_Q} {h : cm_H} {a0 : Nat} {x1 : Int} (p_a0 : 0 < a0) (H : cw d cd_Model_orderOf Q 4 [some (vR 12 a0), some (vI x1), some (vI 1), some (vI x1)] [] h) : cm_call (d + 1) m_Model_orderOf [vR 12 a0, vI x1] h Q := by
  refine cm_call_in (C := cd_Model_orderOf) (ls := [some (vR 12 a0), some (vI x1), none, none]) rfl rfl p_a0 rfl ?_
  refine w_iconst rfl ⟨by decide, by decide⟩ ?_
  refine w_istore rfl rfl ?_
  refine w_iload rfl rfl ?_
  refine w_istore rfl rfl ?_
  exact H
set_option maxHeartbeats 4000000 in
set_option maxRecDepth 100000 in
theorem r_Model_isMember {d : Nat} {Q : cm_Q} {h : cm_H} {a0 : Nat} {x1 : Int} (p_a0 : 0 < a0) (H : (cm_i ((ch_I h a0 11) - 1) ∧ (cI d m_Model_within [vI x1, vI 0, vI ((ch_I h a0 11) - 1)] h fun v3 h2 => ((v3 = 0 ∨ v3 = 1) ∧ Q (some (vI v3)) h2)))) : cm_call (d + 1) m_Model_isMember [vR 12 a0, vI x1] h Q := by
  refine cm_call_in (C := cd_Model_isMember) (ls := [some (vR 12 a0), some (vI x1)]) rfl rfl p_a0 rfl ?_
  refine w_iload rfl rfl ?_
  refine w_iconst rfl ⟨by decide, by decide⟩ ?_
  refine w_aload rfl rfl ?_
  refine w_getI 11 rfl rfl rfl p_a0 ?_
  refine w_iconst rfl ⟨by decide, by decide⟩ ?_
  have o1 := H.1
  replace H := H.2
  refine w_isub rfl o1 ?_
  refine w_callI rfl (fun _ => rfl) rfl (cI_mono H fun v3 h2 H => ?_)
  exact w_zreturn rfl H.1 H.2
set_option maxHeartbeats 4000000 in
set_option maxRecDepth 100000 in
theorem r_Model_divisor_4 {d : Nat} {Q : cm_Q} {h : cm_H} {z0 : Option cm_V} {z1 : Option cm_V} {x2 : Int} {x3 : Int} {z4 : Option cm_V}  (H : ((x3 = 0 → Q (some (vI x2)) h) ∧ (¬ x3 = 0 → (0 < x3 ∧ cw d cd_Model_divisor Q 4 [z0, z1, some (vI x3), some (vI (Int.tmod x2 x3)), some (vI (Int.tmod x2 x3))] [] h)))) : cw d cd_Model_divisor Q 4 [z0, z1, some (vI x2), some (vI x3), z4] [] h := by
  refine w_iload rfl rfl ?_
  refine w_if rfl (And.intro (fun hc => ?_) (fun hc => ?_))
  · replace H := H.1 hc
    refine w_iload rfl rfl ?_
    exact w_ireturn rfl H
  · replace H := H.2 hc
    refine w_iload rfl rfl ?_
    refine w_iload rfl rfl ?_
    have o1 := H.1
    replace H := H.2
    refine w_irem rfl o1 ?_
    refine w_istore rfl rfl ?_
    refine w_iload rfl rfl ?_
    refine w_istore rfl rfl ?_
    refine w_iload rfl rfl ?_
    refine w_istore rfl rfl ?_
    refine w_goto rfl ?_
    exact H
set_option maxHeartbeats 4000000 in
set_option maxRecDepth 100000 in
theorem r_Model_divisor {d : Nat} {Q : cm_Q} {h : cm_H} {x0 : Int} {x1 : Int}  (H : cw d cd_Model_divisor Q 4 [some (vI x0), some (vI x1), some (vI x0), some (vI x1), none] [] h) : cm_call (d + 1) m_Model_divisor [vI x0, vI x1] h Q := by
  refine cm_call_in (C := cd_Model_divisor) (ls := [some (vI x0), some (vI x1), none, none, none]) rfl rfl trivial rfl ?_
  refine w_iload rfl rfl ?_
  refine w_istore rfl rfl ?_
  refine w_iload rfl rfl ?_
  refine w_istore rfl rfl ?_
  exact H
set_option maxHeartbeats 4000000 in
set_option maxRecDepth 100000 in
theorem r_Model_classes_4 {d : Nat} {Q : cm_Q} {h : cm_H} {a0 : Nat} {x1 : Int} {x2 : Int} {z3 : Option cm_V} {z4 : Option cm_V} (p_a0 : 0 < a0) (H : (((ch_I h a0 11) ≤ x2 → Q (some (vI x1)) h) ∧ (x2 < (ch_I h a0 11) → cw d cd_Model_classes Q 17 [some (vR 12 a0), some (vI x1), some (vI x2), some (vI 1), some (vI 0)] [] h))) : cw d cd_Model_classes Q 4 [some (vR 12 a0), some (vI x1), some (vI x2), z3, z4] [] h := by
  refine w_iload rfl rfl ?_
  refine w_aload rfl rfl ?_
  refine w_getI 11 rfl rfl rfl p_a0 ?_
  refine w_icmp rfl (And.intro (fun hc => ?_) (fun hc => ?_))
  · replace H := H.1 hc
    refine w_iload rfl rfl ?_
    exact w_ireturn rfl H
  · replace H := H.2 hc
    refine w_iconst rfl ⟨by decide, by decide⟩ ?_
    refine w_istore rfl rfl ?_
    refine w_iconst rfl ⟨by decide, by decide⟩ ?_
    refine w_istore rfl rfl ?_
    exact H
set_option maxHeartbeats 4000000 in
set_option maxRecDepth 100000 in
theorem r_Model_classes_17 {d : Nat} {Q : cm_Q} {h : cm_H} {a0 : Nat} {x1 : Int} {x2 : Int} {x3 : Int} {x4 : Int} (p_a0 : 0 < a0) (H : (((ch_I h a0 11) ≤ x4 → ((x3 = 0 → (cm_i (x1 + 0) ∧ (cm_i (x2 + 1) ∧ cw d cd_Model_classes Q 4 [some (vR 12 a0), some (vI (x1 + 0)), some (vI (x2 + 1)), some (vI x3), some (vI x4)] [] h))) ∧ (¬ x3 = 0 → (cm_i (x1 + 1) ∧ (cm_i (x2 + 1) ∧ cw d cd_Model_classes Q 4 [some (vR 12 a0), some (vI (x1 + 1)), some (vI (x2 + 1)), some (vI x3), some (vI x4)] [] h))))) ∧ (x4 < (ch_I h a0 11) → ((x3 = 0 → (cm_i (x4 + 1) ∧ cw d cd_Model_classes Q 17 [some (vR 12 a0), some (vI x1), some (vI x2), some (vI 0), some (vI (x4 + 1))] [] h)) ∧ (¬ x3 = 0 → (cI d m_Model_inverseOf [vR 12 a0, vI x4] h fun v7 h6 => (cI d m_Model_product [vR 12 a0, vI v7, vI x2] h6 fun v9 h8 => (cI d m_Model_product [vR 12 a0, vI v9, vI x4] h8 fun v11 h10 => ((v11 < x2 → (cm_i (x4 + 1) ∧ cw d cd_Model_classes Q 17 [some (vR 12 a0), some (vI x1), some (vI x2), some (vI 0), some (vI (x4 + 1))] [] h10)) ∧ (x2 ≤ v11 → (cm_i (x4 + 1) ∧ cw d cd_Model_classes Q 17 [some (vR 12 a0), some (vI x1), some (vI x2), some (vI 1), some (vI (x4 + 1))] [] h10))))))))))) : cw d cd_Model_classes Q 17 [some (vR 12 a0), some (vI x1), some (vI x2), some (vI x3), some (vI x4)] [] h := by
  refine w_iload rfl rfl ?_
  refine w_aload rfl rfl ?_
  refine w_getI 11 rfl rfl rfl p_a0 ?_
  refine w_icmp rfl (And.intro (fun hc => ?_) (fun hc => ?_))
  · replace H := H.1 hc
    refine w_iload rfl rfl ?_
    refine w_iload rfl rfl ?_
    refine w_if rfl (And.intro (fun hc => ?_) (fun hc => ?_))
    · replace H := H.1 hc
      refine w_iconst rfl ⟨by decide, by decide⟩ ?_
      have o1 := H.1
      replace H := H.2
      refine w_iadd rfl o1 ?_
      refine w_istore rfl rfl ?_
      have o2 := H.1
      replace H := H.2
      refine w_iinc rfl rfl rfl o2 ?_
      refine w_goto rfl ?_
      exact H
    · replace H := H.2 hc
      refine w_iconst rfl ⟨by decide, by decide⟩ ?_
      refine w_goto rfl ?_
      have o3 := H.1
      replace H := H.2
      refine w_iadd rfl o3 ?_
      refine w_istore rfl rfl ?_
      have o4 := H.1
      replace H := H.2
      refine w_iinc rfl rfl rfl o4 ?_
      refine w_goto rfl ?_
      exact H
  · replace H := H.2 hc
    refine w_iload rfl rfl ?_
    refine w_if rfl (And.intro (fun hc => ?_) (fun hc => ?_))
    · replace H := H.1 hc
      refine w_iconst rfl ⟨by decide, by decide⟩ ?_
      refine w_istore rfl rfl ?_
      have o5 := H.1
      replace H := H.2
      refine w_iinc rfl rfl rfl o5 ?_
      refine w_goto rfl ?_
      exact H
    · replace H := H.2 hc
      refine w_aload rfl rfl ?_
      refine w_aload rfl rfl ?_
      refine w_aload rfl rfl ?_
      refine w_iload rfl rfl ?_
      refine w_callI rfl (fun _ => rfl) rfl (cI_mono H fun v7 h6 H => ?_)
      refine w_iload rfl rfl ?_
      refine w_callI rfl (fun _ => rfl) rfl (cI_mono H fun v9 h8 H => ?_)
      refine w_iload rfl rfl ?_
      refine w_callI rfl (fun _ => rfl) rfl (cI_mono H fun v11 h10 H => ?_)
      refine w_iload rfl rfl ?_
      refine w_icmp rfl (And.intro (fun hc => ?_) (fun hc => ?_))
      · replace H := H.1 hc
        refine w_iconst rfl ⟨by decide, by decide⟩ ?_
        refine w_istore rfl rfl ?_
        have o12 := H.1
        replace H := H.2
        refine w_iinc rfl rfl rfl o12 ?_
        refine w_goto rfl ?_
        exact H
      · replace H := H.2 hc
        refine w_iconst rfl ⟨by decide, by decide⟩ ?_
        refine w_goto rfl ?_
        refine w_istore rfl rfl ?_
        have o13 := H.1
        replace H := H.2
        refine w_iinc rfl rfl rfl o13 ?_
        refine w_goto rfl ?_
        exact H
set_option maxHeartbeats 4000000 in
set_option maxRecDepth 100000 in
theorem r_Model_classes {d : Nat} {Q : cm_Q} {h : cm_H} {a0 : Nat} (p_a0 : 0 < a0) (H : cw d cd_Model_classes Q 4 [some (vR 12 a0), some (vI 0), some (vI 0), none, none] [] h) : cm_call (d + 1) m_Model_classes [vR 12 a0] h Q := by
  refine cm_call_in (C := cd_Model_classes) (ls := [some (vR 12 a0), none, none, none, none]) rfl rfl p_a0 rfl ?_
  refine w_iconst rfl ⟨by decide, by decide⟩ ?_
  refine w_istore rfl rfl ?_
  refine w_iconst rfl ⟨by decide, by decide⟩ ?_
  refine w_istore rfl rfl ?_
  exact H
set_option maxHeartbeats 4000000 in
set_option maxRecDepth 100000 in
theorem r_Model_power_4 {d : Nat} {Q : cm_Q} {h : cm_H} {a0 : Nat} {x1 : Int} {x2 : Int} (p_a0 : 0 < a0) (H : (((ch_I h a0 11) ≤ x2 → Q (some (vI x1)) h) ∧ (x2 < (ch_I h a0 11) → (cI d m_Model_orderOf [vR 12 a0, vI x2] h fun v2 h1 => (cI d m_Model_divisor [vI x1, vI v2] h1 fun v4 h3 => (0 < v4 ∧ (cI d m_Model_orderOf [vR 12 a0, vI x2] h3 fun v7 h6 => (cm_i ((Int.tdiv x1 v4) * v7) ∧ (cm_i (x2 + 1) ∧ cw d cd_Model_power Q 4 [some (vR 12 a0), some (vI ((Int.tdiv x1 v4) * v7)), some (vI (x2 + 1))] [] h6))))))))) : cw d cd_Model_power Q 4 [some (vR 12 a0), some (vI x1), some (vI x2)] [] h := by
  refine w_iload rfl rfl ?_
  refine w_aload rfl rfl ?_
  refine w_getI 11 rfl rfl rfl p_a0 ?_
  refine w_icmp rfl (And.intro (fun hc => ?_) (fun hc => ?_))
  · replace H := H.1 hc
    refine w_iload rfl rfl ?_
    exact w_ireturn rfl H
  · replace H := H.2 hc
    refine w_iload rfl rfl ?_
    refine w_iload rfl rfl ?_
    refine w_aload rfl rfl ?_
    refine w_iload rfl rfl ?_
    refine w_callI rfl (fun _ => rfl) rfl (cI_mono H fun v2 h1 H => ?_)
    refine w_callI rfl (fun _ => rfl) rfl (cI_mono H fun v4 h3 H => ?_)
    have o5 := H.1
    replace H := H.2
    refine w_idiv rfl o5 ?_
    refine w_aload rfl rfl ?_
    refine w_iload rfl rfl ?_
    refine w_callI rfl (fun _ => rfl) rfl (cI_mono H fun v7 h6 H => ?_)
    have o8 := H.1
    replace H := H.2
    refine w_imul rfl o8 ?_
    refine w_istore rfl rfl ?_
    have o9 := H.1
    replace H := H.2
    refine w_iinc rfl rfl rfl o9 ?_
    refine w_goto rfl ?_
    exact H
set_option maxHeartbeats 4000000 in
set_option maxRecDepth 100000 in
theorem r_Model_power {d : Nat} {Q : cm_Q} {h : cm_H} {a0 : Nat} (p_a0 : 0 < a0) (H : cw d cd_Model_power Q 4 [some (vR 12 a0), some (vI 1), some (vI 0)] [] h) : cm_call (d + 1) m_Model_power [vR 12 a0] h Q := by
  refine cm_call_in (C := cd_Model_power) (ls := [some (vR 12 a0), none, none]) rfl rfl p_a0 rfl ?_
  refine w_iconst rfl ⟨by decide, by decide⟩ ?_
  refine w_istore rfl rfl ?_
  refine w_iconst rfl ⟨by decide, by decide⟩ ?_
  refine w_istore rfl rfl ?_
  exact H
set_option maxHeartbeats 4000000 in
set_option maxRecDepth 100000 in
theorem r_Model_commutes_2 {d : Nat} {Q : cm_Q} {h : cm_H} {a0 : Nat} {x1 : Int} {z2 : Option cm_V} (p_a0 : 0 < a0) (H : (((ch_I h a0 11) ≤ x1 → Q (some (vI 1)) h) ∧ (x1 < (ch_I h a0 11) → cw d cd_Model_commutes Q 12 [some (vR 12 a0), some (vI x1), some (vI 0)] [] h))) : cw d cd_Model_commutes Q 2 [some (vR 12 a0), some (vI x1), z2] [] h := by
  refine w_iload rfl rfl ?_
  refine w_aload rfl rfl ?_
  refine w_getI 11 rfl rfl rfl p_a0 ?_
  refine w_icmp rfl (And.intro (fun hc => ?_) (fun hc => ?_))
  · replace H := H.1 hc
    refine w_iconst rfl ⟨by decide, by decide⟩ ?_
    exact w_ireturn rfl H
  · replace H := H.2 hc
    refine w_iconst rfl ⟨by decide, by decide⟩ ?_
    refine w_istore rfl rfl ?_
    exact H
set_option maxHeartbeats 4000000 in
set_option maxRecDepth 100000 in
theorem r_Model_commutes_12 {d : Nat} {Q : cm_Q} {h : cm_H} {a0 : Nat} {x1 : Int} {x2 : Int}  (H : ((x1 ≤ x2 → (cm_i (x1 + 1) ∧ cw d cd_Model_commutes Q 2 [some (vR 12 a0), some (vI (x1 + 1)), some (vI x2)] [] h)) ∧ (x2 < x1 → (cI d m_Model_product [vR 12 a0, vI x1, vI x2] h fun v3 h2 => (cI d m_Model_product [vR 12 a0, vI x2, vI x1] h2 fun v5 h4 => ((v3 = v5 → (cm_i (x2 + 1) ∧ cw d cd_Model_commutes Q 12 [some (vR 12 a0), some (vI x1), some (vI (x2 + 1))] [] h4)) ∧ (¬ v3 = v5 → Q (some (vI 0)) h4))))))) : cw d cd_Model_commutes Q 12 [some (vR 12 a0), some (vI x1), some (vI x2)] [] h := by
  refine w_iload rfl rfl ?_
  refine w_iload rfl rfl ?_
  refine w_icmp rfl (And.intro (fun hc => ?_) (fun hc => ?_))
  · replace H := H.1 hc
    have o1 := H.1
    replace H := H.2
    refine w_iinc rfl rfl rfl o1 ?_
    refine w_goto rfl ?_
    exact H
  · replace H := H.2 hc
    refine w_aload rfl rfl ?_
    refine w_iload rfl rfl ?_
    refine w_iload rfl rfl ?_
    refine w_callI rfl (fun _ => rfl) rfl (cI_mono H fun v3 h2 H => ?_)
    refine w_aload rfl rfl ?_
    refine w_iload rfl rfl ?_
    refine w_iload rfl rfl ?_
    refine w_callI rfl (fun _ => rfl) rfl (cI_mono H fun v5 h4 H => ?_)
    refine w_icmp rfl (And.intro (fun hc => ?_) (fun hc => ?_))
    · replace H := H.1 hc
      have o6 := H.1
      replace H := H.2
      refine w_iinc rfl rfl rfl o6 ?_
      refine w_goto rfl ?_
      exact H
    · replace H := H.2 hc
      refine w_iconst rfl ⟨by decide, by decide⟩ ?_
      exact w_ireturn rfl H
set_option maxHeartbeats 4000000 in
set_option maxRecDepth 100000 in
theorem r_Model_commutes {d : Nat} {Q : cm_Q} {h : cm_H} {a0 : Nat} (p_a0 : 0 < a0) (H : cw d cd_Model_commutes Q 2 [some (vR 12 a0), some (vI 0), none] [] h) : cm_call (d + 1) m_Model_commutes [vR 12 a0] h Q := by
  refine cm_call_in (C := cd_Model_commutes) (ls := [some (vR 12 a0), none, none]) rfl rfl p_a0 rfl ?_
  refine w_iconst rfl ⟨by decide, by decide⟩ ?_
  refine w_istore rfl rfl ?_
  exact H
set_option maxHeartbeats 4000000 in
set_option maxRecDepth 100000 in
theorem r_Model_group {d : Nat} {Q : cm_Q} {h : cm_H} {a0 : Nat} {x1 : Int} (p_a0 : 0 < a0) (H : (∀ h1 : cm_H, h1 = ch_u h a0 0 0 → ((x1 = 0 → Q (some (vI (ch_I h1 a0 11))) h1) ∧ (¬ x1 = 0 → ((x1 = 1 → Q (some (vI (ch_I h1 a0 1))) h1) ∧ (¬ x1 = 1 → ((x1 = 2 → Q (some (vI (ch_I h1 a0 9))) h1) ∧ (¬ x1 = 2 → ((x1 = 3 → (cI d m_Model_classes [vR 12 a0] h1 fun v3 h2 => Q (some (vI v3)) h2)) ∧ (¬ x1 = 3 → ((x1 = 4 → (cI d m_Model_power [vR 12 a0] h1 fun v5 h4 => Q (some (vI v5)) h4)) ∧ (¬ x1 = 4 → ((x1 = 5 → (cI d m_Model_commutes [vR 12 a0] h1 fun v7 h6 => Q (some (vI v7)) h6)) ∧ (¬ x1 = 5 → Q (some (vI (-1))) h1)))))))))))))) : cm_call (d + 1) m_Model_group [vR 12 a0, vI x1] h Q := by
  refine cm_call_in (C := cd_Model_group) (ls := [some (vR 12 a0), some (vI x1)]) rfl rfl p_a0 rfl ?_
  refine w_aload rfl rfl ?_
  refine w_iconst rfl ⟨by decide, by decide⟩ ?_
  refine w_putI 0 rfl rfl rfl p_a0 (fun h1 eh1 => ?_)
  replace H := H h1 eh1
  refine w_iload rfl rfl ?_
  refine w_switch rfl ?_
  refine And.intro (fun hc => ?_) (fun hc => ?_)
  · replace H := H.1 hc
    show cw _ _ _ 44 _ _ _
    refine w_aload rfl rfl ?_
    refine w_getI 11 rfl rfl rfl p_a0 ?_
    exact w_ireturn rfl H
  · replace H := H.2 hc
    refine And.intro (fun hc => ?_) (fun hc => ?_)
    · replace H := H.1 hc
      show cw _ _ _ 49 _ _ _
      refine w_aload rfl rfl ?_
      refine w_getI 1 rfl rfl rfl p_a0 ?_
      exact w_ireturn rfl H
    · replace H := H.2 hc
      refine And.intro (fun hc => ?_) (fun hc => ?_)
      · replace H := H.1 hc
        show cw _ _ _ 54 _ _ _
        refine w_aload rfl rfl ?_
        refine w_getI 9 rfl rfl rfl p_a0 ?_
        exact w_ireturn rfl H
      · replace H := H.2 hc
        refine And.intro (fun hc => ?_) (fun hc => ?_)
        · replace H := H.1 hc
          show cw _ _ _ 59 _ _ _
          refine w_aload rfl rfl ?_
          refine w_callI rfl (fun _ => rfl) rfl (cI_mono H fun v3 h2 H => ?_)
          exact w_ireturn rfl H
        · replace H := H.2 hc
          refine And.intro (fun hc => ?_) (fun hc => ?_)
          · replace H := H.1 hc
            show cw _ _ _ 64 _ _ _
            refine w_aload rfl rfl ?_
            refine w_callI rfl (fun _ => rfl) rfl (cI_mono H fun v5 h4 H => ?_)
            exact w_ireturn rfl H
          · replace H := H.2 hc
            refine And.intro (fun hc => ?_) (fun hc => ?_)
            · replace H := H.1 hc
              show cw _ _ _ 69 _ _ _
              refine w_aload rfl rfl ?_
              refine w_callI rfl (fun _ => rfl) rfl (cI_mono H fun v7 h6 H => ?_)
              exact w_ireturn rfl H
            · replace H := H.2 hc
              show cw _ _ _ 74 _ _ _
              refine w_iconst rfl ⟨by decide, by decide⟩ ?_
              exact w_ireturn rfl H
set_option maxHeartbeats 4000000 in
set_option maxRecDepth 100000 in
theorem r_Model_member {d : Nat} {Q : cm_Q} {h : cm_H} {a0 : Nat} {x1 : Int} {x2 : Int} {x3 : Int} (p_a0 : 0 < a0) (H : (∀ h1 : cm_H, h1 = ch_u h a0 0 0 → (cI d m_Model_isMember [vR 12 a0, vI x1] h1 fun v3 h2 => ((v3 = 0 → Q (some (vI (-1))) h2) ∧ (¬ v3 = 0 → (cm_i ((ch_I h2 a0 1) - 1) ∧ (cI d m_Model_within [vI x2, vI 0, vI ((ch_I h2 a0 1) - 1)] h2 fun v6 h5 => ((v6 = 0 → Q (some (vI (-1))) h5) ∧ (¬ v6 = 0 → (cm_i ((ch_I h5 a0 1) - 1) ∧ (cI d m_Model_within [vI x3, vI 0, vI ((ch_I h5 a0 1) - 1)] h5 fun v9 h8 => ((v9 = 0 → Q (some (vI (-1))) h8) ∧ (¬ v9 = 0 → (cI d m_Model_entry [vR 12 a0, vR 20 (ch_R h8 a0 12), vI x1, vI x2, vI x3] h8 fun v11 h10 => Q (some (vI v11)) h10)))))))))))))) : cm_call (d + 1) m_Model_member [vR 12 a0, vI x1, vI x2, vI x3] h Q := by
  refine cm_call_in (C := cd_Model_member) (ls := [some (vR 12 a0), some (vI x1), some (vI x2), some (vI x3)]) rfl rfl p_a0 rfl ?_
  refine w_aload rfl rfl ?_
  refine w_iconst rfl ⟨by decide, by decide⟩ ?_
  refine w_putI 0 rfl rfl rfl p_a0 (fun h1 eh1 => ?_)
  replace H := H h1 eh1
  refine w_aload rfl rfl ?_
  refine w_iload rfl rfl ?_
  refine w_callI rfl (fun _ => rfl) rfl (cI_mono H fun v3 h2 H => ?_)
  refine w_if rfl (And.intro (fun hc => ?_) (fun hc => ?_))
  · replace H := H.1 hc
    refine w_iconst rfl ⟨by decide, by decide⟩ ?_
    exact w_ireturn rfl H
  · replace H := H.2 hc
    refine w_iload rfl rfl ?_
    refine w_iconst rfl ⟨by decide, by decide⟩ ?_
    refine w_aload rfl rfl ?_
    refine w_getI 1 rfl rfl rfl p_a0 ?_
    refine w_iconst rfl ⟨by decide, by decide⟩ ?_
    have o4 := H.1
    replace H := H.2
    refine w_isub rfl o4 ?_
    refine w_callI rfl (fun _ => rfl) rfl (cI_mono H fun v6 h5 H => ?_)
    refine w_if rfl (And.intro (fun hc => ?_) (fun hc => ?_))
    · replace H := H.1 hc
      refine w_iconst rfl ⟨by decide, by decide⟩ ?_
      exact w_ireturn rfl H
    · replace H := H.2 hc
      refine w_iload rfl rfl ?_
      refine w_iconst rfl ⟨by decide, by decide⟩ ?_
      refine w_aload rfl rfl ?_
      refine w_getI 1 rfl rfl rfl p_a0 ?_
      refine w_iconst rfl ⟨by decide, by decide⟩ ?_
      have o7 := H.1
      replace H := H.2
      refine w_isub rfl o7 ?_
      refine w_callI rfl (fun _ => rfl) rfl (cI_mono H fun v9 h8 H => ?_)
      refine w_if rfl (And.intro (fun hc => ?_) (fun hc => ?_))
      · replace H := H.1 hc
        refine w_iconst rfl ⟨by decide, by decide⟩ ?_
        exact w_ireturn rfl H
      · replace H := H.2 hc
        refine w_aload rfl rfl ?_
        refine w_aload rfl rfl ?_
        refine w_getR 12 20 rfl rfl rfl rfl p_a0 ?_
        refine w_iload rfl rfl ?_
        refine w_iload rfl rfl ?_
        refine w_iload rfl rfl ?_
        refine w_callI rfl (fun _ => rfl) rfl (cI_mono H fun v11 h10 H => ?_)
        refine w_goto rfl ?_
        exact w_ireturn rfl H
set_option maxHeartbeats 4000000 in
set_option maxRecDepth 100000 in
theorem r_Model_times_ {d : Nat} {Q : cm_Q} {h : cm_H} {a0 : Nat} {x1 : Int} {x2 : Int} (p_a0 : 0 < a0) (H : (∀ h1 : cm_H, h1 = ch_u h a0 0 0 → (cI d m_Model_isMember [vR 12 a0, vI x1] h1 fun v3 h2 => ((v3 = 0 → Q (some (vI (-1))) h2) ∧ (¬ v3 = 0 → (cI d m_Model_isMember [vR 12 a0, vI x2] h2 fun v5 h4 => ((v5 = 0 → Q (some (vI (-1))) h4) ∧ (¬ v5 = 0 → (cI d m_Model_product [vR 12 a0, vI x1, vI x2] h4 fun v7 h6 => Q (some (vI v7)) h6))))))))) : cm_call (d + 1) m_Model_times_ [vR 12 a0, vI x1, vI x2] h Q := by
  refine cm_call_in (C := cd_Model_times_) (ls := [some (vR 12 a0), some (vI x1), some (vI x2)]) rfl rfl p_a0 rfl ?_
  refine w_aload rfl rfl ?_
  refine w_iconst rfl ⟨by decide, by decide⟩ ?_
  refine w_putI 0 rfl rfl rfl p_a0 (fun h1 eh1 => ?_)
  replace H := H h1 eh1
  refine w_aload rfl rfl ?_
  refine w_iload rfl rfl ?_
  refine w_callI rfl (fun _ => rfl) rfl (cI_mono H fun v3 h2 H => ?_)
  refine w_if rfl (And.intro (fun hc => ?_) (fun hc => ?_))
  · replace H := H.1 hc
    refine w_iconst rfl ⟨by decide, by decide⟩ ?_
    exact w_ireturn rfl H
  · replace H := H.2 hc
    refine w_aload rfl rfl ?_
    refine w_iload rfl rfl ?_
    refine w_callI rfl (fun _ => rfl) rfl (cI_mono H fun v5 h4 H => ?_)
    refine w_if rfl (And.intro (fun hc => ?_) (fun hc => ?_))
    · replace H := H.1 hc
      refine w_iconst rfl ⟨by decide, by decide⟩ ?_
      exact w_ireturn rfl H
    · replace H := H.2 hc
      refine w_aload rfl rfl ?_
      refine w_iload rfl rfl ?_
      refine w_iload rfl rfl ?_
      refine w_callI rfl (fun _ => rfl) rfl (cI_mono H fun v7 h6 H => ?_)
      refine w_goto rfl ?_
      exact w_ireturn rfl H
set_option maxHeartbeats 4000000 in
set_option maxRecDepth 100000 in
theorem r_Model_about_20 {d : Nat} {Q : cm_Q} {h : cm_H} {a0 : Nat} {x1 : Int} {x2 : Int} {x3 : Int} {x4 : Int} (p_a0 : 0 < a0) (H : (((ch_I h a0 1) ≤ x4 → ((x2 = 0 → (cI d m_Model_inverseOf [vR 12 a0, vI x1] h fun v2 h1 => Q (some (vI v2)) h1)) ∧ (¬ x2 = 0 → ((x2 = 1 → (cI d m_Model_orderOf [vR 12 a0, vI x1] h fun v4 h3 => Q (some (vI v4)) h3)) ∧ (¬ x2 = 1 → ((x2 = 2 → (cI d m_Model_determinant [vR 12 a0, vR 20 (ch_R h a0 12), vI x1] h fun v6 h5 => Q (some (vI v6)) h5)) ∧ (¬ x2 = 2 → ((x2 = 3 → Q (some (vI (Int.tmod x3 2521))) h) ∧ (¬ x2 = 3 → Q (some (vI (-1))) h))))))))) ∧ (x4 < (ch_I h a0 1) → (cI d m_Model_entry [vR 12 a0, vR 20 (ch_R h a0 12), vI x1, vI x4, vI x4] h fun v8 h7 => (cm_i (x3 + v8) ∧ (cm_i (x4 + 1) ∧ cw d cd_Model_about Q 20 [some (vR 12 a0), some (vI x1), some (vI x2), some (vI (x3 + v8)), some (vI (x4 + 1))] [] h7)))))) : cw d cd_Model_about Q 20 [some (vR 12 a0), some (vI x1), some (vI x2), some (vI x3), some (vI x4)] [] h := by
  refine w_iload rfl rfl ?_
  refine w_aload rfl rfl ?_
  refine w_getI 1 rfl rfl rfl p_a0 ?_
  refine w_icmp rfl (And.intro (fun hc => ?_) (fun hc => ?_))
  · replace H := H.1 hc
    refine w_iload rfl rfl ?_
    refine w_switch rfl ?_
    refine And.intro (fun hc => ?_) (fun hc => ?_)
    · replace H := H.1 hc
      show cw _ _ _ 84 _ _ _
      refine w_aload rfl rfl ?_
      refine w_iload rfl rfl ?_
      refine w_callI rfl (fun _ => rfl) rfl (cI_mono H fun v2 h1 H => ?_)
      exact w_ireturn rfl H
    · replace H := H.2 hc
      refine And.intro (fun hc => ?_) (fun hc => ?_)
      · replace H := H.1 hc
        show cw _ _ _ 90 _ _ _
        refine w_aload rfl rfl ?_
        refine w_iload rfl rfl ?_
        refine w_callI rfl (fun _ => rfl) rfl (cI_mono H fun v4 h3 H => ?_)
        exact w_ireturn rfl H
      · replace H := H.2 hc
        refine And.intro (fun hc => ?_) (fun hc => ?_)
        · replace H := H.1 hc
          show cw _ _ _ 96 _ _ _
          refine w_aload rfl rfl ?_
          refine w_aload rfl rfl ?_
          refine w_getR 12 20 rfl rfl rfl rfl p_a0 ?_
          refine w_iload rfl rfl ?_
          refine w_callI rfl (fun _ => rfl) rfl (cI_mono H fun v6 h5 H => ?_)
          exact w_ireturn rfl H
        · replace H := H.2 hc
          refine And.intro (fun hc => ?_) (fun hc => ?_)
          · replace H := H.1 hc
            show cw _ _ _ 106 _ _ _
            refine w_iload rfl rfl ?_
            refine w_iconst rfl ⟨by decide, by decide⟩ ?_
            refine w_irem rfl (by decide) ?_
            exact w_ireturn rfl H
          · replace H := H.2 hc
            show cw _ _ _ 112 _ _ _
            refine w_iconst rfl ⟨by decide, by decide⟩ ?_
            exact w_ireturn rfl H
  · replace H := H.2 hc
    refine w_iload rfl rfl ?_
    refine w_aload rfl rfl ?_
    refine w_aload rfl rfl ?_
    refine w_getR 12 20 rfl rfl rfl rfl p_a0 ?_
    refine w_iload rfl rfl ?_
    refine w_iload rfl rfl ?_
    refine w_iload rfl rfl ?_
    refine w_callI rfl (fun _ => rfl) rfl (cI_mono H fun v8 h7 H => ?_)
    have o9 := H.1
    replace H := H.2
    refine w_iadd rfl o9 ?_
    refine w_istore rfl rfl ?_
    have o10 := H.1
    replace H := H.2
    refine w_iinc rfl rfl rfl o10 ?_
    refine w_goto rfl ?_
    exact H
set_option maxHeartbeats 4000000 in
set_option maxRecDepth 100000 in
theorem r_Model_about {d : Nat} {Q : cm_Q} {h : cm_H} {a0 : Nat} {x1 : Int} {x2 : Int} (p_a0 : 0 < a0) (H : (∀ h1 : cm_H, h1 = ch_u h a0 0 0 → (cI d m_Model_isMember [vR 12 a0, vI x1] h1 fun v3 h2 => ((¬ v3 = 0 → cw d cd_Model_about Q 20 [some (vR 12 a0), some (vI x1), some (vI x2), some (vI 0), some (vI 0)] [] h2) ∧ (v3 = 0 → Q (some (vI (-1))) h2))))) : cm_call (d + 1) m_Model_about [vR 12 a0, vI x1, vI x2] h Q := by
  refine cm_call_in (C := cd_Model_about) (ls := [some (vR 12 a0), some (vI x1), some (vI x2), none, none]) rfl rfl p_a0 rfl ?_
  refine w_aload rfl rfl ?_
  refine w_iconst rfl ⟨by decide, by decide⟩ ?_
  refine w_putI 0 rfl rfl rfl p_a0 (fun h1 eh1 => ?_)
  replace H := H h1 eh1
  refine w_aload rfl rfl ?_
  refine w_iload rfl rfl ?_
  refine w_callI rfl (fun _ => rfl) rfl (cI_mono H fun v3 h2 H => ?_)
  refine w_if rfl (And.intro (fun hc => ?_) (fun hc => ?_))
  · replace H := H.1 hc
    refine w_iconst rfl ⟨by decide, by decide⟩ ?_
    refine w_istore rfl rfl ?_
    refine w_iconst rfl ⟨by decide, by decide⟩ ?_
    refine w_istore rfl rfl ?_
    exact H
  · replace H := H.2 hc
    refine w_iconst rfl ⟨by decide, by decide⟩ ?_
    exact w_ireturn rfl H
set_option maxHeartbeats 4000000 in
set_option maxRecDepth 100000 in
theorem r_Model_feed {d : Nat} {Q : cm_Q} {h : cm_H} {a0 : Nat} {x1 : Int} {x2 : Int} {x3 : Int} {x4 : Int} {x5 : Int} (p_a0 : 0 < a0) (H : (∀ h1 : cm_H, h1 = ch_u h a0 0 0 → (cm_i ((ch_I h1 a0 14) + 20) ∧ ((((ch_I h1 a0 14) + 20) ≤ 400 → (cU d m_Model_puts [vR 12 a0, vI x1] h1 fun h3 => (cU d m_Model_puts [vR 12 a0, vI x2] h3 fun h4 => (cU d m_Model_puts [vR 12 a0, vI x3] h4 fun h5 => (cU d m_Model_puts [vR 12 a0, vI x4] h5 fun h6 => (cU d m_Model_puts [vR 12 a0, vI x5] h6 fun h7 => Q (some (vI (ch_I h7 a0 14))) h7)))))) ∧ (400 < ((ch_I h1 a0 14) + 20) → Q (some (vI (-1))) h1))))) : cm_call (d + 1) m_Model_feed [vR 12 a0, vI x1, vI x2, vI x3, vI x4, vI x5] h Q := by
  refine cm_call_in (C := cd_Model_feed) (ls := [some (vR 12 a0), some (vI x1), some (vI x2), some (vI x3), some (vI x4), some (vI x5)]) rfl rfl p_a0 rfl ?_
  refine w_aload rfl rfl ?_
  refine w_iconst rfl ⟨by decide, by decide⟩ ?_
  refine w_putI 0 rfl rfl rfl p_a0 (fun h1 eh1 => ?_)
  replace H := H h1 eh1
  refine w_aload rfl rfl ?_
  refine w_getI 14 rfl rfl rfl p_a0 ?_
  refine w_iconst rfl ⟨by decide, by decide⟩ ?_
  have o2 := H.1
  replace H := H.2
  refine w_iadd rfl o2 ?_
  refine w_iconst rfl ⟨by decide, by decide⟩ ?_
  refine w_icmp rfl (And.intro (fun hc => ?_) (fun hc => ?_))
  · replace H := H.1 hc
    refine w_aload rfl rfl ?_
    refine w_iload rfl rfl ?_
    refine w_callU rfl (fun _ => rfl) rfl (cU_mono H fun h3 H => ?_)
    refine w_aload rfl rfl ?_
    refine w_iload rfl rfl ?_
    refine w_callU rfl (fun _ => rfl) rfl (cU_mono H fun h4 H => ?_)
    refine w_aload rfl rfl ?_
    refine w_iload rfl rfl ?_
    refine w_callU rfl (fun _ => rfl) rfl (cU_mono H fun h5 H => ?_)
    refine w_aload rfl rfl ?_
    refine w_iload rfl rfl ?_
    refine w_callU rfl (fun _ => rfl) rfl (cU_mono H fun h6 H => ?_)
    refine w_aload rfl rfl ?_
    refine w_iload rfl rfl ?_
    refine w_callU rfl (fun _ => rfl) rfl (cU_mono H fun h7 H => ?_)
    refine w_aload rfl rfl ?_
    refine w_getI 14 rfl rfl rfl p_a0 ?_
    exact w_ireturn rfl H
  · replace H := H.2 hc
    refine w_iconst rfl ⟨by decide, by decide⟩ ?_
    exact w_ireturn rfl H
set_option maxHeartbeats 4000000 in
set_option maxRecDepth 100000 in
theorem r_Model_puts_3 {d : Nat} {Q : cm_Q} {h : cm_H} {a0 : Nat} {x1 : Int} {x2 : Int} (p_a0 : 0 < a0) (H : ((x2 < 0 → Q none h) ∧ (0 ≤ x2 → ((0:Int) ≤ x2 ∧ x2 < 32) ∧ (0 < ((ch_R h a0 13)) ∧ ((0:Int) ≤ (ch_I h a0 14) ∧ (ch_I h a0 14) < ch_L h (ch_R h a0 13)) ∧ (-128 ≤ (((x1 / 2 ^ (Int.toNat x2)) + 128) % 256 - 128) ∧ (((x1 / 2 ^ (Int.toNat x2)) + 128) % 256 - 128) ≤ 127) ∧ (∀ h5 : cm_H, h5 = ch_u h (ch_R h a0 13) (ch_I h a0 14) (((x1 / 2 ^ (Int.toNat x2)) + 128) % 256 - 128) → (cm_i ((ch_I h5 a0 14) + 1) ∧ (∀ h7 : cm_H, h7 = ch_u h5 a0 14 ((ch_I h5 a0 14) + 1) → (cm_i (x2 + (-8)) ∧ cw d cd_Model_puts Q 3 [some (vR 12 a0), some (vI x1), some (vI (x2 + (-8)))] [] h7)))))))) : cw d cd_Model_puts Q 3 [some (vR 12 a0), some (vI x1), some (vI x2)] [] h := by
  refine w_iload rfl rfl ?_
  refine w_if rfl (And.intro (fun hc => ?_) (fun hc => ?_))
  · replace H := H.1 hc
    exact w_return rfl H
  · replace H := H.2 hc
    refine w_aload rfl rfl ?_
    refine w_getR 13 21 rfl rfl rfl rfl p_a0 ?_
    refine w_aload rfl rfl ?_
    refine w_getI 14 rfl rfl rfl p_a0 ?_
    refine w_iload rfl rfl ?_
    refine w_iload rfl rfl ?_
    have o1 := H.1
    replace H := H.2
    refine w_ishr rfl o1 ?_
    refine w_i2b rfl ?_
    have o2 := H.1
    replace H := H.2
    have o3 := H.1
    replace H := H.2
    have o4 := H.1
    replace H := H.2
    refine w_bastore rfl rfl (Or.inl ⟨rfl, o4⟩) o2 o3 (fun h5 eh5 => ?_)
    replace H := H h5 eh5
    refine w_aload rfl rfl ?_
    refine w_dup rfl rfl ?_
    refine w_getI 14 rfl rfl rfl p_a0 ?_
    refine w_iconst rfl ⟨by decide, by decide⟩ ?_
    have o6 := H.1
    replace H := H.2
    refine w_iadd rfl o6 ?_
    refine w_putI 14 rfl rfl rfl p_a0 (fun h7 eh7 => ?_)
    replace H := H h7 eh7
    have o8 := H.1
    replace H := H.2
    refine w_iinc rfl rfl rfl o8 ?_
    refine w_goto rfl ?_
    exact H
set_option maxHeartbeats 4000000 in
set_option maxRecDepth 100000 in
theorem r_Model_puts {d : Nat} {Q : cm_Q} {h : cm_H} {a0 : Nat} {x1 : Int} (p_a0 : 0 < a0) (H : cw d cd_Model_puts Q 3 [some (vR 12 a0), some (vI x1), some (vI 24)] [] h) : cm_call (d + 1) m_Model_puts [vR 12 a0, vI x1] h Q := by
  refine cm_call_in (C := cd_Model_puts) (ls := [some (vR 12 a0), some (vI x1), none]) rfl rfl p_a0 rfl ?_
  refine w_iconst rfl ⟨by decide, by decide⟩ ?_
  refine w_istore rfl rfl ?_
  exact H
set_option maxHeartbeats 4000000 in
set_option maxRecDepth 100000 in
theorem r_Model_byteAt {d : Nat} {Q : cm_Q} {h : cm_H} {a0 : Nat} {x1 : Int} (p_a0 : 0 < a0) (H : (((ch_I h a0 15) ≤ x1 → Q (some (vI (-1))) h) ∧ (x1 < (ch_I h a0 15) → (0 < ((ch_R h a0 13)) ∧ ((0:Int) ≤ x1 ∧ x1 < ch_L h (ch_R h a0 13)) ∧ Q (some (vI ((ch_I h (ch_R h a0 13) x1) % (255 + 1)))) h)))) : cm_call (d + 1) m_Model_byteAt [vR 12 a0, vI x1] h Q := by
  refine cm_call_in (C := cd_Model_byteAt) (ls := [some (vR 12 a0), some (vI x1)]) rfl rfl p_a0 rfl ?_
  refine w_iload rfl rfl ?_
  refine w_aload rfl rfl ?_
  refine w_getI 15 rfl rfl rfl p_a0 ?_
  refine w_icmp rfl (And.intro (fun hc => ?_) (fun hc => ?_))
  · replace H := H.1 hc
    refine w_iconst rfl ⟨by decide, by decide⟩ ?_
    exact w_ireturn rfl H
  · replace H := H.2 hc
    refine w_aload rfl rfl ?_
    refine w_getR 13 21 rfl rfl rfl rfl p_a0 ?_
    refine w_iload rfl rfl ?_
    have o1 := H.1
    replace H := H.2
    have o2 := H.1
    replace H := H.2
    refine w_baload rfl rfl o1 o2 ?_
    refine w_iconst rfl ⟨by decide, by decide⟩ ?_
    refine w_iand rfl (by decide) ?_
    refine w_goto rfl ?_
    exact w_ireturn rfl H
set_option maxHeartbeats 4000000 in
set_option maxRecDepth 100000 in
theorem r_Model_go_0 {d : Nat} {Q : cm_Q} {h : cm_H} {a0 : Nat} {z1 : Option cm_V} (p_a0 : 0 < a0) (H : (cI d m_Model_byteAt [vR 12 a0, vI (ch_I h a0 17)] h fun v2 h1 => ((v2 = 32 → (cm_i ((ch_I h1 a0 17) + 1) ∧ (∀ h4 : cm_H, h4 = ch_u h1 a0 17 ((ch_I h1 a0 17) + 1) → cw d cd_Model_go Q 0 [some (vR 12 a0), z1] [] h4))) ∧ (¬ v2 = 32 → (cI d m_Model_byteAt [vR 12 a0, vI (ch_I h1 a0 17)] h1 fun v6 h5 => ((¬ v6 = 10 → (∀ h7 : cm_H, h7 = ch_u h5 a0 16 (ch_I h5 a0 17) → (cI d m_Model_byteAt [vR 12 a0, vI (ch_I h7 a0 17)] h7 fun v9 h8 => ((0 ≤ v9 → (cI d m_Model_within [vI v9, vI 48, vI 57] h8 fun v11 h10 => ((v11 = 0 → (∀ h12 : cm_H, h12 = ch_u h10 a0 18 2 → (∀ h13 : cm_H, h13 = ch_u h12 a0 19 v9 → (cm_i ((ch_I h13 a0 17) + 1) ∧ (∀ h15 : cm_H, h15 = ch_u h13 a0 17 ((ch_I h13 a0 17) + 1) → Q none h15))))) ∧ (¬ v11 = 0 → (∀ h16 : cm_H, h16 = ch_u h10 a0 18 1 → (∀ h17 : cm_H, h17 = ch_u h16 a0 19 0 → cw d cd_Model_go Q 89 [some (vR 12 a0), some (vI v9)] [] h17)))))) ∧ (v9 < 0 → (∀ h18 : cm_H, h18 = ch_u h8 a0 18 0 → Q none h18)))))) ∧ (v6 = 10 → (cm_i ((ch_I h5 a0 17) + 1) ∧ (∀ h20 : cm_H, h20 = ch_u h5 a0 17 ((ch_I h5 a0 17) + 1) → cw d cd_Model_go Q 0 [some (vR 12 a0), z1] [] h20))))))))) : cw d cd_Model_go Q 0 [some (vR 12 a0), z1] [] h := by
  refine w_aload rfl rfl ?_
  refine w_aload rfl rfl ?_
  refine w_getI 17 rfl rfl rfl p_a0 ?_
  refine w_callI rfl (fun _ => rfl) rfl (cI_mono H fun v2 h1 H => ?_)
  refine w_iconst rfl ⟨by decide, by decide⟩ ?_
  refine w_icmp rfl (And.intro (fun hc => ?_) (fun hc => ?_))
  · replace H := H.1 hc
    refine w_aload rfl rfl ?_
    refine w_dup rfl rfl ?_
    refine w_getI 17 rfl rfl rfl p_a0 ?_
    refine w_iconst rfl ⟨by decide, by decide⟩ ?_
    have o3 := H.1
    replace H := H.2
    refine w_iadd rfl o3 ?_
    refine w_putI 17 rfl rfl rfl p_a0 (fun h4 eh4 => ?_)
    replace H := H h4 eh4
    refine w_goto rfl ?_
    exact H
  · replace H := H.2 hc
    refine w_aload rfl rfl ?_
    refine w_aload rfl rfl ?_
    refine w_getI 17 rfl rfl rfl p_a0 ?_
    refine w_callI rfl (fun _ => rfl) rfl (cI_mono H fun v6 h5 H => ?_)
    refine w_iconst rfl ⟨by decide, by decide⟩ ?_
    refine w_icmp rfl (And.intro (fun hc => ?_) (fun hc => ?_))
    · replace H := H.1 hc
      refine w_aload rfl rfl ?_
      refine w_aload rfl rfl ?_
      refine w_getI 17 rfl rfl rfl p_a0 ?_
      refine w_putI 16 rfl rfl rfl p_a0 (fun h7 eh7 => ?_)
      replace H := H h7 eh7
      refine w_aload rfl rfl ?_
      refine w_aload rfl rfl ?_
      refine w_getI 17 rfl rfl rfl p_a0 ?_
      refine w_callI rfl (fun _ => rfl) rfl (cI_mono H fun v9 h8 H => ?_)
      refine w_istore rfl rfl ?_
      refine w_iload rfl rfl ?_
      refine w_if rfl (And.intro (fun hc => ?_) (fun hc => ?_))
      · replace H := H.1 hc
        refine w_iload rfl rfl ?_
        refine w_iconst rfl ⟨by decide, by decide⟩ ?_
        refine w_iconst rfl ⟨by decide, by decide⟩ ?_
        refine w_callI rfl (fun _ => rfl) rfl (cI_mono H fun v11 h10 H => ?_)
        refine w_if rfl (And.intro (fun hc => ?_) (fun hc => ?_))
        · replace H := H.1 hc
          refine w_aload rfl rfl ?_
          refine w_iconst rfl ⟨by decide, by decide⟩ ?_
          refine w_putI 18 rfl rfl rfl p_a0 (fun h12 eh12 => ?_)
          replace H := H h12 eh12
          refine w_aload rfl rfl ?_
          refine w_iload rfl rfl ?_
          refine w_putI 19 rfl rfl rfl p_a0 (fun h13 eh13 => ?_)
          replace H := H h13 eh13
          refine w_aload rfl rfl ?_
          refine w_dup rfl rfl ?_
          refine w_getI 17 rfl rfl rfl p_a0 ?_
          refine w_iconst rfl ⟨by decide, by decide⟩ ?_
          have o14 := H.1
          replace H := H.2
          refine w_iadd rfl o14 ?_
          refine w_putI 17 rfl rfl rfl p_a0 (fun h15 eh15 => ?_)
          replace H := H h15 eh15
          exact w_return rfl H
        · replace H := H.2 hc
          refine w_aload rfl rfl ?_
          refine w_iconst rfl ⟨by decide, by decide⟩ ?_
          refine w_putI 18 rfl rfl rfl p_a0 (fun h16 eh16 => ?_)
          replace H := H h16 eh16
          refine w_aload rfl rfl ?_
          refine w_iconst rfl ⟨by decide, by decide⟩ ?_
          refine w_putI 19 rfl rfl rfl p_a0 (fun h17 eh17 => ?_)
          replace H := H h17 eh17
          exact H
      · replace H := H.2 hc
        refine w_aload rfl rfl ?_
        refine w_iconst rfl ⟨by decide, by decide⟩ ?_
        refine w_putI 18 rfl rfl rfl p_a0 (fun h18 eh18 => ?_)
        replace H := H h18 eh18
        refine w_goto rfl ?_
        exact w_return rfl H
    · replace H := H.2 hc
      refine w_aload rfl rfl ?_
      refine w_dup rfl rfl ?_
      refine w_getI 17 rfl rfl rfl p_a0 ?_
      refine w_iconst rfl ⟨by decide, by decide⟩ ?_
      have o19 := H.1
      replace H := H.2
      refine w_iadd rfl o19 ?_
      refine w_putI 17 rfl rfl rfl p_a0 (fun h20 eh20 => ?_)
      replace H := H h20 eh20
      refine w_goto rfl ?_
      exact H
set_option maxHeartbeats 4000000 in
set_option maxRecDepth 100000 in
theorem r_Model_go_89 {d : Nat} {Q : cm_Q} {h : cm_H} {a0 : Nat} {z1 : Option cm_V} (p_a0 : 0 < a0) (H : (cI d m_Model_byteAt [vR 12 a0, vI (ch_I h a0 17)] h fun v2 h1 => (cI d m_Model_within [vI v2, vI 48, vI 57] h1 fun v4 h3 => ((v4 = 0 → Q none h3) ∧ (¬ v4 = 0 → (cm_i ((ch_I h3 a0 17) - (ch_I h3 a0 16)) ∧ ((4 ≤ ((ch_I h3 a0 17) - (ch_I h3 a0 16)) → (∀ h6 : cm_H, h6 = ch_u h3 a0 19 (ch_I h3 a0 19) → (cm_i ((ch_I h6 a0 17) + 1) ∧ (∀ h8 : cm_H, h8 = ch_u h6 a0 17 ((ch_I h6 a0 17) + 1) → cw d cd_Model_go Q 89 [some (vR 12 a0), z1] [] h8)))) ∧ (((ch_I h3 a0 17) - (ch_I h3 a0 16)) < 4 → (cm_i (10 * (ch_I h3 a0 19)) ∧ (cI d m_Model_byteAt [vR 12 a0, vI (ch_I h3 a0 17)] h3 fun v11 h10 => (cm_i ((10 * (ch_I h3 a0 19)) + v11) ∧ (cm_i (((10 * (ch_I h3 a0 19)) + v11) - 48) ∧ (∀ h14 : cm_H, h14 = ch_u h10 a0 19 (((10 * (ch_I h3 a0 19)) + v11) - 48) → (cm_i ((ch_I h14 a0 17) + 1) ∧ (∀ h16 : cm_H, h16 = ch_u h14 a0 17 ((ch_I h14 a0 17) + 1) → cw d cd_Model_go Q 89 [some (vR 12 a0), z1] [] h16))))))))))))))) : cw d cd_Model_go Q 89 [some (vR 12 a0), z1] [] h := by
  refine w_aload rfl rfl ?_
  refine w_aload rfl rfl ?_
  refine w_getI 17 rfl rfl rfl p_a0 ?_
  refine w_callI rfl (fun _ => rfl) rfl (cI_mono H fun v2 h1 H => ?_)
  refine w_iconst rfl ⟨by decide, by decide⟩ ?_
  refine w_iconst rfl ⟨by decide, by decide⟩ ?_
  refine w_callI rfl (fun _ => rfl) rfl (cI_mono H fun v4 h3 H => ?_)
  refine w_if rfl (And.intro (fun hc => ?_) (fun hc => ?_))
  · replace H := H.1 hc
    exact w_return rfl H
  · replace H := H.2 hc
    refine w_aload rfl rfl ?_
    refine w_aload rfl rfl ?_
    refine w_getI 17 rfl rfl rfl p_a0 ?_
    refine w_aload rfl rfl ?_
    refine w_getI 16 rfl rfl rfl p_a0 ?_
    have o5 := H.1
    replace H := H.2
    refine w_isub rfl o5 ?_
    refine w_iconst rfl ⟨by decide, by decide⟩ ?_
    refine w_icmp rfl (And.intro (fun hc => ?_) (fun hc => ?_))
    · replace H := H.1 hc
      refine w_aload rfl rfl ?_
      refine w_getI 19 rfl rfl rfl p_a0 ?_
      refine w_putI 19 rfl rfl rfl p_a0 (fun h6 eh6 => ?_)
      replace H := H h6 eh6
      refine w_aload rfl rfl ?_
      refine w_dup rfl rfl ?_
      refine w_getI 17 rfl rfl rfl p_a0 ?_
      refine w_iconst rfl ⟨by decide, by decide⟩ ?_
      have o7 := H.1
      replace H := H.2
      refine w_iadd rfl o7 ?_
      refine w_putI 17 rfl rfl rfl p_a0 (fun h8 eh8 => ?_)
      replace H := H h8 eh8
      refine w_goto rfl ?_
      exact H
    · replace H := H.2 hc
      refine w_iconst rfl ⟨by decide, by decide⟩ ?_
      refine w_aload rfl rfl ?_
      refine w_getI 19 rfl rfl rfl p_a0 ?_
      have o9 := H.1
      replace H := H.2
      refine w_imul rfl o9 ?_
      refine w_aload rfl rfl ?_
      refine w_aload rfl rfl ?_
      refine w_getI 17 rfl rfl rfl p_a0 ?_
      refine w_callI rfl (fun _ => rfl) rfl (cI_mono H fun v11 h10 H => ?_)
      have o12 := H.1
      replace H := H.2
      refine w_iadd rfl o12 ?_
      refine w_iconst rfl ⟨by decide, by decide⟩ ?_
      have o13 := H.1
      replace H := H.2
      refine w_isub rfl o13 ?_
      refine w_goto rfl ?_
      refine w_putI 19 rfl rfl rfl p_a0 (fun h14 eh14 => ?_)
      replace H := H h14 eh14
      refine w_aload rfl rfl ?_
      refine w_dup rfl rfl ?_
      refine w_getI 17 rfl rfl rfl p_a0 ?_
      refine w_iconst rfl ⟨by decide, by decide⟩ ?_
      have o15 := H.1
      replace H := H.2
      refine w_iadd rfl o15 ?_
      refine w_putI 17 rfl rfl rfl p_a0 (fun h16 eh16 => ?_)
      replace H := H h16 eh16
      refine w_goto rfl ?_
      exact H
set_option maxHeartbeats 4000000 in
set_option maxRecDepth 100000 in
theorem r_Model_go {d : Nat} {Q : cm_Q} {h : cm_H} {a0 : Nat} (p_a0 : 0 < a0) (H : cw d cd_Model_go Q 0 [some (vR 12 a0), none] [] h) : cm_call (d + 1) m_Model_go [vR 12 a0] h Q := by
  refine cm_call_in (C := cd_Model_go) (ls := [some (vR 12 a0), none]) rfl rfl p_a0 rfl ?_
  exact H
set_option maxHeartbeats 4000000 in
set_option maxRecDepth 100000 in
theorem r_Model_starts {d : Nat} {Q : cm_Q} {h : cm_H} {a0 : Nat} {x1 : Int} (p_a0 : 0 < a0) (H : (∀ h1 : cm_H, h1 = ch_u h a0 15 x1 → (∀ h2 : cm_H, h2 = ch_u h1 a0 14 0 → (∀ h3 : cm_H, h3 = ch_u h2 a0 17 0 → (∀ h4 : cm_H, h4 = ch_u h3 a0 20 0 → (cU d m_Model_go [vR 12 a0] h4 fun h5 => Q none h5)))))) : cm_call (d + 1) m_Model_starts [vR 12 a0, vI x1] h Q := by
  refine cm_call_in (C := cd_Model_starts) (ls := [some (vR 12 a0), some (vI x1)]) rfl rfl p_a0 rfl ?_
  refine w_aload rfl rfl ?_
  refine w_iload rfl rfl ?_
  refine w_putI 15 rfl rfl rfl p_a0 (fun h1 eh1 => ?_)
  replace H := H h1 eh1
  refine w_aload rfl rfl ?_
  refine w_iconst rfl ⟨by decide, by decide⟩ ?_
  refine w_putI 14 rfl rfl rfl p_a0 (fun h2 eh2 => ?_)
  replace H := H h2 eh2
  refine w_aload rfl rfl ?_
  refine w_iconst rfl ⟨by decide, by decide⟩ ?_
  refine w_putI 17 rfl rfl rfl p_a0 (fun h3 eh3 => ?_)
  replace H := H h3 eh3
  refine w_aload rfl rfl ?_
  refine w_iconst rfl ⟨by decide, by decide⟩ ?_
  refine w_putI 20 rfl rfl rfl p_a0 (fun h4 eh4 => ?_)
  replace H := H h4 eh4
  refine w_aload rfl rfl ?_
  refine w_callU rfl (fun _ => rfl) rfl (cU_mono H fun h5 H => ?_)
  exact w_return rfl H
set_option maxHeartbeats 4000000 in
set_option maxRecDepth 100000 in
theorem r_Model_bad {d : Nat} {Q : cm_Q} {h : cm_H} {a0 : Nat} {x1 : Int} (p_a0 : 0 < a0) (H : ((¬ (ch_I h a0 20) = 0 → (∀ h1 : cm_H, h1 = ch_u h a0 20 (ch_I h a0 20) → Q (some (vI 0)) h1)) ∧ ((ch_I h a0 20) = 0 → (cm_i (8 * (ch_I h a0 16)) ∧ (cm_i ((8 * (ch_I h a0 16)) + x1) ∧ (∀ h4 : cm_H, h4 = ch_u h a0 20 ((8 * (ch_I h a0 16)) + x1) → Q (some (vI 0)) h4)))))) : cm_call (d + 1) m_Model_bad [vR 12 a0, vI x1] h Q := by
  refine cm_call_in (C := cd_Model_bad) (ls := [some (vR 12 a0), some (vI x1)]) rfl rfl p_a0 rfl ?_
  refine w_aload rfl rfl ?_
  refine w_aload rfl rfl ?_
  refine w_getI 20 rfl rfl rfl p_a0 ?_
  refine w_if rfl (And.intro (fun hc => ?_) (fun hc => ?_))
  · replace H := H.1 hc
    refine w_aload rfl rfl ?_
    refine w_getI 20 rfl rfl rfl p_a0 ?_
    refine w_putI 20 rfl rfl rfl p_a0 (fun h1 eh1 => ?_)
    replace H := H h1 eh1
    refine w_iconst rfl ⟨by decide, by decide⟩ ?_
    exact w_zreturn rfl (by decide) H
  · replace H := H.2 hc
    refine w_iconst rfl ⟨by decide, by decide⟩ ?_
    refine w_aload rfl rfl ?_
    refine w_getI 16 rfl rfl rfl p_a0 ?_
    have o2 := H.1
    replace H := H.2
    refine w_imul rfl o2 ?_
    refine w_iload rfl rfl ?_
    have o3 := H.1
    replace H := H.2
    refine w_iadd rfl o3 ?_
    refine w_goto rfl ?_
    refine w_putI 20 rfl rfl rfl p_a0 (fun h4 eh4 => ?_)
    replace H := H h4 eh4
    refine w_iconst rfl ⟨by decide, by decide⟩ ?_
    exact w_zreturn rfl (by decide) H
set_option maxHeartbeats 4000000 in
set_option maxRecDepth 100000 in
theorem r_Model_is {d : Nat} {Q : cm_Q} {h : cm_H} {a0 : Nat} {x1 : Int} (p_a0 : 0 < a0) (H : ((¬ (ch_I h a0 18) = 2 → Q (some (vI 0)) h) ∧ ((ch_I h a0 18) = 2 → ((¬ (ch_I h a0 19) = x1 → Q (some (vI 0)) h) ∧ ((ch_I h a0 19) = x1 → Q (some (vI 1)) h))))) : cm_call (d + 1) m_Model_is [vR 12 a0, vI x1] h Q := by
  refine cm_call_in (C := cd_Model_is) (ls := [some (vR 12 a0), some (vI x1)]) rfl rfl p_a0 rfl ?_
  refine w_aload rfl rfl ?_
  refine w_getI 18 rfl rfl rfl p_a0 ?_
  refine w_iconst rfl ⟨by decide, by decide⟩ ?_
  refine w_icmp rfl (And.intro (fun hc => ?_) (fun hc => ?_))
  · replace H := H.1 hc
    refine w_iconst rfl ⟨by decide, by decide⟩ ?_
    exact w_zreturn rfl (by decide) H
  · replace H := H.2 hc
    refine w_aload rfl rfl ?_
    refine w_getI 19 rfl rfl rfl p_a0 ?_
    refine w_iload rfl rfl ?_
    refine w_icmp rfl (And.intro (fun hc => ?_) (fun hc => ?_))
    · replace H := H.1 hc
      refine w_iconst rfl ⟨by decide, by decide⟩ ?_
      exact w_zreturn rfl (by decide) H
    · replace H := H.2 hc
      refine w_iconst rfl ⟨by decide, by decide⟩ ?_
      refine w_goto rfl ?_
      exact w_zreturn rfl (by decide) H
set_option maxHeartbeats 4000000 in
set_option maxRecDepth 100000 in
theorem r_Model_sign {d : Nat} {Q : cm_Q} {h : cm_H} {a0 : Nat} {x1 : Int} (p_a0 : 0 < a0) (H : (cI d m_Model_is [vR 12 a0, vI x1] h fun v2 h1 => ((¬ v2 = 0 → (cU d m_Model_go [vR 12 a0] h1 fun h3 => Q (some (vI 1)) h3)) ∧ (v2 = 0 → (cI d m_Model_bad [vR 12 a0, vI 1] h1 fun v5 h4 => ((v5 = 0 ∨ v5 = 1) ∧ Q (some (vI v5)) h4)))))) : cm_call (d + 1) m_Model_sign [vR 12 a0, vI x1] h Q := by
  refine cm_call_in (C := cd_Model_sign) (ls := [some (vR 12 a0), some (vI x1)]) rfl rfl p_a0 rfl ?_
  refine w_aload rfl rfl ?_
  refine w_iload rfl rfl ?_
  refine w_callI rfl (fun _ => rfl) rfl (cI_mono H fun v2 h1 H => ?_)
  refine w_if rfl (And.intro (fun hc => ?_) (fun hc => ?_))
  · replace H := H.1 hc
    refine w_aload rfl rfl ?_
    refine w_callU rfl (fun _ => rfl) rfl (cU_mono H fun h3 H => ?_)
    refine w_iconst rfl ⟨by decide, by decide⟩ ?_
    exact w_zreturn rfl (by decide) H
  · replace H := H.2 hc
    refine w_aload rfl rfl ?_
    refine w_iconst rfl ⟨by decide, by decide⟩ ?_
    refine w_callI rfl (fun _ => rfl) rfl (cI_mono H fun v5 h4 H => ?_)
    exact w_zreturn rfl H.1 H.2
set_option maxHeartbeats 4000000 in
set_option maxRecDepth 100000 in
theorem r_Model_tableNumber_15 {d : Nat} {Q : cm_Q} {h : cm_H} {a0 : Nat} {x1 : Int} {x2 : Int} (p_a0 : 0 < a0) (H : ((¬ (ch_I h a0 18) = 1 → (cI d m_Model_bad [vR 12 a0, vI 1] h fun v2 h1 => ((v2 = 0 ∨ v2 = 1) ∧ Q (some (vI v2)) h1))) ∧ ((ch_I h a0 18) = 1 → (cm_i ((ch_I h a0 17) - (ch_I h a0 16)) ∧ ((((ch_I h a0 17) - (ch_I h a0 16)) ≤ 4 → ((x2 = 0 → (cI d m_Model_of [vL (ch_I h a0 19)] h fun v5 h4 => (0 < ((ch_R h a0 21)) ∧ ((0:Int) ≤ x1 ∧ x1 < ch_L h4 (ch_R h a0 21)) ∧ (∀ h8 : cm_H, h8 = ch_u h4 (ch_R h a0 21) x1 v5 → (cU d m_Model_go [vR 12 a0] h8 fun h9 => Q (some (vI 1)) h9))))) ∧ (¬ x2 = 0 → (cm_i (-(ch_I h a0 19)) ∧ (cI d m_Model_of [vL (-(ch_I h a0 19))] h fun v12 h11 => (0 < ((ch_R h a0 21)) ∧ ((0:Int) ≤ x1 ∧ x1 < ch_L h11 (ch_R h a0 21)) ∧ (∀ h15 : cm_H, h15 = ch_u h11 (ch_R h a0 21) x1 v12 → (cU d m_Model_go [vR 12 a0] h15 fun h16 => Q (some (vI 1)) h16)))))))) ∧ (4 < ((ch_I h a0 17) - (ch_I h a0 16)) → (cI d m_Model_bad [vR 12 a0, vI 1] h fun v18 h17 => ((v18 = 0 ∨ v18 = 1) ∧ Q (some (vI v18)) h17)))))))) : cw d cd_Model_tableNumber Q 15 [some (vR 12 a0), some (vI x1), some (vI x2)] [] h := by
  refine w_aload rfl rfl ?_
  refine w_getI 18 rfl rfl rfl p_a0 ?_
  refine w_iconst rfl ⟨by decide, by decide⟩ ?_
  refine w_icmp rfl (And.intro (fun hc => ?_) (fun hc => ?_))
  · replace H := H.1 hc
    refine w_aload rfl rfl ?_
    refine w_iconst rfl ⟨by decide, by decide⟩ ?_
    refine w_callI rfl (fun _ => rfl) rfl (cI_mono H fun v2 h1 H => ?_)
    exact w_zreturn rfl H.1 H.2
  · replace H := H.2 hc
    refine w_aload rfl rfl ?_
    refine w_getI 17 rfl rfl rfl p_a0 ?_
    refine w_aload rfl rfl ?_
    refine w_getI 16 rfl rfl rfl p_a0 ?_
    have o3 := H.1
    replace H := H.2
    refine w_isub rfl o3 ?_
    refine w_iconst rfl ⟨by decide, by decide⟩ ?_
    refine w_icmp rfl (And.intro (fun hc => ?_) (fun hc => ?_))
    · replace H := H.1 hc
      refine w_aload rfl rfl ?_
      refine w_getR 21 20 rfl rfl rfl rfl p_a0 ?_
      refine w_iload rfl rfl ?_
      refine w_iload rfl rfl ?_
      refine w_if rfl (And.intro (fun hc => ?_) (fun hc => ?_))
      · replace H := H.1 hc
        refine w_aload rfl rfl ?_
        refine w_getI 19 rfl rfl rfl p_a0 ?_
        refine w_i2l rfl ?_
        refine w_callI rfl (fun _ => rfl) rfl (cI_mono H fun v5 h4 H => ?_)
        have o6 := H.1
        replace H := H.2
        have o7 := H.1
        replace H := H.2
        refine w_iastore rfl o6 o7 (fun h8 eh8 => ?_)
        replace H := H h8 eh8
        refine w_aload rfl rfl ?_
        refine w_callU rfl (fun _ => rfl) rfl (cU_mono H fun h9 H => ?_)
        refine w_iconst rfl ⟨by decide, by decide⟩ ?_
        exact w_zreturn rfl (by decide) H
      · replace H := H.2 hc
        refine w_aload rfl rfl ?_
        refine w_getI 19 rfl rfl rfl p_a0 ?_
        have o10 := H.1
        replace H := H.2
        refine w_ineg rfl o10 ?_
        refine w_i2l rfl ?_
        refine w_goto rfl ?_
        refine w_callI rfl (fun _ => rfl) rfl (cI_mono H fun v12 h11 H => ?_)
        have o13 := H.1
        replace H := H.2
        have o14 := H.1
        replace H := H.2
        refine w_iastore rfl o13 o14 (fun h15 eh15 => ?_)
        replace H := H h15 eh15
        refine w_aload rfl rfl ?_
        refine w_callU rfl (fun _ => rfl) rfl (cU_mono H fun h16 H => ?_)
        refine w_iconst rfl ⟨by decide, by decide⟩ ?_
        exact w_zreturn rfl (by decide) H
    · replace H := H.2 hc
      refine w_aload rfl rfl ?_
      refine w_iconst rfl ⟨by decide, by decide⟩ ?_
      refine w_callI rfl (fun _ => rfl) rfl (cI_mono H fun v18 h17 H => ?_)
      exact w_zreturn rfl H.1 H.2
set_option maxHeartbeats 4000000 in
set_option maxRecDepth 100000 in
theorem r_Model_tableNumber {d : Nat} {Q : cm_Q} {h : cm_H} {a0 : Nat} {x1 : Int} (p_a0 : 0 < a0) (H : (cI d m_Model_is [vR 12 a0, vI 45] h fun v2 h1 => ((v2 = 0 → cw d cd_Model_tableNumber Q 15 [some (vR 12 a0), some (vI x1), some (vI v2)] [] h1) ∧ (¬ v2 = 0 → (cU d m_Model_go [vR 12 a0] h1 fun h3 => cw d cd_Model_tableNumber Q 15 [some (vR 12 a0), some (vI x1), some (vI v2)] [] h3))))) : cm_call (d + 1) m_Model_tableNumber [vR 12 a0, vI x1] h Q := by
  refine cm_call_in (C := cd_Model_tableNumber) (ls := [some (vR 12 a0), some (vI x1), none]) rfl rfl p_a0 rfl ?_
  refine w_aload rfl rfl ?_
  refine w_iconst rfl ⟨by decide, by decide⟩ ?_
  refine w_callI rfl (fun _ => rfl) rfl (cI_mono H fun v2 h1 H => ?_)
  refine w_istore rfl rfl ?_
  refine w_iload rfl rfl ?_
  refine w_if rfl (And.intro (fun hc => ?_) (fun hc => ?_))
  · replace H := H.1 hc
    exact H
  · replace H := H.2 hc
    refine w_aload rfl rfl ?_
    refine w_callU rfl (fun _ => rfl) rfl (cU_mono H fun h3 H => ?_)
    exact H
set_option maxHeartbeats 4000000 in
set_option maxRecDepth 100000 in
theorem r_Model_isNumberNext {d : Nat} {Q : cm_Q} {h : cm_H} {a0 : Nat} (p_a0 : 0 < a0) (H : (((ch_I h a0 18) = 1 → Q (some (vI 1)) h) ∧ (¬ (ch_I h a0 18) = 1 → (cI d m_Model_is [vR 12 a0, vI 45] h fun v2 h1 => ((v2 = 0 → Q (some (vI 0)) h1) ∧ (¬ v2 = 0 → Q (some (vI 1)) h1)))))) : cm_call (d + 1) m_Model_isNumberNext [vR 12 a0] h Q := by
  refine cm_call_in (C := cd_Model_isNumberNext) (ls := [some (vR 12 a0)]) rfl rfl p_a0 rfl ?_
  refine w_aload rfl rfl ?_
  refine w_getI 18 rfl rfl rfl p_a0 ?_
  refine w_iconst rfl ⟨by decide, by decide⟩ ?_
  refine w_icmp rfl (And.intro (fun hc => ?_) (fun hc => ?_))
  · replace H := H.1 hc
    refine w_iconst rfl ⟨by decide, by decide⟩ ?_
    refine w_goto rfl ?_
    exact w_zreturn rfl (by decide) H
  · replace H := H.2 hc
    refine w_aload rfl rfl ?_
    refine w_iconst rfl ⟨by decide, by decide⟩ ?_
    refine w_callI rfl (fun _ => rfl) rfl (cI_mono H fun v2 h1 H => ?_)
    refine w_if rfl (And.intro (fun hc => ?_) (fun hc => ?_))
    · replace H := H.1 hc
      refine w_iconst rfl ⟨by decide, by decide⟩ ?_
      exact w_zreturn rfl (by decide) H
    · replace H := H.2 hc
      refine w_iconst rfl ⟨by decide, by decide⟩ ?_
      refine w_goto rfl ?_
      exact w_zreturn rfl (by decide) H
set_option maxHeartbeats 4000000 in
set_option maxRecDepth 100000 in
theorem r_Model_rowOf_4 {d : Nat} {Q : cm_Q} {h : cm_H} {a0 : Nat} {x1 : Int} {x2 : Int} {x3 : Int} (p_a0 : 0 < a0) (H : ((x3 = 0 → cw d cd_Model_rowOf Q 57 [some (vR 12 a0), some (vI x1), some (vI x2), some (vI x3)] [] h) ∧ (¬ x3 = 0 → ((¬ (ch_I h a0 23) = 0 → (((ch_I h a0 23) ≤ x2 → cw d cd_Model_rowOf Q 57 [some (vR 12 a0), some (vI x1), some (vI x2), some (vI x3)] [] h) ∧ (x2 < (ch_I h a0 23) → (cm_i (x1 + x2) ∧ (cI d m_Model_tableNumber [vR 12 a0, vI (x1 + x2)] h fun v3 h2 => (cm_i (x2 + 1) ∧ cw d cd_Model_rowOf Q 4 [some (vR 12 a0), some (vI x1), some (vI (x2 + 1)), some (vI v3)] [] h2)))))) ∧ ((ch_I h a0 23) = 0 → ((x2 < 2 → (cm_i (x1 + x2) ∧ (cI d m_Model_tableNumber [vR 12 a0, vI (x1 + x2)] h fun v7 h6 => (cm_i (x2 + 1) ∧ cw d cd_Model_rowOf Q 4 [some (vR 12 a0), some (vI x1), some (vI (x2 + 1)), some (vI v7)] [] h6)))) ∧ (2 ≤ x2 → ((¬ x2 = 2 → cw d cd_Model_rowOf Q 57 [some (vR 12 a0), some (vI x1), some (vI x2), some (vI x3)] [] h) ∧ (x2 = 2 → (cI d m_Model_isNumberNext [vR 12 a0] h fun v10 h9 => ((v10 = 0 → cw d cd_Model_rowOf Q 57 [some (vR 12 a0), some (vI x1), some (vI x2), some (vI x3)] [] h9) ∧ (¬ v10 = 0 → (cm_i (x1 + x2) ∧ (cI d m_Model_tableNumber [vR 12 a0, vI (x1 + x2)] h9 fun v13 h12 => (cm_i (x2 + 1) ∧ cw d cd_Model_rowOf Q 4 [some (vR 12 a0), some (vI x1), some (vI (x2 + 1)), some (vI v13)] [] h12))))))))))))))) : cw d cd_Model_rowOf Q 4 [some (vR 12 a0), some (vI x1), some (vI x2), some (vI x3)] [] h := by
  refine w_iload rfl rfl ?_
  refine w_if rfl (And.intro (fun hc => ?_) (fun hc => ?_))
  · replace H := H.1 hc
    exact H
  · replace H := H.2 hc
    refine w_aload rfl rfl ?_
    refine w_getI 23 rfl rfl rfl p_a0 ?_
    refine w_if rfl (And.intro (fun hc => ?_) (fun hc => ?_))
    · replace H := H.1 hc
      refine w_iload rfl rfl ?_
      refine w_aload rfl rfl ?_
      refine w_getI 23 rfl rfl rfl p_a0 ?_
      refine w_icmp rfl (And.intro (fun hc => ?_) (fun hc => ?_))
      · replace H := H.1 hc
        exact H
      · replace H := H.2 hc
        refine w_aload rfl rfl ?_
        refine w_iload rfl rfl ?_
        refine w_iload rfl rfl ?_
        have o1 := H.1
        replace H := H.2
        refine w_iadd rfl o1 ?_
        refine w_callI rfl (fun _ => rfl) rfl (cI_mono H fun v3 h2 H => ?_)
        refine w_istore rfl rfl ?_
        have o4 := H.1
        replace H := H.2
        refine w_iinc rfl rfl rfl o4 ?_
        refine w_goto rfl ?_
        exact H
    · replace H := H.2 hc
      refine w_iload rfl rfl ?_
      refine w_iconst rfl ⟨by decide, by decide⟩ ?_
      refine w_icmp rfl (And.intro (fun hc => ?_) (fun hc => ?_))
      · replace H := H.1 hc
        refine w_aload rfl rfl ?_
        refine w_iload rfl rfl ?_
        refine w_iload rfl rfl ?_
        have o5 := H.1
        replace H := H.2
        refine w_iadd rfl o5 ?_
        refine w_callI rfl (fun _ => rfl) rfl (cI_mono H fun v7 h6 H => ?_)
        refine w_istore rfl rfl ?_
        have o8 := H.1
        replace H := H.2
        refine w_iinc rfl rfl rfl o8 ?_
        refine w_goto rfl ?_
        exact H
      · replace H := H.2 hc
        refine w_iload rfl rfl ?_
        refine w_iconst rfl ⟨by decide, by decide⟩ ?_
        refine w_icmp rfl (And.intro (fun hc => ?_) (fun hc => ?_))
        · replace H := H.1 hc
          exact H
        · replace H := H.2 hc
          refine w_aload rfl rfl ?_
          refine w_callI rfl (fun _ => rfl) rfl (cI_mono H fun v10 h9 H => ?_)
          refine w_if rfl (And.intro (fun hc => ?_) (fun hc => ?_))
          · replace H := H.1 hc
            exact H
          · replace H := H.2 hc
            refine w_goto rfl ?_
            refine w_aload rfl rfl ?_
            refine w_iload rfl rfl ?_
            refine w_iload rfl rfl ?_
            have o11 := H.1
            replace H := H.2
            refine w_iadd rfl o11 ?_
            refine w_callI rfl (fun _ => rfl) rfl (cI_mono H fun v13 h12 H => ?_)
            refine w_istore rfl rfl ?_
            have o14 := H.1
            replace H := H.2
            refine w_iinc rfl rfl rfl o14 ?_
            refine w_goto rfl ?_
            exact H
set_option maxHeartbeats 4000000 in
set_option maxRecDepth 100000 in
theorem r_Model_rowOf_57 {d : Nat} {Q : cm_Q} {h : cm_H} {a0 : Nat} {z1 : Option cm_V} {x2 : Int} {x3 : Int} (p_a0 : 0 < a0) (H : ((¬ (ch_I h a0 23) = 0 → (∀ h1 : cm_H, h1 = ch_u h a0 23 (ch_I h a0 23) → ((x3 = 0 ∨ x3 = 1) ∧ Q (some (vI x3)) h1))) ∧ ((ch_I h a0 23) = 0 → (∀ h2 : cm_H, h2 = ch_u h a0 23 x2 → ((x3 = 0 ∨ x3 = 1) ∧ Q (some (vI x3)) h2))))) : cw d cd_Model_rowOf Q 57 [some (vR 12 a0), z1, some (vI x2), some (vI x3)] [] h := by
  refine w_aload rfl rfl ?_
  refine w_aload rfl rfl ?_
  refine w_getI 23 rfl rfl rfl p_a0 ?_
  refine w_if rfl (And.intro (fun hc => ?_) (fun hc => ?_))
  · replace H := H.1 hc
    refine w_aload rfl rfl ?_
    refine w_getI 23 rfl rfl rfl p_a0 ?_
    refine w_putI 23 rfl rfl rfl p_a0 (fun h1 eh1 => ?_)
    replace H := H h1 eh1
    refine w_iload rfl rfl ?_
    exact w_zreturn rfl H.1 H.2
  · replace H := H.2 hc
    refine w_iload rfl rfl ?_
    refine w_goto rfl ?_
    refine w_putI 23 rfl rfl rfl p_a0 (fun h2 eh2 => ?_)
    replace H := H h2 eh2
    refine w_iload rfl rfl ?_
    exact w_zreturn rfl H.1 H.2
set_option maxHeartbeats 4000000 in
set_option maxRecDepth 100000 in
theorem r_Model_rowOf {d : Nat} {Q : cm_Q} {h : cm_H} {a0 : Nat} {x1 : Int} (p_a0 : 0 < a0) (H : cw d cd_Model_rowOf Q 4 [some (vR 12 a0), some (vI x1), some (vI 0), some (vI 1)] [] h) : cm_call (d + 1) m_Model_rowOf [vR 12 a0, vI x1] h Q := by
  refine cm_call_in (C := cd_Model_rowOf) (ls := [some (vR 12 a0), some (vI x1), none, none]) rfl rfl p_a0 rfl ?_
  refine w_iconst rfl ⟨by decide, by decide⟩ ?_
  refine w_istore rfl rfl ?_
  refine w_iconst rfl ⟨by decide, by decide⟩ ?_
  refine w_istore rfl rfl ?_
  exact H
set_option maxHeartbeats 4000000 in
set_option maxRecDepth 100000 in
theorem r_Model_table_27 {d : Nat} {Q : cm_Q} {h : cm_H} {a0 : Nat} {x1 : Int} {x2 : Int} (p_a0 : 0 < a0) (H : ((x1 = 0 → (cm_i ((ch_I h a0 24) + 1) ∧ (∀ h2 : cm_H, h2 = ch_u h a0 24 ((ch_I h a0 24) + 1) → ((x1 = 0 ∨ x1 = 1) ∧ Q (some (vI x1)) h2)))) ∧ (¬ x1 = 0 → (((ch_I h a0 23) ≤ x2 → (cm_i ((ch_I h a0 24) + 1) ∧ (∀ h4 : cm_H, h4 = ch_u h a0 24 ((ch_I h a0 24) + 1) → ((x1 = 0 ∨ x1 = 1) ∧ Q (some (vI x1)) h4)))) ∧ (x2 < (ch_I h a0 23) → (cI d m_Model_sign [vR 12 a0, vI 47] h fun v6 h5 => ((v6 = 0 → (cm_i (x2 + 1) ∧ cw d cd_Model_table Q 27 [some (vR 12 a0), some (vI 0), some (vI (x2 + 1))] [] h5)) ∧ (¬ v6 = 0 → (cm_i (9 * (ch_I h5 a0 24)) ∧ (cm_i (3 * x2) ∧ (cm_i ((9 * (ch_I h5 a0 24)) + (3 * x2)) ∧ (cI d m_Model_rowOf [vR 12 a0, vI ((9 * (ch_I h5 a0 24)) + (3 * x2))] h5 fun v12 h11 => ((v12 = 0 → (cm_i (x2 + 1) ∧ cw d cd_Model_table Q 27 [some (vR 12 a0), some (vI 0), some (vI (x2 + 1))] [] h11)) ∧ (¬ v12 = 0 → (cm_i (x2 + 1) ∧ cw d cd_Model_table Q 27 [some (vR 12 a0), some (vI 1), some (vI (x2 + 1))] [] h11))))))))))))))) : cw d cd_Model_table Q 27 [some (vR 12 a0), some (vI x1), some (vI x2)] [] h := by
  refine w_iload rfl rfl ?_
  refine w_if rfl (And.intro (fun hc => ?_) (fun hc => ?_))
  · replace H := H.1 hc
    refine w_aload rfl rfl ?_
    refine w_dup rfl rfl ?_
    refine w_getI 24 rfl rfl rfl p_a0 ?_
    refine w_iconst rfl ⟨by decide, by decide⟩ ?_
    have o1 := H.1
    replace H := H.2
    refine w_iadd rfl o1 ?_
    refine w_putI 24 rfl rfl rfl p_a0 (fun h2 eh2 => ?_)
    replace H := H h2 eh2
    refine w_iload rfl rfl ?_
    exact w_zreturn rfl H.1 H.2
  · replace H := H.2 hc
    refine w_iload rfl rfl ?_
    refine w_aload rfl rfl ?_
    refine w_getI 23 rfl rfl rfl p_a0 ?_
    refine w_icmp rfl (And.intro (fun hc => ?_) (fun hc => ?_))
    · replace H := H.1 hc
      refine w_aload rfl rfl ?_
      refine w_dup rfl rfl ?_
      refine w_getI 24 rfl rfl rfl p_a0 ?_
      refine w_iconst rfl ⟨by decide, by decide⟩ ?_
      have o3 := H.1
      replace H := H.2
      refine w_iadd rfl o3 ?_
      refine w_putI 24 rfl rfl rfl p_a0 (fun h4 eh4 => ?_)
      replace H := H h4 eh4
      refine w_iload rfl rfl ?_
      exact w_zreturn rfl H.1 H.2
    · replace H := H.2 hc
      refine w_aload rfl rfl ?_
      refine w_iconst rfl ⟨by decide, by decide⟩ ?_
      refine w_callI rfl (fun _ => rfl) rfl (cI_mono H fun v6 h5 H => ?_)
      refine w_if rfl (And.intro (fun hc => ?_) (fun hc => ?_))
      · replace H := H.1 hc
        refine w_iconst rfl ⟨by decide, by decide⟩ ?_
        refine w_istore rfl rfl ?_
        have o7 := H.1
        replace H := H.2
        refine w_iinc rfl rfl rfl o7 ?_
        refine w_goto rfl ?_
        exact H
      · replace H := H.2 hc
        refine w_aload rfl rfl ?_
        refine w_iconst rfl ⟨by decide, by decide⟩ ?_
        refine w_aload rfl rfl ?_
        refine w_getI 24 rfl rfl rfl p_a0 ?_
        have o8 := H.1
        replace H := H.2
        refine w_imul rfl o8 ?_
        refine w_iconst rfl ⟨by decide, by decide⟩ ?_
        refine w_iload rfl rfl ?_
        have o9 := H.1
        replace H := H.2
        refine w_imul rfl o9 ?_
        have o10 := H.1
        replace H := H.2
        refine w_iadd rfl o10 ?_
        refine w_callI rfl (fun _ => rfl) rfl (cI_mono H fun v12 h11 H => ?_)
        refine w_if rfl (And.intro (fun hc => ?_) (fun hc => ?_))
        · replace H := H.1 hc
          refine w_iconst rfl ⟨by decide, by decide⟩ ?_
          refine w_istore rfl rfl ?_
          have o13 := H.1
          replace H := H.2
          refine w_iinc rfl rfl rfl o13 ?_
          refine w_goto rfl ?_
          exact H
        · replace H := H.2 hc
          refine w_iconst rfl ⟨by decide, by decide⟩ ?_
          refine w_goto rfl ?_
          refine w_istore rfl rfl ?_
          have o14 := H.1
          replace H := H.2
          refine w_iinc rfl rfl rfl o14 ?_
          refine w_goto rfl ?_
          exact H
set_option maxHeartbeats 4000000 in
set_option maxRecDepth 100000 in
theorem r_Model_table {d : Nat} {Q : cm_Q} {h : cm_H} {a0 : Nat} (p_a0 : 0 < a0) (H : (0 < ((ch_R h a0 22)) ∧ ((0:Int) ≤ (ch_I h a0 24) ∧ (ch_I h a0 24) < ch_L h (ch_R h a0 22)) ∧ (∀ h3 : cm_H, h3 = ch_u h (ch_R h a0 22) (ch_I h a0 24) (ch_I h a0 16) → (cm_i (9 * (ch_I h3 a0 24)) ∧ (cI d m_Model_rowOf [vR 12 a0, vI (9 * (ch_I h3 a0 24))] h3 fun v6 h5 => cw d cd_Model_table Q 27 [some (vR 12 a0), some (vI v6), some (vI 1)] [] h5))))) : cm_call (d + 1) m_Model_table [vR 12 a0] h Q := by
  refine cm_call_in (C := cd_Model_table) (ls := [some (vR 12 a0), none, none]) rfl rfl p_a0 rfl ?_
  refine w_aload rfl rfl ?_
  refine w_getR 22 20 rfl rfl rfl rfl p_a0 ?_
  refine w_aload rfl rfl ?_
  refine w_getI 24 rfl rfl rfl p_a0 ?_
  refine w_aload rfl rfl ?_
  refine w_getI 16 rfl rfl rfl p_a0 ?_
  have o1 := H.1
  replace H := H.2
  have o2 := H.1
  replace H := H.2
  refine w_iastore rfl o1 o2 (fun h3 eh3 => ?_)
  replace H := H h3 eh3
  refine w_aload rfl rfl ?_
  refine w_iconst rfl ⟨by decide, by decide⟩ ?_
  refine w_aload rfl rfl ?_
  refine w_getI 24 rfl rfl rfl p_a0 ?_
  have o4 := H.1
  replace H := H.2
  refine w_imul rfl o4 ?_
  refine w_callI rfl (fun _ => rfl) rfl (cI_mono H fun v6 h5 H => ?_)
  refine w_istore rfl rfl ?_
  refine w_iconst rfl ⟨by decide, by decide⟩ ?_
  refine w_istore rfl rfl ?_
  exact H
set_option maxHeartbeats 4000000 in
set_option maxRecDepth 100000 in
theorem r_Model_tables_39 {d : Nat} {Q : cm_Q} {h : cm_H} {a0 : Nat} {z1 : Option cm_V} {x2 : Int} (p_a0 : 0 < a0) (H : ((x2 = 0 → cw d cd_Model_tables Q 81 [some (vR 12 a0), z1, some (vI x2)] [] h) ∧ (¬ x2 = 0 → (cI d m_Model_is [vR 12 a0, vI 59] h fun v2 h1 => ((v2 = 0 → cw d cd_Model_tables Q 81 [some (vR 12 a0), z1, some (vI x2)] [] h1) ∧ (¬ v2 = 0 → ((¬ (ch_I h1 a0 24) = 4 → (cU d m_Model_go [vR 12 a0] h1 fun h3 => (cI d m_Model_table [vR 12 a0] h3 fun v5 h4 => cw d cd_Model_tables Q 39 [some (vR 12 a0), z1, some (vI v5)] [] h4))) ∧ ((ch_I h1 a0 24) = 4 → (cI d m_Model_bad [vR 12 a0, vI 2] h1 fun v7 h6 => cw d cd_Model_tables Q 39 [some (vR 12 a0), z1, some (vI v7)] [] h6))))))))) : cw d cd_Model_tables Q 39 [some (vR 12 a0), z1, some (vI x2)] [] h := by
  refine w_iload rfl rfl ?_
  refine w_if rfl (And.intro (fun hc => ?_) (fun hc => ?_))
  · replace H := H.1 hc
    exact H
  · replace H := H.2 hc
    refine w_aload rfl rfl ?_
    refine w_iconst rfl ⟨by decide, by decide⟩ ?_
    refine w_callI rfl (fun _ => rfl) rfl (cI_mono H fun v2 h1 H => ?_)
    refine w_if rfl (And.intro (fun hc => ?_) (fun hc => ?_))
    · replace H := H.1 hc
      exact H
    · replace H := H.2 hc
      refine w_aload rfl rfl ?_
      refine w_getI 24 rfl rfl rfl p_a0 ?_
      refine w_iconst rfl ⟨by decide, by decide⟩ ?_
      refine w_icmp rfl (And.intro (fun hc => ?_) (fun hc => ?_))
      · replace H := H.1 hc
        refine w_aload rfl rfl ?_
        refine w_callU rfl (fun _ => rfl) rfl (cU_mono H fun h3 H => ?_)
        refine w_aload rfl rfl ?_
        refine w_callI rfl (fun _ => rfl) rfl (cI_mono H fun v5 h4 H => ?_)
        refine w_istore rfl rfl ?_
        refine w_goto rfl ?_
        exact H
      · replace H := H.2 hc
        refine w_aload rfl rfl ?_
        refine w_iconst rfl ⟨by decide, by decide⟩ ?_
        refine w_callI rfl (fun _ => rfl) rfl (cI_mono H fun v7 h6 H => ?_)
        refine w_istore rfl rfl ?_
        refine w_goto rfl ?_
        exact H
set_option maxHeartbeats 4000000 in
set_option maxRecDepth 100000 in
theorem r_Model_tables_81 {d : Nat} {Q : cm_Q} {h : cm_H} {a0 : Nat} {z1 : Option cm_V} {x2 : Int} (p_a0 : 0 < a0) (H : ((x2 = 0 → cw d cd_Model_tables Q 98 [some (vR 12 a0), z1, some (vI x2)] [] h) ∧ (¬ x2 = 0 → (((ch_I h a0 18) = 0 → cw d cd_Model_tables Q 98 [some (vR 12 a0), z1, some (vI x2)] [] h) ∧ (¬ (ch_I h a0 18) = 0 → (cI d m_Model_bad [vR 12 a0, vI 1] h fun v2 h1 => cw d cd_Model_tables Q 98 [some (vR 12 a0), z1, some (vI v2)] [] h1)))))) : cw d cd_Model_tables Q 81 [some (vR 12 a0), z1, some (vI x2)] [] h := by
  refine w_iload rfl rfl ?_
  refine w_if rfl (And.intro (fun hc => ?_) (fun hc => ?_))
  · replace H := H.1 hc
    exact H
  · replace H := H.2 hc
    refine w_aload rfl rfl ?_
    refine w_getI 18 rfl rfl rfl p_a0 ?_
    refine w_if rfl (And.intro (fun hc => ?_) (fun hc => ?_))
    · replace H := H.1 hc
      exact H
    · replace H := H.2 hc
      refine w_aload rfl rfl ?_
      refine w_iconst rfl ⟨by decide, by decide⟩ ?_
      refine w_callI rfl (fun _ => rfl) rfl (cI_mono H fun v2 h1 H => ?_)
      refine w_istore rfl rfl ?_
      exact H
set_option maxHeartbeats 4000000 in
set_option maxRecDepth 100000 in
theorem r_Model_tables_98 {d : Nat} {Q : cm_Q} {h : cm_H} {a0 : Nat} {z1 : Option cm_V} {x2 : Int} (p_a0 : 0 < a0) (H : ((x2 = 0 → (cm_i ((-2) - (ch_I h a0 20)) ∧ Q (some (vI ((-2) - (ch_I h a0 20)))) h)) ∧ (¬ x2 = 0 → (cI d m_Model_takes [vR 12 a0] h fun v3 h2 => Q (some (vI v3)) h2)))) : cw d cd_Model_tables Q 98 [some (vR 12 a0), z1, some (vI x2)] [] h := by
  refine w_iload rfl rfl ?_
  refine w_if rfl (And.intro (fun hc => ?_) (fun hc => ?_))
  · replace H := H.1 hc
    refine w_iconst rfl ⟨by decide, by decide⟩ ?_
    refine w_aload rfl rfl ?_
    refine w_getI 20 rfl rfl rfl p_a0 ?_
    have o1 := H.1
    replace H := H.2
    refine w_isub rfl o1 ?_
    exact w_ireturn rfl H
  · replace H := H.2 hc
    refine w_aload rfl rfl ?_
    refine w_callI rfl (fun _ => rfl) rfl (cI_mono H fun v3 h2 H => ?_)
    refine w_goto rfl ?_
    exact w_ireturn rfl H
set_option maxHeartbeats 4000000 in
set_option maxRecDepth 100000 in
theorem r_Model_tables {d : Nat} {Q : cm_Q} {h : cm_H} {a0 : Nat} {x1 : Int} (p_a0 : 0 < a0) (H : (∀ h1 : cm_H, h1 = ch_u h a0 0 0 → (cI d m_Model_within [vI x1, vI 0, vI (ch_I h1 a0 14)] h1 fun v3 h2 => ((¬ v3 = 0 → (cU d m_Model_starts [vR 12 a0, vI x1] h2 fun h4 => (∀ h5 : cm_H, h5 = ch_u h4 a0 23 0 → (∀ h6 : cm_H, h6 = ch_u h5 a0 24 0 → (cI d m_Model_table [vR 12 a0] h6 fun v8 h7 => cw d cd_Model_tables Q 39 [some (vR 12 a0), some (vI x1), some (vI v8)] [] h7))))) ∧ (v3 = 0 → Q (some (vI (-1))) h2))))) : cm_call (d + 1) m_Model_tables [vR 12 a0, vI x1] h Q := by
  refine cm_call_in (C := cd_Model_tables) (ls := [some (vR 12 a0), some (vI x1), none]) rfl rfl p_a0 rfl ?_
  refine w_aload rfl rfl ?_
  refine w_iconst rfl ⟨by decide, by decide⟩ ?_
  refine w_putI 0 rfl rfl rfl p_a0 (fun h1 eh1 => ?_)
  replace H := H h1 eh1
  refine w_iload rfl rfl ?_
  refine w_iconst rfl ⟨by decide, by decide⟩ ?_
  refine w_aload rfl rfl ?_
  refine w_getI 14 rfl rfl rfl p_a0 ?_
  refine w_callI rfl (fun _ => rfl) rfl (cI_mono H fun v3 h2 H => ?_)
  refine w_if rfl (And.intro (fun hc => ?_) (fun hc => ?_))
  · replace H := H.1 hc
    refine w_aload rfl rfl ?_
    refine w_iload rfl rfl ?_
    refine w_callU rfl (fun _ => rfl) rfl (cU_mono H fun h4 H => ?_)
    refine w_aload rfl rfl ?_
    refine w_iconst rfl ⟨by decide, by decide⟩ ?_
    refine w_putI 23 rfl rfl rfl p_a0 (fun h5 eh5 => ?_)
    replace H := H h5 eh5
    refine w_aload rfl rfl ?_
    refine w_iconst rfl ⟨by decide, by decide⟩ ?_
    refine w_putI 24 rfl rfl rfl p_a0 (fun h6 eh6 => ?_)
    replace H := H h6 eh6
    refine w_aload rfl rfl ?_
    refine w_callI rfl (fun _ => rfl) rfl (cI_mono H fun v8 h7 H => ?_)
    refine w_istore rfl rfl ?_
    exact H
  · replace H := H.2 hc
    refine w_iconst rfl ⟨by decide, by decide⟩ ?_
    exact w_ireturn rfl H
set_option maxHeartbeats 4000000 in
set_option maxRecDepth 100000 in
theorem r_Model_takes_12 {d : Nat} {Q : cm_Q} {h : cm_H} {a0 : Nat} {x1 : Int} {x2 : Int} {x3 : Int} {z4 : Option cm_V} (p_a0 : 0 < a0) (H : ((36 ≤ x3 → (∀ h1 : cm_H, h1 = ch_u h a0 1 (ch_I h a0 23) → (∀ h2 : cm_H, h2 = ch_u h1 a0 9 (ch_I h1 a0 24) → cw d cd_Model_takes Q 54 [some (vR 12 a0), some (vI x1), some (vI x2), some (vI 0), z4] [] h2))) ∧ (x3 < 36 → (0 < ((ch_R h a0 10)) ∧ ((0:Int) ≤ x3 ∧ x3 < ch_L h (ch_R h a0 10)) ∧ (0 < ((ch_R h a0 25)) ∧ ((0:Int) ≤ x3 ∧ x3 < ch_L h (ch_R h a0 25)) ∧ (∀ h7 : cm_H, h7 = ch_u h (ch_R h a0 25) x3 (ch_I h (ch_R h a0 10) x3) → (cm_i (x3 + 1) ∧ cw d cd_Model_takes Q 12 [some (vR 12 a0), some (vI x1), some (vI x2), some (vI (x3 + 1)), z4] [] h7))))))) : cw d cd_Model_takes Q 12 [some (vR 12 a0), some (vI x1), some (vI x2), some (vI x3), z4] [] h := by
  refine w_iload rfl rfl ?_
  refine w_iconst rfl ⟨by decide, by decide⟩ ?_
  refine w_icmp rfl (And.intro (fun hc => ?_) (fun hc => ?_))
  · replace H := H.1 hc
    refine w_aload rfl rfl ?_
    refine w_aload rfl rfl ?_
    refine w_getI 23 rfl rfl rfl p_a0 ?_
    refine w_putI 1 rfl rfl rfl p_a0 (fun h1 eh1 => ?_)
    replace H := H h1 eh1
    refine w_aload rfl rfl ?_
    refine w_aload rfl rfl ?_
    refine w_getI 24 rfl rfl rfl p_a0 ?_
    refine w_putI 9 rfl rfl rfl p_a0 (fun h2 eh2 => ?_)
    replace H := H h2 eh2
    refine w_iconst rfl ⟨by decide, by decide⟩ ?_
    refine w_istore rfl rfl ?_
    exact H
  · replace H := H.2 hc
    refine w_aload rfl rfl ?_
    refine w_getR 25 20 rfl rfl rfl rfl p_a0 ?_
    refine w_iload rfl rfl ?_
    refine w_aload rfl rfl ?_
    refine w_getR 10 20 rfl rfl rfl rfl p_a0 ?_
    refine w_iload rfl rfl ?_
    have o3 := H.1
    replace H := H.2
    have o4 := H.1
    replace H := H.2
    refine w_iaload rfl o3 o4 ?_
    have o5 := H.1
    replace H := H.2
    have o6 := H.1
    replace H := H.2
    refine w_iastore rfl o5 o6 (fun h7 eh7 => ?_)
    replace H := H h7 eh7
    have o8 := H.1
    replace H := H.2
    refine w_iinc rfl rfl rfl o8 ?_
    refine w_goto rfl ?_
    exact H
set_option maxHeartbeats 4000000 in
set_option maxRecDepth 100000 in
theorem r_Model_takes_54 {d : Nat} {Q : cm_Q} {h : cm_H} {a0 : Nat} {x1 : Int} {x2 : Int} {x3 : Int} {z4 : Option cm_V} (p_a0 : 0 < a0) (H : ((36 ≤ x3 → (cm_i ((ch_I h a0 9) - 1) ∧ cw d cd_Model_takes Q 88 [some (vR 12 a0), some (vI x1), some (vI x2), some (vI 0), some (vI ((ch_I h a0 9) - 1))] [] h)) ∧ (x3 < 36 → (0 < ((ch_R h a0 21)) ∧ ((0:Int) ≤ x3 ∧ x3 < ch_L h (ch_R h a0 21)) ∧ (0 < ((ch_R h a0 10)) ∧ ((0:Int) ≤ x3 ∧ x3 < ch_L h (ch_R h a0 10)) ∧ (∀ h6 : cm_H, h6 = ch_u h (ch_R h a0 10) x3 (ch_I h (ch_R h a0 21) x3) → (cm_i (x3 + 1) ∧ cw d cd_Model_takes Q 54 [some (vR 12 a0), some (vI x1), some (vI x2), some (vI (x3 + 1)), z4] [] h6))))))) : cw d cd_Model_takes Q 54 [some (vR 12 a0), some (vI x1), some (vI x2), some (vI x3), z4] [] h := by
  refine w_iload rfl rfl ?_
  refine w_iconst rfl ⟨by decide, by decide⟩ ?_
  refine w_icmp rfl (And.intro (fun hc => ?_) (fun hc => ?_))
  · replace H := H.1 hc
    refine w_iconst rfl ⟨by decide, by decide⟩ ?_
    refine w_istore rfl rfl ?_
    refine w_aload rfl rfl ?_
    refine w_getI 9 rfl rfl rfl p_a0 ?_
    refine w_iconst rfl ⟨by decide, by decide⟩ ?_
    have o1 := H.1
    replace H := H.2
    refine w_isub rfl o1 ?_
    refine w_istore rfl rfl ?_
    exact H
  · replace H := H.2 hc
    refine w_aload rfl rfl ?_
    refine w_getR 10 20 rfl rfl rfl rfl p_a0 ?_
    refine w_iload rfl rfl ?_
    refine w_aload rfl rfl ?_
    refine w_getR 21 20 rfl rfl rfl rfl p_a0 ?_
    refine w_iload rfl rfl ?_
    have o2 := H.1
    replace H := H.2
    have o3 := H.1
    replace H := H.2
    refine w_iaload rfl o2 o3 ?_
    have o4 := H.1
    replace H := H.2
    have o5 := H.1
    replace H := H.2
    refine w_iastore rfl o4 o5 (fun h6 eh6 => ?_)
    replace H := H h6 eh6
    have o7 := H.1
    replace H := H.2
    refine w_iinc rfl rfl rfl o7 ?_
    refine w_goto rfl ?_
    exact H
set_option maxHeartbeats 4000000 in
set_option maxRecDepth 100000 in
theorem r_Model_takes_88 {d : Nat} {Q : cm_Q} {h : cm_H} {a0 : Nat} {x1 : Int} {x2 : Int} {x3 : Int} {x4 : Int} (p_a0 : 0 < a0) (H : ((x4 < 0 → ((¬ x3 = 0 → cw d cd_Model_takes Q 142 [some (vR 12 a0), some (vI x1), some (vI x2), some (vI x3), some (vI x4)] [] h) ∧ (x3 = 0 → (cI d m_Model_laysGroup [vR 12 a0] h fun v2 h1 => ((¬ v2 = 0 → cw d cd_Model_takes Q 142 [some (vR 12 a0), some (vI x1), some (vI x2), some (vI x3), some (vI x4)] [] h1) ∧ (v2 = 0 → cw d cd_Model_takes Q 142 [some (vR 12 a0), some (vI x1), some (vI x2), some (vI 4), some (vI x4)] [] h1)))))) ∧ (0 ≤ x4 → (cI d m_Model_determinant [vR 12 a0, vR 20 (ch_R h a0 10), vI x4] h fun v4 h3 => ((¬ v4 = 0 → (cm_i (x4 + (-1)) ∧ cw d cd_Model_takes Q 88 [some (vR 12 a0), some (vI x1), some (vI x2), some (vI x3), some (vI (x4 + (-1)))] [] h3)) ∧ (v4 = 0 → (0 < ((ch_R h3 a0 22)) ∧ ((0:Int) ≤ x4 ∧ x4 < ch_L h3 (ch_R h3 a0 22)) ∧ (cm_i (8 * (ch_I h3 (ch_R h3 a0 22) x4)) ∧ (cm_i ((8 * (ch_I h3 (ch_R h3 a0 22) x4)) + 3) ∧ (cm_i (x4 + (-1)) ∧ cw d cd_Model_takes Q 88 [some (vR 12 a0), some (vI x1), some (vI x2), some (vI ((8 * (ch_I h3 (ch_R h3 a0 22) x4)) + 3)), some (vI (x4 + (-1)))] [] h3)))))))))) : cw d cd_Model_takes Q 88 [some (vR 12 a0), some (vI x1), some (vI x2), some (vI x3), some (vI x4)] [] h := by
  refine w_iload rfl rfl ?_
  refine w_if rfl (And.intro (fun hc => ?_) (fun hc => ?_))
  · replace H := H.1 hc
    refine w_iload rfl rfl ?_
    refine w_if rfl (And.intro (fun hc => ?_) (fun hc => ?_))
    · replace H := H.1 hc
      exact H
    · replace H := H.2 hc
      refine w_aload rfl rfl ?_
      refine w_callI rfl (fun _ => rfl) rfl (cI_mono H fun v2 h1 H => ?_)
      refine w_if rfl (And.intro (fun hc => ?_) (fun hc => ?_))
      · replace H := H.1 hc
        exact H
      · replace H := H.2 hc
        refine w_iconst rfl ⟨by decide, by decide⟩ ?_
        refine w_istore rfl rfl ?_
        exact H
  · replace H := H.2 hc
    refine w_aload rfl rfl ?_
    refine w_aload rfl rfl ?_
    refine w_getR 10 20 rfl rfl rfl rfl p_a0 ?_
    refine w_iload rfl rfl ?_
    refine w_callI rfl (fun _ => rfl) rfl (cI_mono H fun v4 h3 H => ?_)
    refine w_if rfl (And.intro (fun hc => ?_) (fun hc => ?_))
    · replace H := H.1 hc
      refine w_iload rfl rfl ?_
      refine w_istore rfl rfl ?_
      have o5 := H.1
      replace H := H.2
      refine w_iinc rfl rfl rfl o5 ?_
      refine w_goto rfl ?_
      exact H
    · replace H := H.2 hc
      refine w_iconst rfl ⟨by decide, by decide⟩ ?_
      refine w_aload rfl rfl ?_
      refine w_getR 22 20 rfl rfl rfl rfl p_a0 ?_
      refine w_iload rfl rfl ?_
      have o6 := H.1
      replace H := H.2
      have o7 := H.1
      replace H := H.2
      refine w_iaload rfl o6 o7 ?_
      have o8 := H.1
      replace H := H.2
      refine w_imul rfl o8 ?_
      refine w_iconst rfl ⟨by decide, by decide⟩ ?_
      have o9 := H.1
      replace H := H.2
      refine w_iadd rfl o9 ?_
      refine w_goto rfl ?_
      refine w_istore rfl rfl ?_
      have o10 := H.1
      replace H := H.2
      refine w_iinc rfl rfl rfl o10 ?_
      refine w_goto rfl ?_
      exact H
set_option maxHeartbeats 4000000 in
set_option maxRecDepth 100000 in
theorem r_Model_takes_142 {d : Nat} {Q : cm_Q} {h : cm_H} {a0 : Nat} {x1 : Int} {x2 : Int} {x3 : Int} {z4 : Option cm_V} (p_a0 : 0 < a0) (H : ((x3 ≤ 0 → (((ch_I h a0 1) = x1 → (cU d m_Model_forgets [vR 12 a0] h fun h1 => Q (some (vI (ch_I h1 a0 11))) h1)) ∧ (¬ (ch_I h a0 1) = x1 → (cU d m_Model_laysMonomials [vR 12 a0] h fun h2 => cw d cd_Model_takes Q 212 [some (vR 12 a0), some (vI x1), some (vI x2), some (vI x3), some (vI 0)] [] h2)))) ∧ (0 < x3 → (∀ h3 : cm_H, h3 = ch_u h a0 1 x1 → (∀ h4 : cm_H, h4 = ch_u h3 a0 9 x2 → cw d cd_Model_takes Q 159 [some (vR 12 a0), some (vI x1), some (vI x2), some (vI x3), some (vI 0)] [] h4))))) : cw d cd_Model_takes Q 142 [some (vR 12 a0), some (vI x1), some (vI x2), some (vI x3), z4] [] h := by
  refine w_iload rfl rfl ?_
  refine w_if rfl (And.intro (fun hc => ?_) (fun hc => ?_))
  · replace H := H.1 hc
    refine w_aload rfl rfl ?_
    refine w_getI 1 rfl rfl rfl p_a0 ?_
    refine w_iload rfl rfl ?_
    refine w_icmp rfl (And.intro (fun hc => ?_) (fun hc => ?_))
    · replace H := H.1 hc
      refine w_aload rfl rfl ?_
      refine w_callU rfl (fun _ => rfl) rfl (cU_mono H fun h1 H => ?_)
      refine w_aload rfl rfl ?_
      refine w_getI 11 rfl rfl rfl p_a0 ?_
      exact w_ireturn rfl H
    · replace H := H.2 hc
      refine w_aload rfl rfl ?_
      refine w_callU rfl (fun _ => rfl) rfl (cU_mono H fun h2 H => ?_)
      refine w_iconst rfl ⟨by decide, by decide⟩ ?_
      refine w_istore rfl rfl ?_
      exact H
  · replace H := H.2 hc
    refine w_aload rfl rfl ?_
    refine w_iload rfl rfl ?_
    refine w_putI 1 rfl rfl rfl p_a0 (fun h3 eh3 => ?_)
    replace H := H h3 eh3
    refine w_aload rfl rfl ?_
    refine w_iload rfl rfl ?_
    refine w_putI 9 rfl rfl rfl p_a0 (fun h4 eh4 => ?_)
    replace H := H h4 eh4
    refine w_iconst rfl ⟨by decide, by decide⟩ ?_
    refine w_istore rfl rfl ?_
    exact H
set_option maxHeartbeats 4000000 in
set_option maxRecDepth 100000 in
theorem r_Model_takes_159 {d : Nat} {Q : cm_Q} {h : cm_H} {a0 : Nat} {z1 : Option cm_V} {z2 : Option cm_V} {x3 : Int} {x4 : Int} (p_a0 : 0 < a0) (H : ((36 ≤ x4 → (cI d m_Model_laysGroup [vR 12 a0] h fun v2 h1 => (cm_i ((-2) - x3) ∧ Q (some (vI ((-2) - x3))) h1))) ∧ (x4 < 36 → (0 < ((ch_R h a0 25)) ∧ ((0:Int) ≤ x4 ∧ x4 < ch_L h (ch_R h a0 25)) ∧ (0 < ((ch_R h a0 10)) ∧ ((0:Int) ≤ x4 ∧ x4 < ch_L h (ch_R h a0 10)) ∧ (∀ h8 : cm_H, h8 = ch_u h (ch_R h a0 10) x4 (ch_I h (ch_R h a0 25) x4) → (cm_i (x4 + 1) ∧ cw d cd_Model_takes Q 159 [some (vR 12 a0), z1, z2, some (vI x3), some (vI (x4 + 1))] [] h8))))))) : cw d cd_Model_takes Q 159 [some (vR 12 a0), z1, z2, some (vI x3), some (vI x4)] [] h := by
  refine w_iload rfl rfl ?_
  refine w_iconst rfl ⟨by decide, by decide⟩ ?_
  refine w_icmp rfl (And.intro (fun hc => ?_) (fun hc => ?_))
  · replace H := H.1 hc
    refine w_aload rfl rfl ?_
    refine w_callI rfl (fun _ => rfl) rfl (cI_mono H fun v2 h1 H => ?_)
    refine w_istore rfl rfl ?_
    refine w_iconst rfl ⟨by decide, by decide⟩ ?_
    refine w_iload rfl rfl ?_
    have o3 := H.1
    replace H := H.2
    refine w_isub rfl o3 ?_
    exact w_ireturn rfl H
  · replace H := H.2 hc
    refine w_aload rfl rfl ?_
    refine w_getR 10 20 rfl rfl rfl rfl p_a0 ?_
    refine w_iload rfl rfl ?_
    refine w_aload rfl rfl ?_
    refine w_getR 25 20 rfl rfl rfl rfl p_a0 ?_
    refine w_iload rfl rfl ?_
    have o4 := H.1
    replace H := H.2
    have o5 := H.1
    replace H := H.2
    refine w_iaload rfl o4 o5 ?_
    have o6 := H.1
    replace H := H.2
    have o7 := H.1
    replace H := H.2
    refine w_iastore rfl o6 o7 (fun h8 eh8 => ?_)
    replace H := H h8 eh8
    have o9 := H.1
    replace H := H.2
    refine w_iinc rfl rfl rfl o9 ?_
    refine w_goto rfl ?_
    exact H
set_option maxHeartbeats 4000000 in
set_option maxRecDepth 100000 in
theorem r_Model_takes_212 {d : Nat} {Q : cm_Q} {h : cm_H} {a0 : Nat} {z1 : Option cm_V} {z2 : Option cm_V} {z3 : Option cm_V} {x4 : Int} (p_a0 : 0 < a0) (H : ((6840 ≤ x4 → (cU d m_Model_forgets [vR 12 a0] h fun h1 => Q (some (vI (ch_I h1 a0 11))) h1)) ∧ (x4 < 6840 → (0 < ((ch_R h a0 5)) ∧ ((0:Int) ≤ x4 ∧ x4 < ch_L h (ch_R h a0 5)) ∧ (∀ h4 : cm_H, h4 = ch_u h (ch_R h a0 5) x4 0 → (cm_i (x4 + 1) ∧ cw d cd_Model_takes Q 212 [some (vR 12 a0), z1, z2, z3, some (vI (x4 + 1))] [] h4)))))) : cw d cd_Model_takes Q 212 [some (vR 12 a0), z1, z2, z3, some (vI x4)] [] h := by
  refine w_iload rfl rfl ?_
  refine w_iconst rfl ⟨by decide, by decide⟩ ?_
  refine w_icmp rfl (And.intro (fun hc => ?_) (fun hc => ?_))
  · replace H := H.1 hc
    refine w_aload rfl rfl ?_
    refine w_callU rfl (fun _ => rfl) rfl (cU_mono H fun h1 H => ?_)
    refine w_aload rfl rfl ?_
    refine w_getI 11 rfl rfl rfl p_a0 ?_
    exact w_ireturn rfl H
  · replace H := H.2 hc
    refine w_aload rfl rfl ?_
    refine w_getR 5 20 rfl rfl rfl rfl p_a0 ?_
    refine w_iload rfl rfl ?_
    refine w_iconst rfl ⟨by decide, by decide⟩ ?_
    have o2 := H.1
    replace H := H.2
    have o3 := H.1
    replace H := H.2
    refine w_iastore rfl o2 o3 (fun h4 eh4 => ?_)
    replace H := H h4 eh4
    have o5 := H.1
    replace H := H.2
    refine w_iinc rfl rfl rfl o5 ?_
    refine w_goto rfl ?_
    exact H
set_option maxHeartbeats 4000000 in
set_option maxRecDepth 100000 in
theorem r_Model_takes {d : Nat} {Q : cm_Q} {h : cm_H} {a0 : Nat} (p_a0 : 0 < a0) (H : cw d cd_Model_takes Q 12 [some (vR 12 a0), some (vI (ch_I h a0 1)), some (vI (ch_I h a0 9)), some (vI 0), none] [] h) : cm_call (d + 1) m_Model_takes [vR 12 a0] h Q := by
  refine cm_call_in (C := cd_Model_takes) (ls := [some (vR 12 a0), none, none, none, none]) rfl rfl p_a0 rfl ?_
  refine w_aload rfl rfl ?_
  refine w_getI 1 rfl rfl rfl p_a0 ?_
  refine w_istore rfl rfl ?_
  refine w_aload rfl rfl ?_
  refine w_getI 9 rfl rfl rfl p_a0 ?_
  refine w_istore rfl rfl ?_
  refine w_iconst rfl ⟨by decide, by decide⟩ ?_
  refine w_istore rfl rfl ?_
  exact H
set_option maxHeartbeats 4000000 in
set_option maxRecDepth 100000 in
theorem r_Model_pushes {d : Nat} {Q : cm_Q} {h : cm_H} {a0 : Nat} {x1 : Int} (p_a0 : 0 < a0) (H : (cm_i (1140 * (ch_I h a0 27)) ∧ (cU d m_Model_clears [vR 20 (ch_R h a0 26), vI (1140 * (ch_I h a0 27))] h fun h2 => (cm_i (1140 * (ch_I h2 a0 27)) ∧ (cI d m_Model_of [vL x1] h2 fun v5 h4 => (0 < ((ch_R h2 a0 26)) ∧ ((0:Int) ≤ (1140 * (ch_I h2 a0 27)) ∧ (1140 * (ch_I h2 a0 27)) < ch_L h4 (ch_R h2 a0 26)) ∧ (∀ h8 : cm_H, h8 = ch_u h4 (ch_R h2 a0 26) (1140 * (ch_I h2 a0 27)) v5 → (cm_i ((ch_I h8 a0 27) + 1) ∧ (∀ h10 : cm_H, h10 = ch_u h8 a0 27 ((ch_I h8 a0 27) + 1) → Q none h10))))))))) : cm_call (d + 1) m_Model_pushes [vR 12 a0, vI x1] h Q := by
  refine cm_call_in (C := cd_Model_pushes) (ls := [some (vR 12 a0), some (vI x1)]) rfl rfl p_a0 rfl ?_
  refine w_aload rfl rfl ?_
  refine w_getR 26 20 rfl rfl rfl rfl p_a0 ?_
  refine w_iconst rfl ⟨by decide, by decide⟩ ?_
  refine w_aload rfl rfl ?_
  refine w_getI 27 rfl rfl rfl p_a0 ?_
  have o1 := H.1
  replace H := H.2
  refine w_imul rfl o1 ?_
  refine w_callU rfl (fun _ => rfl) rfl (cU_mono H fun h2 H => ?_)
  refine w_aload rfl rfl ?_
  refine w_getR 26 20 rfl rfl rfl rfl p_a0 ?_
  refine w_iconst rfl ⟨by decide, by decide⟩ ?_
  refine w_aload rfl rfl ?_
  refine w_getI 27 rfl rfl rfl p_a0 ?_
  have o3 := H.1
  replace H := H.2
  refine w_imul rfl o3 ?_
  refine w_iload rfl rfl ?_
  refine w_i2l rfl ?_
  refine w_callI rfl (fun _ => rfl) rfl (cI_mono H fun v5 h4 H => ?_)
  have o6 := H.1
  replace H := H.2
  have o7 := H.1
  replace H := H.2
  refine w_iastore rfl o6 o7 (fun h8 eh8 => ?_)
  replace H := H h8 eh8
  refine w_aload rfl rfl ?_
  refine w_dup rfl rfl ?_
  refine w_getI 27 rfl rfl rfl p_a0 ?_
  refine w_iconst rfl ⟨by decide, by decide⟩ ?_
  have o9 := H.1
  replace H := H.2
  refine w_iadd rfl o9 ?_
  refine w_putI 27 rfl rfl rfl p_a0 (fun h10 eh10 => ?_)
  replace H := H h10 eh10
  exact w_return rfl H
set_option maxHeartbeats 4000000 in
set_option maxRecDepth 100000 in
theorem r_Model_part_60 {d : Nat} {Q : cm_Q} {h : cm_H} {a0 : Nat} {z1 : Option cm_V} {z2 : Option cm_V} {s0 : Int} (p_a0 : 0 < a0) (H : (cm_i ((ch_I h a0 1) - 1) ∧ (cI d m_Model_within [vI s0, vI 0, vI ((ch_I h a0 1) - 1)] h fun v3 h2 => ((v3 = 0 → (cI d m_Model_is [vR 12 a0, vI 40] h2 fun v5 h4 => ((¬ v5 = 0 → ((¬ (ch_I h4 a0 29) = 8 → (cm_i ((ch_I h4 a0 29) + 1) ∧ (∀ h7 : cm_H, h7 = ch_u h4 a0 29 ((ch_I h4 a0 29) + 1) → (cU d m_Model_go [vR 12 a0] h7 fun h8 => (cI d m_Model_sum [vR 12 a0] h8 fun v10 h9 => ((v10 = 0 → (cm_i ((ch_I h9 a0 29) - 1) ∧ (∀ h12 : cm_H, h12 = ch_u h9 a0 29 ((ch_I h9 a0 29) - 1) → Q (some (vI 0)) h12))) ∧ (¬ v10 = 0 → (cI d m_Model_sign [vR 12 a0, vI 41] h9 fun v14 h13 => ((v14 = 0 → (cm_i ((ch_I h13 a0 29) - 1) ∧ (∀ h16 : cm_H, h16 = ch_u h13 a0 29 ((ch_I h13 a0 29) - 1) → Q (some (vI 0)) h16))) ∧ (¬ v14 = 0 → (cm_i ((ch_I h13 a0 29) - 1) ∧ (∀ h18 : cm_H, h18 = ch_u h13 a0 29 ((ch_I h13 a0 29) - 1) → Q (some (vI 1)) h18)))))))))))) ∧ ((ch_I h4 a0 29) = 8 → (cI d m_Model_bad [vR 12 a0, vI 2] h4 fun v20 h19 => ((v20 = 0 ∨ v20 = 1) ∧ Q (some (vI v20)) h19))))) ∧ (v5 = 0 → (cI d m_Model_bad [vR 12 a0, vI 1] h4 fun v22 h21 => ((v22 = 0 ∨ v22 = 1) ∧ Q (some (vI v22)) h21)))))) ∧ (¬ v3 = 0 → (cU d m_Model_pushes [vR 12 a0, vI 0] h2 fun h23 => (cm_i ((ch_I h23 a0 27) - 1) ∧ (cm_i (1140 * ((ch_I h23 a0 27) - 1)) ∧ ((¬ s0 = 0 → cw d cd_Model_part Q 104 [some (vR 12 a0), some (vI s0), z2] [vI 0, vR 12 a0, vI (1140 * ((ch_I h23 a0 27) - 1)), vR 20 (ch_R h23 a0 26)] h23) ∧ (s0 = 0 → cw d cd_Model_part Q 104 [some (vR 12 a0), some (vI s0), z2] [vI 1, vR 12 a0, vI (1140 * ((ch_I h23 a0 27) - 1)), vR 20 (ch_R h23 a0 26)] h23)))))))))) : cw d cd_Model_part Q 60 [some (vR 12 a0), z1, z2] [vI s0] h := by
  refine w_istore rfl rfl ?_
  refine w_iload rfl rfl ?_
  refine w_iconst rfl ⟨by decide, by decide⟩ ?_
  refine w_aload rfl rfl ?_
  refine w_getI 1 rfl rfl rfl p_a0 ?_
  refine w_iconst rfl ⟨by decide, by decide⟩ ?_
  have o1 := H.1
  replace H := H.2
  refine w_isub rfl o1 ?_
  refine w_callI rfl (fun _ => rfl) rfl (cI_mono H fun v3 h2 H => ?_)
  refine w_if rfl (And.intro (fun hc => ?_) (fun hc => ?_))
  · replace H := H.1 hc
    refine w_aload rfl rfl ?_
    refine w_iconst rfl ⟨by decide, by decide⟩ ?_
    refine w_callI rfl (fun _ => rfl) rfl (cI_mono H fun v5 h4 H => ?_)
    refine w_if rfl (And.intro (fun hc => ?_) (fun hc => ?_))
    · replace H := H.1 hc
      refine w_aload rfl rfl ?_
      refine w_getI 29 rfl rfl rfl p_a0 ?_
      refine w_iconst rfl ⟨by decide, by decide⟩ ?_
      refine w_icmp rfl (And.intro (fun hc => ?_) (fun hc => ?_))
      · replace H := H.1 hc
        refine w_aload rfl rfl ?_
        refine w_dup rfl rfl ?_
        refine w_getI 29 rfl rfl rfl p_a0 ?_
        refine w_iconst rfl ⟨by decide, by decide⟩ ?_
        have o6 := H.1
        replace H := H.2
        refine w_iadd rfl o6 ?_
        refine w_putI 29 rfl rfl rfl p_a0 (fun h7 eh7 => ?_)
        replace H := H h7 eh7
        refine w_aload rfl rfl ?_
        refine w_callU rfl (fun _ => rfl) rfl (cU_mono H fun h8 H => ?_)
        refine w_aload rfl rfl ?_
        refine w_callI rfl (fun _ => rfl) rfl (cI_mono H fun v10 h9 H => ?_)
        refine w_if rfl (And.intro (fun hc => ?_) (fun hc => ?_))
        · replace H := H.1 hc
          refine w_iconst rfl ⟨by decide, by decide⟩ ?_
          refine w_istore rfl rfl ?_
          refine w_aload rfl rfl ?_
          refine w_dup rfl rfl ?_
          refine w_getI 29 rfl rfl rfl p_a0 ?_
          refine w_iconst rfl ⟨by decide, by decide⟩ ?_
          have o11 := H.1
          replace H := H.2
          refine w_isub rfl o11 ?_
          refine w_putI 29 rfl rfl rfl p_a0 (fun h12 eh12 => ?_)
          replace H := H h12 eh12
          refine w_iload rfl rfl ?_
          exact w_zreturn rfl (by decide) H
        · replace H := H.2 hc
          refine w_aload rfl rfl ?_
          refine w_iconst rfl ⟨by decide, by decide⟩ ?_
          refine w_callI rfl (fun _ => rfl) rfl (cI_mono H fun v14 h13 H => ?_)
          refine w_if rfl (And.intro (fun hc => ?_) (fun hc => ?_))
          · replace H := H.1 hc
            refine w_iconst rfl ⟨by decide, by decide⟩ ?_
            refine w_istore rfl rfl ?_
            refine w_aload rfl rfl ?_
            refine w_dup rfl rfl ?_
            refine w_getI 29 rfl rfl rfl p_a0 ?_
            refine w_iconst rfl ⟨by decide, by decide⟩ ?_
            have o15 := H.1
            replace H := H.2
            refine w_isub rfl o15 ?_
            refine w_putI 29 rfl rfl rfl p_a0 (fun h16 eh16 => ?_)
            replace H := H h16 eh16
            refine w_iload rfl rfl ?_
            exact w_zreturn rfl (by decide) H
          · replace H := H.2 hc
            refine w_iconst rfl ⟨by decide, by decide⟩ ?_
            refine w_goto rfl ?_
            refine w_istore rfl rfl ?_
            refine w_aload rfl rfl ?_
            refine w_dup rfl rfl ?_
            refine w_getI 29 rfl rfl rfl p_a0 ?_
            refine w_iconst rfl ⟨by decide, by decide⟩ ?_
            have o17 := H.1
            replace H := H.2
            refine w_isub rfl o17 ?_
            refine w_putI 29 rfl rfl rfl p_a0 (fun h18 eh18 => ?_)
            replace H := H h18 eh18
            refine w_iload rfl rfl ?_
            exact w_zreturn rfl (by decide) H
      · replace H := H.2 hc
        refine w_aload rfl rfl ?_
        refine w_iconst rfl ⟨by decide, by decide⟩ ?_
        refine w_callI rfl (fun _ => rfl) rfl (cI_mono H fun v20 h19 H => ?_)
        exact w_zreturn rfl H.1 H.2
    · replace H := H.2 hc
      refine w_aload rfl rfl ?_
      refine w_iconst rfl ⟨by decide, by decide⟩ ?_
      refine w_callI rfl (fun _ => rfl) rfl (cI_mono H fun v22 h21 H => ?_)
      exact w_zreturn rfl H.1 H.2
  · replace H := H.2 hc
    refine w_aload rfl rfl ?_
    refine w_iconst rfl ⟨by decide, by decide⟩ ?_
    refine w_callU rfl (fun _ => rfl) rfl (cU_mono H fun h23 H => ?_)
    refine w_aload rfl rfl ?_
    refine w_getR 26 20 rfl rfl rfl rfl p_a0 ?_
    refine w_iconst rfl ⟨by decide, by decide⟩ ?_
    refine w_aload rfl rfl ?_
    refine w_getI 27 rfl rfl rfl p_a0 ?_
    refine w_iconst rfl ⟨by decide, by decide⟩ ?_
    have o24 := H.1
    replace H := H.2
    refine w_isub rfl o24 ?_
    have o25 := H.1
    replace H := H.2
    refine w_imul rfl o25 ?_
    refine w_aload rfl rfl ?_
    refine w_iload rfl rfl ?_
    refine w_if rfl (And.intro (fun hc => ?_) (fun hc => ?_))
    · replace H := H.1 hc
      refine w_iconst rfl ⟨by decide, by decide⟩ ?_
      exact H
    · replace H := H.2 hc
      refine w_iconst rfl ⟨by decide, by decide⟩ ?_
      refine w_goto rfl ?_
      exact H
set_option maxHeartbeats 4000000 in
set_option maxRecDepth 100000 in
theorem r_Model_part_104 {d : Nat} {Q : cm_Q} {h : cm_H} {a0 : Nat} {x1 : Int} {z2 : Option cm_V} {s0 : Int} {b1 : Nat} {s2 : Int} {b3 : Nat}  (H : ((¬ x1 = 1 → cw d cd_Model_part Q 114 [some (vR 12 a0), some (vI x1), z2] [vI 0, vI s0, vR 12 b1, vI s2, vR 20 b3] h) ∧ (x1 = 1 → cw d cd_Model_part Q 114 [some (vR 12 a0), some (vI x1), z2] [vI 1, vI s0, vR 12 b1, vI s2, vR 20 b3] h))) : cw d cd_Model_part Q 104 [some (vR 12 a0), some (vI x1), z2] [vI s0, vR 12 b1, vI s2, vR 20 b3] h := by
  refine w_iload rfl rfl ?_
  refine w_iconst rfl ⟨by decide, by decide⟩ ?_
  refine w_icmp rfl (And.intro (fun hc => ?_) (fun hc => ?_))
  · replace H := H.1 hc
    refine w_iconst rfl ⟨by decide, by decide⟩ ?_
    exact H
  · replace H := H.2 hc
    refine w_iconst rfl ⟨by decide, by decide⟩ ?_
    refine w_goto rfl ?_
    exact H
set_option maxHeartbeats 4000000 in
set_option maxRecDepth 100000 in
theorem r_Model_part_114 {d : Nat} {Q : cm_Q} {h : cm_H} {a0 : Nat} {x1 : Int} {z2 : Option cm_V} {s0 : Int} {s1 : Int} {b2 : Nat} {s3 : Int} {b4 : Nat} (p_b4 : 0 < b4) (H : ((¬ x1 = 2 → (cI d m_Model_at [vR 12 b2, vI s1, vI s0, vI 0] h fun v2 h1 => (cm_i (s3 + v2) ∧ ((0:Int) ≤ (s3 + v2) ∧ (s3 + v2) < ch_L h1 b4) ∧ (∀ h5 : cm_H, h5 = ch_u h1 b4 (s3 + v2) 1 → (cU d m_Model_go [vR 12 a0] h5 fun h6 => Q (some (vI 1)) h6))))) ∧ (x1 = 2 → (cI d m_Model_at [vR 12 b2, vI s1, vI s0, vI 1] h fun v8 h7 => (cm_i (s3 + v8) ∧ ((0:Int) ≤ (s3 + v8) ∧ (s3 + v8) < ch_L h7 b4) ∧ (∀ h11 : cm_H, h11 = ch_u h7 b4 (s3 + v8) 1 → (cU d m_Model_go [vR 12 a0] h11 fun h12 => Q (some (vI 1)) h12))))))) : cw d cd_Model_part Q 114 [some (vR 12 a0), some (vI x1), z2] [vI s0, vI s1, vR 12 b2, vI s3, vR 20 b4] h := by
  refine w_iload rfl rfl ?_
  refine w_iconst rfl ⟨by decide, by decide⟩ ?_
  refine w_icmp rfl (And.intro (fun hc => ?_) (fun hc => ?_))
  · replace H := H.1 hc
    refine w_iconst rfl ⟨by decide, by decide⟩ ?_
    refine w_callI rfl (fun _ => rfl) rfl (cI_mono H fun v2 h1 H => ?_)
    have o3 := H.1
    replace H := H.2
    refine w_iadd rfl o3 ?_
    refine w_iconst rfl ⟨by decide, by decide⟩ ?_
    have o4 := H.1
    replace H := H.2
    refine w_iastore rfl p_b4 o4 (fun h5 eh5 => ?_)
    replace H := H h5 eh5
    refine w_aload rfl rfl ?_
    refine w_callU rfl (fun _ => rfl) rfl (cU_mono H fun h6 H => ?_)
    refine w_iconst rfl ⟨by decide, by decide⟩ ?_
    exact w_zreturn rfl (by decide) H
  · replace H := H.2 hc
    refine w_iconst rfl ⟨by decide, by decide⟩ ?_
    refine w_goto rfl ?_
    refine w_callI rfl (fun _ => rfl) rfl (cI_mono H fun v8 h7 H => ?_)
    have o9 := H.1
    replace H := H.2
    refine w_iadd rfl o9 ?_
    refine w_iconst rfl ⟨by decide, by decide⟩ ?_
    have o10 := H.1
    replace H := H.2
    refine w_iastore rfl p_b4 o10 (fun h11 eh11 => ?_)
    replace H := H h11 eh11
    refine w_aload rfl rfl ?_
    refine w_callU rfl (fun _ => rfl) rfl (cU_mono H fun h12 H => ?_)
    refine w_iconst rfl ⟨by decide, by decide⟩ ?_
    exact w_zreturn rfl (by decide) H
set_option maxHeartbeats 4000000 in
set_option maxRecDepth 100000 in
theorem r_Model_part {d : Nat} {Q : cm_Q} {h : cm_H} {a0 : Nat} (p_a0 : 0 < a0) (H : ((¬ (ch_I h a0 18) = 1 → ((¬ (ch_I h a0 18) = 2 → cw d cd_Model_part Q 60 [some (vR 12 a0), none, none] [vI (-1)] h) ∧ ((ch_I h a0 18) = 2 → (cm_i ((ch_I h a0 19) - 120) ∧ cw d cd_Model_part Q 60 [some (vR 12 a0), none, none] [vI ((ch_I h a0 19) - 120)] h)))) ∧ ((ch_I h a0 18) = 1 → (cm_i ((ch_I h a0 17) - (ch_I h a0 16)) ∧ ((((ch_I h a0 17) - (ch_I h a0 16)) ≤ 4 → (cU d m_Model_pushes [vR 12 a0, vI (ch_I h a0 19)] h fun h3 => (cU d m_Model_go [vR 12 a0] h3 fun h4 => Q (some (vI 1)) h4))) ∧ (4 < ((ch_I h a0 17) - (ch_I h a0 16)) → (cI d m_Model_bad [vR 12 a0, vI 1] h fun v6 h5 => ((v6 = 0 ∨ v6 = 1) ∧ Q (some (vI v6)) h5)))))))) : cm_call (d + 1) m_Model_part [vR 12 a0] h Q := by
  refine cm_call_in (C := cd_Model_part) (ls := [some (vR 12 a0), none, none]) rfl rfl p_a0 rfl ?_
  refine w_aload rfl rfl ?_
  refine w_getI 18 rfl rfl rfl p_a0 ?_
  refine w_iconst rfl ⟨by decide, by decide⟩ ?_
  refine w_icmp rfl (And.intro (fun hc => ?_) (fun hc => ?_))
  · replace H := H.1 hc
    refine w_aload rfl rfl ?_
    refine w_getI 18 rfl rfl rfl p_a0 ?_
    refine w_iconst rfl ⟨by decide, by decide⟩ ?_
    refine w_icmp rfl (And.intro (fun hc => ?_) (fun hc => ?_))
    · replace H := H.1 hc
      refine w_iconst rfl ⟨by decide, by decide⟩ ?_
      exact H
    · replace H := H.2 hc
      refine w_aload rfl rfl ?_
      refine w_getI 19 rfl rfl rfl p_a0 ?_
      refine w_iconst rfl ⟨by decide, by decide⟩ ?_
      have o1 := H.1
      replace H := H.2
      refine w_isub rfl o1 ?_
      refine w_goto rfl ?_
      exact H
  · replace H := H.2 hc
    refine w_aload rfl rfl ?_
    refine w_getI 17 rfl rfl rfl p_a0 ?_
    refine w_aload rfl rfl ?_
    refine w_getI 16 rfl rfl rfl p_a0 ?_
    have o2 := H.1
    replace H := H.2
    refine w_isub rfl o2 ?_
    refine w_iconst rfl ⟨by decide, by decide⟩ ?_
    refine w_icmp rfl (And.intro (fun hc => ?_) (fun hc => ?_))
    · replace H := H.1 hc
      refine w_aload rfl rfl ?_
      refine w_aload rfl rfl ?_
      refine w_getI 19 rfl rfl rfl p_a0 ?_
      refine w_callU rfl (fun _ => rfl) rfl (cU_mono H fun h3 H => ?_)
      refine w_aload rfl rfl ?_
      refine w_callU rfl (fun _ => rfl) rfl (cU_mono H fun h4 H => ?_)
      refine w_iconst rfl ⟨by decide, by decide⟩ ?_
      exact w_zreturn rfl (by decide) H
    · replace H := H.2 hc
      refine w_aload rfl rfl ?_
      refine w_iconst rfl ⟨by decide, by decide⟩ ?_
      refine w_callI rfl (fun _ => rfl) rfl (cI_mono H fun v6 h5 H => ?_)
      exact w_zreturn rfl H.1 H.2
set_option maxHeartbeats 4000000 in
set_option maxRecDepth 100000 in
theorem r_Model_joins_51 {d : Nat} {Q : cm_Q} {h : cm_H} {a0 : Nat} {x1 : Int} {x2 : Int} {z3 : Option cm_V} {z4 : Option cm_V} {s0 : Int} (p_a0 : 0 < a0) (H : ((s0 = 0 → (cI d m_Model_degree [vR 12 a0, vR 20 (ch_R h a0 26), vI x1] h fun v2 h1 => (cI d m_Model_degree [vR 12 a0, vR 20 (ch_R h1 a0 26), vI x2] h1 fun v4 h3 => (cm_i (v2 + v4) ∧ cw d cd_Model_joins Q 79 [some (vR 12 a0), some (vI x1), some (vI x2), some (vI s0), z4] [vI (v2 + v4)] h3)))) ∧ (¬ s0 = 0 → cw d cd_Model_joins Q 79 [some (vR 12 a0), some (vI x1), some (vI x2), some (vI s0), z4] [vI 0] h))) : cw d cd_Model_joins Q 51 [some (vR 12 a0), some (vI x1), some (vI x2), z3, z4] [vI s0] h := by
  refine w_istore rfl rfl ?_
  refine w_iload rfl rfl ?_
  refine w_if rfl (And.intro (fun hc => ?_) (fun hc => ?_))
  · replace H := H.1 hc
    refine w_aload rfl rfl ?_
    refine w_aload rfl rfl ?_
    refine w_getR 26 20 rfl rfl rfl rfl p_a0 ?_
    refine w_iload rfl rfl ?_
    refine w_callI rfl (fun _ => rfl) rfl (cI_mono H fun v2 h1 H => ?_)
    refine w_aload rfl rfl ?_
    refine w_aload rfl rfl ?_
    refine w_getR 26 20 rfl rfl rfl rfl p_a0 ?_
    refine w_iload rfl rfl ?_
    refine w_callI rfl (fun _ => rfl) rfl (cI_mono H fun v4 h3 H => ?_)
    have o5 := H.1
    replace H := H.2
    refine w_iadd rfl o5 ?_
    exact H
  · replace H := H.2 hc
    refine w_iconst rfl ⟨by decide, by decide⟩ ?_
    refine w_goto rfl ?_
    exact H
set_option maxHeartbeats 4000000 in
set_option maxRecDepth 100000 in
theorem r_Model_joins_79 {d : Nat} {Q : cm_Q} {h : cm_H} {a0 : Nat} {x1 : Int} {x2 : Int} {z3 : Option cm_V} {z4 : Option cm_V} {s0 : Int} (p_a0 : 0 < a0) (H : ((¬ (ch_I h a0 28) = 0 → cw d cd_Model_joins Q 101 [some (vR 12 a0), some (vI x1), some (vI x2), z3, some (vI s0)] [vI 1, vR 12 a0] h) ∧ ((ch_I h a0 28) = 0 → ((s0 ≤ 15 → cw d cd_Model_joins Q 101 [some (vR 12 a0), some (vI x1), some (vI x2), z3, some (vI s0)] [vI 0, vR 12 a0] h) ∧ (15 < s0 → cw d cd_Model_joins Q 101 [some (vR 12 a0), some (vI x1), some (vI x2), z3, some (vI s0)] [vI 1, vR 12 a0] h))))) : cw d cd_Model_joins Q 79 [some (vR 12 a0), some (vI x1), some (vI x2), z3, z4] [vI s0] h := by
  refine w_istore rfl rfl ?_
  refine w_aload rfl rfl ?_
  refine w_aload rfl rfl ?_
  refine w_getI 28 rfl rfl rfl p_a0 ?_
  refine w_if rfl (And.intro (fun hc => ?_) (fun hc => ?_))
  · replace H := H.1 hc
    refine w_iconst rfl ⟨by decide, by decide⟩ ?_
    refine w_goto rfl ?_
    exact H
  · replace H := H.2 hc
    refine w_iload rfl rfl ?_
    refine w_iconst rfl ⟨by decide, by decide⟩ ?_
    refine w_icmp rfl (And.intro (fun hc => ?_) (fun hc => ?_))
    · replace H := H.1 hc
      refine w_iconst rfl ⟨by decide, by decide⟩ ?_
      exact H
    · replace H := H.2 hc
      refine w_iconst rfl ⟨by decide, by decide⟩ ?_
      refine w_goto rfl ?_
      exact H
set_option maxHeartbeats 4000000 in
set_option maxRecDepth 100000 in
theorem r_Model_joins_101 {d : Nat} {Q : cm_Q} {h : cm_H} {a0 : Nat} {x1 : Int} {x2 : Int} {z3 : Option cm_V} {z4 : Option cm_V} {s0 : Int} {b1 : Nat} (p_b1 : 0 < b1) (p_a0 : 0 < a0) (H : (s0 = 0 ∨ s0 = 1) ∧ (∀ h2 : cm_H, h2 = ch_u h b1 28 s0 → ((¬ (ch_I h2 a0 28) = 0 → (cm_i ((ch_I h2 a0 27) - 1) ∧ (∀ h4 : cm_H, h4 = ch_u h2 a0 27 ((ch_I h2 a0 27) - 1) → Q none h4))) ∧ ((ch_I h2 a0 28) = 0 → (cU d m_Model_multiplies [vR 12 a0, vR 20 (ch_R h2 a0 26), vI x1, vR 20 (ch_R h2 a0 26), vI x2, vR 20 (ch_R h2 a0 8), vI 0] h2 fun h5 => (cU d m_Model_copies [vR 20 (ch_R h5 a0 8), vI 0, vR 20 (ch_R h5 a0 26), vI x1] h5 fun h6 => (cm_i ((ch_I h6 a0 27) - 1) ∧ (∀ h8 : cm_H, h8 = ch_u h6 a0 27 ((ch_I h6 a0 27) - 1) → Q none h8)))))))) : cw d cd_Model_joins Q 101 [some (vR 12 a0), some (vI x1), some (vI x2), z3, z4] [vI s0, vR 12 b1] h := by
  have o1 := H.1
  replace H := H.2
  refine w_putZ 28 rfl rfl rfl o1 p_b1 (fun h2 eh2 => ?_)
  replace H := H h2 eh2
  refine w_aload rfl rfl ?_
  refine w_getI 28 rfl rfl rfl p_a0 ?_
  refine w_if rfl (And.intro (fun hc => ?_) (fun hc => ?_))
  · replace H := H.1 hc
    refine w_aload rfl rfl ?_
    refine w_dup rfl rfl ?_
    refine w_getI 27 rfl rfl rfl p_a0 ?_
    refine w_iconst rfl ⟨by decide, by decide⟩ ?_
    have o3 := H.1
    replace H := H.2
    refine w_isub rfl o3 ?_
    refine w_putI 27 rfl rfl rfl p_a0 (fun h4 eh4 => ?_)
    replace H := H h4 eh4
    exact w_return rfl H
  · replace H := H.2 hc
    refine w_aload rfl rfl ?_
    refine w_aload rfl rfl ?_
    refine w_getR 26 20 rfl rfl rfl rfl p_a0 ?_
    refine w_iload rfl rfl ?_
    refine w_aload rfl rfl ?_
    refine w_getR 26 20 rfl rfl rfl rfl p_a0 ?_
    refine w_iload rfl rfl ?_
    refine w_aload rfl rfl ?_
    refine w_getR 8 20 rfl rfl rfl rfl p_a0 ?_
    refine w_iconst rfl ⟨by decide, by decide⟩ ?_
    refine w_callU rfl (fun _ => rfl) rfl (cU_mono H fun h5 H => ?_)
    refine w_aload rfl rfl ?_
    refine w_getR 8 20 rfl rfl rfl rfl p_a0 ?_
    refine w_iconst rfl ⟨by decide, by decide⟩ ?_
    refine w_aload rfl rfl ?_
    refine w_getR 26 20 rfl rfl rfl rfl p_a0 ?_
    refine w_iload rfl rfl ?_
    refine w_callU rfl (fun _ => rfl) rfl (cU_mono H fun h6 H => ?_)
    refine w_aload rfl rfl ?_
    refine w_dup rfl rfl ?_
    refine w_getI 27 rfl rfl rfl p_a0 ?_
    refine w_iconst rfl ⟨by decide, by decide⟩ ?_
    have o7 := H.1
    replace H := H.2
    refine w_isub rfl o7 ?_
    refine w_putI 27 rfl rfl rfl p_a0 (fun h8 eh8 => ?_)
    replace H := H h8 eh8
    exact w_return rfl H
set_option maxHeartbeats 4000000 in
set_option maxRecDepth 100000 in
theorem r_Model_joins {d : Nat} {Q : cm_Q} {h : cm_H} {a0 : Nat} (p_a0 : 0 < a0) (H : (cm_i ((ch_I h a0 27) - 2) ∧ (cm_i (1140 * ((ch_I h a0 27) - 2)) ∧ (cm_i ((ch_I h a0 27) - 1) ∧ (cm_i (1140 * ((ch_I h a0 27) - 1)) ∧ (cI d m_Model_isNothing [vR 12 a0, vR 20 (ch_R h a0 26), vI (1140 * ((ch_I h a0 27) - 2))] h fun v6 h5 => ((¬ v6 = 0 → cw d cd_Model_joins Q 51 [some (vR 12 a0), some (vI (1140 * ((ch_I h a0 27) - 2))), some (vI (1140 * ((ch_I h a0 27) - 1))), none, none] [vI 1] h5) ∧ (v6 = 0 → (cI d m_Model_isNothing [vR 12 a0, vR 20 (ch_R h5 a0 26), vI (1140 * ((ch_I h a0 27) - 1))] h5 fun v8 h7 => ((v8 = 0 → cw d cd_Model_joins Q 51 [some (vR 12 a0), some (vI (1140 * ((ch_I h a0 27) - 2))), some (vI (1140 * ((ch_I h a0 27) - 1))), none, none] [vI 0] h7) ∧ (¬ v8 = 0 → cw d cd_Model_joins Q 51 [some (vR 12 a0), some (vI (1140 * ((ch_I h a0 27) - 2))), some (vI (1140 * ((ch_I h a0 27) - 1))), none, none] [vI 1] h7))))))))))) : cm_call (d + 1) m_Model_joins [vR 12 a0] h Q := by
  refine cm_call_in (C := cd_Model_joins) (ls := [some (vR 12 a0), none, none, none, none]) rfl rfl p_a0 rfl ?_
  refine w_iconst rfl ⟨by decide, by decide⟩ ?_
  refine w_aload rfl rfl ?_
  refine w_getI 27 rfl rfl rfl p_a0 ?_
  refine w_iconst rfl ⟨by decide, by decide⟩ ?_
  have o1 := H.1
  replace H := H.2
  refine w_isub rfl o1 ?_
  have o2 := H.1
  replace H := H.2
  refine w_imul rfl o2 ?_
  refine w_istore rfl rfl ?_
  refine w_iconst rfl ⟨by decide, by decide⟩ ?_
  refine w_aload rfl rfl ?_
  refine w_getI 27 rfl rfl rfl p_a0 ?_
  refine w_iconst rfl ⟨by decide, by decide⟩ ?_
  have o3 := H.1
  replace H := H.2
  refine w_isub rfl o3 ?_
  have o4 := H.1
  replace H := H.2
  refine w_imul rfl o4 ?_
  refine w_istore rfl rfl ?_
  refine w_aload rfl rfl ?_
  refine w_aload rfl rfl ?_
  refine w_getR 26 20 rfl rfl rfl rfl p_a0 ?_
  refine w_iload rfl rfl ?_
  refine w_callI rfl (fun _ => rfl) rfl (cI_mono H fun v6 h5 H => ?_)
  refine w_if rfl (And.intro (fun hc => ?_) (fun hc => ?_))
  · replace H := H.1 hc
    refine w_iconst rfl ⟨by decide, by decide⟩ ?_
    refine w_goto rfl ?_
    exact H
  · replace H := H.2 hc
    refine w_aload rfl rfl ?_
    refine w_aload rfl rfl ?_
    refine w_getR 26 20 rfl rfl rfl rfl p_a0 ?_
    refine w_iload rfl rfl ?_
    refine w_callI rfl (fun _ => rfl) rfl (cI_mono H fun v8 h7 H => ?_)
    refine w_if rfl (And.intro (fun hc => ?_) (fun hc => ?_))
    · replace H := H.1 hc
      refine w_iconst rfl ⟨by decide, by decide⟩ ?_
      exact H
    · replace H := H.2 hc
      refine w_iconst rfl ⟨by decide, by decide⟩ ?_
      refine w_goto rfl ?_
      exact H
set_option maxHeartbeats 4000000 in
set_option maxRecDepth 100000 in
theorem r_Model_raises_40 {d : Nat} {Q : cm_Q} {h : cm_H} {a0 : Nat} {x1 : Int} {x2 : Int} {z3 : Option cm_V} {s0 : Int} {b1 : Nat} (p_b1 : 0 < b1) (p_a0 : 0 < a0) (H : (s0 = 0 ∨ s0 = 1) ∧ (∀ h2 : cm_H, h2 = ch_u h b1 28 s0 → (((ch_I h2 a0 28) = 0 → (cU d m_Model_copies [vR 20 (ch_R h2 a0 26), vI x2, vR 20 (ch_R h2 a0 6), vI 0] h2 fun h3 => (cU d m_Model_clears [vR 20 (ch_R h3 a0 26), vI x2] h3 fun h4 => (0 < ((ch_R h4 a0 26)) ∧ ((0:Int) ≤ x2 ∧ x2 < ch_L h4 (ch_R h4 a0 26)) ∧ (∀ h7 : cm_H, h7 = ch_u h4 (ch_R h4 a0 26) x2 1 → cw d cd_Model_raises Q 81 [some (vR 12 a0), some (vI x1), some (vI x2), some (vI 0)] [] h7))))) ∧ (¬ (ch_I h2 a0 28) = 0 → Q none h2)))) : cw d cd_Model_raises Q 40 [some (vR 12 a0), some (vI x1), some (vI x2), z3] [vI s0, vR 12 b1] h := by
  have o1 := H.1
  replace H := H.2
  refine w_putZ 28 rfl rfl rfl o1 p_b1 (fun h2 eh2 => ?_)
  replace H := H h2 eh2
  refine w_aload rfl rfl ?_
  refine w_getI 28 rfl rfl rfl p_a0 ?_
  refine w_if rfl (And.intro (fun hc => ?_) (fun hc => ?_))
  · replace H := H.1 hc
    refine w_aload rfl rfl ?_
    refine w_getR 26 20 rfl rfl rfl rfl p_a0 ?_
    refine w_iload rfl rfl ?_
    refine w_aload rfl rfl ?_
    refine w_getR 6 20 rfl rfl rfl rfl p_a0 ?_
    refine w_iconst rfl ⟨by decide, by decide⟩ ?_
    refine w_callU rfl (fun _ => rfl) rfl (cU_mono H fun h3 H => ?_)
    refine w_aload rfl rfl ?_
    refine w_getR 26 20 rfl rfl rfl rfl p_a0 ?_
    refine w_iload rfl rfl ?_
    refine w_callU rfl (fun _ => rfl) rfl (cU_mono H fun h4 H => ?_)
    refine w_aload rfl rfl ?_
    refine w_getR 26 20 rfl rfl rfl rfl p_a0 ?_
    refine w_iload rfl rfl ?_
    refine w_iconst rfl ⟨by decide, by decide⟩ ?_
    have o5 := H.1
    replace H := H.2
    have o6 := H.1
    replace H := H.2
    refine w_iastore rfl o5 o6 (fun h7 eh7 => ?_)
    replace H := H h7 eh7
    refine w_iconst rfl ⟨by decide, by decide⟩ ?_
    refine w_istore rfl rfl ?_
    exact H
  · replace H := H.2 hc
    exact w_return rfl H
set_option maxHeartbeats 4000000 in
set_option maxRecDepth 100000 in
theorem r_Model_raises_81 {d : Nat} {Q : cm_Q} {h : cm_H} {a0 : Nat} {x1 : Int} {x2 : Int} {x3 : Int} (p_a0 : 0 < a0) (H : ((x1 ≤ x3 → Q none h) ∧ (x3 < x1 → (cU d m_Model_multiplies [vR 12 a0, vR 20 (ch_R h a0 26), vI x2, vR 20 (ch_R h a0 6), vI 0, vR 20 (ch_R h a0 8), vI 0] h fun h1 => (cU d m_Model_copies [vR 20 (ch_R h1 a0 8), vI 0, vR 20 (ch_R h1 a0 26), vI x2] h1 fun h2 => (cm_i (x3 + 1) ∧ cw d cd_Model_raises Q 81 [some (vR 12 a0), some (vI x1), some (vI x2), some (vI (x3 + 1))] [] h2)))))) : cw d cd_Model_raises Q 81 [some (vR 12 a0), some (vI x1), some (vI x2), some (vI x3)] [] h := by
  refine w_iload rfl rfl ?_
  refine w_iload rfl rfl ?_
  refine w_icmp rfl (And.intro (fun hc => ?_) (fun hc => ?_))
  · replace H := H.1 hc
    exact w_return rfl H
  · replace H := H.2 hc
    refine w_aload rfl rfl ?_
    refine w_aload rfl rfl ?_
    refine w_getR 26 20 rfl rfl rfl rfl p_a0 ?_
    refine w_iload rfl rfl ?_
    refine w_aload rfl rfl ?_
    refine w_getR 6 20 rfl rfl rfl rfl p_a0 ?_
    refine w_iconst rfl ⟨by decide, by decide⟩ ?_
    refine w_aload rfl rfl ?_
    refine w_getR 8 20 rfl rfl rfl rfl p_a0 ?_
    refine w_iconst rfl ⟨by decide, by decide⟩ ?_
    refine w_callU rfl (fun _ => rfl) rfl (cU_mono H fun h1 H => ?_)
    refine w_aload rfl rfl ?_
    refine w_getR 8 20 rfl rfl rfl rfl p_a0 ?_
    refine w_iconst rfl ⟨by decide, by decide⟩ ?_
    refine w_aload rfl rfl ?_
    refine w_getR 26 20 rfl rfl rfl rfl p_a0 ?_
    refine w_iload rfl rfl ?_
    refine w_callU rfl (fun _ => rfl) rfl (cU_mono H fun h2 H => ?_)
    have o3 := H.1
    replace H := H.2
    refine w_iinc rfl rfl rfl o3 ?_
    refine w_goto rfl ?_
    exact H
set_option maxHeartbeats 4000000 in
set_option maxRecDepth 100000 in
theorem r_Model_raises {d : Nat} {Q : cm_Q} {h : cm_H} {a0 : Nat} {x1 : Int} (p_a0 : 0 < a0) (H : (cm_i ((ch_I h a0 27) - 1) ∧ (cm_i (1140 * ((ch_I h a0 27) - 1)) ∧ ((¬ (ch_I h a0 28) = 0 → cw d cd_Model_raises Q 40 [some (vR 12 a0), some (vI x1), some (vI (1140 * ((ch_I h a0 27) - 1))), none] [vI 1, vR 12 a0] h) ∧ ((ch_I h a0 28) = 0 → (cI d m_Model_degree [vR 12 a0, vR 20 (ch_R h a0 26), vI (1140 * ((ch_I h a0 27) - 1))] h fun v4 h3 => (cm_i (v4 * x1) ∧ (((v4 * x1) ≤ 15 → cw d cd_Model_raises Q 40 [some (vR 12 a0), some (vI x1), some (vI (1140 * ((ch_I h a0 27) - 1))), none] [vI 0, vR 12 a0] h3) ∧ (15 < (v4 * x1) → cw d cd_Model_raises Q 40 [some (vR 12 a0), some (vI x1), some (vI (1140 * ((ch_I h a0 27) - 1))), none] [vI 1, vR 12 a0] h3))))))))) : cm_call (d + 1) m_Model_raises [vR 12 a0, vI x1] h Q := by
  refine cm_call_in (C := cd_Model_raises) (ls := [some (vR 12 a0), some (vI x1), none, none]) rfl rfl p_a0 rfl ?_
  refine w_iconst rfl ⟨by decide, by decide⟩ ?_
  refine w_aload rfl rfl ?_
  refine w_getI 27 rfl rfl rfl p_a0 ?_
  refine w_iconst rfl ⟨by decide, by decide⟩ ?_
  have o1 := H.1
  replace H := H.2
  refine w_isub rfl o1 ?_
  have o2 := H.1
  replace H := H.2
  refine w_imul rfl o2 ?_
  refine w_istore rfl rfl ?_
  refine w_aload rfl rfl ?_
  refine w_aload rfl rfl ?_
  refine w_getI 28 rfl rfl rfl p_a0 ?_
  refine w_if rfl (And.intro (fun hc => ?_) (fun hc => ?_))
  · replace H := H.1 hc
    refine w_iconst rfl ⟨by decide, by decide⟩ ?_
    refine w_goto rfl ?_
    exact H
  · replace H := H.2 hc
    refine w_aload rfl rfl ?_
    refine w_aload rfl rfl ?_
    refine w_getR 26 20 rfl rfl rfl rfl p_a0 ?_
    refine w_iload rfl rfl ?_
    refine w_callI rfl (fun _ => rfl) rfl (cI_mono H fun v4 h3 H => ?_)
    refine w_iload rfl rfl ?_
    have o5 := H.1
    replace H := H.2
    refine w_imul rfl o5 ?_
    refine w_iconst rfl ⟨by decide, by decide⟩ ?_
    refine w_icmp rfl (And.intro (fun hc => ?_) (fun hc => ?_))
    · replace H := H.1 hc
      refine w_iconst rfl ⟨by decide, by decide⟩ ?_
      exact H
    · replace H := H.2 hc
      refine w_iconst rfl ⟨by decide, by decide⟩ ?_
      refine w_goto rfl ?_
      exact H
set_option maxHeartbeats 4000000 in
set_option maxRecDepth 100000 in
theorem r_Model_powerOf {d : Nat} {Q : cm_Q} {h : cm_H} {a0 : Nat} (p_a0 : 0 < a0) (H : (cI d m_Model_part [vR 12 a0] h fun v2 h1 => ((¬ v2 = 0 → (cI d m_Model_is [vR 12 a0, vI 94] h1 fun v4 h3 => ((¬ v4 = 0 → (cU d m_Model_go [vR 12 a0] h3 fun h5 => ((¬ (ch_I h5 a0 18) = 1 → (cI d m_Model_bad [vR 12 a0, vI 1] h5 fun v7 h6 => ((v7 = 0 ∨ v7 = 1) ∧ Q (some (vI v7)) h6))) ∧ ((ch_I h5 a0 18) = 1 → (cm_i ((ch_I h5 a0 17) - (ch_I h5 a0 16)) ∧ ((((ch_I h5 a0 17) - (ch_I h5 a0 16)) ≤ 2 → (((ch_I h5 a0 19) ≤ 15 → (cU d m_Model_raises [vR 12 a0, vI (ch_I h5 a0 19)] h5 fun h9 => (cU d m_Model_go [vR 12 a0] h9 fun h10 => Q (some (vI 1)) h10))) ∧ (15 < (ch_I h5 a0 19) → (cI d m_Model_bad [vR 12 a0, vI 2] h5 fun v12 h11 => ((v12 = 0 ∨ v12 = 1) ∧ Q (some (vI v12)) h11))))) ∧ (2 < ((ch_I h5 a0 17) - (ch_I h5 a0 16)) → (cI d m_Model_bad [vR 12 a0, vI 1] h5 fun v14 h13 => ((v14 = 0 ∨ v14 = 1) ∧ Q (some (vI v14)) h13))))))))) ∧ (v4 = 0 → Q (some (vI 1)) h3)))) ∧ (v2 = 0 → Q (some (vI 0)) h1)))) : cm_call (d + 1) m_Model_powerOf [vR 12 a0] h Q := by
  refine cm_call_in (C := cd_Model_powerOf) (ls := [some (vR 12 a0)]) rfl rfl p_a0 rfl ?_
  refine w_aload rfl rfl ?_
  refine w_callI rfl (fun _ => rfl) rfl (cI_mono H fun v2 h1 H => ?_)
  refine w_if rfl (And.intro (fun hc => ?_) (fun hc => ?_))
  · replace H := H.1 hc
    refine w_aload rfl rfl ?_
    refine w_iconst rfl ⟨by decide, by decide⟩ ?_
    refine w_callI rfl (fun _ => rfl) rfl (cI_mono H fun v4 h3 H => ?_)
    refine w_if rfl (And.intro (fun hc => ?_) (fun hc => ?_))
    · replace H := H.1 hc
      refine w_aload rfl rfl ?_
      refine w_callU rfl (fun _ => rfl) rfl (cU_mono H fun h5 H => ?_)
      refine w_aload rfl rfl ?_
      refine w_getI 18 rfl rfl rfl p_a0 ?_
      refine w_iconst rfl ⟨by decide, by decide⟩ ?_
      refine w_icmp rfl (And.intro (fun hc => ?_) (fun hc => ?_))
      · replace H := H.1 hc
        refine w_aload rfl rfl ?_
        refine w_iconst rfl ⟨by decide, by decide⟩ ?_
        refine w_callI rfl (fun _ => rfl) rfl (cI_mono H fun v7 h6 H => ?_)
        exact w_zreturn rfl H.1 H.2
      · replace H := H.2 hc
        refine w_aload rfl rfl ?_
        refine w_getI 17 rfl rfl rfl p_a0 ?_
        refine w_aload rfl rfl ?_
        refine w_getI 16 rfl rfl rfl p_a0 ?_
        have o8 := H.1
        replace H := H.2
        refine w_isub rfl o8 ?_
        refine w_iconst rfl ⟨by decide, by decide⟩ ?_
        refine w_icmp rfl (And.intro (fun hc => ?_) (fun hc => ?_))
        · replace H := H.1 hc
          refine w_aload rfl rfl ?_
          refine w_getI 19 rfl rfl rfl p_a0 ?_
          refine w_iconst rfl ⟨by decide, by decide⟩ ?_
          refine w_icmp rfl (And.intro (fun hc => ?_) (fun hc => ?_))
          · replace H := H.1 hc
            refine w_aload rfl rfl ?_
            refine w_aload rfl rfl ?_
            refine w_getI 19 rfl rfl rfl p_a0 ?_
            refine w_callU rfl (fun _ => rfl) rfl (cU_mono H fun h9 H => ?_)
            refine w_aload rfl rfl ?_
            refine w_callU rfl (fun _ => rfl) rfl (cU_mono H fun h10 H => ?_)
            refine w_iconst rfl ⟨by decide, by decide⟩ ?_
            exact w_zreturn rfl (by decide) H
          · replace H := H.2 hc
            refine w_aload rfl rfl ?_
            refine w_iconst rfl ⟨by decide, by decide⟩ ?_
            refine w_callI rfl (fun _ => rfl) rfl (cI_mono H fun v12 h11 H => ?_)
            exact w_zreturn rfl H.1 H.2
        · replace H := H.2 hc
          refine w_aload rfl rfl ?_
          refine w_iconst rfl ⟨by decide, by decide⟩ ?_
          refine w_callI rfl (fun _ => rfl) rfl (cI_mono H fun v14 h13 H => ?_)
          exact w_zreturn rfl H.1 H.2
    · replace H := H.2 hc
      refine w_iconst rfl ⟨by decide, by decide⟩ ?_
      exact w_zreturn rfl (by decide) H
  · replace H := H.2 hc
    refine w_iconst rfl ⟨by decide, by decide⟩ ?_
    exact w_zreturn rfl (by decide) H
set_option maxHeartbeats 4000000 in
set_option maxRecDepth 100000 in
theorem r_Model_productOf_5 {d : Nat} {Q : cm_Q} {h : cm_H} {a0 : Nat} {x1 : Int}  (H : ((x1 = 0 → ((x1 = 0 ∨ x1 = 1) ∧ Q (some (vI x1)) h)) ∧ (¬ x1 = 0 → (cI d m_Model_is [vR 12 a0, vI 42] h fun v2 h1 => ((v2 = 0 → ((x1 = 0 ∨ x1 = 1) ∧ Q (some (vI x1)) h1)) ∧ (¬ v2 = 0 → (cU d m_Model_go [vR 12 a0] h1 fun h3 => (cI d m_Model_powerOf [vR 12 a0] h3 fun v5 h4 => ((v5 = 0 → cw d cd_Model_productOf Q 5 [some (vR 12 a0), some (vI v5)] [] h4) ∧ (¬ v5 = 0 → (cU d m_Model_joins [vR 12 a0] h4 fun h6 => cw d cd_Model_productOf Q 5 [some (vR 12 a0), some (vI v5)] [] h6))))))))))) : cw d cd_Model_productOf Q 5 [some (vR 12 a0), some (vI x1)] [] h := by
  refine w_iload rfl rfl ?_
  refine w_if rfl (And.intro (fun hc => ?_) (fun hc => ?_))
  · replace H := H.1 hc
    refine w_iload rfl rfl ?_
    exact w_zreturn rfl H.1 H.2
  · replace H := H.2 hc
    refine w_aload rfl rfl ?_
    refine w_iconst rfl ⟨by decide, by decide⟩ ?_
    refine w_callI rfl (fun _ => rfl) rfl (cI_mono H fun v2 h1 H => ?_)
    refine w_if rfl (And.intro (fun hc => ?_) (fun hc => ?_))
    · replace H := H.1 hc
      refine w_iload rfl rfl ?_
      exact w_zreturn rfl H.1 H.2
    · replace H := H.2 hc
      refine w_aload rfl rfl ?_
      refine w_callU rfl (fun _ => rfl) rfl (cU_mono H fun h3 H => ?_)
      refine w_aload rfl rfl ?_
      refine w_callI rfl (fun _ => rfl) rfl (cI_mono H fun v5 h4 H => ?_)
      refine w_istore rfl rfl ?_
      refine w_iload rfl rfl ?_
      refine w_if rfl (And.intro (fun hc => ?_) (fun hc => ?_))
      · replace H := H.1 hc
        exact H
      · replace H := H.2 hc
        refine w_aload rfl rfl ?_
        refine w_callU rfl (fun _ => rfl) rfl (cU_mono H fun h6 H => ?_)
        refine w_goto rfl ?_
        exact H
set_option maxHeartbeats 4000000 in
set_option maxRecDepth 100000 in
theorem r_Model_productOf {d : Nat} {Q : cm_Q} {h : cm_H} {a0 : Nat} (p_a0 : 0 < a0) (H : (cI d m_Model_powerOf [vR 12 a0] h fun v2 h1 => cw d cd_Model_productOf Q 5 [some (vR 12 a0), some (vI v2)] [] h1)) : cm_call (d + 1) m_Model_productOf [vR 12 a0] h Q := by
  refine cm_call_in (C := cd_Model_productOf) (ls := [some (vR 12 a0), none]) rfl rfl p_a0 rfl ?_
  refine w_aload rfl rfl ?_
  refine w_callI rfl (fun _ => rfl) rfl (cI_mono H fun v2 h1 H => ?_)
  refine w_istore rfl rfl ?_
  exact H
set_option maxHeartbeats 4000000 in
set_option maxRecDepth 100000 in
theorem r_Model_adds_25 {d : Nat} {Q : cm_Q} {h : cm_H} {a0 : Nat} {x1 : Int} {x2 : Int} {x3 : Int} {x4 : Int} (p_a0 : 0 < a0) (H : ((1140 ≤ x4 → (cm_i ((ch_I h a0 27) - 1) ∧ (∀ h2 : cm_H, h2 = ch_u h a0 27 ((ch_I h a0 27) - 1) → Q none h2))) ∧ (x4 < 1140 → (cm_i (x2 + x4) ∧ (0 < ((ch_R h a0 26)) ∧ ((0:Int) ≤ (x2 + x4) ∧ (x2 + x4) < ch_L h (ch_R h a0 26)) ∧ (cm_i (x3 + x4) ∧ ((0:Int) ≤ (x3 + x4) ∧ (x3 + x4) < ch_L h (ch_R h a0 26)) ∧ (cm_i (x1 * (ch_I h (ch_R h a0 26) (x3 + x4))) ∧ (cm_i ((ch_I h (ch_R h a0 26) (x2 + x4)) + (x1 * (ch_I h (ch_R h a0 26) (x3 + x4)))) ∧ (cI d m_Model_of [vL ((ch_I h (ch_R h a0 26) (x2 + x4)) + (x1 * (ch_I h (ch_R h a0 26) (x3 + x4))))] h fun v11 h10 => ((0:Int) ≤ (x2 + x4) ∧ (x2 + x4) < ch_L h10 (ch_R h a0 26)) ∧ (∀ h13 : cm_H, h13 = ch_u h10 (ch_R h a0 26) (x2 + x4) v11 → (cm_i (x4 + 1) ∧ cw d cd_Model_adds Q 25 [some (vR 12 a0), some (vI x1), some (vI x2), some (vI x3), some (vI (x4 + 1))] [] h13))))))))))) : cw d cd_Model_adds Q 25 [some (vR 12 a0), some (vI x1), some (vI x2), some (vI x3), some (vI x4)] [] h := by
  refine w_iload rfl rfl ?_
  refine w_iconst rfl ⟨by decide, by decide⟩ ?_
  refine w_icmp rfl (And.intro (fun hc => ?_) (fun hc => ?_))
  · replace H := H.1 hc
    refine w_aload rfl rfl ?_
    refine w_dup rfl rfl ?_
    refine w_getI 27 rfl rfl rfl p_a0 ?_
    refine w_iconst rfl ⟨by decide, by decide⟩ ?_
    have o1 := H.1
    replace H := H.2
    refine w_isub rfl o1 ?_
    refine w_putI 27 rfl rfl rfl p_a0 (fun h2 eh2 => ?_)
    replace H := H h2 eh2
    exact w_return rfl H
  · replace H := H.2 hc
    refine w_aload rfl rfl ?_
    refine w_getR 26 20 rfl rfl rfl rfl p_a0 ?_
    refine w_iload rfl rfl ?_
    refine w_iload rfl rfl ?_
    have o3 := H.1
    replace H := H.2
    refine w_iadd rfl o3 ?_
    refine w_aload rfl rfl ?_
    refine w_getR 26 20 rfl rfl rfl rfl p_a0 ?_
    refine w_iload rfl rfl ?_
    refine w_iload rfl rfl ?_
    refine w_iadd rfl o3 ?_
    have o4 := H.1
    replace H := H.2
    have o5 := H.1
    replace H := H.2
    refine w_iaload rfl o4 o5 ?_
    refine w_iload rfl rfl ?_
    refine w_aload rfl rfl ?_
    refine w_getR 26 20 rfl rfl rfl rfl p_a0 ?_
    refine w_iload rfl rfl ?_
    refine w_iload rfl rfl ?_
    have o6 := H.1
    replace H := H.2
    refine w_iadd rfl o6 ?_
    have o7 := H.1
    replace H := H.2
    refine w_iaload rfl o4 o7 ?_
    have o8 := H.1
    replace H := H.2
    refine w_imul rfl o8 ?_
    have o9 := H.1
    replace H := H.2
    refine w_iadd rfl o9 ?_
    refine w_i2l rfl ?_
    refine w_callI rfl (fun _ => rfl) rfl (cI_mono H fun v11 h10 H => ?_)
    have o12 := H.1
    replace H := H.2
    refine w_iastore rfl o4 o12 (fun h13 eh13 => ?_)
    replace H := H h13 eh13
    have o14 := H.1
    replace H := H.2
    refine w_iinc rfl rfl rfl o14 ?_
    refine w_goto rfl ?_
    exact H
set_option maxHeartbeats 4000000 in
set_option maxRecDepth 100000 in
theorem r_Model_adds {d : Nat} {Q : cm_Q} {h : cm_H} {a0 : Nat} {x1 : Int} (p_a0 : 0 < a0) (H : (cm_i ((ch_I h a0 27) - 2) ∧ (cm_i (1140 * ((ch_I h a0 27) - 2)) ∧ (cm_i ((ch_I h a0 27) - 1) ∧ (cm_i (1140 * ((ch_I h a0 27) - 1)) ∧ cw d cd_Model_adds Q 25 [some (vR 12 a0), some (vI x1), some (vI (1140 * ((ch_I h a0 27) - 2))), some (vI (1140 * ((ch_I h a0 27) - 1))), some (vI 0)] [] h))))) : cm_call (d + 1) m_Model_adds [vR 12 a0, vI x1] h Q := by
  refine cm_call_in (C := cd_Model_adds) (ls := [some (vR 12 a0), some (vI x1), none, none, none]) rfl rfl p_a0 rfl ?_
  refine w_iconst rfl ⟨by decide, by decide⟩ ?_
  refine w_aload rfl rfl ?_
  refine w_getI 27 rfl rfl rfl p_a0 ?_
  refine w_iconst rfl ⟨by decide, by decide⟩ ?_
  have o1 := H.1
  replace H := H.2
  refine w_isub rfl o1 ?_
  have o2 := H.1
  replace H := H.2
  refine w_imul rfl o2 ?_
  refine w_istore rfl rfl ?_
  refine w_iconst rfl ⟨by decide, by decide⟩ ?_
  refine w_aload rfl rfl ?_
  refine w_getI 27 rfl rfl rfl p_a0 ?_
  refine w_iconst rfl ⟨by decide, by decide⟩ ?_
  have o3 := H.1
  replace H := H.2
  refine w_isub rfl o3 ?_
  have o4 := H.1
  replace H := H.2
  refine w_imul rfl o4 ?_
  refine w_istore rfl rfl ?_
  refine w_iconst rfl ⟨by decide, by decide⟩ ?_
  refine w_istore rfl rfl ?_
  exact H
set_option maxHeartbeats 4000000 in
set_option maxRecDepth 100000 in
theorem r_Model_sum_15 {d : Nat} {Q : cm_Q} {h : cm_H} {a0 : Nat} {x1 : Int} {z2 : Option cm_V} {z3 : Option cm_V}  (H : (cU d m_Model_pushes [vR 12 a0, vI 0] h fun h1 => (cI d m_Model_productOf [vR 12 a0] h1 fun v3 h2 => ((v3 = 0 → cw d cd_Model_sum Q 42 [some (vR 12 a0), some (vI x1), some (vI v3), z3] [] h2) ∧ (¬ v3 = 0 → ((x1 = 0 → (cU d m_Model_adds [vR 12 a0, vI 1] h2 fun h4 => cw d cd_Model_sum Q 42 [some (vR 12 a0), some (vI x1), some (vI v3), z3] [] h4)) ∧ (¬ x1 = 0 → (cU d m_Model_adds [vR 12 a0, vI (-1)] h2 fun h5 => cw d cd_Model_sum Q 42 [some (vR 12 a0), some (vI x1), some (vI v3), z3] [] h5)))))))) : cw d cd_Model_sum Q 15 [some (vR 12 a0), some (vI x1), z2, z3] [] h := by
  refine w_aload rfl rfl ?_
  refine w_iconst rfl ⟨by decide, by decide⟩ ?_
  refine w_callU rfl (fun _ => rfl) rfl (cU_mono H fun h1 H => ?_)
  refine w_aload rfl rfl ?_
  refine w_callI rfl (fun _ => rfl) rfl (cI_mono H fun v3 h2 H => ?_)
  refine w_istore rfl rfl ?_
  refine w_iload rfl rfl ?_
  refine w_if rfl (And.intro (fun hc => ?_) (fun hc => ?_))
  · replace H := H.1 hc
    exact H
  · replace H := H.2 hc
    refine w_aload rfl rfl ?_
    refine w_iload rfl rfl ?_
    refine w_if rfl (And.intro (fun hc => ?_) (fun hc => ?_))
    · replace H := H.1 hc
      refine w_iconst rfl ⟨by decide, by decide⟩ ?_
      refine w_callU rfl (fun _ => rfl) rfl (cU_mono H fun h4 H => ?_)
      exact H
    · replace H := H.2 hc
      refine w_iconst rfl ⟨by decide, by decide⟩ ?_
      refine w_goto rfl ?_
      refine w_callU rfl (fun _ => rfl) rfl (cU_mono H fun h5 H => ?_)
      exact H
set_option maxHeartbeats 4000000 in
set_option maxRecDepth 100000 in
theorem r_Model_sum_42 {d : Nat} {Q : cm_Q} {h : cm_H} {a0 : Nat} {z1 : Option cm_V} {x2 : Int} {z3 : Option cm_V}  (H : ((x2 = 0 → ((x2 = 0 ∨ x2 = 1) ∧ Q (some (vI x2)) h)) ∧ (¬ x2 = 0 → (cI d m_Model_is [vR 12 a0, vI 43] h fun v2 h1 => ((¬ v2 = 0 → cw d cd_Model_sum Q 64 [some (vR 12 a0), z1, some (vI x2), z3] [] h1) ∧ (v2 = 0 → (cI d m_Model_is [vR 12 a0, vI 45] h1 fun v4 h3 => ((v4 = 0 → ((x2 = 0 ∨ x2 = 1) ∧ Q (some (vI x2)) h3)) ∧ (¬ v4 = 0 → cw d cd_Model_sum Q 64 [some (vR 12 a0), z1, some (vI x2), z3] [] h3))))))))) : cw d cd_Model_sum Q 42 [some (vR 12 a0), z1, some (vI x2), z3] [] h := by
  refine w_iload rfl rfl ?_
  refine w_if rfl (And.intro (fun hc => ?_) (fun hc => ?_))
  · replace H := H.1 hc
    refine w_iload rfl rfl ?_
    exact w_zreturn rfl H.1 H.2
  · replace H := H.2 hc
    refine w_aload rfl rfl ?_
    refine w_iconst rfl ⟨by decide, by decide⟩ ?_
    refine w_callI rfl (fun _ => rfl) rfl (cI_mono H fun v2 h1 H => ?_)
    refine w_if rfl (And.intro (fun hc => ?_) (fun hc => ?_))
    · replace H := H.1 hc
      exact H
    · replace H := H.2 hc
      refine w_aload rfl rfl ?_
      refine w_iconst rfl ⟨by decide, by decide⟩ ?_
      refine w_callI rfl (fun _ => rfl) rfl (cI_mono H fun v4 h3 H => ?_)
      refine w_if rfl (And.intro (fun hc => ?_) (fun hc => ?_))
      · replace H := H.1 hc
        refine w_iload rfl rfl ?_
        exact w_zreturn rfl H.1 H.2
      · replace H := H.2 hc
        exact H
set_option maxHeartbeats 4000000 in
set_option maxRecDepth 100000 in
theorem r_Model_sum_64 {d : Nat} {Q : cm_Q} {h : cm_H} {a0 : Nat} {z1 : Option cm_V} {z2 : Option cm_V} {z3 : Option cm_V}  (H : (cI d m_Model_is [vR 12 a0, vI 43] h fun v2 h1 => ((v2 = 0 → cw d cd_Model_sum Q 78 [some (vR 12 a0), z1, z2, z3] [vI (-1)] h1) ∧ (¬ v2 = 0 → cw d cd_Model_sum Q 78 [some (vR 12 a0), z1, z2, z3] [vI 1] h1)))) : cw d cd_Model_sum Q 64 [some (vR 12 a0), z1, z2, z3] [] h := by
  refine w_aload rfl rfl ?_
  refine w_iconst rfl ⟨by decide, by decide⟩ ?_
  refine w_callI rfl (fun _ => rfl) rfl (cI_mono H fun v2 h1 H => ?_)
  refine w_if rfl (And.intro (fun hc => ?_) (fun hc => ?_))
  · replace H := H.1 hc
    refine w_iconst rfl ⟨by decide, by decide⟩ ?_
    exact H
  · replace H := H.2 hc
    refine w_iconst rfl ⟨by decide, by decide⟩ ?_
    refine w_goto rfl ?_
    exact H
set_option maxHeartbeats 4000000 in
set_option maxRecDepth 100000 in
theorem r_Model_sum_78 {d : Nat} {Q : cm_Q} {h : cm_H} {a0 : Nat} {z1 : Option cm_V} {z2 : Option cm_V} {z3 : Option cm_V} {s0 : Int}  (H : (cU d m_Model_go [vR 12 a0] h fun h1 => (cI d m_Model_productOf [vR 12 a0] h1 fun v3 h2 => ((v3 = 0 → cw d cd_Model_sum Q 42 [some (vR 12 a0), z1, some (vI v3), some (vI s0)] [] h2) ∧ (¬ v3 = 0 → (cU d m_Model_adds [vR 12 a0, vI s0] h2 fun h4 => cw d cd_Model_sum Q 42 [some (vR 12 a0), z1, some (vI v3), some (vI s0)] [] h4)))))) : cw d cd_Model_sum Q 78 [some (vR 12 a0), z1, z2, z3] [vI s0] h := by
  refine w_istore rfl rfl ?_
  refine w_aload rfl rfl ?_
  refine w_callU rfl (fun _ => rfl) rfl (cU_mono H fun h1 H => ?_)
  refine w_aload rfl rfl ?_
  refine w_callI rfl (fun _ => rfl) rfl (cI_mono H fun v3 h2 H => ?_)
  refine w_istore rfl rfl ?_
  refine w_iload rfl rfl ?_
  refine w_if rfl (And.intro (fun hc => ?_) (fun hc => ?_))
  · replace H := H.1 hc
    refine w_goto rfl ?_
    exact H
  · replace H := H.2 hc
    refine w_aload rfl rfl ?_
    refine w_iload rfl rfl ?_
    refine w_callU rfl (fun _ => rfl) rfl (cU_mono H fun h4 H => ?_)
    refine w_goto rfl ?_
    exact H
set_option maxHeartbeats 4000000 in
set_option maxRecDepth 100000 in
theorem r_Model_sum {d : Nat} {Q : cm_Q} {h : cm_H} {a0 : Nat} (p_a0 : 0 < a0) (H : (cI d m_Model_is [vR 12 a0, vI 45] h fun v2 h1 => ((v2 = 0 → cw d cd_Model_sum Q 15 [some (vR 12 a0), some (vI v2), none, none] [] h1) ∧ (¬ v2 = 0 → (cU d m_Model_go [vR 12 a0] h1 fun h3 => cw d cd_Model_sum Q 15 [some (vR 12 a0), some (vI v2), none, none] [] h3))))) : cm_call (d + 1) m_Model_sum [vR 12 a0] h Q := by
  refine cm_call_in (C := cd_Model_sum) (ls := [some (vR 12 a0), none, none, none]) rfl rfl p_a0 rfl ?_
  refine w_aload rfl rfl ?_
  refine w_iconst rfl ⟨by decide, by decide⟩ ?_
  refine w_callI rfl (fun _ => rfl) rfl (cI_mono H fun v2 h1 H => ?_)
  refine w_istore rfl rfl ?_
  refine w_iload rfl rfl ?_
  refine w_if rfl (And.intro (fun hc => ?_) (fun hc => ?_))
  · replace H := H.1 hc
    exact H
  · replace H := H.2 hc
    refine w_aload rfl rfl ?_
    refine w_callU rfl (fun _ => rfl) rfl (cU_mono H fun h3 H => ?_)
    exact H
set_option maxHeartbeats 4000000 in
set_option maxRecDepth 100000 in
theorem r_Model_isKept {d : Nat} {Q : cm_Q} {h : cm_H} {a0 : Nat} {x1 : Int} (p_a0 : 0 < a0) (H : (cI d m_Model_within [vI x1, vI 0, vI 5] h fun v2 h1 => ((v2 = 0 ∨ v2 = 1) ∧ Q (some (vI v2)) h1))) : cm_call (d + 1) m_Model_isKept [vR 12 a0, vI x1] h Q := by
  refine cm_call_in (C := cd_Model_isKept) (ls := [some (vR 12 a0), some (vI x1)]) rfl rfl p_a0 rfl ?_
  refine w_iload rfl rfl ?_
  refine w_iconst rfl ⟨by decide, by decide⟩ ?_
  refine w_iconst rfl ⟨by decide, by decide⟩ ?_
  refine w_callI rfl (fun _ => rfl) rfl (cI_mono H fun v2 h1 H => ?_)
  exact w_zreturn rfl H.1 H.2
set_option maxHeartbeats 4000000 in
set_option maxRecDepth 100000 in
theorem r_Model_polynomial_69 {d : Nat} {Q : cm_Q} {h : cm_H} {a0 : Nat} {x1 : Int} {z2 : Option cm_V} {x3 : Int} (p_a0 : 0 < a0) (H : ((¬ x3 = 0 → (((ch_I h a0 28) = 0 → (cm_i (1140 * x1) ∧ (cU d m_Model_copies [vR 20 (ch_R h a0 26), vI 0, vR 20 (ch_R h a0 5), vI (1140 * x1)] h fun h2 => (cI d m_Model_degree [vR 12 a0, vR 20 (ch_R h2 a0 5), vI (1140 * x1)] h2 fun v4 h3 => Q (some (vI v4)) h3)))) ∧ (¬ (ch_I h a0 28) = 0 → Q (some (vI (-5))) h))) ∧ (x3 = 0 → (cm_i ((-2) - (ch_I h a0 20)) ∧ Q (some (vI ((-2) - (ch_I h a0 20)))) h)))) : cw d cd_Model_polynomial Q 69 [some (vR 12 a0), some (vI x1), z2, some (vI x3)] [] h := by
  refine w_iload rfl rfl ?_
  refine w_if rfl (And.intro (fun hc => ?_) (fun hc => ?_))
  · replace H := H.1 hc
    refine w_aload rfl rfl ?_
    refine w_getI 28 rfl rfl rfl p_a0 ?_
    refine w_if rfl (And.intro (fun hc => ?_) (fun hc => ?_))
    · replace H := H.1 hc
      refine w_aload rfl rfl ?_
      refine w_getR 26 20 rfl rfl rfl rfl p_a0 ?_
      refine w_iconst rfl ⟨by decide, by decide⟩ ?_
      refine w_aload rfl rfl ?_
      refine w_getR 5 20 rfl rfl rfl rfl p_a0 ?_
      refine w_iconst rfl ⟨by decide, by decide⟩ ?_
      refine w_iload rfl rfl ?_
      have o1 := H.1
      replace H := H.2
      refine w_imul rfl o1 ?_
      refine w_callU rfl (fun _ => rfl) rfl (cU_mono H fun h2 H => ?_)
      refine w_aload rfl rfl ?_
      refine w_aload rfl rfl ?_
      refine w_getR 5 20 rfl rfl rfl rfl p_a0 ?_
      refine w_iconst rfl ⟨by decide, by decide⟩ ?_
      refine w_iload rfl rfl ?_
      refine w_imul rfl o1 ?_
      refine w_callI rfl (fun _ => rfl) rfl (cI_mono H fun v4 h3 H => ?_)
      exact w_ireturn rfl H
    · replace H := H.2 hc
      refine w_iconst rfl ⟨by decide, by decide⟩ ?_
      exact w_ireturn rfl H
  · replace H := H.2 hc
    refine w_iconst rfl ⟨by decide, by decide⟩ ?_
    refine w_aload rfl rfl ?_
    refine w_getI 20 rfl rfl rfl p_a0 ?_
    have o5 := H.1
    replace H := H.2
    refine w_isub rfl o5 ?_
    exact w_ireturn rfl H
set_option maxHeartbeats 4000000 in
set_option maxRecDepth 100000 in
theorem r_Model_polynomial {d : Nat} {Q : cm_Q} {h : cm_H} {a0 : Nat} {x1 : Int} {x2 : Int} (p_a0 : 0 < a0) (H : (∀ h1 : cm_H, h1 = ch_u h a0 0 0 → (cI d m_Model_isKept [vR 12 a0, vI x1] h1 fun v3 h2 => ((v3 = 0 → Q (some (vI (-1))) h2) ∧ (¬ v3 = 0 → (cI d m_Model_within [vI x2, vI 0, vI (ch_I h2 a0 14)] h2 fun v5 h4 => ((¬ v5 = 0 → (cU d m_Model_starts [vR 12 a0, vI x2] h4 fun h6 => (∀ h7 : cm_H, h7 = ch_u h6 a0 27 0 → (∀ h8 : cm_H, h8 = ch_u h7 a0 28 0 → (∀ h9 : cm_H, h9 = ch_u h8 a0 29 0 → (cI d m_Model_sum [vR 12 a0] h9 fun v11 h10 => ((v11 = 0 → cw d cd_Model_polynomial Q 69 [some (vR 12 a0), some (vI x1), some (vI x2), some (vI v11)] [] h10) ∧ (¬ v11 = 0 → (((ch_I h10 a0 18) = 0 → cw d cd_Model_polynomial Q 69 [some (vR 12 a0), some (vI x1), some (vI x2), some (vI v11)] [] h10) ∧ (¬ (ch_I h10 a0 18) = 0 → (cI d m_Model_bad [vR 12 a0, vI 1] h10 fun v13 h12 => cw d cd_Model_polynomial Q 69 [some (vR 12 a0), some (vI x1), some (vI x2), some (vI v13)] [] h12))))))))))) ∧ (v5 = 0 → Q (some (vI (-1))) h4)))))))) : cm_call (d + 1) m_Model_polynomial [vR 12 a0, vI x1, vI x2] h Q := by
  refine cm_call_in (C := cd_Model_polynomial) (ls := [some (vR 12 a0), some (vI x1), some (vI x2), none]) rfl rfl p_a0 rfl ?_
  refine w_aload rfl rfl ?_
  refine w_iconst rfl ⟨by decide, by decide⟩ ?_
  refine w_putI 0 rfl rfl rfl p_a0 (fun h1 eh1 => ?_)
  replace H := H h1 eh1
  refine w_aload rfl rfl ?_
  refine w_iload rfl rfl ?_
  refine w_callI rfl (fun _ => rfl) rfl (cI_mono H fun v3 h2 H => ?_)
  refine w_if rfl (And.intro (fun hc => ?_) (fun hc => ?_))
  · replace H := H.1 hc
    refine w_iconst rfl ⟨by decide, by decide⟩ ?_
    exact w_ireturn rfl H
  · replace H := H.2 hc
    refine w_iload rfl rfl ?_
    refine w_iconst rfl ⟨by decide, by decide⟩ ?_
    refine w_aload rfl rfl ?_
    refine w_getI 14 rfl rfl rfl p_a0 ?_
    refine w_callI rfl (fun _ => rfl) rfl (cI_mono H fun v5 h4 H => ?_)
    refine w_if rfl (And.intro (fun hc => ?_) (fun hc => ?_))
    · replace H := H.1 hc
      refine w_aload rfl rfl ?_
      refine w_iload rfl rfl ?_
      refine w_callU rfl (fun _ => rfl) rfl (cU_mono H fun h6 H => ?_)
      refine w_aload rfl rfl ?_
      refine w_iconst rfl ⟨by decide, by decide⟩ ?_
      refine w_putI 27 rfl rfl rfl p_a0 (fun h7 eh7 => ?_)
      replace H := H h7 eh7
      refine w_aload rfl rfl ?_
      refine w_iconst rfl ⟨by decide, by decide⟩ ?_
      refine w_putZ 28 rfl rfl rfl (by decide) p_a0 (fun h8 eh8 => ?_)
      replace H := H h8 eh8
      refine w_aload rfl rfl ?_
      refine w_iconst rfl ⟨by decide, by decide⟩ ?_
      refine w_putI 29 rfl rfl rfl p_a0 (fun h9 eh9 => ?_)
      replace H := H h9 eh9
      refine w_aload rfl rfl ?_
      refine w_callI rfl (fun _ => rfl) rfl (cI_mono H fun v11 h10 H => ?_)
      refine w_istore rfl rfl ?_
      refine w_iload rfl rfl ?_
      refine w_if rfl (And.intro (fun hc => ?_) (fun hc => ?_))
      · replace H := H.1 hc
        exact H
      · replace H := H.2 hc
        refine w_aload rfl rfl ?_
        refine w_getI 18 rfl rfl rfl p_a0 ?_
        refine w_if rfl (And.intro (fun hc => ?_) (fun hc => ?_))
        · replace H := H.1 hc
          exact H
        · replace H := H.2 hc
          refine w_aload rfl rfl ?_
          refine w_iconst rfl ⟨by decide, by decide⟩ ?_
          refine w_callI rfl (fun _ => rfl) rfl (cI_mono H fun v13 h12 H => ?_)
          refine w_istore rfl rfl ?_
          exact H
    · replace H := H.2 hc
      refine w_iconst rfl ⟨by decide, by decide⟩ ?_
      exact w_ireturn rfl H
set_option maxHeartbeats 4000000 in
set_option maxRecDepth 100000 in
theorem r_Model_laysImages_10 {d : Nat} {Q : cm_Q} {h : cm_H} {a0 : Nat} {a1 : Nat} {x2 : Int} {x3 : Int} {x4 : Int} {z5 : Option cm_V} {z6 : Option cm_V} {z7 : Option cm_V} {z8 : Option cm_V} {z9 : Option cm_V} {z10 : Option cm_V} {z11 : Option cm_V} {z12 : Option cm_V} {z13 : Option cm_V}  (H : ((x3 < x4 → Q none h) ∧ (x4 ≤ x3 → (cI d m_Model_many [vR 12 a0, vI x4] h fun v2 h1 => (cI d m_Model_from [vR 12 a0, vI x4] h1 fun v4 h3 => cw d cd_Model_laysImages Q 32 [some (vR 12 a0), some (vR 20 a1), some (vI x2), some (vI x3), some (vI x4), some (vI v2), some (vI v4), z7, z8, z9, z10, z11, z12, z13] [] h3))))) : cw d cd_Model_laysImages Q 10 [some (vR 12 a0), some (vR 20 a1), some (vI x2), some (vI x3), some (vI x4), z5, z6, z7, z8, z9, z10, z11, z12, z13] [] h := by
  refine w_iload rfl rfl ?_
  refine w_iload rfl rfl ?_
  refine w_icmp rfl (And.intro (fun hc => ?_) (fun hc => ?_))
  · replace H := H.1 hc
    exact w_return rfl H
  · replace H := H.2 hc
    refine w_aload rfl rfl ?_
    refine w_iload rfl rfl ?_
    refine w_callI rfl (fun _ => rfl) rfl (cI_mono H fun v2 h1 H => ?_)
    refine w_istore rfl rfl ?_
    refine w_aload rfl rfl ?_
    refine w_iload rfl rfl ?_
    refine w_callI rfl (fun _ => rfl) rfl (cI_mono H fun v4 h3 H => ?_)
    refine w_istore rfl rfl ?_
    exact H
set_option maxHeartbeats 4000000 in
set_option maxRecDepth 100000 in
theorem r_Model_laysImages_32 {d : Nat} {Q : cm_Q} {h : cm_H} {a0 : Nat} {a1 : Nat} {x2 : Int} {x3 : Int} {x4 : Int} {x5 : Int} {x6 : Int} {z7 : Option cm_V} {z8 : Option cm_V} {z9 : Option cm_V} {z10 : Option cm_V} {z11 : Option cm_V} {z12 : Option cm_V} {z13 : Option cm_V} (p_a0 : 0 < a0) (H : (cm_i (x4 + 1) ∧ (cI d m_Model_from [vR 12 a0, vI (x4 + 1)] h fun v3 h2 => ((v3 ≤ x6 → cw d cd_Model_laysImages Q 10 [some (vR 12 a0), some (vR 20 a1), some (vI x2), some (vI x3), some (vI (x4 + 1)), some (vI x5), some (vI x6), z7, z8, z9, z10, z11, z12, z13] [] h2) ∧ (x6 < v3 → (0 < ((ch_R h2 a0 2)) ∧ ((0:Int) ≤ x6 ∧ x6 < ch_L h2 (ch_R h2 a0 2)) ∧ (((ch_I h2 (ch_R h2 a0 2) x6) ≤ 0 → (0 < ((ch_R h2 a0 3)) ∧ ((0:Int) ≤ x6 ∧ x6 < ch_L h2 (ch_R h2 a0 3)) ∧ (((ch_I h2 (ch_R h2 a0 3) x6) ≤ 0 → cw d cd_Model_laysImages Q 74 [some (vR 12 a0), some (vR 20 a1), some (vI x2), some (vI x3), some (vI x4), some (vI x5), some (vI x6), z7, z8, z9, z10, z11, z12, z13] [vI 2] h2) ∧ (0 < (ch_I h2 (ch_R h2 a0 3) x6) → cw d cd_Model_laysImages Q 74 [some (vR 12 a0), some (vR 20 a1), some (vI x2), some (vI x3), some (vI x4), some (vI x5), some (vI x6), z7, z8, z9, z10, z11, z12, z13] [vI 1] h2)))) ∧ (0 < (ch_I h2 (ch_R h2 a0 2) x6) → cw d cd_Model_laysImages Q 74 [some (vR 12 a0), some (vR 20 a1), some (vI x2), some (vI x3), some (vI x4), some (vI x5), some (vI x6), z7, z8, z9, z10, z11, z12, z13] [vI 0] h2)))))))) : cw d cd_Model_laysImages Q 32 [some (vR 12 a0), some (vR 20 a1), some (vI x2), some (vI x3), some (vI x4), some (vI x5), some (vI x6), z7, z8, z9, z10, z11, z12, z13] [] h := by
  refine w_iload rfl rfl ?_
  refine w_aload rfl rfl ?_
  refine w_iload rfl rfl ?_
  refine w_iconst rfl ⟨by decide, by decide⟩ ?_
  have o1 := H.1
  replace H := H.2
  refine w_iadd rfl o1 ?_
  refine w_callI rfl (fun _ => rfl) rfl (cI_mono H fun v3 h2 H => ?_)
  refine w_icmp rfl (And.intro (fun hc => ?_) (fun hc => ?_))
  · replace H := H.1 hc
    refine w_iinc rfl rfl rfl o1 ?_
    refine w_goto rfl ?_
    exact H
  · replace H := H.2 hc
    refine w_aload rfl rfl ?_
    refine w_getR 2 20 rfl rfl rfl rfl p_a0 ?_
    refine w_iload rfl rfl ?_
    have o4 := H.1
    replace H := H.2
    have o5 := H.1
    replace H := H.2
    refine w_iaload rfl o4 o5 ?_
    refine w_if rfl (And.intro (fun hc => ?_) (fun hc => ?_))
    · replace H := H.1 hc
      refine w_aload rfl rfl ?_
      refine w_getR 3 20 rfl rfl rfl rfl p_a0 ?_
      refine w_iload rfl rfl ?_
      have o6 := H.1
      replace H := H.2
      have o7 := H.1
      replace H := H.2
      refine w_iaload rfl o6 o7 ?_
      refine w_if rfl (And.intro (fun hc => ?_) (fun hc => ?_))
      · replace H := H.1 hc
        refine w_iconst rfl ⟨by decide, by decide⟩ ?_
        exact H
      · replace H := H.2 hc
        refine w_iconst rfl ⟨by decide, by decide⟩ ?_
        refine w_goto rfl ?_
        exact H
    · replace H := H.2 hc
      refine w_iconst rfl ⟨by decide, by decide⟩ ?_
      refine w_goto rfl ?_
      exact H
set_option maxHeartbeats 4000000 in
set_option maxRecDepth 100000 in
theorem r_Model_laysImages_74 {d : Nat} {Q : cm_Q} {h : cm_H} {a0 : Nat} {a1 : Nat} {x2 : Int} {x3 : Int} {x4 : Int} {x5 : Int} {x6 : Int} {z7 : Option cm_V} {z8 : Option cm_V} {z9 : Option cm_V} {z10 : Option cm_V} {z11 : Option cm_V} {z12 : Option cm_V} {z13 : Option cm_V} {s0 : Int} (p_a0 : 0 < a0) (H : (0 < ((ch_R h a0 2)) ∧ ((0:Int) ≤ x6 ∧ x6 < ch_L h (ch_R h a0 2)) ∧ ((¬ s0 = 0 → cw d cd_Model_laysImages Q 94 [some (vR 12 a0), some (vR 20 a1), some (vI x2), some (vI x3), some (vI x4), some (vI x5), some (vI x6), some (vI s0), z8, z9, z10, z11, z12, z13] [vI 0, vI (ch_I h (ch_R h a0 2) x6), vR 12 a0] h) ∧ (s0 = 0 → cw d cd_Model_laysImages Q 94 [some (vR 12 a0), some (vR 20 a1), some (vI x2), some (vI x3), some (vI x4), some (vI x5), some (vI x6), some (vI s0), z8, z9, z10, z11, z12, z13] [vI 1, vI (ch_I h (ch_R h a0 2) x6), vR 12 a0] h)))) : cw d cd_Model_laysImages Q 74 [some (vR 12 a0), some (vR 20 a1), some (vI x2), some (vI x3), some (vI x4), some (vI x5), some (vI x6), z7, z8, z9, z10, z11, z12, z13] [vI s0] h := by
  refine w_istore rfl rfl ?_
  refine w_aload rfl rfl ?_
  refine w_aload rfl rfl ?_
  refine w_getR 2 20 rfl rfl rfl rfl p_a0 ?_
  refine w_iload rfl rfl ?_
  have o1 := H.1
  replace H := H.2
  have o2 := H.1
  replace H := H.2
  refine w_iaload rfl o1 o2 ?_
  refine w_iload rfl rfl ?_
  refine w_if rfl (And.intro (fun hc => ?_) (fun hc => ?_))
  · replace H := H.1 hc
    refine w_iconst rfl ⟨by decide, by decide⟩ ?_
    exact H
  · replace H := H.2 hc
    refine w_iconst rfl ⟨by decide, by decide⟩ ?_
    refine w_goto rfl ?_
    exact H
set_option maxHeartbeats 4000000 in
set_option maxRecDepth 100000 in
theorem r_Model_laysImages_94 {d : Nat} {Q : cm_Q} {h : cm_H} {a0 : Nat} {a1 : Nat} {x2 : Int} {x3 : Int} {x4 : Int} {x5 : Int} {x6 : Int} {x7 : Int} {z8 : Option cm_V} {z9 : Option cm_V} {z10 : Option cm_V} {z11 : Option cm_V} {z12 : Option cm_V} {z13 : Option cm_V} {s0 : Int} {s1 : Int} {b2 : Nat} (p_a0 : 0 < a0) (H : (cm_i (s1 - s0) ∧ (0 < ((ch_R h a0 3)) ∧ ((0:Int) ≤ x6 ∧ x6 < ch_L h (ch_R h a0 3)) ∧ ((¬ x7 = 1 → cw d cd_Model_laysImages Q 113 [some (vR 12 a0), some (vR 20 a1), some (vI x2), some (vI x3), some (vI x4), some (vI x5), some (vI x6), some (vI x7), z8, z9, z10, z11, z12, z13] [vI 0, vI (ch_I h (ch_R h a0 3) x6), vI (s1 - s0), vR 12 b2] h) ∧ (x7 = 1 → cw d cd_Model_laysImages Q 113 [some (vR 12 a0), some (vR 20 a1), some (vI x2), some (vI x3), some (vI x4), some (vI x5), some (vI x6), some (vI x7), z8, z9, z10, z11, z12, z13] [vI 1, vI (ch_I h (ch_R h a0 3) x6), vI (s1 - s0), vR 12 b2] h))))) : cw d cd_Model_laysImages Q 94 [some (vR 12 a0), some (vR 20 a1), some (vI x2), some (vI x3), some (vI x4), some (vI x5), some (vI x6), some (vI x7), z8, z9, z10, z11, z12, z13] [vI s0, vI s1, vR 12 b2] h := by
  have o1 := H.1
  replace H := H.2
  refine w_isub rfl o1 ?_
  refine w_aload rfl rfl ?_
  refine w_getR 3 20 rfl rfl rfl rfl p_a0 ?_
  refine w_iload rfl rfl ?_
  have o2 := H.1
  replace H := H.2
  have o3 := H.1
  replace H := H.2
  refine w_iaload rfl o2 o3 ?_
  refine w_iload rfl rfl ?_
  refine w_iconst rfl ⟨by decide, by decide⟩ ?_
  refine w_icmp rfl (And.intro (fun hc => ?_) (fun hc => ?_))
  · replace H := H.1 hc
    refine w_iconst rfl ⟨by decide, by decide⟩ ?_
    exact H
  · replace H := H.2 hc
    refine w_iconst rfl ⟨by decide, by decide⟩ ?_
    refine w_goto rfl ?_
    exact H
set_option maxHeartbeats 4000000 in
set_option maxRecDepth 100000 in
theorem r_Model_laysImages_113 {d : Nat} {Q : cm_Q} {h : cm_H} {a0 : Nat} {a1 : Nat} {x2 : Int} {x3 : Int} {x4 : Int} {x5 : Int} {x6 : Int} {x7 : Int} {z8 : Option cm_V} {z9 : Option cm_V} {z10 : Option cm_V} {z11 : Option cm_V} {z12 : Option cm_V} {z13 : Option cm_V} {s0 : Int} {s1 : Int} {s2 : Int} {b3 : Nat} (p_a0 : 0 < a0) (H : (cm_i (s1 - s0) ∧ (0 < ((ch_R h a0 4)) ∧ ((0:Int) ≤ x6 ∧ x6 < ch_L h (ch_R h a0 4)) ∧ ((¬ x7 = 2 → (cm_i ((ch_I h (ch_R h a0 4) x6) - 0) ∧ (cI d m_Model_at [vR 12 b3, vI s2, vI (s1 - s0), vI ((ch_I h (ch_R h a0 4) x6) - 0)] h fun v6 h5 => cw d cd_Model_laysImages Q 141 [some (vR 12 a0), some (vR 20 a1), some (vI x2), some (vI x3), some (vI x4), some (vI x5), some (vI x6), some (vI x7), some (vI v6), some (vI 0), z10, z11, z12, z13] [] h5))) ∧ (x7 = 2 → (cm_i ((ch_I h (ch_R h a0 4) x6) - 1) ∧ (cI d m_Model_at [vR 12 b3, vI s2, vI (s1 - s0), vI ((ch_I h (ch_R h a0 4) x6) - 1)] h fun v9 h8 => cw d cd_Model_laysImages Q 141 [some (vR 12 a0), some (vR 20 a1), some (vI x2), some (vI x3), some (vI x4), some (vI x5), some (vI x6), some (vI x7), some (vI v9), some (vI 0), z10, z11, z12, z13] [] h8))))))) : cw d cd_Model_laysImages Q 113 [some (vR 12 a0), some (vR 20 a1), some (vI x2), some (vI x3), some (vI x4), some (vI x5), some (vI x6), some (vI x7), z8, z9, z10, z11, z12, z13] [vI s0, vI s1, vI s2, vR 12 b3] h := by
  have o1 := H.1
  replace H := H.2
  refine w_isub rfl o1 ?_
  refine w_aload rfl rfl ?_
  refine w_getR 4 20 rfl rfl rfl rfl p_a0 ?_
  refine w_iload rfl rfl ?_
  have o2 := H.1
  replace H := H.2
  have o3 := H.1
  replace H := H.2
  refine w_iaload rfl o2 o3 ?_
  refine w_iload rfl rfl ?_
  refine w_iconst rfl ⟨by decide, by decide⟩ ?_
  refine w_icmp rfl (And.intro (fun hc => ?_) (fun hc => ?_))
  · replace H := H.1 hc
    refine w_iconst rfl ⟨by decide, by decide⟩ ?_
    have o4 := H.1
    replace H := H.2
    refine w_isub rfl o4 ?_
    refine w_callI rfl (fun _ => rfl) rfl (cI_mono H fun v6 h5 H => ?_)
    refine w_istore rfl rfl ?_
    refine w_iconst rfl ⟨by decide, by decide⟩ ?_
    refine w_istore rfl rfl ?_
    exact H
  · replace H := H.2 hc
    refine w_iconst rfl ⟨by decide, by decide⟩ ?_
    refine w_goto rfl ?_
    have o7 := H.1
    replace H := H.2
    refine w_isub rfl o7 ?_
    refine w_callI rfl (fun _ => rfl) rfl (cI_mono H fun v9 h8 H => ?_)
    refine w_istore rfl rfl ?_
    refine w_iconst rfl ⟨by decide, by decide⟩ ?_
    refine w_istore rfl rfl ?_
    exact H
set_option maxHeartbeats 4000000 in
set_option maxRecDepth 100000 in
theorem r_Model_laysImages_141 {d : Nat} {Q : cm_Q} {h : cm_H} {a0 : Nat} {a1 : Nat} {x2 : Int} {x3 : Int} {x4 : Int} {x5 : Int} {x6 : Int} {x7 : Int} {x8 : Int} {x9 : Int} {z10 : Option cm_V} {z11 : Option cm_V} {z12 : Option cm_V} {z13 : Option cm_V} (p_a0 : 0 < a0) (H : ((x5 ≤ x9 → cw d cd_Model_laysImages Q 172 [some (vR 12 a0), some (vR 20 a1), some (vI x2), some (vI x3), some (vI x4), some (vI x5), some (vI x6), some (vI x7), some (vI x8), some (vI 0), z10, z11, z12, z13] [] h) ∧ (x9 < x5 → (cm_i (136 * x6) ∧ (cm_i ((136 * x6) + x9) ∧ (0 < ((ch_R h a0 30)) ∧ ((0:Int) ≤ ((136 * x6) + x9) ∧ ((136 * x6) + x9) < ch_L h (ch_R h a0 30)) ∧ (∀ h5 : cm_H, h5 = ch_u h (ch_R h a0 30) ((136 * x6) + x9) 0 → (cm_i (x9 + 1) ∧ cw d cd_Model_laysImages Q 141 [some (vR 12 a0), some (vR 20 a1), some (vI x2), some (vI x3), some (vI x4), some (vI x5), some (vI x6), some (vI x7), some (vI x8), some (vI (x9 + 1)), z10, z11, z12, z13] [] h5)))))))) : cw d cd_Model_laysImages Q 141 [some (vR 12 a0), some (vR 20 a1), some (vI x2), some (vI x3), some (vI x4), some (vI x5), some (vI x6), some (vI x7), some (vI x8), some (vI x9), z10, z11, z12, z13] [] h := by
  refine w_iload rfl rfl ?_
  refine w_iload rfl rfl ?_
  refine w_icmp rfl (And.intro (fun hc => ?_) (fun hc => ?_))
  · replace H := H.1 hc
    refine w_iconst rfl ⟨by decide, by decide⟩ ?_
    refine w_istore rfl rfl ?_
    exact H
  · replace H := H.2 hc
    refine w_aload rfl rfl ?_
    refine w_getR 30 20 rfl rfl rfl rfl p_a0 ?_
    refine w_iconst rfl ⟨by decide, by decide⟩ ?_
    refine w_iload rfl rfl ?_
    have o1 := H.1
    replace H := H.2
    refine w_imul rfl o1 ?_
    refine w_iload rfl rfl ?_
    have o2 := H.1
    replace H := H.2
    refine w_iadd rfl o2 ?_
    refine w_iconst rfl ⟨by decide, by decide⟩ ?_
    have o3 := H.1
    replace H := H.2
    have o4 := H.1
    replace H := H.2
    refine w_iastore rfl o3 o4 (fun h5 eh5 => ?_)
    replace H := H h5 eh5
    have o6 := H.1
    replace H := H.2
    refine w_iinc rfl rfl rfl o6 ?_
    refine w_goto rfl ?_
    exact H
set_option maxHeartbeats 4000000 in
set_option maxRecDepth 100000 in
theorem r_Model_laysImages_172 {d : Nat} {Q : cm_Q} {h : cm_H} {a0 : Nat} {a1 : Nat} {x2 : Int} {x3 : Int} {x4 : Int} {x5 : Int} {x6 : Int} {x7 : Int} {x8 : Int} {x9 : Int} {z10 : Option cm_V} {z11 : Option cm_V} {z12 : Option cm_V} {z13 : Option cm_V} (p_a0 : 0 < a0) (H : (cm_i (x4 - 1) ∧ (cI d m_Model_many [vR 12 a0, vI (x4 - 1)] h fun v3 h2 => ((v3 ≤ x9 → (cm_i (x6 + 1) ∧ cw d cd_Model_laysImages Q 32 [some (vR 12 a0), some (vR 20 a1), some (vI x2), some (vI x3), some (vI x4), some (vI x5), some (vI (x6 + 1)), some (vI x7), some (vI x8), some (vI x9), z10, z11, z12, z13] [] h2)) ∧ (x9 < v3 → (cm_i (136 * x8) ∧ (cm_i ((136 * x8) + x9) ∧ (0 < ((ch_R h2 a0 30)) ∧ ((0:Int) ≤ ((136 * x8) + x9) ∧ ((136 * x8) + x9) < ch_L h2 (ch_R h2 a0 30)) ∧ (cI d m_Model_from [vR 12 a0, vI (x4 - 1)] h2 fun v10 h9 => (cm_i (v10 + x9) ∧ cw d cd_Model_laysImages Q 217 [some (vR 12 a0), some (vR 20 a1), some (vI x2), some (vI x3), some (vI x4), some (vI x5), some (vI x6), some (vI x7), some (vI x8), some (vI x9), some (vI (ch_I h2 (ch_R h2 a0 30) ((136 * x8) + x9))), some (vI (v10 + x9)), some (vI 0), z13] [] h9)))))))))) : cw d cd_Model_laysImages Q 172 [some (vR 12 a0), some (vR 20 a1), some (vI x2), some (vI x3), some (vI x4), some (vI x5), some (vI x6), some (vI x7), some (vI x8), some (vI x9), z10, z11, z12, z13] [] h := by
  refine w_iload rfl rfl ?_
  refine w_aload rfl rfl ?_
  refine w_iload rfl rfl ?_
  refine w_iconst rfl ⟨by decide, by decide⟩ ?_
  have o1 := H.1
  replace H := H.2
  refine w_isub rfl o1 ?_
  refine w_callI rfl (fun _ => rfl) rfl (cI_mono H fun v3 h2 H => ?_)
  refine w_icmp rfl (And.intro (fun hc => ?_) (fun hc => ?_))
  · replace H := H.1 hc
    have o4 := H.1
    replace H := H.2
    refine w_iinc rfl rfl rfl o4 ?_
    refine w_goto rfl ?_
    exact H
  · replace H := H.2 hc
    refine w_aload rfl rfl ?_
    refine w_getR 30 20 rfl rfl rfl rfl p_a0 ?_
    refine w_iconst rfl ⟨by decide, by decide⟩ ?_
    refine w_iload rfl rfl ?_
    have o5 := H.1
    replace H := H.2
    refine w_imul rfl o5 ?_
    refine w_iload rfl rfl ?_
    have o6 := H.1
    replace H := H.2
    refine w_iadd rfl o6 ?_
    have o7 := H.1
    replace H := H.2
    have o8 := H.1
    replace H := H.2
    refine w_iaload rfl o7 o8 ?_
    refine w_istore rfl rfl ?_
    refine w_aload rfl rfl ?_
    refine w_iload rfl rfl ?_
    refine w_iconst rfl ⟨by decide, by decide⟩ ?_
    refine w_isub rfl o1 ?_
    refine w_callI rfl (fun _ => rfl) rfl (cI_mono H fun v10 h9 H => ?_)
    refine w_iload rfl rfl ?_
    have o11 := H.1
    replace H := H.2
    refine w_iadd rfl o11 ?_
    refine w_istore rfl rfl ?_
    refine w_iconst rfl ⟨by decide, by decide⟩ ?_
    refine w_istore rfl rfl ?_
    exact H
set_option maxHeartbeats 4000000 in
set_option maxRecDepth 100000 in
theorem r_Model_laysImages_217 {d : Nat} {Q : cm_Q} {h : cm_H} {a0 : Nat} {a1 : Nat} {x2 : Int} {x3 : Int} {x4 : Int} {x5 : Int} {x6 : Int} {x7 : Int} {x8 : Int} {x9 : Int} {x10 : Int} {x11 : Int} {x12 : Int} {z13 : Option cm_V} (p_a0 : 0 < a0) (H : (((ch_I h a0 1) ≤ x12 → (cm_i (x9 + 1) ∧ cw d cd_Model_laysImages Q 172 [some (vR 12 a0), some (vR 20 a1), some (vI x2), some (vI x3), some (vI x4), some (vI x5), some (vI x6), some (vI x7), some (vI x8), some (vI (x9 + 1)), some (vI x10), some (vI x11), some (vI x12), z13] [] h)) ∧ (x12 < (ch_I h a0 1) → ((x10 = 0 → (cm_i (x9 + 1) ∧ cw d cd_Model_laysImages Q 172 [some (vR 12 a0), some (vR 20 a1), some (vI x2), some (vI x3), some (vI x4), some (vI x5), some (vI x6), some (vI x7), some (vI x8), some (vI (x9 + 1)), some (vI x10), some (vI x11), some (vI x12), z13] [] h)) ∧ (¬ x10 = 0 → (0 < ((ch_R h a0 2)) ∧ ((0:Int) ≤ x11 ∧ x11 < ch_L h (ch_R h a0 2)) ∧ ((¬ x12 = 0 → cw d cd_Model_laysImages Q 249 [some (vR 12 a0), some (vR 20 a1), some (vI x2), some (vI x3), some (vI x4), some (vI x5), some (vI x6), some (vI x7), some (vI x8), some (vI x9), some (vI x10), some (vI x11), some (vI x12), z13] [vI 0, vI (ch_I h (ch_R h a0 2) x11), vR 12 a0] h) ∧ (x12 = 0 → cw d cd_Model_laysImages Q 249 [some (vR 12 a0), some (vR 20 a1), some (vI x2), some (vI x3), some (vI x4), some (vI x5), some (vI x6), some (vI x7), some (vI x8), some (vI x9), some (vI x10), some (vI x11), some (vI x12), z13] [vI 1, vI (ch_I h (ch_R h a0 2) x11), vR 12 a0] h)))))))) : cw d cd_Model_laysImages Q 217 [some (vR 12 a0), some (vR 20 a1), some (vI x2), some (vI x3), some (vI x4), some (vI x5), some (vI x6), some (vI x7), some (vI x8), some (vI x9), some (vI x10), some (vI x11), some (vI x12), z13] [] h := by
  refine w_iload rfl rfl ?_
  refine w_aload rfl rfl ?_
  refine w_getI 1 rfl rfl rfl p_a0 ?_
  refine w_icmp rfl (And.intro (fun hc => ?_) (fun hc => ?_))
  · replace H := H.1 hc
    have o1 := H.1
    replace H := H.2
    refine w_iinc rfl rfl rfl o1 ?_
    refine w_goto rfl ?_
    exact H
  · replace H := H.2 hc
    refine w_iload rfl rfl ?_
    refine w_if rfl (And.intro (fun hc => ?_) (fun hc => ?_))
    · replace H := H.1 hc
      have o2 := H.1
      replace H := H.2
      refine w_iinc rfl rfl rfl o2 ?_
      refine w_goto rfl ?_
      exact H
    · replace H := H.2 hc
      refine w_aload rfl rfl ?_
      refine w_aload rfl rfl ?_
      refine w_getR 2 20 rfl rfl rfl rfl p_a0 ?_
      refine w_iload rfl rfl ?_
      have o3 := H.1
      replace H := H.2
      have o4 := H.1
      replace H := H.2
      refine w_iaload rfl o3 o4 ?_
      refine w_iload rfl rfl ?_
      refine w_if rfl (And.intro (fun hc => ?_) (fun hc => ?_))
      · replace H := H.1 hc
        refine w_iconst rfl ⟨by decide, by decide⟩ ?_
        exact H
      · replace H := H.2 hc
        refine w_iconst rfl ⟨by decide, by decide⟩ ?_
        refine w_goto rfl ?_
        exact H
set_option maxHeartbeats 4000000 in
set_option maxRecDepth 100000 in
theorem r_Model_laysImages_249 {d : Nat} {Q : cm_Q} {h : cm_H} {a0 : Nat} {a1 : Nat} {x2 : Int} {x3 : Int} {x4 : Int} {x5 : Int} {x6 : Int} {x7 : Int} {x8 : Int} {x9 : Int} {x10 : Int} {x11 : Int} {x12 : Int} {z13 : Option cm_V} {s0 : Int} {s1 : Int} {b2 : Nat} (p_a0 : 0 < a0) (H : (cm_i (s1 + s0) ∧ (0 < ((ch_R h a0 3)) ∧ ((0:Int) ≤ x11 ∧ x11 < ch_L h (ch_R h a0 3)) ∧ ((¬ x12 = 1 → cw d cd_Model_laysImages Q 268 [some (vR 12 a0), some (vR 20 a1), some (vI x2), some (vI x3), some (vI x4), some (vI x5), some (vI x6), some (vI x7), some (vI x8), some (vI x9), some (vI x10), some (vI x11), some (vI x12), z13] [vI 0, vI (ch_I h (ch_R h a0 3) x11), vI (s1 + s0), vR 12 b2] h) ∧ (x12 = 1 → cw d cd_Model_laysImages Q 268 [some (vR 12 a0), some (vR 20 a1), some (vI x2), some (vI x3), some (vI x4), some (vI x5), some (vI x6), some (vI x7), some (vI x8), some (vI x9), some (vI x10), some (vI x11), some (vI x12), z13] [vI 1, vI (ch_I h (ch_R h a0 3) x11), vI (s1 + s0), vR 12 b2] h))))) : cw d cd_Model_laysImages Q 249 [some (vR 12 a0), some (vR 20 a1), some (vI x2), some (vI x3), some (vI x4), some (vI x5), some (vI x6), some (vI x7), some (vI x8), some (vI x9), some (vI x10), some (vI x11), some (vI x12), z13] [vI s0, vI s1, vR 12 b2] h := by
  have o1 := H.1
  replace H := H.2
  refine w_iadd rfl o1 ?_
  refine w_aload rfl rfl ?_
  refine w_getR 3 20 rfl rfl rfl rfl p_a0 ?_
  refine w_iload rfl rfl ?_
  have o2 := H.1
  replace H := H.2
  have o3 := H.1
  replace H := H.2
  refine w_iaload rfl o2 o3 ?_
  refine w_iload rfl rfl ?_
  refine w_iconst rfl ⟨by decide, by decide⟩ ?_
  refine w_icmp rfl (And.intro (fun hc => ?_) (fun hc => ?_))
  · replace H := H.1 hc
    refine w_iconst rfl ⟨by decide, by decide⟩ ?_
    exact H
  · replace H := H.2 hc
    refine w_iconst rfl ⟨by decide, by decide⟩ ?_
    refine w_goto rfl ?_
    exact H
set_option maxHeartbeats 4000000 in
set_option maxRecDepth 100000 in
theorem r_Model_laysImages_268 {d : Nat} {Q : cm_Q} {h : cm_H} {a0 : Nat} {a1 : Nat} {x2 : Int} {x3 : Int} {x4 : Int} {x5 : Int} {x6 : Int} {x7 : Int} {x8 : Int} {x9 : Int} {x10 : Int} {x11 : Int} {x12 : Int} {z13 : Option cm_V} {s0 : Int} {s1 : Int} {s2 : Int} {b3 : Nat} (p_a0 : 0 < a0) (H : (cm_i (s1 + s0) ∧ (0 < ((ch_R h a0 4)) ∧ ((0:Int) ≤ x11 ∧ x11 < ch_L h (ch_R h a0 4)) ∧ ((¬ x12 = 2 → cw d cd_Model_laysImages Q 287 [some (vR 12 a0), some (vR 20 a1), some (vI x2), some (vI x3), some (vI x4), some (vI x5), some (vI x6), some (vI x7), some (vI x8), some (vI x9), some (vI x10), some (vI x11), some (vI x12), z13] [vI 0, vI (ch_I h (ch_R h a0 4) x11), vI (s1 + s0), vI s2, vR 12 b3] h) ∧ (x12 = 2 → cw d cd_Model_laysImages Q 287 [some (vR 12 a0), some (vR 20 a1), some (vI x2), some (vI x3), some (vI x4), some (vI x5), some (vI x6), some (vI x7), some (vI x8), some (vI x9), some (vI x10), some (vI x11), some (vI x12), z13] [vI 1, vI (ch_I h (ch_R h a0 4) x11), vI (s1 + s0), vI s2, vR 12 b3] h))))) : cw d cd_Model_laysImages Q 268 [some (vR 12 a0), some (vR 20 a1), some (vI x2), some (vI x3), some (vI x4), some (vI x5), some (vI x6), some (vI x7), some (vI x8), some (vI x9), some (vI x10), some (vI x11), some (vI x12), z13] [vI s0, vI s1, vI s2, vR 12 b3] h := by
  have o1 := H.1
  replace H := H.2
  refine w_iadd rfl o1 ?_
  refine w_aload rfl rfl ?_
  refine w_getR 4 20 rfl rfl rfl rfl p_a0 ?_
  refine w_iload rfl rfl ?_
  have o2 := H.1
  replace H := H.2
  have o3 := H.1
  replace H := H.2
  refine w_iaload rfl o2 o3 ?_
  refine w_iload rfl rfl ?_
  refine w_iconst rfl ⟨by decide, by decide⟩ ?_
  refine w_icmp rfl (And.intro (fun hc => ?_) (fun hc => ?_))
  · replace H := H.1 hc
    refine w_iconst rfl ⟨by decide, by decide⟩ ?_
    exact H
  · replace H := H.2 hc
    refine w_iconst rfl ⟨by decide, by decide⟩ ?_
    refine w_goto rfl ?_
    exact H
set_option maxHeartbeats 4000000 in
set_option maxRecDepth 100000 in
theorem r_Model_laysImages_287 {d : Nat} {Q : cm_Q} {h : cm_H} {a0 : Nat} {a1 : Nat} {x2 : Int} {x3 : Int} {x4 : Int} {x5 : Int} {x6 : Int} {x7 : Int} {x8 : Int} {x9 : Int} {x10 : Int} {x11 : Int} {x12 : Int} {z13 : Option cm_V} {s0 : Int} {s1 : Int} {s2 : Int} {s3 : Int} {b4 : Nat} (p_a0 : 0 < a0) (H : (cm_i (s1 + s0) ∧ (cI d m_Model_at [vR 12 b4, vI s3, vI s2, vI (s1 + s0)] h fun v3 h2 => (cI d m_Model_from [vR 12 a0, vI x4] h2 fun v5 h4 => (cm_i (v3 - v5) ∧ (cm_i (136 * x6) ∧ (cm_i ((136 * x6) + (v3 - v5)) ∧ (0 < ((ch_R h4 a0 30)) ∧ ((0:Int) ≤ ((136 * x6) + (v3 - v5)) ∧ ((136 * x6) + (v3 - v5)) < ch_L h4 (ch_R h4 a0 30)) ∧ (cI d m_Model_entry [vR 12 a0, vR 20 a1, vI x2, vI x7, vI x12] h4 fun v12 h11 => (cm_i (x10 * v12) ∧ (cm_i ((ch_I h4 (ch_R h4 a0 30) ((136 * x6) + (v3 - v5))) + (x10 * v12)) ∧ ((0:Int) ≤ ((136 * x6) + (v3 - v5)) ∧ ((136 * x6) + (v3 - v5)) < ch_L h11 (ch_R h4 a0 30)) ∧ (∀ h16 : cm_H, h16 = ch_u h11 (ch_R h4 a0 30) ((136 * x6) + (v3 - v5)) (Int.tmod ((ch_I h4 (ch_R h4 a0 30) ((136 * x6) + (v3 - v5))) + (x10 * v12)) 2521) → (cm_i (x12 + 1) ∧ cw d cd_Model_laysImages Q 217 [some (vR 12 a0), some (vR 20 a1), some (vI x2), some (vI x3), some (vI x4), some (vI x5), some (vI x6), some (vI x7), some (vI x8), some (vI x9), some (vI x10), some (vI x11), some (vI (x12 + 1)), some (vI (v3 - v5))] [] h16))))))))))))) : cw d cd_Model_laysImages Q 287 [some (vR 12 a0), some (vR 20 a1), some (vI x2), some (vI x3), some (vI x4), some (vI x5), some (vI x6), some (vI x7), some (vI x8), some (vI x9), some (vI x10), some (vI x11), some (vI x12), z13] [vI s0, vI s1, vI s2, vI s3, vR 12 b4] h := by
  have o1 := H.1
  replace H := H.2
  refine w_iadd rfl o1 ?_
  refine w_callI rfl (fun _ => rfl) rfl (cI_mono H fun v3 h2 H => ?_)
  refine w_aload rfl rfl ?_
  refine w_iload rfl rfl ?_
  refine w_callI rfl (fun _ => rfl) rfl (cI_mono H fun v5 h4 H => ?_)
  have o6 := H.1
  replace H := H.2
  refine w_isub rfl o6 ?_
  refine w_istore rfl rfl ?_
  refine w_aload rfl rfl ?_
  refine w_getR 30 20 rfl rfl rfl rfl p_a0 ?_
  refine w_iconst rfl ⟨by decide, by decide⟩ ?_
  refine w_iload rfl rfl ?_
  have o7 := H.1
  replace H := H.2
  refine w_imul rfl o7 ?_
  refine w_iload rfl rfl ?_
  have o8 := H.1
  replace H := H.2
  refine w_iadd rfl o8 ?_
  refine w_aload rfl rfl ?_
  refine w_getR 30 20 rfl rfl rfl rfl p_a0 ?_
  refine w_iconst rfl ⟨by decide, by decide⟩ ?_
  refine w_iload rfl rfl ?_
  refine w_imul rfl o7 ?_
  refine w_iload rfl rfl ?_
  refine w_iadd rfl o8 ?_
  have o9 := H.1
  replace H := H.2
  have o10 := H.1
  replace H := H.2
  refine w_iaload rfl o9 o10 ?_
  refine w_iload rfl rfl ?_
  refine w_aload rfl rfl ?_
  refine w_aload rfl rfl ?_
  refine w_iload rfl rfl ?_
  refine w_iload rfl rfl ?_
  refine w_iload rfl rfl ?_
  refine w_callI rfl (fun _ => rfl) rfl (cI_mono H fun v12 h11 H => ?_)
  have o13 := H.1
  replace H := H.2
  refine w_imul rfl o13 ?_
  have o14 := H.1
  replace H := H.2
  refine w_iadd rfl o14 ?_
  refine w_iconst rfl ⟨by decide, by decide⟩ ?_
  refine w_irem rfl (by decide) ?_
  have o15 := H.1
  replace H := H.2
  refine w_iastore rfl o9 o15 (fun h16 eh16 => ?_)
  replace H := H h16 eh16
  have o17 := H.1
  replace H := H.2
  refine w_iinc rfl rfl rfl o17 ?_
  refine w_goto rfl ?_
  exact H
set_option maxHeartbeats 4000000 in
set_option maxRecDepth 100000 in
theorem r_Model_laysImages {d : Nat} {Q : cm_Q} {h : cm_H} {a0 : Nat} {a1 : Nat} {x2 : Int} {x3 : Int} (p_a0 : 0 < a0) (H : (0 < ((ch_R h a0 30)) ∧ ((0:Int) ≤ 0 ∧ 0 < ch_L h (ch_R h a0 30)) ∧ (∀ h3 : cm_H, h3 = ch_u h (ch_R h a0 30) 0 1 → cw d cd_Model_laysImages Q 10 [some (vR 12 a0), some (vR 20 a1), some (vI x2), some (vI x3), some (vI 1), none, none, none, none, none, none, none, none, none] [] h3))) : cm_call (d + 1) m_Model_laysImages [vR 12 a0, vR 20 a1, vI x2, vI x3] h Q := by
  refine cm_call_in (C := cd_Model_laysImages) (ls := [some (vR 12 a0), some (vR 20 a1), some (vI x2), some (vI x3), none, none, none, none, none, none, none, none, none, none]) rfl rfl p_a0 rfl ?_
  refine w_aload rfl rfl ?_
  refine w_getR 30 20 rfl rfl rfl rfl p_a0 ?_
  refine w_iconst rfl ⟨by decide, by decide⟩ ?_
  refine w_iconst rfl ⟨by decide, by decide⟩ ?_
  have o1 := H.1
  replace H := H.2
  have o2 := H.1
  replace H := H.2
  refine w_iastore rfl o1 o2 (fun h3 eh3 => ?_)
  replace H := H h3 eh3
  refine w_iconst rfl ⟨by decide, by decide⟩ ?_
  refine w_istore rfl rfl ?_
  exact H
set_option maxHeartbeats 4000000 in
set_option maxRecDepth 100000 in
theorem r_Model_moves_26 {d : Nat} {Q : cm_Q} {h : cm_H} {a0 : Nat} {a1 : Nat} {x2 : Int} {z3 : Option cm_V} {z4 : Option cm_V} {a5 : Nat} {x6 : Int} {x7 : Int} {z8 : Option cm_V} {z9 : Option cm_V} (p_a1 : 0 < a1) (H : (cm_i (x6 + 1) ∧ (cI d m_Model_from [vR 12 a0, vI (x6 + 1)] h fun v3 h2 => ((v3 ≤ x7 → Q none h2) ∧ (x7 < v3 → (cm_i (x2 + x7) ∧ ((0:Int) ≤ (x2 + x7) ∧ (x2 + x7) < ch_L h2 a1) ∧ (((ch_I h2 a1 (x2 + x7)) = 0 → (cm_i (x7 + 1) ∧ cw d cd_Model_moves Q 26 [some (vR 12 a0), some (vR 20 a1), some (vI x2), z3, z4, some (vR 20 a5), some (vI x6), some (vI (x7 + 1)), z8, z9] [] h2)) ∧ (¬ (ch_I h2 a1 (x2 + x7)) = 0 → (cI d m_Model_degreeAt [vR 12 a0, vI x7] h2 fun v8 h7 => cw d cd_Model_moves Q 59 [some (vR 12 a0), some (vR 20 a1), some (vI x2), z3, z4, some (vR 20 a5), some (vI x6), some (vI x7), some (vI v8), some (vI 0)] [] h7))))))))) : cw d cd_Model_moves Q 26 [some (vR 12 a0), some (vR 20 a1), some (vI x2), z3, z4, some (vR 20 a5), some (vI x6), some (vI x7), z8, z9] [] h := by
  refine w_iload rfl rfl ?_
  refine w_aload rfl rfl ?_
  refine w_iload rfl rfl ?_
  refine w_iconst rfl ⟨by decide, by decide⟩ ?_
  have o1 := H.1
  replace H := H.2
  refine w_iadd rfl o1 ?_
  refine w_callI rfl (fun _ => rfl) rfl (cI_mono H fun v3 h2 H => ?_)
  refine w_icmp rfl (And.intro (fun hc => ?_) (fun hc => ?_))
  · replace H := H.1 hc
    exact w_return rfl H
  · replace H := H.2 hc
    refine w_aload rfl rfl ?_
    refine w_iload rfl rfl ?_
    refine w_iload rfl rfl ?_
    have o4 := H.1
    replace H := H.2
    refine w_iadd rfl o4 ?_
    have o5 := H.1
    replace H := H.2
    refine w_iaload rfl p_a1 o5 ?_
    refine w_if rfl (And.intro (fun hc => ?_) (fun hc => ?_))
    · replace H := H.1 hc
      have o6 := H.1
      replace H := H.2
      refine w_iinc rfl rfl rfl o6 ?_
      refine w_goto rfl ?_
      exact H
    · replace H := H.2 hc
      refine w_aload rfl rfl ?_
      refine w_iload rfl rfl ?_
      refine w_callI rfl (fun _ => rfl) rfl (cI_mono H fun v8 h7 H => ?_)
      refine w_istore rfl rfl ?_
      refine w_iconst rfl ⟨by decide, by decide⟩ ?_
      refine w_istore rfl rfl ?_
      exact H
set_option maxHeartbeats 4000000 in
set_option maxRecDepth 100000 in
theorem r_Model_moves_59 {d : Nat} {Q : cm_Q} {h : cm_H} {a0 : Nat} {a1 : Nat} {x2 : Int} {z3 : Option cm_V} {z4 : Option cm_V} {a5 : Nat} {x6 : Int} {x7 : Int} {x8 : Int} {x9 : Int} (p_a5 : 0 < a5) (p_a1 : 0 < a1) (p_a0 : 0 < a0) (H : (cI d m_Model_many [vR 12 a0, vI x8] h fun v2 h1 => ((v2 ≤ x9 → (cm_i (x7 + 1) ∧ cw d cd_Model_moves Q 26 [some (vR 12 a0), some (vR 20 a1), some (vI x2), z3, z4, some (vR 20 a5), some (vI x6), some (vI (x7 + 1)), some (vI x8), some (vI x9)] [] h1)) ∧ (x9 < v2 → (cI d m_Model_from [vR 12 a0, vI x8] h1 fun v5 h4 => (cm_i (v5 + x9) ∧ (cI d m_Model_from [vR 12 a0, vI x8] h4 fun v8 h7 => (cm_i (v8 + x9) ∧ ((0:Int) ≤ (v8 + x9) ∧ (v8 + x9) < ch_L h7 a5) ∧ (cm_i (x2 + x7) ∧ ((0:Int) ≤ (x2 + x7) ∧ (x2 + x7) < ch_L h7 a1) ∧ (cm_i (136 * x7) ∧ (cm_i ((136 * x7) + x9) ∧ (0 < ((ch_R h7 a0 30)) ∧ ((0:Int) ≤ ((136 * x7) + x9) ∧ ((136 * x7) + x9) < ch_L h7 (ch_R h7 a0 30)) ∧ (cm_i ((ch_I h7 a1 (x2 + x7)) * (ch_I h7 (ch_R h7 a0 30) ((136 * x7) + x9))) ∧ (cm_i ((ch_I h7 a5 (v8 + x9)) + ((ch_I h7 a1 (x2 + x7)) * (ch_I h7 (ch_R h7 a0 30) ((136 * x7) + x9)))) ∧ ((0:Int) ≤ (v5 + x9) ∧ (v5 + x9) < ch_L h7 a5) ∧ (∀ h20 : cm_H, h20 = ch_u h7 a5 (v5 + x9) (Int.tmod ((ch_I h7 a5 (v8 + x9)) + ((ch_I h7 a1 (x2 + x7)) * (ch_I h7 (ch_R h7 a0 30) ((136 * x7) + x9)))) 2521) → (cm_i (x9 + 1) ∧ cw d cd_Model_moves Q 59 [some (vR 12 a0), some (vR 20 a1), some (vI x2), z3, z4, some (vR 20 a5), some (vI x6), some (vI x7), some (vI x8), some (vI (x9 + 1))] [] h20)))))))))))))))) : cw d cd_Model_moves Q 59 [some (vR 12 a0), some (vR 20 a1), some (vI x2), z3, z4, some (vR 20 a5), some (vI x6), some (vI x7), some (vI x8), some (vI x9)] [] h := by
  refine w_iload rfl rfl ?_
  refine w_aload rfl rfl ?_
  refine w_iload rfl rfl ?_
  refine w_callI rfl (fun _ => rfl) rfl (cI_mono H fun v2 h1 H => ?_)
  refine w_icmp rfl (And.intro (fun hc => ?_) (fun hc => ?_))
  · replace H := H.1 hc
    have o3 := H.1
    replace H := H.2
    refine w_iinc rfl rfl rfl o3 ?_
    refine w_goto rfl ?_
    exact H
  · replace H := H.2 hc
    refine w_aload rfl rfl ?_
    refine w_aload rfl rfl ?_
    refine w_iload rfl rfl ?_
    refine w_callI rfl (fun _ => rfl) rfl (cI_mono H fun v5 h4 H => ?_)
    refine w_iload rfl rfl ?_
    have o6 := H.1
    replace H := H.2
    refine w_iadd rfl o6 ?_
    refine w_aload rfl rfl ?_
    refine w_aload rfl rfl ?_
    refine w_iload rfl rfl ?_
    refine w_callI rfl (fun _ => rfl) rfl (cI_mono H fun v8 h7 H => ?_)
    refine w_iload rfl rfl ?_
    have o9 := H.1
    replace H := H.2
    refine w_iadd rfl o9 ?_
    have o10 := H.1
    replace H := H.2
    refine w_iaload rfl p_a5 o10 ?_
    refine w_aload rfl rfl ?_
    refine w_iload rfl rfl ?_
    refine w_iload rfl rfl ?_
    have o11 := H.1
    replace H := H.2
    refine w_iadd rfl o11 ?_
    have o12 := H.1
    replace H := H.2
    refine w_iaload rfl p_a1 o12 ?_
    refine w_aload rfl rfl ?_
    refine w_getR 30 20 rfl rfl rfl rfl p_a0 ?_
    refine w_iconst rfl ⟨by decide, by decide⟩ ?_
    refine w_iload rfl rfl ?_
    have o13 := H.1
    replace H := H.2
    refine w_imul rfl o13 ?_
    refine w_iload rfl rfl ?_
    have o14 := H.1
    replace H := H.2
    refine w_iadd rfl o14 ?_
    have o15 := H.1
    replace H := H.2
    have o16 := H.1
    replace H := H.2
    refine w_iaload rfl o15 o16 ?_
    have o17 := H.1
    replace H := H.2
    refine w_imul rfl o17 ?_
    have o18 := H.1
    replace H := H.2
    refine w_iadd rfl o18 ?_
    refine w_iconst rfl ⟨by decide, by decide⟩ ?_
    refine w_irem rfl (by decide) ?_
    have o19 := H.1
    replace H := H.2
    refine w_iastore rfl p_a5 o19 (fun h20 eh20 => ?_)
    replace H := H h20 eh20
    have o21 := H.1
    replace H := H.2
    refine w_iinc rfl rfl rfl o21 ?_
    refine w_goto rfl ?_
    exact H
set_option maxHeartbeats 4000000 in
set_option maxRecDepth 100000 in
theorem r_Model_moves {d : Nat} {Q : cm_Q} {h : cm_H} {a0 : Nat} {a1 : Nat} {x2 : Int} {a3 : Nat} {x4 : Int} {a5 : Nat} (p_a0 : 0 < a0) (H : (cI d m_Model_degree [vR 12 a0, vR 20 a1, vI x2] h fun v2 h1 => (cU d m_Model_laysImages [vR 12 a0, vR 20 a3, vI x4, vI v2] h1 fun h3 => (cU d m_Model_clears [vR 20 a5, vI 0] h3 fun h4 => cw d cd_Model_moves Q 26 [some (vR 12 a0), some (vR 20 a1), some (vI x2), some (vR 20 a3), some (vI x4), some (vR 20 a5), some (vI v2), some (vI 0), none, none] [] h4)))) : cm_call (d + 1) m_Model_moves [vR 12 a0, vR 20 a1, vI x2, vR 20 a3, vI x4, vR 20 a5] h Q := by
  refine cm_call_in (C := cd_Model_moves) (ls := [some (vR 12 a0), some (vR 20 a1), some (vI x2), some (vR 20 a3), some (vI x4), some (vR 20 a5), none, none, none, none]) rfl rfl p_a0 rfl ?_
  refine w_aload rfl rfl ?_
  refine w_aload rfl rfl ?_
  refine w_iload rfl rfl ?_
  refine w_callI rfl (fun _ => rfl) rfl (cI_mono H fun v2 h1 H => ?_)
  refine w_istore rfl rfl ?_
  refine w_aload rfl rfl ?_
  refine w_aload rfl rfl ?_
  refine w_iload rfl rfl ?_
  refine w_iload rfl rfl ?_
  refine w_callU rfl (fun _ => rfl) rfl (cU_mono H fun h3 H => ?_)
  refine w_aload rfl rfl ?_
  refine w_iconst rfl ⟨by decide, by decide⟩ ?_
  refine w_callU rfl (fun _ => rfl) rfl (cU_mono H fun h4 H => ?_)
  refine w_iconst rfl ⟨by decide, by decide⟩ ?_
  refine w_istore rfl rfl ?_
  exact H
set_option maxHeartbeats 4000000 in
set_option maxRecDepth 100000 in
theorem r_Model_isAlone_2 {d : Nat} {Q : cm_Q} {h : cm_H} {a0 : Nat} {a1 : Nat} {x2 : Int} {x3 : Int} {z4 : Option cm_V} (p_a0 : 0 < a0) (H : (((ch_I h a0 9) ≤ x3 → Q (some (vI 1)) h) ∧ (x3 < (ch_I h a0 9) → (cU d m_Model_moves [vR 12 a0, vR 20 a1, vI x2, vR 20 (ch_R h a0 10), vI x3, vR 20 (ch_R h a0 8)] h fun h1 => cw d cd_Model_isAlone Q 28 [some (vR 12 a0), some (vR 20 a1), some (vI x2), some (vI x3), some (vI 0)] [] h1)))) : cw d cd_Model_isAlone Q 2 [some (vR 12 a0), some (vR 20 a1), some (vI x2), some (vI x3), z4] [] h := by
  refine w_iload rfl rfl ?_
  refine w_aload rfl rfl ?_
  refine w_getI 9 rfl rfl rfl p_a0 ?_
  refine w_icmp rfl (And.intro (fun hc => ?_) (fun hc => ?_))
  · replace H := H.1 hc
    refine w_iconst rfl ⟨by decide, by decide⟩ ?_
    exact w_zreturn rfl (by decide) H
  · replace H := H.2 hc
    refine w_aload rfl rfl ?_
    refine w_aload rfl rfl ?_
    refine w_iload rfl rfl ?_
    refine w_aload rfl rfl ?_
    refine w_getR 10 20 rfl rfl rfl rfl p_a0 ?_
    refine w_iload rfl rfl ?_
    refine w_aload rfl rfl ?_
    refine w_getR 8 20 rfl rfl rfl rfl p_a0 ?_
    refine w_callU rfl (fun _ => rfl) rfl (cU_mono H fun h1 H => ?_)
    refine w_iconst rfl ⟨by decide, by decide⟩ ?_
    refine w_istore rfl rfl ?_
    exact H
set_option maxHeartbeats 4000000 in
set_option maxRecDepth 100000 in
theorem r_Model_isAlone_28 {d : Nat} {Q : cm_Q} {h : cm_H} {a0 : Nat} {a1 : Nat} {x2 : Int} {x3 : Int} {x4 : Int} (p_a0 : 0 < a0) (p_a1 : 0 < a1) (H : (cI d m_Model_all [vR 12 a0] h fun v2 h1 => ((v2 ≤ x4 → (cm_i (x3 + 1) ∧ cw d cd_Model_isAlone Q 2 [some (vR 12 a0), some (vR 20 a1), some (vI x2), some (vI (x3 + 1)), some (vI x4)] [] h1)) ∧ (x4 < v2 → (0 < ((ch_R h1 a0 8)) ∧ ((0:Int) ≤ x4 ∧ x4 < ch_L h1 (ch_R h1 a0 8)) ∧ (cm_i (x2 + x4) ∧ ((0:Int) ≤ (x2 + x4) ∧ (x2 + x4) < ch_L h1 a1) ∧ (((ch_I h1 (ch_R h1 a0 8) x4) = (ch_I h1 a1 (x2 + x4)) → (cm_i (x4 + 1) ∧ cw d cd_Model_isAlone Q 28 [some (vR 12 a0), some (vR 20 a1), some (vI x2), some (vI x3), some (vI (x4 + 1))] [] h1)) ∧ (¬ (ch_I h1 (ch_R h1 a0 8) x4) = (ch_I h1 a1 (x2 + x4)) → Q (some (vI 0)) h1)))))))) : cw d cd_Model_isAlone Q 28 [some (vR 12 a0), some (vR 20 a1), some (vI x2), some (vI x3), some (vI x4)] [] h := by
  refine w_iload rfl rfl ?_
  refine w_aload rfl rfl ?_
  refine w_callI rfl (fun _ => rfl) rfl (cI_mono H fun v2 h1 H => ?_)
  refine w_icmp rfl (And.intro (fun hc => ?_) (fun hc => ?_))
  · replace H := H.1 hc
    have o3 := H.1
    replace H := H.2
    refine w_iinc rfl rfl rfl o3 ?_
    refine w_goto rfl ?_
    exact H
  · replace H := H.2 hc
    refine w_aload rfl rfl ?_
    refine w_getR 8 20 rfl rfl rfl rfl p_a0 ?_
    refine w_iload rfl rfl ?_
    have o4 := H.1
    replace H := H.2
    have o5 := H.1
    replace H := H.2
    refine w_iaload rfl o4 o5 ?_
    refine w_aload rfl rfl ?_
    refine w_iload rfl rfl ?_
    refine w_iload rfl rfl ?_
    have o6 := H.1
    replace H := H.2
    refine w_iadd rfl o6 ?_
    have o7 := H.1
    replace H := H.2
    refine w_iaload rfl p_a1 o7 ?_
    refine w_icmp rfl (And.intro (fun hc => ?_) (fun hc => ?_))
    · replace H := H.1 hc
      have o8 := H.1
      replace H := H.2
      refine w_iinc rfl rfl rfl o8 ?_
      refine w_goto rfl ?_
      exact H
    · replace H := H.2 hc
      refine w_iconst rfl ⟨by decide, by decide⟩ ?_
      exact w_zreturn rfl (by decide) H
set_option maxHeartbeats 4000000 in
set_option maxRecDepth 100000 in
theorem r_Model_isAlone {d : Nat} {Q : cm_Q} {h : cm_H} {a0 : Nat} {a1 : Nat} {x2 : Int} (p_a0 : 0 < a0) (H : cw d cd_Model_isAlone Q 2 [some (vR 12 a0), some (vR 20 a1), some (vI x2), some (vI 0), none] [] h) : cm_call (d + 1) m_Model_isAlone [vR 12 a0, vR 20 a1, vI x2] h Q := by
  refine cm_call_in (C := cd_Model_isAlone) (ls := [some (vR 12 a0), some (vR 20 a1), some (vI x2), none, none]) rfl rfl p_a0 rfl ?_
  refine w_iconst rfl ⟨by decide, by decide⟩ ?_
  refine w_istore rfl rfl ?_
  exact H
set_option maxHeartbeats 4000000 in
set_option maxRecDepth 100000 in
theorem r_Model_isOfOne_13 {d : Nat} {Q : cm_Q} {h : cm_H} {a0 : Nat} {a1 : Nat} {x2 : Int} {x3 : Int} {x4 : Int} {x5 : Int} (p_a1 : 0 < a1) (H : (cI d m_Model_from [vR 12 a0, vI x3] h fun v2 h1 => ((v2 ≤ x5 → ((x4 = 0 ∨ x4 = 1) ∧ Q (some (vI x4)) h1)) ∧ (x5 < v2 → ((x4 = 0 → (cm_i (x5 + 1) ∧ cw d cd_Model_isOfOne Q 13 [some (vR 12 a0), some (vR 20 a1), some (vI x2), some (vI x3), some (vI 0), some (vI (x5 + 1))] [] h1)) ∧ (¬ x4 = 0 → (cm_i (x2 + x5) ∧ ((0:Int) ≤ (x2 + x5) ∧ (x2 + x5) < ch_L h1 a1) ∧ ((¬ (ch_I h1 a1 (x2 + x5)) = 0 → (cm_i (x5 + 1) ∧ cw d cd_Model_isOfOne Q 13 [some (vR 12 a0), some (vR 20 a1), some (vI x2), some (vI x3), some (vI 0), some (vI (x5 + 1))] [] h1)) ∧ ((ch_I h1 a1 (x2 + x5)) = 0 → (cm_i (x5 + 1) ∧ cw d cd_Model_isOfOne Q 13 [some (vR 12 a0), some (vR 20 a1), some (vI x2), some (vI x3), some (vI 1), some (vI (x5 + 1))] [] h1)))))))))) : cw d cd_Model_isOfOne Q 13 [some (vR 12 a0), some (vR 20 a1), some (vI x2), some (vI x3), some (vI x4), some (vI x5)] [] h := by
  refine w_iload rfl rfl ?_
  refine w_aload rfl rfl ?_
  refine w_iload rfl rfl ?_
  refine w_callI rfl (fun _ => rfl) rfl (cI_mono H fun v2 h1 H => ?_)
  refine w_icmp rfl (And.intro (fun hc => ?_) (fun hc => ?_))
  · replace H := H.1 hc
    refine w_iload rfl rfl ?_
    exact w_zreturn rfl H.1 H.2
  · replace H := H.2 hc
    refine w_iload rfl rfl ?_
    refine w_if rfl (And.intro (fun hc => ?_) (fun hc => ?_))
    · replace H := H.1 hc
      refine w_iconst rfl ⟨by decide, by decide⟩ ?_
      refine w_istore rfl rfl ?_
      have o3 := H.1
      replace H := H.2
      refine w_iinc rfl rfl rfl o3 ?_
      refine w_goto rfl ?_
      exact H
    · replace H := H.2 hc
      refine w_aload rfl rfl ?_
      refine w_iload rfl rfl ?_
      refine w_iload rfl rfl ?_
      have o4 := H.1
      replace H := H.2
      refine w_iadd rfl o4 ?_
      have o5 := H.1
      replace H := H.2
      refine w_iaload rfl p_a1 o5 ?_
      refine w_if rfl (And.intro (fun hc => ?_) (fun hc => ?_))
      · replace H := H.1 hc
        refine w_iconst rfl ⟨by decide, by decide⟩ ?_
        refine w_istore rfl rfl ?_
        have o6 := H.1
        replace H := H.2
        refine w_iinc rfl rfl rfl o6 ?_
        refine w_goto rfl ?_
        exact H
      · replace H := H.2 hc
        refine w_iconst rfl ⟨by decide, by decide⟩ ?_
        refine w_goto rfl ?_
        refine w_istore rfl rfl ?_
        have o7 := H.1
        replace H := H.2
        refine w_iinc rfl rfl rfl o7 ?_
        refine w_goto rfl ?_
        exact H
set_option maxHeartbeats 4000000 in
set_option maxRecDepth 100000 in
theorem r_Model_isOfOne {d : Nat} {Q : cm_Q} {h : cm_H} {a0 : Nat} {a1 : Nat} {x2 : Int} (p_a0 : 0 < a0) (H : (cI d m_Model_degree [vR 12 a0, vR 20 a1, vI x2] h fun v2 h1 => cw d cd_Model_isOfOne Q 13 [some (vR 12 a0), some (vR 20 a1), some (vI x2), some (vI v2), some (vI 1), some (vI 0)] [] h1)) : cm_call (d + 1) m_Model_isOfOne [vR 12 a0, vR 20 a1, vI x2] h Q := by
  refine cm_call_in (C := cd_Model_isOfOne) (ls := [some (vR 12 a0), some (vR 20 a1), some (vI x2), none, none, none]) rfl rfl p_a0 rfl ?_
  refine w_aload rfl rfl ?_
  refine w_aload rfl rfl ?_
  refine w_iload rfl rfl ?_
  refine w_callI rfl (fun _ => rfl) rfl (cI_mono H fun v2 h1 H => ?_)
  refine w_istore rfl rfl ?_
  refine w_iconst rfl ⟨by decide, by decide⟩ ?_
  refine w_istore rfl rfl ?_
  refine w_iconst rfl ⟨by decide, by decide⟩ ?_
  refine w_istore rfl rfl ?_
  exact H
set_option maxHeartbeats 4000000 in
set_option maxRecDepth 100000 in
theorem r_Model_unlike_4 {d : Nat} {Q : cm_Q} {h : cm_H} {a0 : Nat} {x1 : Int} {x2 : Int} {x3 : Int} {z4 : Option cm_V} {z5 : Option cm_V} {z6 : Option cm_V} {z7 : Option cm_V} (p_a0 : 0 < a0) (H : (((ch_I h a0 11) ≤ x3 → Q (some (vI x2)) h) ∧ (x3 < (ch_I h a0 11) → (cU d m_Model_moves [vR 12 a0, vR 20 (ch_R h a0 5), vI x1, vR 20 (ch_R h a0 12), vI x3, vR 20 (ch_R h a0 8)] h fun h1 => (cm_i (1140 * x2) ∧ (cU d m_Model_copies [vR 20 (ch_R h1 a0 8), vI 0, vR 20 (ch_R h1 a0 31), vI (1140 * x2)] h1 fun h3 => cw d cd_Model_unlike Q 53 [some (vR 12 a0), some (vI x1), some (vI x2), some (vI x3), some (vI 1), some (vI 0), z6, z7] [] h3)))))) : cw d cd_Model_unlike Q 4 [some (vR 12 a0), some (vI x1), some (vI x2), some (vI x3), z4, z5, z6, z7] [] h := by
  refine w_iload rfl rfl ?_
  refine w_aload rfl rfl ?_
  refine w_getI 11 rfl rfl rfl p_a0 ?_
  refine w_icmp rfl (And.intro (fun hc => ?_) (fun hc => ?_))
  · replace H := H.1 hc
    refine w_iload rfl rfl ?_
    exact w_ireturn rfl H
  · replace H := H.2 hc
    refine w_aload rfl rfl ?_
    refine w_aload rfl rfl ?_
    refine w_getR 5 20 rfl rfl rfl rfl p_a0 ?_
    refine w_iload rfl rfl ?_
    refine w_aload rfl rfl ?_
    refine w_getR 12 20 rfl rfl rfl rfl p_a0 ?_
    refine w_iload rfl rfl ?_
    refine w_aload rfl rfl ?_
    refine w_getR 8 20 rfl rfl rfl rfl p_a0 ?_
    refine w_callU rfl (fun _ => rfl) rfl (cU_mono H fun h1 H => ?_)
    refine w_aload rfl rfl ?_
    refine w_getR 8 20 rfl rfl rfl rfl p_a0 ?_
    refine w_iconst rfl ⟨by decide, by decide⟩ ?_
    refine w_aload rfl rfl ?_
    refine w_getR 31 20 rfl rfl rfl rfl p_a0 ?_
    refine w_iconst rfl ⟨by decide, by decide⟩ ?_
    refine w_iload rfl rfl ?_
    have o2 := H.1
    replace H := H.2
    refine w_imul rfl o2 ?_
    refine w_callU rfl (fun _ => rfl) rfl (cU_mono H fun h3 H => ?_)
    refine w_iconst rfl ⟨by decide, by decide⟩ ?_
    refine w_istore rfl rfl ?_
    refine w_iconst rfl ⟨by decide, by decide⟩ ?_
    refine w_istore rfl rfl ?_
    exact H
set_option maxHeartbeats 4000000 in
set_option maxRecDepth 100000 in
theorem r_Model_unlike_53 {d : Nat} {Q : cm_Q} {h : cm_H} {a0 : Nat} {x1 : Int} {x2 : Int} {x3 : Int} {x4 : Int} {x5 : Int} {z6 : Option cm_V} {z7 : Option cm_V}  (H : ((x2 ≤ x5 → cw d cd_Model_unlike Q 138 [some (vR 12 a0), some (vI x1), some (vI x2), some (vI x3), some (vI x4), some (vI x5), z6, z7] [] h) ∧ (x5 < x2 → ((x4 = 0 → cw d cd_Model_unlike Q 138 [some (vR 12 a0), some (vI x1), some (vI x2), some (vI x3), some (vI x4), some (vI x5), z6, z7] [] h) ∧ (¬ x4 = 0 → cw d cd_Model_unlike Q 70 [some (vR 12 a0), some (vI x1), some (vI x2), some (vI x3), some (vI x4), some (vI x5), some (vI 1), some (vI 0)] [] h))))) : cw d cd_Model_unlike Q 53 [some (vR 12 a0), some (vI x1), some (vI x2), some (vI x3), some (vI x4), some (vI x5), z6, z7] [] h := by
  refine w_iload rfl rfl ?_
  refine w_iload rfl rfl ?_
  refine w_icmp rfl (And.intro (fun hc => ?_) (fun hc => ?_))
  · replace H := H.1 hc
    exact H
  · replace H := H.2 hc
    refine w_iload rfl rfl ?_
    refine w_if rfl (And.intro (fun hc => ?_) (fun hc => ?_))
    · replace H := H.1 hc
      exact H
    · replace H := H.2 hc
      refine w_iconst rfl ⟨by decide, by decide⟩ ?_
      refine w_istore rfl rfl ?_
      refine w_iconst rfl ⟨by decide, by decide⟩ ?_
      refine w_istore rfl rfl ?_
      exact H
set_option maxHeartbeats 4000000 in
set_option maxRecDepth 100000 in
theorem r_Model_unlike_70 {d : Nat} {Q : cm_Q} {h : cm_H} {a0 : Nat} {x1 : Int} {x2 : Int} {x3 : Int} {z4 : Option cm_V} {x5 : Int} {x6 : Int} {x7 : Int} (p_a0 : 0 < a0) (H : ((1140 ≤ x7 → cw d cd_Model_unlike Q 120 [some (vR 12 a0), some (vI x1), some (vI x2), some (vI x3), z4, some (vI x5), some (vI x6), some (vI x7)] [] h) ∧ (x7 < 1140 → ((x6 = 0 → cw d cd_Model_unlike Q 120 [some (vR 12 a0), some (vI x1), some (vI x2), some (vI x3), z4, some (vI x5), some (vI x6), some (vI x7)] [] h) ∧ (¬ x6 = 0 → (cm_i (1140 * x5) ∧ (cm_i ((1140 * x5) + x7) ∧ (0 < ((ch_R h a0 31)) ∧ ((0:Int) ≤ ((1140 * x5) + x7) ∧ ((1140 * x5) + x7) < ch_L h (ch_R h a0 31)) ∧ (0 < ((ch_R h a0 8)) ∧ ((0:Int) ≤ x7 ∧ x7 < ch_L h (ch_R h a0 8)) ∧ ((¬ (ch_I h (ch_R h a0 31) ((1140 * x5) + x7)) = (ch_I h (ch_R h a0 8) x7) → (cm_i (x7 + 1) ∧ cw d cd_Model_unlike Q 70 [some (vR 12 a0), some (vI x1), some (vI x2), some (vI x3), z4, some (vI x5), some (vI 0), some (vI (x7 + 1))] [] h)) ∧ ((ch_I h (ch_R h a0 31) ((1140 * x5) + x7)) = (ch_I h (ch_R h a0 8) x7) → (cm_i (x7 + 1) ∧ cw d cd_Model_unlike Q 70 [some (vR 12 a0), some (vI x1), some (vI x2), some (vI x3), z4, some (vI x5), some (vI 1), some (vI (x7 + 1))] [] h)))))))))))) : cw d cd_Model_unlike Q 70 [some (vR 12 a0), some (vI x1), some (vI x2), some (vI x3), z4, some (vI x5), some (vI x6), some (vI x7)] [] h := by
  refine w_iload rfl rfl ?_
  refine w_iconst rfl ⟨by decide, by decide⟩ ?_
  refine w_icmp rfl (And.intro (fun hc => ?_) (fun hc => ?_))
  · replace H := H.1 hc
    exact H
  · replace H := H.2 hc
    refine w_iload rfl rfl ?_
    refine w_if rfl (And.intro (fun hc => ?_) (fun hc => ?_))
    · replace H := H.1 hc
      exact H
    · replace H := H.2 hc
      refine w_aload rfl rfl ?_
      refine w_getR 31 20 rfl rfl rfl rfl p_a0 ?_
      refine w_iconst rfl ⟨by decide, by decide⟩ ?_
      refine w_iload rfl rfl ?_
      have o1 := H.1
      replace H := H.2
      refine w_imul rfl o1 ?_
      refine w_iload rfl rfl ?_
      have o2 := H.1
      replace H := H.2
      refine w_iadd rfl o2 ?_
      have o3 := H.1
      replace H := H.2
      have o4 := H.1
      replace H := H.2
      refine w_iaload rfl o3 o4 ?_
      refine w_aload rfl rfl ?_
      refine w_getR 8 20 rfl rfl rfl rfl p_a0 ?_
      refine w_iload rfl rfl ?_
      have o5 := H.1
      replace H := H.2
      have o6 := H.1
      replace H := H.2
      refine w_iaload rfl o5 o6 ?_
      refine w_icmp rfl (And.intro (fun hc => ?_) (fun hc => ?_))
      · replace H := H.1 hc
        refine w_iconst rfl ⟨by decide, by decide⟩ ?_
        refine w_istore rfl rfl ?_
        have o7 := H.1
        replace H := H.2
        refine w_iinc rfl rfl rfl o7 ?_
        refine w_goto rfl ?_
        exact H
      · replace H := H.2 hc
        refine w_iconst rfl ⟨by decide, by decide⟩ ?_
        refine w_goto rfl ?_
        refine w_istore rfl rfl ?_
        have o8 := H.1
        replace H := H.2
        refine w_iinc rfl rfl rfl o8 ?_
        refine w_goto rfl ?_
        exact H
set_option maxHeartbeats 4000000 in
set_option maxRecDepth 100000 in
theorem r_Model_unlike_120 {d : Nat} {Q : cm_Q} {h : cm_H} {a0 : Nat} {x1 : Int} {x2 : Int} {x3 : Int} {z4 : Option cm_V} {x5 : Int} {x6 : Int} {z7 : Option cm_V}  (H : ((¬ x6 = 0 → (cm_i (x5 + 1) ∧ cw d cd_Model_unlike Q 53 [some (vR 12 a0), some (vI x1), some (vI x2), some (vI x3), some (vI 0), some (vI (x5 + 1)), some (vI x6), z7] [] h)) ∧ (x6 = 0 → (cm_i (x5 + 1) ∧ cw d cd_Model_unlike Q 53 [some (vR 12 a0), some (vI x1), some (vI x2), some (vI x3), some (vI 1), some (vI (x5 + 1)), some (vI x6), z7] [] h)))) : cw d cd_Model_unlike Q 120 [some (vR 12 a0), some (vI x1), some (vI x2), some (vI x3), z4, some (vI x5), some (vI x6), z7] [] h := by
  refine w_iload rfl rfl ?_
  refine w_if rfl (And.intro (fun hc => ?_) (fun hc => ?_))
  · replace H := H.1 hc
    refine w_iconst rfl ⟨by decide, by decide⟩ ?_
    refine w_istore rfl rfl ?_
    have o1 := H.1
    replace H := H.2
    refine w_iinc rfl rfl rfl o1 ?_
    refine w_goto rfl ?_
    exact H
  · replace H := H.2 hc
    refine w_iconst rfl ⟨by decide, by decide⟩ ?_
    refine w_goto rfl ?_
    refine w_istore rfl rfl ?_
    have o2 := H.1
    replace H := H.2
    refine w_iinc rfl rfl rfl o2 ?_
    refine w_goto rfl ?_
    exact H
set_option maxHeartbeats 4000000 in
set_option maxRecDepth 100000 in
theorem r_Model_unlike_138 {d : Nat} {Q : cm_Q} {h : cm_H} {a0 : Nat} {x1 : Int} {x2 : Int} {x3 : Int} {x4 : Int} {z5 : Option cm_V} {z6 : Option cm_V} {z7 : Option cm_V}  (H : ((x4 = 0 → (cm_i (x2 + 0) ∧ (cm_i (x3 + 1) ∧ cw d cd_Model_unlike Q 4 [some (vR 12 a0), some (vI x1), some (vI (x2 + 0)), some (vI (x3 + 1)), some (vI x4), z5, z6, z7] [] h))) ∧ (¬ x4 = 0 → (cm_i (x2 + 1) ∧ (cm_i (x3 + 1) ∧ cw d cd_Model_unlike Q 4 [some (vR 12 a0), some (vI x1), some (vI (x2 + 1)), some (vI (x3 + 1)), some (vI x4), z5, z6, z7] [] h))))) : cw d cd_Model_unlike Q 138 [some (vR 12 a0), some (vI x1), some (vI x2), some (vI x3), some (vI x4), z5, z6, z7] [] h := by
  refine w_iload rfl rfl ?_
  refine w_iload rfl rfl ?_
  refine w_if rfl (And.intro (fun hc => ?_) (fun hc => ?_))
  · replace H := H.1 hc
    refine w_iconst rfl ⟨by decide, by decide⟩ ?_
    have o1 := H.1
    replace H := H.2
    refine w_iadd rfl o1 ?_
    refine w_istore rfl rfl ?_
    have o2 := H.1
    replace H := H.2
    refine w_iinc rfl rfl rfl o2 ?_
    refine w_goto rfl ?_
    exact H
  · replace H := H.2 hc
    refine w_iconst rfl ⟨by decide, by decide⟩ ?_
    refine w_goto rfl ?_
    have o3 := H.1
    replace H := H.2
    refine w_iadd rfl o3 ?_
    refine w_istore rfl rfl ?_
    have o4 := H.1
    replace H := H.2
    refine w_iinc rfl rfl rfl o4 ?_
    refine w_goto rfl ?_
    exact H
set_option maxHeartbeats 4000000 in
set_option maxRecDepth 100000 in
theorem r_Model_unlike {d : Nat} {Q : cm_Q} {h : cm_H} {a0 : Nat} {x1 : Int} (p_a0 : 0 < a0) (H : cw d cd_Model_unlike Q 4 [some (vR 12 a0), some (vI x1), some (vI 0), some (vI 0), none, none, none, none] [] h) : cm_call (d + 1) m_Model_unlike [vR 12 a0, vI x1] h Q := by
  refine cm_call_in (C := cd_Model_unlike) (ls := [some (vR 12 a0), some (vI x1), none, none, none, none, none, none]) rfl rfl p_a0 rfl ?_
  refine w_iconst rfl ⟨by decide, by decide⟩ ?_
  refine w_istore rfl rfl ?_
  refine w_iconst rfl ⟨by decide, by decide⟩ ?_
  refine w_istore rfl rfl ?_
  exact H
set_option maxHeartbeats 4000000 in
set_option maxRecDepth 100000 in
theorem r_Model_of_ {d : Nat} {Q : cm_Q} {h : cm_H} {a0 : Nat} {x1 : Int} {x2 : Int} (p_a0 : 0 < a0) (H : (∀ h1 : cm_H, h1 = ch_u h a0 0 0 → (cI d m_Model_isKept [vR 12 a0, vI x1] h1 fun v3 h2 => ((¬ v3 = 0 → (cm_i (1140 * x1) ∧ ((x2 = 0 → (cI d m_Model_degree [vR 12 a0, vR 20 (ch_R h2 a0 5), vI (1140 * x1)] h2 fun v6 h5 => Q (some (vI v6)) h5)) ∧ (¬ x2 = 0 → ((x2 = 1 → (cI d m_Model_terms [vR 12 a0, vI (1140 * x1)] h2 fun v8 h7 => Q (some (vI v8)) h7)) ∧ (¬ x2 = 1 → ((x2 = 2 → (cI d m_Model_isAlone [vR 12 a0, vR 20 (ch_R h2 a0 5), vI (1140 * x1)] h2 fun v10 h9 => ((v10 = 0 → Q (some (vI 0)) h9) ∧ (¬ v10 = 0 → Q (some (vI 1)) h9)))) ∧ (¬ x2 = 2 → ((x2 = 3 → (cI d m_Model_isOfOne [vR 12 a0, vR 20 (ch_R h2 a0 5), vI (1140 * x1)] h2 fun v12 h11 => ((v12 = 0 → Q (some (vI 0)) h11) ∧ (¬ v12 = 0 → Q (some (vI 1)) h11)))) ∧ (¬ x2 = 3 → ((x2 = 4 → (cI d m_Model_unlike [vR 12 a0, vI (1140 * x1)] h2 fun v14 h13 => Q (some (vI v14)) h13)) ∧ (¬ x2 = 4 → Q (some (vI (-1))) h2)))))))))))) ∧ (v3 = 0 → Q (some (vI (-1))) h2))))) : cm_call (d + 1) m_Model_of_ [vR 12 a0, vI x1, vI x2] h Q := by
  refine cm_call_in (C := cd_Model_of_) (ls := [some (vR 12 a0), some (vI x1), some (vI x2), none]) rfl rfl p_a0 rfl ?_
  refine w_aload rfl rfl ?_
  refine w_iconst rfl ⟨by decide, by decide⟩ ?_
  refine w_putI 0 rfl rfl rfl p_a0 (fun h1 eh1 => ?_)
  replace H := H h1 eh1
  refine w_aload rfl rfl ?_
  refine w_iload rfl rfl ?_
  refine w_callI rfl (fun _ => rfl) rfl (cI_mono H fun v3 h2 H => ?_)
  refine w_if rfl (And.intro (fun hc => ?_) (fun hc => ?_))
  · replace H := H.1 hc
    refine w_iconst rfl ⟨by decide, by decide⟩ ?_
    refine w_iload rfl rfl ?_
    have o4 := H.1
    replace H := H.2
    refine w_imul rfl o4 ?_
    refine w_istore rfl rfl ?_
    refine w_iload rfl rfl ?_
    refine w_switch rfl ?_
    refine And.intro (fun hc => ?_) (fun hc => ?_)
    · replace H := H.1 hc
      show cw _ _ _ 56 _ _ _
      refine w_aload rfl rfl ?_
      refine w_aload rfl rfl ?_
      refine w_getR 5 20 rfl rfl rfl rfl p_a0 ?_
      refine w_iload rfl rfl ?_
      refine w_callI rfl (fun _ => rfl) rfl (cI_mono H fun v6 h5 H => ?_)
      exact w_ireturn rfl H
    · replace H := H.2 hc
      refine And.intro (fun hc => ?_) (fun hc => ?_)
      · replace H := H.1 hc
        show cw _ _ _ 66 _ _ _
        refine w_aload rfl rfl ?_
        refine w_iload rfl rfl ?_
        refine w_callI rfl (fun _ => rfl) rfl (cI_mono H fun v8 h7 H => ?_)
        exact w_ireturn rfl H
      · replace H := H.2 hc
        refine And.intro (fun hc => ?_) (fun hc => ?_)
        · replace H := H.1 hc
          show cw _ _ _ 72 _ _ _
          refine w_aload rfl rfl ?_
          refine w_aload rfl rfl ?_
          refine w_getR 5 20 rfl rfl rfl rfl p_a0 ?_
          refine w_iload rfl rfl ?_
          refine w_callI rfl (fun _ => rfl) rfl (cI_mono H fun v10 h9 H => ?_)
          refine w_if rfl (And.intro (fun hc => ?_) (fun hc => ?_))
          · replace H := H.1 hc
            refine w_iconst rfl ⟨by decide, by decide⟩ ?_
            exact w_ireturn rfl H
          · replace H := H.2 hc
            refine w_iconst rfl ⟨by decide, by decide⟩ ?_
            refine w_goto rfl ?_
            exact w_ireturn rfl H
        · replace H := H.2 hc
          refine And.intro (fun hc => ?_) (fun hc => ?_)
          · replace H := H.1 hc
            show cw _ _ _ 90 _ _ _
            refine w_aload rfl rfl ?_
            refine w_aload rfl rfl ?_
            refine w_getR 5 20 rfl rfl rfl rfl p_a0 ?_
            refine w_iload rfl rfl ?_
            refine w_callI rfl (fun _ => rfl) rfl (cI_mono H fun v12 h11 H => ?_)
            refine w_if rfl (And.intro (fun hc => ?_) (fun hc => ?_))
            · replace H := H.1 hc
              refine w_iconst rfl ⟨by decide, by decide⟩ ?_
              exact w_ireturn rfl H
            · replace H := H.2 hc
              refine w_iconst rfl ⟨by decide, by decide⟩ ?_
              refine w_goto rfl ?_
              exact w_ireturn rfl H
          · replace H := H.2 hc
            refine And.intro (fun hc => ?_) (fun hc => ?_)
            · replace H := H.1 hc
              show cw _ _ _ 108 _ _ _
              refine w_aload rfl rfl ?_
              refine w_iload rfl rfl ?_
              refine w_callI rfl (fun _ => rfl) rfl (cI_mono H fun v14 h13 H => ?_)
              exact w_ireturn rfl H
            · replace H := H.2 hc
              show cw _ _ _ 114 _ _ _
              refine w_iconst rfl ⟨by decide, by decide⟩ ?_
              exact w_ireturn rfl H
  · replace H := H.2 hc
    refine w_iconst rfl ⟨by decide, by decide⟩ ?_
    exact w_ireturn rfl H
set_option maxHeartbeats 4000000 in
set_option maxRecDepth 100000 in
theorem r_Model_factor_50 {d : Nat} {Q : cm_Q} {h : cm_H} {a0 : Nat} {x1 : Int} {x2 : Int} {x3 : Int} {x4 : Int} {s0 : Int} {s1 : Int} {s2 : Int} (p_a0 : 0 < a0) (H : (cI d m_Model_within [vI s2, vI s1, vI s0] h fun v2 h1 => ((¬ v2 = 0 → (cm_i (x2 + x3) ∧ (cm_i ((x2 + x3) + x4) ∧ ((((x2 + x3) + x4) ≤ 15 → (cm_i (1140 * x1) ∧ (cI d m_Model_at [vR 12 a0, vI x2, vI x3, vI x4] h1 fun v7 h6 => (cm_i ((1140 * x1) + v7) ∧ (0 < ((ch_R h1 a0 5)) ∧ ((0:Int) ≤ ((1140 * x1) + v7) ∧ ((1140 * x1) + v7) < ch_L h6 (ch_R h1 a0 5)) ∧ Q (some (vI (ch_I h6 (ch_R h1 a0 5) ((1140 * x1) + v7)))) h6))))) ∧ (15 < ((x2 + x3) + x4) → Q (some (vI 0)) h1))))) ∧ (v2 = 0 → Q (some (vI (-1))) h1)))) : cw d cd_Model_factor Q 50 [some (vR 12 a0), some (vI x1), some (vI x2), some (vI x3), some (vI x4)] [vI s0, vI s1, vI s2] h := by
  refine w_callI rfl (fun _ => rfl) rfl (cI_mono H fun v2 h1 H => ?_)
  refine w_if rfl (And.intro (fun hc => ?_) (fun hc => ?_))
  · replace H := H.1 hc
    refine w_iload rfl rfl ?_
    refine w_iload rfl rfl ?_
    have o3 := H.1
    replace H := H.2
    refine w_iadd rfl o3 ?_
    refine w_iload rfl rfl ?_
    have o4 := H.1
    replace H := H.2
    refine w_iadd rfl o4 ?_
    refine w_iconst rfl ⟨by decide, by decide⟩ ?_
    refine w_icmp rfl (And.intro (fun hc => ?_) (fun hc => ?_))
    · replace H := H.1 hc
      refine w_aload rfl rfl ?_
      refine w_getR 5 20 rfl rfl rfl rfl p_a0 ?_
      refine w_iconst rfl ⟨by decide, by decide⟩ ?_
      refine w_iload rfl rfl ?_
      have o5 := H.1
      replace H := H.2
      refine w_imul rfl o5 ?_
      refine w_aload rfl rfl ?_
      refine w_iload rfl rfl ?_
      refine w_iload rfl rfl ?_
      refine w_iload rfl rfl ?_
      refine w_callI rfl (fun _ => rfl) rfl (cI_mono H fun v7 h6 H => ?_)
      have o8 := H.1
      replace H := H.2
      refine w_iadd rfl o8 ?_
      have o9 := H.1
      replace H := H.2
      have o10 := H.1
      replace H := H.2
      refine w_iaload rfl o9 o10 ?_
      exact w_ireturn rfl H
    · replace H := H.2 hc
      refine w_iconst rfl ⟨by decide, by decide⟩ ?_
      refine w_goto rfl ?_
      exact w_ireturn rfl H
  · replace H := H.2 hc
    refine w_iconst rfl ⟨by decide, by decide⟩ ?_
    exact w_ireturn rfl H
set_option maxHeartbeats 4000000 in
set_option maxRecDepth 100000 in
theorem r_Model_factor {d : Nat} {Q : cm_Q} {h : cm_H} {a0 : Nat} {x1 : Int} {x2 : Int} {x3 : Int} {x4 : Int} (p_a0 : 0 < a0) (H : (∀ h1 : cm_H, h1 = ch_u h a0 0 0 → (cI d m_Model_isKept [vR 12 a0, vI x1] h1 fun v3 h2 => ((v3 = 0 → Q (some (vI (-1))) h2) ∧ (¬ v3 = 0 → (cI d m_Model_within [vI x2, vI 0, vI 15] h2 fun v5 h4 => ((v5 = 0 → Q (some (vI (-1))) h4) ∧ (¬ v5 = 0 → (cI d m_Model_within [vI x3, vI 0, vI 15] h4 fun v7 h6 => ((v7 = 0 → Q (some (vI (-1))) h6) ∧ (¬ v7 = 0 → ((¬ (ch_I h6 a0 1) = 2 → cw d cd_Model_factor Q 50 [some (vR 12 a0), some (vI x1), some (vI x2), some (vI x3), some (vI x4)] [vI 15, vI 0, vI x4] h6) ∧ ((ch_I h6 a0 1) = 2 → cw d cd_Model_factor Q 50 [some (vR 12 a0), some (vI x1), some (vI x2), some (vI x3), some (vI x4)] [vI 0, vI 0, vI x4] h6))))))))))))) : cm_call (d + 1) m_Model_factor [vR 12 a0, vI x1, vI x2, vI x3, vI x4] h Q := by
  refine cm_call_in (C := cd_Model_factor) (ls := [some (vR 12 a0), some (vI x1), some (vI x2), some (vI x3), some (vI x4)]) rfl rfl p_a0 rfl ?_
  refine w_aload rfl rfl ?_
  refine w_iconst rfl ⟨by decide, by decide⟩ ?_
  refine w_putI 0 rfl rfl rfl p_a0 (fun h1 eh1 => ?_)
  replace H := H h1 eh1
  refine w_aload rfl rfl ?_
  refine w_iload rfl rfl ?_
  refine w_callI rfl (fun _ => rfl) rfl (cI_mono H fun v3 h2 H => ?_)
  refine w_if rfl (And.intro (fun hc => ?_) (fun hc => ?_))
  · replace H := H.1 hc
    refine w_iconst rfl ⟨by decide, by decide⟩ ?_
    exact w_ireturn rfl H
  · replace H := H.2 hc
    refine w_iload rfl rfl ?_
    refine w_iconst rfl ⟨by decide, by decide⟩ ?_
    refine w_iconst rfl ⟨by decide, by decide⟩ ?_
    refine w_callI rfl (fun _ => rfl) rfl (cI_mono H fun v5 h4 H => ?_)
    refine w_if rfl (And.intro (fun hc => ?_) (fun hc => ?_))
    · replace H := H.1 hc
      refine w_iconst rfl ⟨by decide, by decide⟩ ?_
      exact w_ireturn rfl H
    · replace H := H.2 hc
      refine w_iload rfl rfl ?_
      refine w_iconst rfl ⟨by decide, by decide⟩ ?_
      refine w_iconst rfl ⟨by decide, by decide⟩ ?_
      refine w_callI rfl (fun _ => rfl) rfl (cI_mono H fun v7 h6 H => ?_)
      refine w_if rfl (And.intro (fun hc => ?_) (fun hc => ?_))
      · replace H := H.1 hc
        refine w_iconst rfl ⟨by decide, by decide⟩ ?_
        exact w_ireturn rfl H
      · replace H := H.2 hc
        refine w_iload rfl rfl ?_
        refine w_iconst rfl ⟨by decide, by decide⟩ ?_
        refine w_aload rfl rfl ?_
        refine w_getI 1 rfl rfl rfl p_a0 ?_
        refine w_iconst rfl ⟨by decide, by decide⟩ ?_
        refine w_icmp rfl (And.intro (fun hc => ?_) (fun hc => ?_))
        · replace H := H.1 hc
          refine w_iconst rfl ⟨by decide, by decide⟩ ?_
          exact H
        · replace H := H.2 hc
          refine w_iconst rfl ⟨by decide, by decide⟩ ?_
          refine w_goto rfl ?_
          exact H
set_option maxHeartbeats 4000000 in
set_option maxRecDepth 100000 in
theorem r_Model_term_35 {d : Nat} {Q : cm_Q} {h : cm_H} {a0 : Nat} {x1 : Int} {z2 : Option cm_V} {x3 : Int} {x4 : Int} {x5 : Int} {z6 : Option cm_V}  (H : ((x5 < 0 → Q (some (vI 0)) h) ∧ (0 ≤ x5 → (cI d m_Model_from [vR 12 a0, vI x5] h fun v2 h1 => cw d cd_Model_term Q 48 [some (vR 12 a0), some (vI x1), z2, some (vI x3), some (vI x4), some (vI x5), some (vI v2)] [] h1)))) : cw d cd_Model_term Q 35 [some (vR 12 a0), some (vI x1), z2, some (vI x3), some (vI x4), some (vI x5), z6] [] h := by
  refine w_iload rfl rfl ?_
  refine w_if rfl (And.intro (fun hc => ?_) (fun hc => ?_))
  · replace H := H.1 hc
    refine w_iconst rfl ⟨by decide, by decide⟩ ?_
    exact w_ireturn rfl H
  · replace H := H.2 hc
    refine w_aload rfl rfl ?_
    refine w_iload rfl rfl ?_
    refine w_callI rfl (fun _ => rfl) rfl (cI_mono H fun v2 h1 H => ?_)
    refine w_istore rfl rfl ?_
    exact H
set_option maxHeartbeats 4000000 in
set_option maxRecDepth 100000 in
theorem r_Model_term_48 {d : Nat} {Q : cm_Q} {h : cm_H} {a0 : Nat} {x1 : Int} {z2 : Option cm_V} {x3 : Int} {x4 : Int} {x5 : Int} {x6 : Int} (p_a0 : 0 < a0) (H : (cm_i (x5 + 1) ∧ (cI d m_Model_from [vR 12 a0, vI (x5 + 1)] h fun v3 h2 => ((v3 ≤ x6 → (cm_i (x5 + (-1)) ∧ cw d cd_Model_term Q 35 [some (vR 12 a0), some (vI x1), z2, some (vI x3), some (vI x4), some (vI (x5 + (-1))), some (vI x6)] [] h2)) ∧ (x6 < v3 → (cm_i (1140 * x1) ∧ (cm_i ((1140 * x1) + x6) ∧ (0 < ((ch_R h2 a0 5)) ∧ ((0:Int) ≤ ((1140 * x1) + x6) ∧ ((1140 * x1) + x6) < ch_L h2 (ch_R h2 a0 5)) ∧ (((ch_I h2 (ch_R h2 a0 5) ((1140 * x1) + x6)) = 0 → (cm_i (x6 + 1) ∧ cw d cd_Model_term Q 48 [some (vR 12 a0), some (vI x1), z2, some (vI x3), some (vI x4), some (vI x5), some (vI (x6 + 1))] [] h2)) ∧ (¬ (ch_I h2 (ch_R h2 a0 5) ((1140 * x1) + x6)) = 0 → ((¬ x4 = 0 → (cm_i (x4 + (-1)) ∧ (cm_i (x6 + 1) ∧ cw d cd_Model_term Q 48 [some (vR 12 a0), some (vI x1), z2, some (vI x3), some (vI (x4 + (-1))), some (vI x5), some (vI (x6 + 1))] [] h2))) ∧ (x4 = 0 → (∀ h12 : cm_H, h12 = ch_u h2 a0 0 0 → ((¬ x3 = 0 → ((¬ x3 = 1 → ((¬ x3 = 2 → (0 < ((ch_R h12 a0 4)) ∧ ((0:Int) ≤ x6 ∧ x6 < ch_L h12 (ch_R h12 a0 4)) ∧ Q (some (vI (ch_I h12 (ch_R h12 a0 4) x6))) h12)) ∧ (x3 = 2 → (0 < ((ch_R h12 a0 3)) ∧ ((0:Int) ≤ x6 ∧ x6 < ch_L h12 (ch_R h12 a0 3)) ∧ Q (some (vI (ch_I h12 (ch_R h12 a0 3) x6))) h12)))) ∧ (x3 = 1 → (0 < ((ch_R h12 a0 2)) ∧ ((0:Int) ≤ x6 ∧ x6 < ch_L h12 (ch_R h12 a0 2)) ∧ Q (some (vI (ch_I h12 (ch_R h12 a0 2) x6))) h12)))) ∧ (x3 = 0 → (0 < ((ch_R h12 a0 5)) ∧ ((0:Int) ≤ ((1140 * x1) + x6) ∧ ((1140 * x1) + x6) < ch_L h12 (ch_R h12 a0 5)) ∧ Q (some (vI (ch_I h12 (ch_R h12 a0 5) ((1140 * x1) + x6)))) h12)))))))))))))))) : cw d cd_Model_term Q 48 [some (vR 12 a0), some (vI x1), z2, some (vI x3), some (vI x4), some (vI x5), some (vI x6)] [] h := by
  refine w_iload rfl rfl ?_
  refine w_aload rfl rfl ?_
  refine w_iload rfl rfl ?_
  refine w_iconst rfl ⟨by decide, by decide⟩ ?_
  have o1 := H.1
  replace H := H.2
  refine w_iadd rfl o1 ?_
  refine w_callI rfl (fun _ => rfl) rfl (cI_mono H fun v3 h2 H => ?_)
  refine w_icmp rfl (And.intro (fun hc => ?_) (fun hc => ?_))
  · replace H := H.1 hc
    have o4 := H.1
    replace H := H.2
    refine w_iinc rfl rfl rfl o4 ?_
    refine w_goto rfl ?_
    exact H
  · replace H := H.2 hc
    refine w_aload rfl rfl ?_
    refine w_getR 5 20 rfl rfl rfl rfl p_a0 ?_
    refine w_iconst rfl ⟨by decide, by decide⟩ ?_
    refine w_iload rfl rfl ?_
    have o5 := H.1
    replace H := H.2
    refine w_imul rfl o5 ?_
    refine w_iload rfl rfl ?_
    have o6 := H.1
    replace H := H.2
    refine w_iadd rfl o6 ?_
    have o7 := H.1
    replace H := H.2
    have o8 := H.1
    replace H := H.2
    refine w_iaload rfl o7 o8 ?_
    refine w_if rfl (And.intro (fun hc => ?_) (fun hc => ?_))
    · replace H := H.1 hc
      have o9 := H.1
      replace H := H.2
      refine w_iinc rfl rfl rfl o9 ?_
      refine w_goto rfl ?_
      exact H
    · replace H := H.2 hc
      refine w_iload rfl rfl ?_
      refine w_if rfl (And.intro (fun hc => ?_) (fun hc => ?_))
      · replace H := H.1 hc
        have o10 := H.1
        replace H := H.2
        refine w_iinc rfl rfl rfl o10 ?_
        have o11 := H.1
        replace H := H.2
        refine w_iinc rfl rfl rfl o11 ?_
        refine w_goto rfl ?_
        exact H
      · replace H := H.2 hc
        refine w_aload rfl rfl ?_
        refine w_iconst rfl ⟨by decide, by decide⟩ ?_
        refine w_putI 0 rfl rfl rfl p_a0 (fun h12 eh12 => ?_)
        replace H := H h12 eh12
        refine w_iload rfl rfl ?_
        refine w_if rfl (And.intro (fun hc => ?_) (fun hc => ?_))
        · replace H := H.1 hc
          refine w_iload rfl rfl ?_
          refine w_iconst rfl ⟨by decide, by decide⟩ ?_
          refine w_icmp rfl (And.intro (fun hc => ?_) (fun hc => ?_))
          · replace H := H.1 hc
            refine w_iload rfl rfl ?_
            refine w_iconst rfl ⟨by decide, by decide⟩ ?_
            refine w_icmp rfl (And.intro (fun hc => ?_) (fun hc => ?_))
            · replace H := H.1 hc
              refine w_aload rfl rfl ?_
              refine w_getR 4 20 rfl rfl rfl rfl p_a0 ?_
              refine w_iload rfl rfl ?_
              have o13 := H.1
              replace H := H.2
              have o14 := H.1
              replace H := H.2
              refine w_iaload rfl o13 o14 ?_
              exact w_ireturn rfl H
            · replace H := H.2 hc
              refine w_aload rfl rfl ?_
              refine w_getR 3 20 rfl rfl rfl rfl p_a0 ?_
              refine w_iload rfl rfl ?_
              have o15 := H.1
              replace H := H.2
              have o16 := H.1
              replace H := H.2
              refine w_iaload rfl o15 o16 ?_
              refine w_goto rfl ?_
              exact w_ireturn rfl H
          · replace H := H.2 hc
            refine w_aload rfl rfl ?_
            refine w_getR 2 20 rfl rfl rfl rfl p_a0 ?_
            refine w_iload rfl rfl ?_
            have o17 := H.1
            replace H := H.2
            have o18 := H.1
            replace H := H.2
            refine w_iaload rfl o17 o18 ?_
            refine w_goto rfl ?_
            exact w_ireturn rfl H
        · replace H := H.2 hc
          refine w_aload rfl rfl ?_
          refine w_getR 5 20 rfl rfl rfl rfl p_a0 ?_
          refine w_iconst rfl ⟨by decide, by decide⟩ ?_
          refine w_iload rfl rfl ?_
          refine w_imul rfl o5 ?_
          refine w_iload rfl rfl ?_
          refine w_iadd rfl o6 ?_
          have o19 := H.1
          replace H := H.2
          have o20 := H.1
          replace H := H.2
          refine w_iaload rfl o19 o20 ?_
          refine w_goto rfl ?_
          exact w_ireturn rfl H
set_option maxHeartbeats 4000000 in
set_option maxRecDepth 100000 in
theorem r_Model_term {d : Nat} {Q : cm_Q} {h : cm_H} {a0 : Nat} {x1 : Int} {x2 : Int} {x3 : Int} (p_a0 : 0 < a0) (H : (∀ h1 : cm_H, h1 = ch_u h a0 0 1 → (cI d m_Model_isKept [vR 12 a0, vI x1] h1 fun v3 h2 => ((v3 = 0 → Q (some (vI 0)) h2) ∧ (¬ v3 = 0 → ((x2 < 0 → Q (some (vI 0)) h2) ∧ (0 ≤ x2 → (cI d m_Model_within [vI x3, vI 0, vI 3] h2 fun v5 h4 => ((¬ v5 = 0 → cw d cd_Model_term Q 35 [some (vR 12 a0), some (vI x1), some (vI x2), some (vI x3), some (vI x2), some (vI 15), none] [] h4) ∧ (v5 = 0 → Q (some (vI 0)) h4)))))))))) : cm_call (d + 1) m_Model_term [vR 12 a0, vI x1, vI x2, vI x3] h Q := by
  refine cm_call_in (C := cd_Model_term) (ls := [some (vR 12 a0), some (vI x1), some (vI x2), some (vI x3), none, none, none]) rfl rfl p_a0 rfl ?_
  refine w_aload rfl rfl ?_
  refine w_iconst rfl ⟨by decide, by decide⟩ ?_
  refine w_putI 0 rfl rfl rfl p_a0 (fun h1 eh1 => ?_)
  replace H := H h1 eh1
  refine w_aload rfl rfl ?_
  refine w_iload rfl rfl ?_
  refine w_callI rfl (fun _ => rfl) rfl (cI_mono H fun v3 h2 H => ?_)
  refine w_if rfl (And.intro (fun hc => ?_) (fun hc => ?_))
  · replace H := H.1 hc
    refine w_iconst rfl ⟨by decide, by decide⟩ ?_
    exact w_ireturn rfl H
  · replace H := H.2 hc
    refine w_iload rfl rfl ?_
    refine w_if rfl (And.intro (fun hc => ?_) (fun hc => ?_))
    · replace H := H.1 hc
      refine w_iconst rfl ⟨by decide, by decide⟩ ?_
      exact w_ireturn rfl H
    · replace H := H.2 hc
      refine w_iload rfl rfl ?_
      refine w_iconst rfl ⟨by decide, by decide⟩ ?_
      refine w_iconst rfl ⟨by decide, by decide⟩ ?_
      refine w_callI rfl (fun _ => rfl) rfl (cI_mono H fun v5 h4 H => ?_)
      refine w_if rfl (And.intro (fun hc => ?_) (fun hc => ?_))
      · replace H := H.1 hc
        refine w_iload rfl rfl ?_
        refine w_istore rfl rfl ?_
        refine w_iconst rfl ⟨by decide, by decide⟩ ?_
        refine w_istore rfl rfl ?_
        exact H
      · replace H := H.2 hc
        refine w_iconst rfl ⟨by decide, by decide⟩ ?_
        exact w_ireturn rfl H
set_option maxHeartbeats 4000000 in
set_option maxRecDepth 100000 in
theorem r_Model_moved {d : Nat} {Q : cm_Q} {h : cm_H} {a0 : Nat} {x1 : Int} {x2 : Int} {x3 : Int} (p_a0 : 0 < a0) (H : (∀ h1 : cm_H, h1 = ch_u h a0 0 0 → (cI d m_Model_isKept [vR 12 a0, vI x1] h1 fun v3 h2 => ((v3 = 0 → Q (some (vI (-1))) h2) ∧ (¬ v3 = 0 → (cI d m_Model_isMember [vR 12 a0, vI x2] h2 fun v5 h4 => ((v5 = 0 → Q (some (vI (-1))) h4) ∧ (¬ v5 = 0 → (cI d m_Model_isKept [vR 12 a0, vI x3] h4 fun v7 h6 => ((¬ v7 = 0 → (cm_i (1140 * x1) ∧ (cU d m_Model_moves [vR 12 a0, vR 20 (ch_R h6 a0 5), vI (1140 * x1), vR 20 (ch_R h6 a0 12), vI x2, vR 20 (ch_R h6 a0 8)] h6 fun h9 => (cm_i (1140 * x3) ∧ (cU d m_Model_copies [vR 20 (ch_R h9 a0 8), vI 0, vR 20 (ch_R h9 a0 5), vI (1140 * x3)] h9 fun h11 => (cI d m_Model_terms [vR 12 a0, vI (1140 * x3)] h11 fun v13 h12 => Q (some (vI v13)) h12)))))) ∧ (v7 = 0 → Q (some (vI (-1))) h6))))))))))) : cm_call (d + 1) m_Model_moved [vR 12 a0, vI x1, vI x2, vI x3] h Q := by
  refine cm_call_in (C := cd_Model_moved) (ls := [some (vR 12 a0), some (vI x1), some (vI x2), some (vI x3)]) rfl rfl p_a0 rfl ?_
  refine w_aload rfl rfl ?_
  refine w_iconst rfl ⟨by decide, by decide⟩ ?_
  refine w_putI 0 rfl rfl rfl p_a0 (fun h1 eh1 => ?_)
  replace H := H h1 eh1
  refine w_aload rfl rfl ?_
  refine w_iload rfl rfl ?_
  refine w_callI rfl (fun _ => rfl) rfl (cI_mono H fun v3 h2 H => ?_)
  refine w_if rfl (And.intro (fun hc => ?_) (fun hc => ?_))
  · replace H := H.1 hc
    refine w_iconst rfl ⟨by decide, by decide⟩ ?_
    exact w_ireturn rfl H
  · replace H := H.2 hc
    refine w_aload rfl rfl ?_
    refine w_iload rfl rfl ?_
    refine w_callI rfl (fun _ => rfl) rfl (cI_mono H fun v5 h4 H => ?_)
    refine w_if rfl (And.intro (fun hc => ?_) (fun hc => ?_))
    · replace H := H.1 hc
      refine w_iconst rfl ⟨by decide, by decide⟩ ?_
      exact w_ireturn rfl H
    · replace H := H.2 hc
      refine w_aload rfl rfl ?_
      refine w_iload rfl rfl ?_
      refine w_callI rfl (fun _ => rfl) rfl (cI_mono H fun v7 h6 H => ?_)
      refine w_if rfl (And.intro (fun hc => ?_) (fun hc => ?_))
      · replace H := H.1 hc
        refine w_aload rfl rfl ?_
        refine w_aload rfl rfl ?_
        refine w_getR 5 20 rfl rfl rfl rfl p_a0 ?_
        refine w_iconst rfl ⟨by decide, by decide⟩ ?_
        refine w_iload rfl rfl ?_
        have o8 := H.1
        replace H := H.2
        refine w_imul rfl o8 ?_
        refine w_aload rfl rfl ?_
        refine w_getR 12 20 rfl rfl rfl rfl p_a0 ?_
        refine w_iload rfl rfl ?_
        refine w_aload rfl rfl ?_
        refine w_getR 8 20 rfl rfl rfl rfl p_a0 ?_
        refine w_callU rfl (fun _ => rfl) rfl (cU_mono H fun h9 H => ?_)
        refine w_aload rfl rfl ?_
        refine w_getR 8 20 rfl rfl rfl rfl p_a0 ?_
        refine w_iconst rfl ⟨by decide, by decide⟩ ?_
        refine w_aload rfl rfl ?_
        refine w_getR 5 20 rfl rfl rfl rfl p_a0 ?_
        refine w_iconst rfl ⟨by decide, by decide⟩ ?_
        refine w_iload rfl rfl ?_
        have o10 := H.1
        replace H := H.2
        refine w_imul rfl o10 ?_
        refine w_callU rfl (fun _ => rfl) rfl (cU_mono H fun h11 H => ?_)
        refine w_aload rfl rfl ?_
        refine w_iconst rfl ⟨by decide, by decide⟩ ?_
        refine w_iload rfl rfl ?_
        refine w_imul rfl o10 ?_
        refine w_callI rfl (fun _ => rfl) rfl (cI_mono H fun v13 h12 H => ?_)
        exact w_ireturn rfl H
      · replace H := H.2 hc
        refine w_iconst rfl ⟨by decide, by decide⟩ ?_
        exact w_ireturn rfl H
set_option maxHeartbeats 4000000 in
set_option maxRecDepth 100000 in
theorem r_Model_average_42 {d : Nat} {Q : cm_Q} {h : cm_H} {a0 : Nat} {x1 : Int} {x2 : Int} {x3 : Int} {x4 : Int} {z5 : Option cm_V} (p_a0 : 0 < a0) (H : (((ch_I h a0 11) ≤ x4 → (cm_i (1140 * x2) ∧ (cU d m_Model_copies [vR 20 (ch_R h a0 7), vI 0, vR 20 (ch_R h a0 5), vI (1140 * x2)] h fun h2 => (cI d m_Model_terms [vR 12 a0, vI (1140 * x2)] h2 fun v4 h3 => Q (some (vI v4)) h3)))) ∧ (x4 < (ch_I h a0 11) → (cm_i (1140 * x1) ∧ (cU d m_Model_moves [vR 12 a0, vR 20 (ch_R h a0 5), vI (1140 * x1), vR 20 (ch_R h a0 12), vI x4, vR 20 (ch_R h a0 8)] h fun h6 => cw d cd_Model_average Q 77 [some (vR 12 a0), some (vI x1), some (vI x2), some (vI x3), some (vI x4), some (vI 0)] [] h6))))) : cw d cd_Model_average Q 42 [some (vR 12 a0), some (vI x1), some (vI x2), some (vI x3), some (vI x4), z5] [] h := by
  refine w_iload rfl rfl ?_
  refine w_aload rfl rfl ?_
  refine w_getI 11 rfl rfl rfl p_a0 ?_
  refine w_icmp rfl (And.intro (fun hc => ?_) (fun hc => ?_))
  · replace H := H.1 hc
    refine w_aload rfl rfl ?_
    refine w_getR 7 20 rfl rfl rfl rfl p_a0 ?_
    refine w_iconst rfl ⟨by decide, by decide⟩ ?_
    refine w_aload rfl rfl ?_
    refine w_getR 5 20 rfl rfl rfl rfl p_a0 ?_
    refine w_iconst rfl ⟨by decide, by decide⟩ ?_
    refine w_iload rfl rfl ?_
    have o1 := H.1
    replace H := H.2
    refine w_imul rfl o1 ?_
    refine w_callU rfl (fun _ => rfl) rfl (cU_mono H fun h2 H => ?_)
    refine w_aload rfl rfl ?_
    refine w_iconst rfl ⟨by decide, by decide⟩ ?_
    refine w_iload rfl rfl ?_
    refine w_imul rfl o1 ?_
    refine w_callI rfl (fun _ => rfl) rfl (cI_mono H fun v4 h3 H => ?_)
    exact w_ireturn rfl H
  · replace H := H.2 hc
    refine w_aload rfl rfl ?_
    refine w_aload rfl rfl ?_
    refine w_getR 5 20 rfl rfl rfl rfl p_a0 ?_
    refine w_iconst rfl ⟨by decide, by decide⟩ ?_
    refine w_iload rfl rfl ?_
    have o5 := H.1
    replace H := H.2
    refine w_imul rfl o5 ?_
    refine w_aload rfl rfl ?_
    refine w_getR 12 20 rfl rfl rfl rfl p_a0 ?_
    refine w_iload rfl rfl ?_
    refine w_aload rfl rfl ?_
    refine w_getR 8 20 rfl rfl rfl rfl p_a0 ?_
    refine w_callU rfl (fun _ => rfl) rfl (cU_mono H fun h6 H => ?_)
    refine w_iconst rfl ⟨by decide, by decide⟩ ?_
    refine w_istore rfl rfl ?_
    exact H
set_option maxHeartbeats 4000000 in
set_option maxRecDepth 100000 in
theorem r_Model_average_77 {d : Nat} {Q : cm_Q} {h : cm_H} {a0 : Nat} {x1 : Int} {x2 : Int} {x3 : Int} {x4 : Int} {x5 : Int} (p_a0 : 0 < a0) (H : ((1140 ≤ x5 → (cm_i (x4 + 1) ∧ cw d cd_Model_average Q 42 [some (vR 12 a0), some (vI x1), some (vI x2), some (vI x3), some (vI (x4 + 1)), some (vI x5)] [] h)) ∧ (x5 < 1140 → (0 < ((ch_R h a0 7)) ∧ ((0:Int) ≤ x5 ∧ x5 < ch_L h (ch_R h a0 7)) ∧ (0 < ((ch_R h a0 8)) ∧ ((0:Int) ≤ x5 ∧ x5 < ch_L h (ch_R h a0 8)) ∧ (cm_i ((ch_I h (ch_R h a0 8) x5) * x3) ∧ (cm_i ((ch_I h (ch_R h a0 7) x5) + ((ch_I h (ch_R h a0 8) x5) * x3)) ∧ (∀ h8 : cm_H, h8 = ch_u h (ch_R h a0 7) x5 (Int.tmod ((ch_I h (ch_R h a0 7) x5) + ((ch_I h (ch_R h a0 8) x5) * x3)) 2521) → (cm_i (x5 + 1) ∧ cw d cd_Model_average Q 77 [some (vR 12 a0), some (vI x1), some (vI x2), some (vI x3), some (vI x4), some (vI (x5 + 1))] [] h8))))))))) : cw d cd_Model_average Q 77 [some (vR 12 a0), some (vI x1), some (vI x2), some (vI x3), some (vI x4), some (vI x5)] [] h := by
  refine w_iload rfl rfl ?_
  refine w_iconst rfl ⟨by decide, by decide⟩ ?_
  refine w_icmp rfl (And.intro (fun hc => ?_) (fun hc => ?_))
  · replace H := H.1 hc
    have o1 := H.1
    replace H := H.2
    refine w_iinc rfl rfl rfl o1 ?_
    refine w_goto rfl ?_
    exact H
  · replace H := H.2 hc
    refine w_aload rfl rfl ?_
    refine w_getR 7 20 rfl rfl rfl rfl p_a0 ?_
    refine w_iload rfl rfl ?_
    refine w_aload rfl rfl ?_
    refine w_getR 7 20 rfl rfl rfl rfl p_a0 ?_
    refine w_iload rfl rfl ?_
    have o2 := H.1
    replace H := H.2
    have o3 := H.1
    replace H := H.2
    refine w_iaload rfl o2 o3 ?_
    refine w_aload rfl rfl ?_
    refine w_getR 8 20 rfl rfl rfl rfl p_a0 ?_
    refine w_iload rfl rfl ?_
    have o4 := H.1
    replace H := H.2
    have o5 := H.1
    replace H := H.2
    refine w_iaload rfl o4 o5 ?_
    refine w_iload rfl rfl ?_
    have o6 := H.1
    replace H := H.2
    refine w_imul rfl o6 ?_
    have o7 := H.1
    replace H := H.2
    refine w_iadd rfl o7 ?_
    refine w_iconst rfl ⟨by decide, by decide⟩ ?_
    refine w_irem rfl (by decide) ?_
    refine w_iastore rfl o2 o3 (fun h8 eh8 => ?_)
    replace H := H h8 eh8
    have o9 := H.1
    replace H := H.2
    refine w_iinc rfl rfl rfl o9 ?_
    refine w_goto rfl ?_
    exact H
set_option maxHeartbeats 4000000 in
set_option maxRecDepth 100000 in
theorem r_Model_average {d : Nat} {Q : cm_Q} {h : cm_H} {a0 : Nat} {x1 : Int} {x2 : Int} (p_a0 : 0 < a0) (H : (∀ h1 : cm_H, h1 = ch_u h a0 0 0 → (cI d m_Model_isKept [vR 12 a0, vI x1] h1 fun v3 h2 => ((v3 = 0 → Q (some (vI (-1))) h2) ∧ (¬ v3 = 0 → (cI d m_Model_isKept [vR 12 a0, vI x2] h2 fun v5 h4 => ((¬ v5 = 0 → (cU d m_Model_clears [vR 20 (ch_R h4 a0 7), vI 0] h4 fun h6 => (cI d m_Model_inverse [vI (ch_I h6 a0 11)] h6 fun v8 h7 => cw d cd_Model_average Q 42 [some (vR 12 a0), some (vI x1), some (vI x2), some (vI v8), some (vI 0), none] [] h7))) ∧ (v5 = 0 → Q (some (vI (-1))) h4)))))))) : cm_call (d + 1) m_Model_average [vR 12 a0, vI x1, vI x2] h Q := by
  refine cm_call_in (C := cd_Model_average) (ls := [some (vR 12 a0), some (vI x1), some (vI x2), none, none, none]) rfl rfl p_a0 rfl ?_
  refine w_aload rfl rfl ?_
  refine w_iconst rfl ⟨by decide, by decide⟩ ?_
  refine w_putI 0 rfl rfl rfl p_a0 (fun h1 eh1 => ?_)
  replace H := H h1 eh1
  refine w_aload rfl rfl ?_
  refine w_iload rfl rfl ?_
  refine w_callI rfl (fun _ => rfl) rfl (cI_mono H fun v3 h2 H => ?_)
  refine w_if rfl (And.intro (fun hc => ?_) (fun hc => ?_))
  · replace H := H.1 hc
    refine w_iconst rfl ⟨by decide, by decide⟩ ?_
    exact w_ireturn rfl H
  · replace H := H.2 hc
    refine w_aload rfl rfl ?_
    refine w_iload rfl rfl ?_
    refine w_callI rfl (fun _ => rfl) rfl (cI_mono H fun v5 h4 H => ?_)
    refine w_if rfl (And.intro (fun hc => ?_) (fun hc => ?_))
    · replace H := H.1 hc
      refine w_aload rfl rfl ?_
      refine w_getR 7 20 rfl rfl rfl rfl p_a0 ?_
      refine w_iconst rfl ⟨by decide, by decide⟩ ?_
      refine w_callU rfl (fun _ => rfl) rfl (cU_mono H fun h6 H => ?_)
      refine w_aload rfl rfl ?_
      refine w_getI 11 rfl rfl rfl p_a0 ?_
      refine w_callI rfl (fun _ => rfl) rfl (cI_mono H fun v8 h7 H => ?_)
      refine w_istore rfl rfl ?_
      refine w_iconst rfl ⟨by decide, by decide⟩ ?_
      refine w_istore rfl rfl ?_
      exact H
    · replace H := H.2 hc
      refine w_iconst rfl ⟨by decide, by decide⟩ ?_
      exact w_ireturn rfl H
set_option maxHeartbeats 4000000 in
set_option maxRecDepth 100000 in
theorem r_Model_plus_42 {d : Nat} {Q : cm_Q} {h : cm_H} {a0 : Nat} {x1 : Int} {x2 : Int} {z3 : Option cm_V} {x4 : Int} {x5 : Int} {x6 : Int} (p_a0 : 0 < a0) (H : ((1140 ≤ x6 → (cm_i (1140 * x4) ∧ (cU d m_Model_copies [vR 20 (ch_R h a0 8), vI 0, vR 20 (ch_R h a0 5), vI (1140 * x4)] h fun h2 => (cI d m_Model_terms [vR 12 a0, vI (1140 * x4)] h2 fun v4 h3 => Q (some (vI v4)) h3)))) ∧ (x6 < 1140 → (cm_i (1140 * x1) ∧ (cm_i ((1140 * x1) + x6) ∧ (0 < ((ch_R h a0 5)) ∧ ((0:Int) ≤ ((1140 * x1) + x6) ∧ ((1140 * x1) + x6) < ch_L h (ch_R h a0 5)) ∧ (cm_i (1140 * x2) ∧ (cm_i ((1140 * x2) + x6) ∧ ((0:Int) ≤ ((1140 * x2) + x6) ∧ ((1140 * x2) + x6) < ch_L h (ch_R h a0 5)) ∧ (cm_i (x5 * (ch_I h (ch_R h a0 5) ((1140 * x2) + x6))) ∧ (cm_i ((ch_I h (ch_R h a0 5) ((1140 * x1) + x6)) + (x5 * (ch_I h (ch_R h a0 5) ((1140 * x2) + x6)))) ∧ (0 < ((ch_R h a0 8)) ∧ ((0:Int) ≤ x6 ∧ x6 < ch_L h (ch_R h a0 8)) ∧ (∀ h16 : cm_H, h16 = ch_u h (ch_R h a0 8) x6 (Int.tmod ((ch_I h (ch_R h a0 5) ((1140 * x1) + x6)) + (x5 * (ch_I h (ch_R h a0 5) ((1140 * x2) + x6)))) 2521) → (cm_i (x6 + 1) ∧ cw d cd_Model_plus Q 42 [some (vR 12 a0), some (vI x1), some (vI x2), z3, some (vI x4), some (vI x5), some (vI (x6 + 1))] [] h16))))))))))))) : cw d cd_Model_plus Q 42 [some (vR 12 a0), some (vI x1), some (vI x2), z3, some (vI x4), some (vI x5), some (vI x6)] [] h := by
  refine w_iload rfl rfl ?_
  refine w_iconst rfl ⟨by decide, by decide⟩ ?_
  refine w_icmp rfl (And.intro (fun hc => ?_) (fun hc => ?_))
  · replace H := H.1 hc
    refine w_aload rfl rfl ?_
    refine w_getR 8 20 rfl rfl rfl rfl p_a0 ?_
    refine w_iconst rfl ⟨by decide, by decide⟩ ?_
    refine w_aload rfl rfl ?_
    refine w_getR 5 20 rfl rfl rfl rfl p_a0 ?_
    refine w_iconst rfl ⟨by decide, by decide⟩ ?_
    refine w_iload rfl rfl ?_
    have o1 := H.1
    replace H := H.2
    refine w_imul rfl o1 ?_
    refine w_callU rfl (fun _ => rfl) rfl (cU_mono H fun h2 H => ?_)
    refine w_aload rfl rfl ?_
    refine w_iconst rfl ⟨by decide, by decide⟩ ?_
    refine w_iload rfl rfl ?_
    refine w_imul rfl o1 ?_
    refine w_callI rfl (fun _ => rfl) rfl (cI_mono H fun v4 h3 H => ?_)
    exact w_ireturn rfl H
  · replace H := H.2 hc
    refine w_aload rfl rfl ?_
    refine w_getR 8 20 rfl rfl rfl rfl p_a0 ?_
    refine w_iload rfl rfl ?_
    refine w_aload rfl rfl ?_
    refine w_getR 5 20 rfl rfl rfl rfl p_a0 ?_
    refine w_iconst rfl ⟨by decide, by decide⟩ ?_
    refine w_iload rfl rfl ?_
    have o5 := H.1
    replace H := H.2
    refine w_imul rfl o5 ?_
    refine w_iload rfl rfl ?_
    have o6 := H.1
    replace H := H.2
    refine w_iadd rfl o6 ?_
    have o7 := H.1
    replace H := H.2
    have o8 := H.1
    replace H := H.2
    refine w_iaload rfl o7 o8 ?_
    refine w_iload rfl rfl ?_
    refine w_aload rfl rfl ?_
    refine w_getR 5 20 rfl rfl rfl rfl p_a0 ?_
    refine w_iconst rfl ⟨by decide, by decide⟩ ?_
    refine w_iload rfl rfl ?_
    have o9 := H.1
    replace H := H.2
    refine w_imul rfl o9 ?_
    refine w_iload rfl rfl ?_
    have o10 := H.1
    replace H := H.2
    refine w_iadd rfl o10 ?_
    have o11 := H.1
    replace H := H.2
    refine w_iaload rfl o7 o11 ?_
    have o12 := H.1
    replace H := H.2
    refine w_imul rfl o12 ?_
    have o13 := H.1
    replace H := H.2
    refine w_iadd rfl o13 ?_
    refine w_iconst rfl ⟨by decide, by decide⟩ ?_
    refine w_irem rfl (by decide) ?_
    have o14 := H.1
    replace H := H.2
    have o15 := H.1
    replace H := H.2
    refine w_iastore rfl o14 o15 (fun h16 eh16 => ?_)
    replace H := H h16 eh16
    have o17 := H.1
    replace H := H.2
    refine w_iinc rfl rfl rfl o17 ?_
    refine w_goto rfl ?_
    exact H
set_option maxHeartbeats 4000000 in
set_option maxRecDepth 100000 in
theorem r_Model_plus {d : Nat} {Q : cm_Q} {h : cm_H} {a0 : Nat} {x1 : Int} {x2 : Int} {x3 : Int} {x4 : Int} (p_a0 : 0 < a0) (H : (∀ h1 : cm_H, h1 = ch_u h a0 0 0 → (cI d m_Model_isKept [vR 12 a0, vI x1] h1 fun v3 h2 => ((v3 = 0 → Q (some (vI (-1))) h2) ∧ (¬ v3 = 0 → (cI d m_Model_isKept [vR 12 a0, vI x2] h2 fun v5 h4 => ((v5 = 0 → Q (some (vI (-1))) h4) ∧ (¬ v5 = 0 → (cI d m_Model_isKept [vR 12 a0, vI x4] h4 fun v7 h6 => ((¬ v7 = 0 → (cI d m_Model_of [vL x3] h6 fun v9 h8 => cw d cd_Model_plus Q 42 [some (vR 12 a0), some (vI x1), some (vI x2), some (vI x3), some (vI x4), some (vI v9), some (vI 0)] [] h8)) ∧ (v7 = 0 → Q (some (vI (-1))) h6))))))))))) : cm_call (d + 1) m_Model_plus [vR 12 a0, vI x1, vI x2, vI x3, vI x4] h Q := by
  refine cm_call_in (C := cd_Model_plus) (ls := [some (vR 12 a0), some (vI x1), some (vI x2), some (vI x3), some (vI x4), none, none]) rfl rfl p_a0 rfl ?_
  refine w_aload rfl rfl ?_
  refine w_iconst rfl ⟨by decide, by decide⟩ ?_
  refine w_putI 0 rfl rfl rfl p_a0 (fun h1 eh1 => ?_)
  replace H := H h1 eh1
  refine w_aload rfl rfl ?_
  refine w_iload rfl rfl ?_
  refine w_callI rfl (fun _ => rfl) rfl (cI_mono H fun v3 h2 H => ?_)
  refine w_if rfl (And.intro (fun hc => ?_) (fun hc => ?_))
  · replace H := H.1 hc
    refine w_iconst rfl ⟨by decide, by decide⟩ ?_
    exact w_ireturn rfl H
  · replace H := H.2 hc
    refine w_aload rfl rfl ?_
    refine w_iload rfl rfl ?_
    refine w_callI rfl (fun _ => rfl) rfl (cI_mono H fun v5 h4 H => ?_)
    refine w_if rfl (And.intro (fun hc => ?_) (fun hc => ?_))
    · replace H := H.1 hc
      refine w_iconst rfl ⟨by decide, by decide⟩ ?_
      exact w_ireturn rfl H
    · replace H := H.2 hc
      refine w_aload rfl rfl ?_
      refine w_iload rfl rfl ?_
      refine w_callI rfl (fun _ => rfl) rfl (cI_mono H fun v7 h6 H => ?_)
      refine w_if rfl (And.intro (fun hc => ?_) (fun hc => ?_))
      · replace H := H.1 hc
        refine w_iload rfl rfl ?_
        refine w_i2l rfl ?_
        refine w_callI rfl (fun _ => rfl) rfl (cI_mono H fun v9 h8 H => ?_)
        refine w_istore rfl rfl ?_
        refine w_iconst rfl ⟨by decide, by decide⟩ ?_
        refine w_istore rfl rfl ?_
        exact H
      · replace H := H.2 hc
        refine w_iconst rfl ⟨by decide, by decide⟩ ?_
        exact w_ireturn rfl H
set_option maxHeartbeats 4000000 in
set_option maxRecDepth 100000 in
theorem r_Model_product__68 {d : Nat} {Q : cm_Q} {h : cm_H} {a0 : Nat} {x1 : Int} {x2 : Int} {x3 : Int} {z4 : Option cm_V} {s0 : Int} (p_a0 : 0 < a0) (H : ((¬ s0 = 0 → cw d cd_Model_product_ Q 110 [some (vR 12 a0), some (vI x1), some (vI x2), some (vI x3), some (vI s0)] [] h) ∧ (s0 = 0 → (cm_i (1140 * x1) ∧ (cI d m_Model_degree [vR 12 a0, vR 20 (ch_R h a0 5), vI (1140 * x1)] h fun v3 h2 => (cm_i (1140 * x2) ∧ (cI d m_Model_degree [vR 12 a0, vR 20 (ch_R h2 a0 5), vI (1140 * x2)] h2 fun v6 h5 => (cm_i (v3 + v6) ∧ (((v3 + v6) ≤ 15 → cw d cd_Model_product_ Q 110 [some (vR 12 a0), some (vI x1), some (vI x2), some (vI x3), some (vI s0)] [] h5) ∧ (15 < (v3 + v6) → Q (some (vI (-2))) h5)))))))))) : cw d cd_Model_product_ Q 68 [some (vR 12 a0), some (vI x1), some (vI x2), some (vI x3), z4] [vI s0] h := by
  refine w_istore rfl rfl ?_
  refine w_iload rfl rfl ?_
  refine w_if rfl (And.intro (fun hc => ?_) (fun hc => ?_))
  · replace H := H.1 hc
    exact H
  · replace H := H.2 hc
    refine w_aload rfl rfl ?_
    refine w_aload rfl rfl ?_
    refine w_getR 5 20 rfl rfl rfl rfl p_a0 ?_
    refine w_iconst rfl ⟨by decide, by decide⟩ ?_
    refine w_iload rfl rfl ?_
    have o1 := H.1
    replace H := H.2
    refine w_imul rfl o1 ?_
    refine w_callI rfl (fun _ => rfl) rfl (cI_mono H fun v3 h2 H => ?_)
    refine w_aload rfl rfl ?_
    refine w_aload rfl rfl ?_
    refine w_getR 5 20 rfl rfl rfl rfl p_a0 ?_
    refine w_iconst rfl ⟨by decide, by decide⟩ ?_
    refine w_iload rfl rfl ?_
    have o4 := H.1
    replace H := H.2
    refine w_imul rfl o4 ?_
    refine w_callI rfl (fun _ => rfl) rfl (cI_mono H fun v6 h5 H => ?_)
    have o7 := H.1
    replace H := H.2
    refine w_iadd rfl o7 ?_
    refine w_iconst rfl ⟨by decide, by decide⟩ ?_
    refine w_icmp rfl (And.intro (fun hc => ?_) (fun hc => ?_))
    · replace H := H.1 hc
      exact H
    · replace H := H.2 hc
      refine w_iconst rfl ⟨by decide, by decide⟩ ?_
      exact w_ireturn rfl H
set_option maxHeartbeats 4000000 in
set_option maxRecDepth 100000 in
theorem r_Model_product__110 {d : Nat} {Q : cm_Q} {h : cm_H} {a0 : Nat} {x1 : Int} {x2 : Int} {x3 : Int} {z4 : Option cm_V} (p_a0 : 0 < a0) (H : (cm_i (1140 * x1) ∧ (cm_i (1140 * x2) ∧ (cU d m_Model_multiplies [vR 12 a0, vR 20 (ch_R h a0 5), vI (1140 * x1), vR 20 (ch_R h a0 5), vI (1140 * x2), vR 20 (ch_R h a0 8), vI 0] h fun h3 => (cm_i (1140 * x3) ∧ (cU d m_Model_copies [vR 20 (ch_R h3 a0 8), vI 0, vR 20 (ch_R h3 a0 5), vI (1140 * x3)] h3 fun h5 => (cI d m_Model_terms [vR 12 a0, vI (1140 * x3)] h5 fun v7 h6 => Q (some (vI v7)) h6))))))) : cw d cd_Model_product_ Q 110 [some (vR 12 a0), some (vI x1), some (vI x2), some (vI x3), z4] [] h := by
  refine w_aload rfl rfl ?_
  refine w_aload rfl rfl ?_
  refine w_getR 5 20 rfl rfl rfl rfl p_a0 ?_
  refine w_iconst rfl ⟨by decide, by decide⟩ ?_
  refine w_iload rfl rfl ?_
  have o1 := H.1
  replace H := H.2
  refine w_imul rfl o1 ?_
  refine w_aload rfl rfl ?_
  refine w_getR 5 20 rfl rfl rfl rfl p_a0 ?_
  refine w_iconst rfl ⟨by decide, by decide⟩ ?_
  refine w_iload rfl rfl ?_
  have o2 := H.1
  replace H := H.2
  refine w_imul rfl o2 ?_
  refine w_aload rfl rfl ?_
  refine w_getR 8 20 rfl rfl rfl rfl p_a0 ?_
  refine w_iconst rfl ⟨by decide, by decide⟩ ?_
  refine w_callU rfl (fun _ => rfl) rfl (cU_mono H fun h3 H => ?_)
  refine w_aload rfl rfl ?_
  refine w_getR 8 20 rfl rfl rfl rfl p_a0 ?_
  refine w_iconst rfl ⟨by decide, by decide⟩ ?_
  refine w_aload rfl rfl ?_
  refine w_getR 5 20 rfl rfl rfl rfl p_a0 ?_
  refine w_iconst rfl ⟨by decide, by decide⟩ ?_
  refine w_iload rfl rfl ?_
  have o4 := H.1
  replace H := H.2
  refine w_imul rfl o4 ?_
  refine w_callU rfl (fun _ => rfl) rfl (cU_mono H fun h5 H => ?_)
  refine w_aload rfl rfl ?_
  refine w_iconst rfl ⟨by decide, by decide⟩ ?_
  refine w_iload rfl rfl ?_
  refine w_imul rfl o4 ?_
  refine w_callI rfl (fun _ => rfl) rfl (cI_mono H fun v7 h6 H => ?_)
  exact w_ireturn rfl H
set_option maxHeartbeats 4000000 in
set_option maxRecDepth 100000 in
theorem r_Model_product_ {d : Nat} {Q : cm_Q} {h : cm_H} {a0 : Nat} {x1 : Int} {x2 : Int} {x3 : Int} (p_a0 : 0 < a0) (H : (∀ h1 : cm_H, h1 = ch_u h a0 0 0 → (cI d m_Model_isKept [vR 12 a0, vI x1] h1 fun v3 h2 => ((v3 = 0 → Q (some (vI (-1))) h2) ∧ (¬ v3 = 0 → (cI d m_Model_isKept [vR 12 a0, vI x2] h2 fun v5 h4 => ((v5 = 0 → Q (some (vI (-1))) h4) ∧ (¬ v5 = 0 → (cI d m_Model_isKept [vR 12 a0, vI x3] h4 fun v7 h6 => ((¬ v7 = 0 → (cm_i (1140 * x1) ∧ (cI d m_Model_isNothing [vR 12 a0, vR 20 (ch_R h6 a0 5), vI (1140 * x1)] h6 fun v10 h9 => ((¬ v10 = 0 → cw d cd_Model_product_ Q 68 [some (vR 12 a0), some (vI x1), some (vI x2), some (vI x3), none] [vI 1] h9) ∧ (v10 = 0 → (cm_i (1140 * x2) ∧ (cI d m_Model_isNothing [vR 12 a0, vR 20 (ch_R h9 a0 5), vI (1140 * x2)] h9 fun v13 h12 => ((v13 = 0 → cw d cd_Model_product_ Q 68 [some (vR 12 a0), some (vI x1), some (vI x2), some (vI x3), none] [vI 0] h12) ∧ (¬ v13 = 0 → cw d cd_Model_product_ Q 68 [some (vR 12 a0), some (vI x1), some (vI x2), some (vI x3), none] [vI 1] h12))))))))) ∧ (v7 = 0 → Q (some (vI (-1))) h6))))))))))) : cm_call (d + 1) m_Model_product_ [vR 12 a0, vI x1, vI x2, vI x3] h Q := by
  refine cm_call_in (C := cd_Model_product_) (ls := [some (vR 12 a0), some (vI x1), some (vI x2), some (vI x3), none]) rfl rfl p_a0 rfl ?_
  refine w_aload rfl rfl ?_
  refine w_iconst rfl ⟨by decide, by decide⟩ ?_
  refine w_putI 0 rfl rfl rfl p_a0 (fun h1 eh1 => ?_)
  replace H := H h1 eh1
  refine w_aload rfl rfl ?_
  refine w_iload rfl rfl ?_
  refine w_callI rfl (fun _ => rfl) rfl (cI_mono H fun v3 h2 H => ?_)
  refine w_if rfl (And.intro (fun hc => ?_) (fun hc => ?_))
  · replace H := H.1 hc
    refine w_iconst rfl ⟨by decide, by decide⟩ ?_
    exact w_ireturn rfl H
  · replace H := H.2 hc
    refine w_aload rfl rfl ?_
    refine w_iload rfl rfl ?_
    refine w_callI rfl (fun _ => rfl) rfl (cI_mono H fun v5 h4 H => ?_)
    refine w_if rfl (And.intro (fun hc => ?_) (fun hc => ?_))
    · replace H := H.1 hc
      refine w_iconst rfl ⟨by decide, by decide⟩ ?_
      exact w_ireturn rfl H
    · replace H := H.2 hc
      refine w_aload rfl rfl ?_
      refine w_iload rfl rfl ?_
      refine w_callI rfl (fun _ => rfl) rfl (cI_mono H fun v7 h6 H => ?_)
      refine w_if rfl (And.intro (fun hc => ?_) (fun hc => ?_))
      · replace H := H.1 hc
        refine w_aload rfl rfl ?_
        refine w_aload rfl rfl ?_
        refine w_getR 5 20 rfl rfl rfl rfl p_a0 ?_
        refine w_iconst rfl ⟨by decide, by decide⟩ ?_
        refine w_iload rfl rfl ?_
        have o8 := H.1
        replace H := H.2
        refine w_imul rfl o8 ?_
        refine w_callI rfl (fun _ => rfl) rfl (cI_mono H fun v10 h9 H => ?_)
        refine w_if rfl (And.intro (fun hc => ?_) (fun hc => ?_))
        · replace H := H.1 hc
          refine w_iconst rfl ⟨by decide, by decide⟩ ?_
          refine w_goto rfl ?_
          exact H
        · replace H := H.2 hc
          refine w_aload rfl rfl ?_
          refine w_aload rfl rfl ?_
          refine w_getR 5 20 rfl rfl rfl rfl p_a0 ?_
          refine w_iconst rfl ⟨by decide, by decide⟩ ?_
          refine w_iload rfl rfl ?_
          have o11 := H.1
          replace H := H.2
          refine w_imul rfl o11 ?_
          refine w_callI rfl (fun _ => rfl) rfl (cI_mono H fun v13 h12 H => ?_)
          refine w_if rfl (And.intro (fun hc => ?_) (fun hc => ?_))
          · replace H := H.1 hc
            refine w_iconst rfl ⟨by decide, by decide⟩ ?_
            exact H
          · replace H := H.2 hc
            refine w_iconst rfl ⟨by decide, by decide⟩ ?_
            refine w_goto rfl ?_
            exact H
      · replace H := H.2 hc
        refine w_iconst rfl ⟨by decide, by decide⟩ ?_
        exact w_ireturn rfl H
set_option maxHeartbeats 4000000 in
set_option maxRecDepth 100000 in
theorem r_Model_steps_5 {d : Nat} {Q : cm_Q} {h : cm_H} {a0 : Nat} {x1 : Int} {x2 : Int} {x3 : Int} {x4 : Int} {z5 : Option cm_V} {z6 : Option cm_V} {z7 : Option cm_V} {z8 : Option cm_V} {z9 : Option cm_V}  (H : ((x2 ≤ x4 → Q (some (vI x3)) h) ∧ (x4 < x2 → ((x1 ≤ x3 → Q (some (vI x3)) h) ∧ (x3 < x1 → cw d cd_Model_steps Q 19 [some (vR 12 a0), some (vI x1), some (vI x2), some (vI x3), some (vI x4), some (vI x3), z6, z7, z8, z9] [] h))))) : cw d cd_Model_steps Q 5 [some (vR 12 a0), some (vI x1), some (vI x2), some (vI x3), some (vI x4), z5, z6, z7, z8, z9] [] h := by
  refine w_iload rfl rfl ?_
  refine w_iload rfl rfl ?_
  refine w_icmp rfl (And.intro (fun hc => ?_) (fun hc => ?_))
  · replace H := H.1 hc
    refine w_iload rfl rfl ?_
    exact w_ireturn rfl H
  · replace H := H.2 hc
    refine w_iload rfl rfl ?_
    refine w_iload rfl rfl ?_
    refine w_icmp rfl (And.intro (fun hc => ?_) (fun hc => ?_))
    · replace H := H.1 hc
      refine w_iload rfl rfl ?_
      exact w_ireturn rfl H
    · replace H := H.2 hc
      refine w_iload rfl rfl ?_
      refine w_istore rfl rfl ?_
      exact H
set_option maxHeartbeats 4000000 in
set_option maxRecDepth 100000 in
theorem r_Model_steps_19 {d : Nat} {Q : cm_Q} {h : cm_H} {a0 : Nat} {x1 : Int} {x2 : Int} {x3 : Int} {x4 : Int} {x5 : Int} {z6 : Option cm_V} {z7 : Option cm_V} {z8 : Option cm_V} {z9 : Option cm_V} (p_a0 : 0 < a0) (H : ((x1 ≤ x5 → cw d cd_Model_steps Q 48 [some (vR 12 a0), some (vI x1), some (vI x2), some (vI x3), some (vI x4), some (vI x5), z6, z7, z8, z9] [] h) ∧ (x5 < x1 → (cm_i (160 * x5) ∧ (cm_i ((160 * x5) + x4) ∧ (0 < ((ch_R h a0 32)) ∧ ((0:Int) ≤ ((160 * x5) + x4) ∧ ((160 * x5) + x4) < ch_L h (ch_R h a0 32)) ∧ ((¬ (ch_I h (ch_R h a0 32) ((160 * x5) + x4)) = 0 → cw d cd_Model_steps Q 48 [some (vR 12 a0), some (vI x1), some (vI x2), some (vI x3), some (vI x4), some (vI x5), z6, z7, z8, z9] [] h) ∧ ((ch_I h (ch_R h a0 32) ((160 * x5) + x4)) = 0 → (cm_i (x5 + 1) ∧ cw d cd_Model_steps Q 19 [some (vR 12 a0), some (vI x1), some (vI x2), some (vI x3), some (vI x4), some (vI (x5 + 1)), z6, z7, z8, z9] [] h))))))))) : cw d cd_Model_steps Q 19 [some (vR 12 a0), some (vI x1), some (vI x2), some (vI x3), some (vI x4), some (vI x5), z6, z7, z8, z9] [] h := by
  refine w_iload rfl rfl ?_
  refine w_iload rfl rfl ?_
  refine w_icmp rfl (And.intro (fun hc => ?_) (fun hc => ?_))
  · replace H := H.1 hc
    exact H
  · replace H := H.2 hc
    refine w_aload rfl rfl ?_
    refine w_getR 32 20 rfl rfl rfl rfl p_a0 ?_
    refine w_iconst rfl ⟨by decide, by decide⟩ ?_
    refine w_iload rfl rfl ?_
    have o1 := H.1
    replace H := H.2
    refine w_imul rfl o1 ?_
    refine w_iload rfl rfl ?_
    have o2 := H.1
    replace H := H.2
    refine w_iadd rfl o2 ?_
    have o3 := H.1
    replace H := H.2
    have o4 := H.1
    replace H := H.2
    refine w_iaload rfl o3 o4 ?_
    refine w_if rfl (And.intro (fun hc => ?_) (fun hc => ?_))
    · replace H := H.1 hc
      exact H
    · replace H := H.2 hc
      have o5 := H.1
      replace H := H.2
      refine w_iinc rfl rfl rfl o5 ?_
      refine w_goto rfl ?_
      exact H
set_option maxHeartbeats 4000000 in
set_option maxRecDepth 100000 in
theorem r_Model_steps_48 {d : Nat} {Q : cm_Q} {h : cm_H} {a0 : Nat} {x1 : Int} {x2 : Int} {x3 : Int} {x4 : Int} {x5 : Int} {z6 : Option cm_V} {z7 : Option cm_V} {z8 : Option cm_V} {z9 : Option cm_V}  (H : ((x1 ≤ x5 → (cm_i (x4 + 1) ∧ cw d cd_Model_steps Q 5 [some (vR 12 a0), some (vI x1), some (vI x2), some (vI x3), some (vI (x4 + 1)), some (vI x5), z6, z7, z8, z9] [] h)) ∧ (x5 < x1 → cw d cd_Model_steps Q 57 [some (vR 12 a0), some (vI x1), some (vI x2), some (vI x3), some (vI x4), some (vI x5), some (vI 0), z7, z8, z9] [] h))) : cw d cd_Model_steps Q 48 [some (vR 12 a0), some (vI x1), some (vI x2), some (vI x3), some (vI x4), some (vI x5), z6, z7, z8, z9] [] h := by
  refine w_iload rfl rfl ?_
  refine w_iload rfl rfl ?_
  refine w_icmp rfl (And.intro (fun hc => ?_) (fun hc => ?_))
  · replace H := H.1 hc
    have o1 := H.1
    replace H := H.2
    refine w_iinc rfl rfl rfl o1 ?_
    refine w_goto rfl ?_
    exact H
  · replace H := H.2 hc
    refine w_iconst rfl ⟨by decide, by decide⟩ ?_
    refine w_istore rfl rfl ?_
    exact H
set_option maxHeartbeats 4000000 in
set_option maxRecDepth 100000 in
theorem r_Model_steps_57 {d : Nat} {Q : cm_Q} {h : cm_H} {a0 : Nat} {x1 : Int} {x2 : Int} {x3 : Int} {x4 : Int} {x5 : Int} {x6 : Int} {z7 : Option cm_V} {z8 : Option cm_V} {z9 : Option cm_V} (p_a0 : 0 < a0) (H : ((160 ≤ x6 → (cm_i (160 * x3) ∧ (cm_i ((160 * x3) + x4) ∧ (0 < ((ch_R h a0 32)) ∧ ((0:Int) ≤ ((160 * x3) + x4) ∧ ((160 * x3) + x4) < ch_L h (ch_R h a0 32)) ∧ (cI d m_Model_inverse [vI (ch_I h (ch_R h a0 32) ((160 * x3) + x4))] h fun v6 h5 => cw d cd_Model_steps Q 151 [some (vR 12 a0), some (vI x1), some (vI x2), some (vI x3), some (vI x4), some (vI x5), some (vI v6), some (vI x4), z8, z9] [] h5))))) ∧ (x6 < 160 → (cm_i (160 * x5) ∧ (cm_i ((160 * x5) + x6) ∧ (0 < ((ch_R h a0 32)) ∧ ((0:Int) ≤ ((160 * x5) + x6) ∧ ((160 * x5) + x6) < ch_L h (ch_R h a0 32)) ∧ (cm_i (160 * x3) ∧ (cm_i ((160 * x3) + x6) ∧ ((0:Int) ≤ ((160 * x3) + x6) ∧ ((160 * x3) + x6) < ch_L h (ch_R h a0 32)) ∧ (∀ h14 : cm_H, h14 = ch_u h (ch_R h a0 32) ((160 * x5) + x6) (ch_I h (ch_R h a0 32) ((160 * x3) + x6)) → (0 < ((ch_R h14 a0 32)) ∧ ((0:Int) ≤ ((160 * x3) + x6) ∧ ((160 * x3) + x6) < ch_L h14 (ch_R h14 a0 32)) ∧ (∀ h17 : cm_H, h17 = ch_u h14 (ch_R h14 a0 32) ((160 * x3) + x6) (ch_I h (ch_R h a0 32) ((160 * x5) + x6)) → (cm_i (x6 + 1) ∧ cw d cd_Model_steps Q 57 [some (vR 12 a0), some (vI x1), some (vI x2), some (vI x3), some (vI x4), some (vI x5), some (vI (x6 + 1)), some (vI (ch_I h (ch_R h a0 32) ((160 * x5) + x6))), z8, z9] [] h17)))))))))))) : cw d cd_Model_steps Q 57 [some (vR 12 a0), some (vI x1), some (vI x2), some (vI x3), some (vI x4), some (vI x5), some (vI x6), z7, z8, z9] [] h := by
  refine w_iload rfl rfl ?_
  refine w_iconst rfl ⟨by decide, by decide⟩ ?_
  refine w_icmp rfl (And.intro (fun hc => ?_) (fun hc => ?_))
  · replace H := H.1 hc
    refine w_aload rfl rfl ?_
    refine w_getR 32 20 rfl rfl rfl rfl p_a0 ?_
    refine w_iconst rfl ⟨by decide, by decide⟩ ?_
    refine w_iload rfl rfl ?_
    have o1 := H.1
    replace H := H.2
    refine w_imul rfl o1 ?_
    refine w_iload rfl rfl ?_
    have o2 := H.1
    replace H := H.2
    refine w_iadd rfl o2 ?_
    have o3 := H.1
    replace H := H.2
    have o4 := H.1
    replace H := H.2
    refine w_iaload rfl o3 o4 ?_
    refine w_callI rfl (fun _ => rfl) rfl (cI_mono H fun v6 h5 H => ?_)
    refine w_istore rfl rfl ?_
    refine w_iload rfl rfl ?_
    refine w_istore rfl rfl ?_
    exact H
  · replace H := H.2 hc
    refine w_aload rfl rfl ?_
    refine w_getR 32 20 rfl rfl rfl rfl p_a0 ?_
    refine w_iconst rfl ⟨by decide, by decide⟩ ?_
    refine w_iload rfl rfl ?_
    have o7 := H.1
    replace H := H.2
    refine w_imul rfl o7 ?_
    refine w_iload rfl rfl ?_
    have o8 := H.1
    replace H := H.2
    refine w_iadd rfl o8 ?_
    have o9 := H.1
    replace H := H.2
    have o10 := H.1
    replace H := H.2
    refine w_iaload rfl o9 o10 ?_
    refine w_istore rfl rfl ?_
    refine w_aload rfl rfl ?_
    refine w_getR 32 20 rfl rfl rfl rfl p_a0 ?_
    refine w_iconst rfl ⟨by decide, by decide⟩ ?_
    refine w_iload rfl rfl ?_
    refine w_imul rfl o7 ?_
    refine w_iload rfl rfl ?_
    refine w_iadd rfl o8 ?_
    refine w_aload rfl rfl ?_
    refine w_getR 32 20 rfl rfl rfl rfl p_a0 ?_
    refine w_iconst rfl ⟨by decide, by decide⟩ ?_
    refine w_iload rfl rfl ?_
    have o11 := H.1
    replace H := H.2
    refine w_imul rfl o11 ?_
    refine w_iload rfl rfl ?_
    have o12 := H.1
    replace H := H.2
    refine w_iadd rfl o12 ?_
    have o13 := H.1
    replace H := H.2
    refine w_iaload rfl o9 o13 ?_
    refine w_iastore rfl o9 o10 (fun h14 eh14 => ?_)
    replace H := H h14 eh14
    refine w_aload rfl rfl ?_
    refine w_getR 32 20 rfl rfl rfl rfl p_a0 ?_
    refine w_iconst rfl ⟨by decide, by decide⟩ ?_
    refine w_iload rfl rfl ?_
    refine w_imul rfl o11 ?_
    refine w_iload rfl rfl ?_
    refine w_iadd rfl o12 ?_
    refine w_iload rfl rfl ?_
    have o15 := H.1
    replace H := H.2
    have o16 := H.1
    replace H := H.2
    refine w_iastore rfl o15 o16 (fun h17 eh17 => ?_)
    replace H := H h17 eh17
    have o18 := H.1
    replace H := H.2
    refine w_iinc rfl rfl rfl o18 ?_
    refine w_goto rfl ?_
    exact H
set_option maxHeartbeats 4000000 in
set_option maxRecDepth 100000 in
theorem r_Model_steps_151 {d : Nat} {Q : cm_Q} {h : cm_H} {a0 : Nat} {x1 : Int} {x2 : Int} {x3 : Int} {x4 : Int} {z5 : Option cm_V} {x6 : Int} {x7 : Int} {z8 : Option cm_V} {z9 : Option cm_V} (p_a0 : 0 < a0) (H : ((160 ≤ x7 → cw d cd_Model_steps Q 201 [some (vR 12 a0), some (vI x1), some (vI x2), some (vI x3), some (vI x4), z5, some (vI x6), some (vI 0), z8, z9] [] h) ∧ (x7 < 160 → (cm_i (160 * x3) ∧ (cm_i ((160 * x3) + x7) ∧ (0 < ((ch_R h a0 32)) ∧ ((0:Int) ≤ ((160 * x3) + x7) ∧ ((160 * x3) + x7) < ch_L h (ch_R h a0 32)) ∧ (cm_i ((ch_I h (ch_R h a0 32) ((160 * x3) + x7)) * x6) ∧ (∀ h6 : cm_H, h6 = ch_u h (ch_R h a0 32) ((160 * x3) + x7) (Int.tmod ((ch_I h (ch_R h a0 32) ((160 * x3) + x7)) * x6) 2521) → (cm_i (x7 + 1) ∧ cw d cd_Model_steps Q 151 [some (vR 12 a0), some (vI x1), some (vI x2), some (vI x3), some (vI x4), z5, some (vI x6), some (vI (x7 + 1)), z8, z9] [] h6))))))))) : cw d cd_Model_steps Q 151 [some (vR 12 a0), some (vI x1), some (vI x2), some (vI x3), some (vI x4), z5, some (vI x6), some (vI x7), z8, z9] [] h := by
  refine w_iload rfl rfl ?_
  refine w_iconst rfl ⟨by decide, by decide⟩ ?_
  refine w_icmp rfl (And.intro (fun hc => ?_) (fun hc => ?_))
  · replace H := H.1 hc
    refine w_iconst rfl ⟨by decide, by decide⟩ ?_
    refine w_istore rfl rfl ?_
    exact H
  · replace H := H.2 hc
    refine w_aload rfl rfl ?_
    refine w_getR 32 20 rfl rfl rfl rfl p_a0 ?_
    refine w_iconst rfl ⟨by decide, by decide⟩ ?_
    refine w_iload rfl rfl ?_
    have o1 := H.1
    replace H := H.2
    refine w_imul rfl o1 ?_
    refine w_iload rfl rfl ?_
    have o2 := H.1
    replace H := H.2
    refine w_iadd rfl o2 ?_
    refine w_aload rfl rfl ?_
    refine w_getR 32 20 rfl rfl rfl rfl p_a0 ?_
    refine w_iconst rfl ⟨by decide, by decide⟩ ?_
    refine w_iload rfl rfl ?_
    refine w_imul rfl o1 ?_
    refine w_iload rfl rfl ?_
    refine w_iadd rfl o2 ?_
    have o3 := H.1
    replace H := H.2
    have o4 := H.1
    replace H := H.2
    refine w_iaload rfl o3 o4 ?_
    refine w_iload rfl rfl ?_
    have o5 := H.1
    replace H := H.2
    refine w_imul rfl o5 ?_
    refine w_iconst rfl ⟨by decide, by decide⟩ ?_
    refine w_irem rfl (by decide) ?_
    refine w_iastore rfl o3 o4 (fun h6 eh6 => ?_)
    replace H := H h6 eh6
    have o7 := H.1
    replace H := H.2
    refine w_iinc rfl rfl rfl o7 ?_
    refine w_goto rfl ?_
    exact H
set_option maxHeartbeats 4000000 in
set_option maxRecDepth 100000 in
theorem r_Model_steps_201 {d : Nat} {Q : cm_Q} {h : cm_H} {a0 : Nat} {x1 : Int} {x2 : Int} {x3 : Int} {x4 : Int} {z5 : Option cm_V} {z6 : Option cm_V} {x7 : Int} {z8 : Option cm_V} {z9 : Option cm_V} (p_a0 : 0 < a0) (H : ((x1 ≤ x7 → (0 < ((ch_R h a0 33)) ∧ ((0:Int) ≤ x3 ∧ x3 < ch_L h (ch_R h a0 33)) ∧ (∀ h3 : cm_H, h3 = ch_u h (ch_R h a0 33) x3 x4 → (cm_i (x3 + 1) ∧ (cm_i (x4 + 1) ∧ cw d cd_Model_steps Q 5 [some (vR 12 a0), some (vI x1), some (vI x2), some (vI (x3 + 1)), some (vI (x4 + 1)), z5, z6, some (vI x7), z8, z9] [] h3))))) ∧ (x7 < x1 → (cm_i (160 * x7) ∧ (cm_i ((160 * x7) + x4) ∧ (0 < ((ch_R h a0 32)) ∧ ((0:Int) ≤ ((160 * x7) + x4) ∧ ((160 * x7) + x4) < ch_L h (ch_R h a0 32)) ∧ ((x7 = x3 → (cm_i (x7 + 1) ∧ cw d cd_Model_steps Q 201 [some (vR 12 a0), some (vI x1), some (vI x2), some (vI x3), some (vI x4), z5, z6, some (vI (x7 + 1)), some (vI (ch_I h (ch_R h a0 32) ((160 * x7) + x4))), z9] [] h)) ∧ (¬ x7 = x3 → (((ch_I h (ch_R h a0 32) ((160 * x7) + x4)) = 0 → (cm_i (x7 + 1) ∧ cw d cd_Model_steps Q 201 [some (vR 12 a0), some (vI x1), some (vI x2), some (vI x3), some (vI x4), z5, z6, some (vI (x7 + 1)), some (vI (ch_I h (ch_R h a0 32) ((160 * x7) + x4))), z9] [] h)) ∧ (¬ (ch_I h (ch_R h a0 32) ((160 * x7) + x4)) = 0 → cw d cd_Model_steps Q 238 [some (vR 12 a0), some (vI x1), some (vI x2), some (vI x3), some (vI x4), z5, z6, some (vI x7), some (vI (ch_I h (ch_R h a0 32) ((160 * x7) + x4))), some (vI x4)] [] h)))))))))) : cw d cd_Model_steps Q 201 [some (vR 12 a0), some (vI x1), some (vI x2), some (vI x3), some (vI x4), z5, z6, some (vI x7), z8, z9] [] h := by
  refine w_iload rfl rfl ?_
  refine w_iload rfl rfl ?_
  refine w_icmp rfl (And.intro (fun hc => ?_) (fun hc => ?_))
  · replace H := H.1 hc
    refine w_aload rfl rfl ?_
    refine w_getR 33 20 rfl rfl rfl rfl p_a0 ?_
    refine w_iload rfl rfl ?_
    refine w_iload rfl rfl ?_
    have o1 := H.1
    replace H := H.2
    have o2 := H.1
    replace H := H.2
    refine w_iastore rfl o1 o2 (fun h3 eh3 => ?_)
    replace H := H h3 eh3
    have o4 := H.1
    replace H := H.2
    refine w_iinc rfl rfl rfl o4 ?_
    have o5 := H.1
    replace H := H.2
    refine w_iinc rfl rfl rfl o5 ?_
    refine w_goto rfl ?_
    exact H
  · replace H := H.2 hc
    refine w_aload rfl rfl ?_
    refine w_getR 32 20 rfl rfl rfl rfl p_a0 ?_
    refine w_iconst rfl ⟨by decide, by decide⟩ ?_
    refine w_iload rfl rfl ?_
    have o6 := H.1
    replace H := H.2
    refine w_imul rfl o6 ?_
    refine w_iload rfl rfl ?_
    have o7 := H.1
    replace H := H.2
    refine w_iadd rfl o7 ?_
    have o8 := H.1
    replace H := H.2
    have o9 := H.1
    replace H := H.2
    refine w_iaload rfl o8 o9 ?_
    refine w_istore rfl rfl ?_
    refine w_iload rfl rfl ?_
    refine w_iload rfl rfl ?_
    refine w_icmp rfl (And.intro (fun hc => ?_) (fun hc => ?_))
    · replace H := H.1 hc
      have o10 := H.1
      replace H := H.2
      refine w_iinc rfl rfl rfl o10 ?_
      refine w_goto rfl ?_
      exact H
    · replace H := H.2 hc
      refine w_iload rfl rfl ?_
      refine w_if rfl (And.intro (fun hc => ?_) (fun hc => ?_))
      · replace H := H.1 hc
        have o11 := H.1
        replace H := H.2
        refine w_iinc rfl rfl rfl o11 ?_
        refine w_goto rfl ?_
        exact H
      · replace H := H.2 hc
        refine w_iload rfl rfl ?_
        refine w_istore rfl rfl ?_
        exact H
set_option maxHeartbeats 4000000 in
set_option maxRecDepth 100000 in
theorem r_Model_steps_238 {d : Nat} {Q : cm_Q} {h : cm_H} {a0 : Nat} {x1 : Int} {x2 : Int} {x3 : Int} {x4 : Int} {z5 : Option cm_V} {z6 : Option cm_V} {x7 : Int} {x8 : Int} {x9 : Int} (p_a0 : 0 < a0) (H : ((160 ≤ x9 → (cm_i (x7 + 1) ∧ cw d cd_Model_steps Q 201 [some (vR 12 a0), some (vI x1), some (vI x2), some (vI x3), some (vI x4), z5, z6, some (vI (x7 + 1)), some (vI x8), some (vI x9)] [] h)) ∧ (x9 < 160 → (cm_i (160 * x7) ∧ (cm_i ((160 * x7) + x9) ∧ (0 < ((ch_R h a0 32)) ∧ ((0:Int) ≤ ((160 * x7) + x9) ∧ ((160 * x7) + x9) < ch_L h (ch_R h a0 32)) ∧ (cm_i (160 * x3) ∧ (cm_i ((160 * x3) + x9) ∧ ((0:Int) ≤ ((160 * x3) + x9) ∧ ((160 * x3) + x9) < ch_L h (ch_R h a0 32)) ∧ (cm_i (x8 * (ch_I h (ch_R h a0 32) ((160 * x3) + x9))) ∧ (cm_i ((ch_I h (ch_R h a0 32) ((160 * x7) + x9)) - (x8 * (ch_I h (ch_R h a0 32) ((160 * x3) + x9)))) ∧ (cI d m_Model_of [vL ((ch_I h (ch_R h a0 32) ((160 * x7) + x9)) - (x8 * (ch_I h (ch_R h a0 32) ((160 * x3) + x9))))] h fun v12 h11 => ((0:Int) ≤ ((160 * x7) + x9) ∧ ((160 * x7) + x9) < ch_L h11 (ch_R h a0 32)) ∧ (∀ h14 : cm_H, h14 = ch_u h11 (ch_R h a0 32) ((160 * x7) + x9) v12 → (cm_i (x9 + 1) ∧ cw d cd_Model_steps Q 238 [some (vR 12 a0), some (vI x1), some (vI x2), some (vI x3), some (vI x4), z5, z6, some (vI x7), some (vI x8), some (vI (x9 + 1))] [] h14))))))))))))) : cw d cd_Model_steps Q 238 [some (vR 12 a0), some (vI x1), some (vI x2), some (vI x3), some (vI x4), z5, z6, some (vI x7), some (vI x8), some (vI x9)] [] h := by
  refine w_iload rfl rfl ?_
  refine w_iconst rfl ⟨by decide, by decide⟩ ?_
  refine w_icmp rfl (And.intro (fun hc => ?_) (fun hc => ?_))
  · replace H := H.1 hc
    have o1 := H.1
    replace H := H.2
    refine w_iinc rfl rfl rfl o1 ?_
    refine w_goto rfl ?_
    exact H
  · replace H := H.2 hc
    refine w_aload rfl rfl ?_
    refine w_getR 32 20 rfl rfl rfl rfl p_a0 ?_
    refine w_iconst rfl ⟨by decide, by decide⟩ ?_
    refine w_iload rfl rfl ?_
    have o2 := H.1
    replace H := H.2
    refine w_imul rfl o2 ?_
    refine w_iload rfl rfl ?_
    have o3 := H.1
    replace H := H.2
    refine w_iadd rfl o3 ?_
    refine w_aload rfl rfl ?_
    refine w_getR 32 20 rfl rfl rfl rfl p_a0 ?_
    refine w_iconst rfl ⟨by decide, by decide⟩ ?_
    refine w_iload rfl rfl ?_
    refine w_imul rfl o2 ?_
    refine w_iload rfl rfl ?_
    refine w_iadd rfl o3 ?_
    have o4 := H.1
    replace H := H.2
    have o5 := H.1
    replace H := H.2
    refine w_iaload rfl o4 o5 ?_
    refine w_iload rfl rfl ?_
    refine w_aload rfl rfl ?_
    refine w_getR 32 20 rfl rfl rfl rfl p_a0 ?_
    refine w_iconst rfl ⟨by decide, by decide⟩ ?_
    refine w_iload rfl rfl ?_
    have o6 := H.1
    replace H := H.2
    refine w_imul rfl o6 ?_
    refine w_iload rfl rfl ?_
    have o7 := H.1
    replace H := H.2
    refine w_iadd rfl o7 ?_
    have o8 := H.1
    replace H := H.2
    refine w_iaload rfl o4 o8 ?_
    have o9 := H.1
    replace H := H.2
    refine w_imul rfl o9 ?_
    have o10 := H.1
    replace H := H.2
    refine w_isub rfl o10 ?_
    refine w_i2l rfl ?_
    refine w_callI rfl (fun _ => rfl) rfl (cI_mono H fun v12 h11 H => ?_)
    have o13 := H.1
    replace H := H.2
    refine w_iastore rfl o4 o13 (fun h14 eh14 => ?_)
    replace H := H h14 eh14
    have o15 := H.1
    replace H := H.2
    refine w_iinc rfl rfl rfl o15 ?_
    refine w_goto rfl ?_
    exact H
set_option maxHeartbeats 4000000 in
set_option maxRecDepth 100000 in
theorem r_Model_steps {d : Nat} {Q : cm_Q} {h : cm_H} {a0 : Nat} {x1 : Int} {x2 : Int} (p_a0 : 0 < a0) (H : cw d cd_Model_steps Q 5 [some (vR 12 a0), some (vI x1), some (vI x2), some (vI 0), some (vI 0), none, none, none, none, none] [] h) : cm_call (d + 1) m_Model_steps [vR 12 a0, vI x1, vI x2] h Q := by
  refine cm_call_in (C := cd_Model_steps) (ls := [some (vR 12 a0), some (vI x1), some (vI x2), none, none, none, none, none, none, none]) rfl rfl p_a0 rfl ?_
  refine w_iconst rfl ⟨by decide, by decide⟩ ?_
  refine w_istore rfl rfl ?_
  refine w_iconst rfl ⟨by decide, by decide⟩ ?_
  refine w_istore rfl rfl ?_
  exact H
set_option maxHeartbeats 4000000 in
set_option maxRecDepth 100000 in
theorem r_Model_clearsRow_2 {d : Nat} {Q : cm_Q} {h : cm_H} {a0 : Nat} {x1 : Int} {x2 : Int} (p_a0 : 0 < a0) (H : ((160 ≤ x2 → Q none h) ∧ (x2 < 160 → (cm_i (160 * x1) ∧ (cm_i ((160 * x1) + x2) ∧ (0 < ((ch_R h a0 32)) ∧ ((0:Int) ≤ ((160 * x1) + x2) ∧ ((160 * x1) + x2) < ch_L h (ch_R h a0 32)) ∧ (∀ h5 : cm_H, h5 = ch_u h (ch_R h a0 32) ((160 * x1) + x2) 0 → (cm_i (x2 + 1) ∧ cw d cd_Model_clearsRow Q 2 [some (vR 12 a0), some (vI x1), some (vI (x2 + 1))] [] h5)))))))) : cw d cd_Model_clearsRow Q 2 [some (vR 12 a0), some (vI x1), some (vI x2)] [] h := by
  refine w_iload rfl rfl ?_
  refine w_iconst rfl ⟨by decide, by decide⟩ ?_
  refine w_icmp rfl (And.intro (fun hc => ?_) (fun hc => ?_))
  · replace H := H.1 hc
    exact w_return rfl H
  · replace H := H.2 hc
    refine w_aload rfl rfl ?_
    refine w_getR 32 20 rfl rfl rfl rfl p_a0 ?_
    refine w_iconst rfl ⟨by decide, by decide⟩ ?_
    refine w_iload rfl rfl ?_
    have o1 := H.1
    replace H := H.2
    refine w_imul rfl o1 ?_
    refine w_iload rfl rfl ?_
    have o2 := H.1
    replace H := H.2
    refine w_iadd rfl o2 ?_
    refine w_iconst rfl ⟨by decide, by decide⟩ ?_
    have o3 := H.1
    replace H := H.2
    have o4 := H.1
    replace H := H.2
    refine w_iastore rfl o3 o4 (fun h5 eh5 => ?_)
    replace H := H h5 eh5
    have o6 := H.1
    replace H := H.2
    refine w_iinc rfl rfl rfl o6 ?_
    refine w_goto rfl ?_
    exact H
set_option maxHeartbeats 4000000 in
set_option maxRecDepth 100000 in
theorem r_Model_clearsRow {d : Nat} {Q : cm_Q} {h : cm_H} {a0 : Nat} {x1 : Int} (p_a0 : 0 < a0) (H : cw d cd_Model_clearsRow Q 2 [some (vR 12 a0), some (vI x1), some (vI 0)] [] h) : cm_call (d + 1) m_Model_clearsRow [vR 12 a0, vI x1] h Q := by
  refine cm_call_in (C := cd_Model_clearsRow) (ls := [some (vR 12 a0), some (vI x1), none]) rfl rfl p_a0 rfl ?_
  refine w_iconst rfl ⟨by decide, by decide⟩ ?_
  refine w_istore rfl rfl ?_
  exact H
set_option maxHeartbeats 4000000 in
set_option maxRecDepth 100000 in
theorem r_Model_forgets {d : Nat} {Q : cm_Q} {h : cm_H} {a0 : Nat} (p_a0 : 0 < a0) (H : (∀ h1 : cm_H, h1 = ch_u h a0 37 0 → (∀ h2 : cm_H, h2 = ch_u h1 a0 41 0 → (∀ h3 : cm_H, h3 = ch_u h2 a0 58 (-1) → Q none h3)))) : cm_call (d + 1) m_Model_forgets [vR 12 a0] h Q := by
  refine cm_call_in (C := cd_Model_forgets) (ls := [some (vR 12 a0)]) rfl rfl p_a0 rfl ?_
  refine w_aload rfl rfl ?_
  refine w_iconst rfl ⟨by decide, by decide⟩ ?_
  refine w_putI 37 rfl rfl rfl p_a0 (fun h1 eh1 => ?_)
  replace H := H h1 eh1
  refine w_aload rfl rfl ?_
  refine w_iconst rfl ⟨by decide, by decide⟩ ?_
  refine w_putZ 41 rfl rfl rfl (by decide) p_a0 (fun h2 eh2 => ?_)
  replace H := H h2 eh2
  refine w_aload rfl rfl ?_
  refine w_iconst rfl ⟨by decide, by decide⟩ ?_
  refine w_putI 58 rfl rfl rfl p_a0 (fun h3 eh3 => ?_)
  replace H := H h3 eh3
  exact w_return rfl H
set_option maxHeartbeats 4000000 in
set_option maxRecDepth 100000 in
theorem r_Model_laysBases_0 {d : Nat} {Q : cm_Q} {h : cm_H} {a0 : Nat} {x1 : Int} (p_a0 : 0 < a0) (H : ((x1 < (ch_I h a0 37) → Q none h) ∧ ((ch_I h a0 37) ≤ x1 → ((¬ (ch_I h a0 37) = 0 → (cm_i ((ch_I h a0 37) - 1) ∧ (0 < ((ch_R h a0 35)) ∧ ((0:Int) ≤ ((ch_I h a0 37) - 1) ∧ ((ch_I h a0 37) - 1) < ch_L h (ch_R h a0 35)) ∧ (0 < ((ch_R h a0 34)) ∧ ((0:Int) ≤ ((ch_I h a0 37) - 1) ∧ ((ch_I h a0 37) - 1) < ch_L h (ch_R h a0 34)) ∧ (cI d m_Model_many [vR 12 a0, vI ((ch_I h a0 37) - 1)] h fun v7 h6 => (cm_i ((ch_I h (ch_R h a0 34) ((ch_I h a0 37) - 1)) * v7) ∧ (cm_i ((ch_I h (ch_R h a0 35) ((ch_I h a0 37) - 1)) + ((ch_I h (ch_R h a0 34) ((ch_I h a0 37) - 1)) * v7)) ∧ cw d cd_Model_laysBases Q 61 [some (vR 12 a0), some (vI x1)] [vI ((ch_I h (ch_R h a0 35) ((ch_I h a0 37) - 1)) + ((ch_I h (ch_R h a0 34) ((ch_I h a0 37) - 1)) * v7)), vI (ch_I h a0 37), vR 20 (ch_R h a0 35)] h6))))))) ∧ ((ch_I h a0 37) = 0 → cw d cd_Model_laysBases Q 61 [some (vR 12 a0), some (vI x1)] [vI 0, vI (ch_I h a0 37), vR 20 (ch_R h a0 35)] h))))) : cw d cd_Model_laysBases Q 0 [some (vR 12 a0), some (vI x1)] [] h := by
  refine w_aload rfl rfl ?_
  refine w_getI 37 rfl rfl rfl p_a0 ?_
  refine w_iload rfl rfl ?_
  refine w_icmp rfl (And.intro (fun hc => ?_) (fun hc => ?_))
  · replace H := H.1 hc
    exact w_return rfl H
  · replace H := H.2 hc
    refine w_aload rfl rfl ?_
    refine w_getR 35 20 rfl rfl rfl rfl p_a0 ?_
    refine w_aload rfl rfl ?_
    refine w_getI 37 rfl rfl rfl p_a0 ?_
    refine w_aload rfl rfl ?_
    refine w_getI 37 rfl rfl rfl p_a0 ?_
    refine w_if rfl (And.intro (fun hc => ?_) (fun hc => ?_))
    · replace H := H.1 hc
      refine w_aload rfl rfl ?_
      refine w_getR 35 20 rfl rfl rfl rfl p_a0 ?_
      refine w_aload rfl rfl ?_
      refine w_getI 37 rfl rfl rfl p_a0 ?_
      refine w_iconst rfl ⟨by decide, by decide⟩ ?_
      have o1 := H.1
      replace H := H.2
      refine w_isub rfl o1 ?_
      have o2 := H.1
      replace H := H.2
      have o3 := H.1
      replace H := H.2
      refine w_iaload rfl o2 o3 ?_
      refine w_aload rfl rfl ?_
      refine w_getR 34 20 rfl rfl rfl rfl p_a0 ?_
      refine w_aload rfl rfl ?_
      refine w_getI 37 rfl rfl rfl p_a0 ?_
      refine w_iconst rfl ⟨by decide, by decide⟩ ?_
      refine w_isub rfl o1 ?_
      have o4 := H.1
      replace H := H.2
      have o5 := H.1
      replace H := H.2
      refine w_iaload rfl o4 o5 ?_
      refine w_aload rfl rfl ?_
      refine w_aload rfl rfl ?_
      refine w_getI 37 rfl rfl rfl p_a0 ?_
      refine w_iconst rfl ⟨by decide, by decide⟩ ?_
      refine w_isub rfl o1 ?_
      refine w_callI rfl (fun _ => rfl) rfl (cI_mono H fun v7 h6 H => ?_)
      have o8 := H.1
      replace H := H.2
      refine w_imul rfl o8 ?_
      have o9 := H.1
      replace H := H.2
      refine w_iadd rfl o9 ?_
      exact H
    · replace H := H.2 hc
      refine w_iconst rfl ⟨by decide, by decide⟩ ?_
      refine w_goto rfl ?_
      exact H
set_option maxHeartbeats 4000000 in
set_option maxRecDepth 100000 in
theorem r_Model_laysBases_61 {d : Nat} {Q : cm_Q} {h : cm_H} {a0 : Nat} {x1 : Int} {s0 : Int} {s1 : Int} {b2 : Nat} (p_b2 : 0 < b2) (p_a0 : 0 < a0) (H : ((0:Int) ≤ s1 ∧ s1 < ch_L h b2) ∧ (∀ h2 : cm_H, h2 = ch_u h b2 s1 s0 → (cI d m_Model_laysBase [vR 12 a0, vI (ch_I h2 a0 37)] h2 fun v4 h3 => (0 < ((ch_R h2 a0 34)) ∧ ((0:Int) ≤ (ch_I h2 a0 37) ∧ (ch_I h2 a0 37) < ch_L h3 (ch_R h2 a0 34)) ∧ (∀ h7 : cm_H, h7 = ch_u h3 (ch_R h2 a0 34) (ch_I h2 a0 37) v4 → (cm_i ((ch_I h7 a0 37) + 1) ∧ (∀ h9 : cm_H, h9 = ch_u h7 a0 37 ((ch_I h7 a0 37) + 1) → cw d cd_Model_laysBases Q 0 [some (vR 12 a0), some (vI x1)] [] h9))))))) : cw d cd_Model_laysBases Q 61 [some (vR 12 a0), some (vI x1)] [vI s0, vI s1, vR 20 b2] h := by
  have o1 := H.1
  replace H := H.2
  refine w_iastore rfl p_b2 o1 (fun h2 eh2 => ?_)
  replace H := H h2 eh2
  refine w_aload rfl rfl ?_
  refine w_getR 34 20 rfl rfl rfl rfl p_a0 ?_
  refine w_aload rfl rfl ?_
  refine w_getI 37 rfl rfl rfl p_a0 ?_
  refine w_aload rfl rfl ?_
  refine w_aload rfl rfl ?_
  refine w_getI 37 rfl rfl rfl p_a0 ?_
  refine w_callI rfl (fun _ => rfl) rfl (cI_mono H fun v4 h3 H => ?_)
  have o5 := H.1
  replace H := H.2
  have o6 := H.1
  replace H := H.2
  refine w_iastore rfl o5 o6 (fun h7 eh7 => ?_)
  replace H := H h7 eh7
  refine w_aload rfl rfl ?_
  refine w_dup rfl rfl ?_
  refine w_getI 37 rfl rfl rfl p_a0 ?_
  refine w_iconst rfl ⟨by decide, by decide⟩ ?_
  have o8 := H.1
  replace H := H.2
  refine w_iadd rfl o8 ?_
  refine w_putI 37 rfl rfl rfl p_a0 (fun h9 eh9 => ?_)
  replace H := H h9 eh9
  refine w_goto rfl ?_
  exact H
set_option maxHeartbeats 4000000 in
set_option maxRecDepth 100000 in
theorem r_Model_laysBases {d : Nat} {Q : cm_Q} {h : cm_H} {a0 : Nat} {x1 : Int} (p_a0 : 0 < a0) (H : cw d cd_Model_laysBases Q 0 [some (vR 12 a0), some (vI x1)] [] h) : cm_call (d + 1) m_Model_laysBases [vR 12 a0, vI x1] h Q := by
  refine cm_call_in (C := cd_Model_laysBases) (ls := [some (vR 12 a0), some (vI x1)]) rfl rfl p_a0 rfl ?_
  exact H
set_option maxHeartbeats 4000000 in
set_option maxRecDepth 100000 in
theorem r_Model_laysBase_11 {d : Nat} {Q : cm_Q} {h : cm_H} {a0 : Nat} {x1 : Int} {x2 : Int} {x3 : Int} {x4 : Int} {z5 : Option cm_V} {z6 : Option cm_V} (p_a0 : 0 < a0) (H : (((ch_I h a0 9) ≤ x4 → (cI d m_Model_steps [vR 12 a0, vI x3, vI x2] h fun v2 h1 => (cI d m_Model_laysFree [vR 12 a0, vI x1, vI x2, vI v2] h1 fun v4 h3 => Q (some (vI v4)) h3))) ∧ (x4 < (ch_I h a0 9) → (cU d m_Model_laysImages [vR 12 a0, vR 20 (ch_R h a0 10), vI x4, vI x1] h fun h5 => cw d cd_Model_laysBase Q 34 [some (vR 12 a0), some (vI x1), some (vI x2), some (vI x3), some (vI x4), some (vI 0), z6] [] h5)))) : cw d cd_Model_laysBase Q 11 [some (vR 12 a0), some (vI x1), some (vI x2), some (vI x3), some (vI x4), z5, z6] [] h := by
  refine w_iload rfl rfl ?_
  refine w_aload rfl rfl ?_
  refine w_getI 9 rfl rfl rfl p_a0 ?_
  refine w_icmp rfl (And.intro (fun hc => ?_) (fun hc => ?_))
  · replace H := H.1 hc
    refine w_aload rfl rfl ?_
    refine w_iload rfl rfl ?_
    refine w_iload rfl rfl ?_
    refine w_callI rfl (fun _ => rfl) rfl (cI_mono H fun v2 h1 H => ?_)
    refine w_istore rfl rfl ?_
    refine w_aload rfl rfl ?_
    refine w_iload rfl rfl ?_
    refine w_iload rfl rfl ?_
    refine w_iload rfl rfl ?_
    refine w_callI rfl (fun _ => rfl) rfl (cI_mono H fun v4 h3 H => ?_)
    exact w_ireturn rfl H
  · replace H := H.2 hc
    refine w_aload rfl rfl ?_
    refine w_aload rfl rfl ?_
    refine w_getR 10 20 rfl rfl rfl rfl p_a0 ?_
    refine w_iload rfl rfl ?_
    refine w_iload rfl rfl ?_
    refine w_callU rfl (fun _ => rfl) rfl (cU_mono H fun h5 H => ?_)
    refine w_iconst rfl ⟨by decide, by decide⟩ ?_
    refine w_istore rfl rfl ?_
    exact H
set_option maxHeartbeats 4000000 in
set_option maxRecDepth 100000 in
theorem r_Model_laysBase_34 {d : Nat} {Q : cm_Q} {h : cm_H} {a0 : Nat} {x1 : Int} {x2 : Int} {x3 : Int} {x4 : Int} {x5 : Int} {z6 : Option cm_V}  (H : ((x2 ≤ x5 → (cm_i (x4 + 1) ∧ cw d cd_Model_laysBase Q 11 [some (vR 12 a0), some (vI x1), some (vI x2), some (vI x3), some (vI (x4 + 1)), some (vI x5), z6] [] h)) ∧ (x5 < x2 → (cU d m_Model_clearsRow [vR 12 a0, vI x3] h fun h2 => cw d cd_Model_laysBase Q 48 [some (vR 12 a0), some (vI x1), some (vI x2), some (vI x3), some (vI x4), some (vI x5), some (vI 0)] [] h2)))) : cw d cd_Model_laysBase Q 34 [some (vR 12 a0), some (vI x1), some (vI x2), some (vI x3), some (vI x4), some (vI x5), z6] [] h := by
  refine w_iload rfl rfl ?_
  refine w_iload rfl rfl ?_
  refine w_icmp rfl (And.intro (fun hc => ?_) (fun hc => ?_))
  · replace H := H.1 hc
    have o1 := H.1
    replace H := H.2
    refine w_iinc rfl rfl rfl o1 ?_
    refine w_goto rfl ?_
    exact H
  · replace H := H.2 hc
    refine w_aload rfl rfl ?_
    refine w_iload rfl rfl ?_
    refine w_callU rfl (fun _ => rfl) rfl (cU_mono H fun h2 H => ?_)
    refine w_iconst rfl ⟨by decide, by decide⟩ ?_
    refine w_istore rfl rfl ?_
    exact H
set_option maxHeartbeats 4000000 in
set_option maxRecDepth 100000 in
theorem r_Model_laysBase_48 {d : Nat} {Q : cm_Q} {h : cm_H} {a0 : Nat} {x1 : Int} {x2 : Int} {x3 : Int} {x4 : Int} {x5 : Int} {x6 : Int} (p_a0 : 0 < a0) (H : ((x2 ≤ x6 → (cm_i (x3 + 1) ∧ (cm_i (x5 + 1) ∧ cw d cd_Model_laysBase Q 34 [some (vR 12 a0), some (vI x1), some (vI x2), some (vI (x3 + 1)), some (vI x4), some (vI (x5 + 1)), some (vI x6)] [] h))) ∧ (x6 < x2 → (cm_i (160 * x3) ∧ (cm_i ((160 * x3) + x6) ∧ (cI d m_Model_from [vR 12 a0, vI x1] h fun v6 h5 => (cm_i (v6 + x6) ∧ (cm_i (136 * (v6 + x6)) ∧ (cm_i ((136 * (v6 + x6)) + x5) ∧ (0 < ((ch_R h a0 30)) ∧ ((0:Int) ≤ ((136 * (v6 + x6)) + x5) ∧ ((136 * (v6 + x6)) + x5) < ch_L h5 (ch_R h a0 30)) ∧ ((¬ x6 = x5 → (cm_i ((ch_I h5 (ch_R h a0 30) ((136 * (v6 + x6)) + x5)) - 0) ∧ (cI d m_Model_of [vL ((ch_I h5 (ch_R h a0 30) ((136 * (v6 + x6)) + x5)) - 0)] h5 fun v14 h13 => (0 < ((ch_R h a0 32)) ∧ ((0:Int) ≤ ((160 * x3) + x6) ∧ ((160 * x3) + x6) < ch_L h13 (ch_R h a0 32)) ∧ (∀ h17 : cm_H, h17 = ch_u h13 (ch_R h a0 32) ((160 * x3) + x6) v14 → (cm_i (x6 + 1) ∧ cw d cd_Model_laysBase Q 48 [some (vR 12 a0), some (vI x1), some (vI x2), some (vI x3), some (vI x4), some (vI x5), some (vI (x6 + 1))] [] h17)))))) ∧ (x6 = x5 → (cm_i ((ch_I h5 (ch_R h a0 30) ((136 * (v6 + x6)) + x5)) - 1) ∧ (cI d m_Model_of [vL ((ch_I h5 (ch_R h a0 30) ((136 * (v6 + x6)) + x5)) - 1)] h5 fun v21 h20 => (0 < ((ch_R h a0 32)) ∧ ((0:Int) ≤ ((160 * x3) + x6) ∧ ((160 * x3) + x6) < ch_L h20 (ch_R h a0 32)) ∧ (∀ h24 : cm_H, h24 = ch_u h20 (ch_R h a0 32) ((160 * x3) + x6) v21 → (cm_i (x6 + 1) ∧ cw d cd_Model_laysBase Q 48 [some (vR 12 a0), some (vI x1), some (vI x2), some (vI x3), some (vI x4), some (vI x5), some (vI (x6 + 1))] [] h24))))))))))))))))) : cw d cd_Model_laysBase Q 48 [some (vR 12 a0), some (vI x1), some (vI x2), some (vI x3), some (vI x4), some (vI x5), some (vI x6)] [] h := by
  refine w_iload rfl rfl ?_
  refine w_iload rfl rfl ?_
  refine w_icmp rfl (And.intro (fun hc => ?_) (fun hc => ?_))
  · replace H := H.1 hc
    have o1 := H.1
    replace H := H.2
    refine w_iinc rfl rfl rfl o1 ?_
    have o2 := H.1
    replace H := H.2
    refine w_iinc rfl rfl rfl o2 ?_
    refine w_goto rfl ?_
    exact H
  · replace H := H.2 hc
    refine w_aload rfl rfl ?_
    refine w_getR 32 20 rfl rfl rfl rfl p_a0 ?_
    refine w_iconst rfl ⟨by decide, by decide⟩ ?_
    refine w_iload rfl rfl ?_
    have o3 := H.1
    replace H := H.2
    refine w_imul rfl o3 ?_
    refine w_iload rfl rfl ?_
    have o4 := H.1
    replace H := H.2
    refine w_iadd rfl o4 ?_
    refine w_aload rfl rfl ?_
    refine w_getR 30 20 rfl rfl rfl rfl p_a0 ?_
    refine w_iconst rfl ⟨by decide, by decide⟩ ?_
    refine w_aload rfl rfl ?_
    refine w_iload rfl rfl ?_
    refine w_callI rfl (fun _ => rfl) rfl (cI_mono H fun v6 h5 H => ?_)
    refine w_iload rfl rfl ?_
    have o7 := H.1
    replace H := H.2
    refine w_iadd rfl o7 ?_
    have o8 := H.1
    replace H := H.2
    refine w_imul rfl o8 ?_
    refine w_iload rfl rfl ?_
    have o9 := H.1
    replace H := H.2
    refine w_iadd rfl o9 ?_
    have o10 := H.1
    replace H := H.2
    have o11 := H.1
    replace H := H.2
    refine w_iaload rfl o10 o11 ?_
    refine w_iload rfl rfl ?_
    refine w_iload rfl rfl ?_
    refine w_icmp rfl (And.intro (fun hc => ?_) (fun hc => ?_))
    · replace H := H.1 hc
      refine w_iconst rfl ⟨by decide, by decide⟩ ?_
      have o12 := H.1
      replace H := H.2
      refine w_isub rfl o12 ?_
      refine w_i2l rfl ?_
      refine w_callI rfl (fun _ => rfl) rfl (cI_mono H fun v14 h13 H => ?_)
      have o15 := H.1
      replace H := H.2
      have o16 := H.1
      replace H := H.2
      refine w_iastore rfl o15 o16 (fun h17 eh17 => ?_)
      replace H := H h17 eh17
      have o18 := H.1
      replace H := H.2
      refine w_iinc rfl rfl rfl o18 ?_
      refine w_goto rfl ?_
      exact H
    · replace H := H.2 hc
      refine w_iconst rfl ⟨by decide, by decide⟩ ?_
      refine w_goto rfl ?_
      have o19 := H.1
      replace H := H.2
      refine w_isub rfl o19 ?_
      refine w_i2l rfl ?_
      refine w_callI rfl (fun _ => rfl) rfl (cI_mono H fun v21 h20 H => ?_)
      have o22 := H.1
      replace H := H.2
      have o23 := H.1
      replace H := H.2
      refine w_iastore rfl o22 o23 (fun h24 eh24 => ?_)
      replace H := H h24 eh24
      have o25 := H.1
      replace H := H.2
      refine w_iinc rfl rfl rfl o25 ?_
      refine w_goto rfl ?_
      exact H
set_option maxHeartbeats 4000000 in
set_option maxRecDepth 100000 in
theorem r_Model_laysBase {d : Nat} {Q : cm_Q} {h : cm_H} {a0 : Nat} {x1 : Int} (p_a0 : 0 < a0) (H : (cI d m_Model_many [vR 12 a0, vI x1] h fun v2 h1 => cw d cd_Model_laysBase Q 11 [some (vR 12 a0), some (vI x1), some (vI v2), some (vI 0), some (vI 0), none, none] [] h1)) : cm_call (d + 1) m_Model_laysBase [vR 12 a0, vI x1] h Q := by
  refine cm_call_in (C := cd_Model_laysBase) (ls := [some (vR 12 a0), some (vI x1), none, none, none, none, none]) rfl rfl p_a0 rfl ?_
  refine w_aload rfl rfl ?_
  refine w_iload rfl rfl ?_
  refine w_callI rfl (fun _ => rfl) rfl (cI_mono H fun v2 h1 H => ?_)
  refine w_istore rfl rfl ?_
  refine w_iconst rfl ⟨by decide, by decide⟩ ?_
  refine w_istore rfl rfl ?_
  refine w_iconst rfl ⟨by decide, by decide⟩ ?_
  refine w_istore rfl rfl ?_
  exact H
set_option maxHeartbeats 4000000 in
set_option maxRecDepth 100000 in
theorem r_Model_laysFree_3 {d : Nat} {Q : cm_Q} {h : cm_H} {a0 : Nat} {x1 : Int} {x2 : Int} {x3 : Int} {x4 : Int} {z5 : Option cm_V} {z6 : Option cm_V} {z7 : Option cm_V} (p_a0 : 0 < a0) (H : ((x2 ≤ x4 → cw d cd_Model_laysFree Q 26 [some (vR 12 a0), some (vI x1), some (vI x2), some (vI x3), some (vI 0), z5, z6, z7] [] h) ∧ (x4 < x2 → (0 < ((ch_R h a0 38)) ∧ ((0:Int) ≤ x4 ∧ x4 < ch_L h (ch_R h a0 38)) ∧ (∀ h3 : cm_H, h3 = ch_u h (ch_R h a0 38) x4 0 → (cm_i (x4 + 1) ∧ cw d cd_Model_laysFree Q 3 [some (vR 12 a0), some (vI x1), some (vI x2), some (vI x3), some (vI (x4 + 1)), z5, z6, z7] [] h3)))))) : cw d cd_Model_laysFree Q 3 [some (vR 12 a0), some (vI x1), some (vI x2), some (vI x3), some (vI x4), z5, z6, z7] [] h := by
  refine w_iload rfl rfl ?_
  refine w_iload rfl rfl ?_
  refine w_icmp rfl (And.intro (fun hc => ?_) (fun hc => ?_))
  · replace H := H.1 hc
    refine w_iconst rfl ⟨by decide, by decide⟩ ?_
    refine w_istore rfl rfl ?_
    exact H
  · replace H := H.2 hc
    refine w_aload rfl rfl ?_
    refine w_getR 38 22 rfl rfl rfl rfl p_a0 ?_
    refine w_iload rfl rfl ?_
    refine w_iconst rfl ⟨by decide, by decide⟩ ?_
    have o1 := H.1
    replace H := H.2
    have o2 := H.1
    replace H := H.2
    refine w_bastore rfl rfl (Or.inr (by decide)) o1 o2 (fun h3 eh3 => ?_)
    replace H := H h3 eh3
    have o4 := H.1
    replace H := H.2
    refine w_iinc rfl rfl rfl o4 ?_
    refine w_goto rfl ?_
    exact H
set_option maxHeartbeats 4000000 in
set_option maxRecDepth 100000 in
theorem r_Model_laysFree_26 {d : Nat} {Q : cm_Q} {h : cm_H} {a0 : Nat} {x1 : Int} {x2 : Int} {x3 : Int} {x4 : Int} {z5 : Option cm_V} {z6 : Option cm_V} {z7 : Option cm_V} (p_a0 : 0 < a0) (H : ((x3 ≤ x4 → cw d cd_Model_laysFree Q 57 [some (vR 12 a0), some (vI x1), some (vI x2), some (vI x3), some (vI 0), some (vI 0), z6, z7] [] h) ∧ (x4 < x3 → (0 < ((ch_R h a0 33)) ∧ ((0:Int) ≤ x4 ∧ x4 < ch_L h (ch_R h a0 33)) ∧ (0 < ((ch_R h a0 38)) ∧ ((0:Int) ≤ (ch_I h (ch_R h a0 33) x4) ∧ (ch_I h (ch_R h a0 33) x4) < ch_L h (ch_R h a0 38)) ∧ (∀ h5 : cm_H, h5 = ch_u h (ch_R h a0 38) (ch_I h (ch_R h a0 33) x4) 1 → (cm_i (x4 + 1) ∧ cw d cd_Model_laysFree Q 26 [some (vR 12 a0), some (vI x1), some (vI x2), some (vI x3), some (vI (x4 + 1)), z5, z6, z7] [] h5))))))) : cw d cd_Model_laysFree Q 26 [some (vR 12 a0), some (vI x1), some (vI x2), some (vI x3), some (vI x4), z5, z6, z7] [] h := by
  refine w_iload rfl rfl ?_
  refine w_iload rfl rfl ?_
  refine w_icmp rfl (And.intro (fun hc => ?_) (fun hc => ?_))
  · replace H := H.1 hc
    refine w_iconst rfl ⟨by decide, by decide⟩ ?_
    refine w_istore rfl rfl ?_
    refine w_iconst rfl ⟨by decide, by decide⟩ ?_
    refine w_istore rfl rfl ?_
    exact H
  · replace H := H.2 hc
    refine w_aload rfl rfl ?_
    refine w_getR 38 22 rfl rfl rfl rfl p_a0 ?_
    refine w_aload rfl rfl ?_
    refine w_getR 33 20 rfl rfl rfl rfl p_a0 ?_
    refine w_iload rfl rfl ?_
    have o1 := H.1
    replace H := H.2
    have o2 := H.1
    replace H := H.2
    refine w_iaload rfl o1 o2 ?_
    refine w_iconst rfl ⟨by decide, by decide⟩ ?_
    have o3 := H.1
    replace H := H.2
    have o4 := H.1
    replace H := H.2
    refine w_bastore rfl rfl (Or.inr (by decide)) o3 o4 (fun h5 eh5 => ?_)
    replace H := H h5 eh5
    have o6 := H.1
    replace H := H.2
    refine w_iinc rfl rfl rfl o6 ?_
    refine w_goto rfl ?_
    exact H
set_option maxHeartbeats 4000000 in
set_option maxRecDepth 100000 in
theorem r_Model_laysFree_57 {d : Nat} {Q : cm_Q} {h : cm_H} {a0 : Nat} {x1 : Int} {x2 : Int} {x3 : Int} {x4 : Int} {x5 : Int} {z6 : Option cm_V} {z7 : Option cm_V} (p_a0 : 0 < a0) (H : ((x2 ≤ x5 → cw d cd_Model_laysFree Q 175 [some (vR 12 a0), some (vI x1), some (vI x2), some (vI x3), some (vI x4), some (vI 0), z6, z7] [] h) ∧ (x5 < x2 → (0 < ((ch_R h a0 38)) ∧ ((0:Int) ≤ x5 ∧ x5 < ch_L h (ch_R h a0 38)) ∧ ((¬ (ch_I h (ch_R h a0 38) x5) = 0 → (cm_i (x5 + 1) ∧ cw d cd_Model_laysFree Q 57 [some (vR 12 a0), some (vI x1), some (vI x2), some (vI x3), some (vI x4), some (vI (x5 + 1)), z6, z7] [] h)) ∧ ((ch_I h (ch_R h a0 38) x5) = 0 → cw d cd_Model_laysFree Q 76 [some (vR 12 a0), some (vI x1), some (vI x2), some (vI x3), some (vI x4), some (vI x5), some (vI 0), z7] [] h)))))) : cw d cd_Model_laysFree Q 57 [some (vR 12 a0), some (vI x1), some (vI x2), some (vI x3), some (vI x4), some (vI x5), z6, z7] [] h := by
  refine w_iload rfl rfl ?_
  refine w_iload rfl rfl ?_
  refine w_icmp rfl (And.intro (fun hc => ?_) (fun hc => ?_))
  · replace H := H.1 hc
    refine w_iconst rfl ⟨by decide, by decide⟩ ?_
    refine w_istore rfl rfl ?_
    exact H
  · replace H := H.2 hc
    refine w_aload rfl rfl ?_
    refine w_getR 38 22 rfl rfl rfl rfl p_a0 ?_
    refine w_iload rfl rfl ?_
    have o1 := H.1
    replace H := H.2
    have o2 := H.1
    replace H := H.2
    refine w_baload rfl rfl o1 o2 ?_
    refine w_if rfl (And.intro (fun hc => ?_) (fun hc => ?_))
    · replace H := H.1 hc
      have o3 := H.1
      replace H := H.2
      refine w_iinc rfl rfl rfl o3 ?_
      refine w_goto rfl ?_
      exact H
    · replace H := H.2 hc
      refine w_iconst rfl ⟨by decide, by decide⟩ ?_
      refine w_istore rfl rfl ?_
      exact H
set_option maxHeartbeats 4000000 in
set_option maxRecDepth 100000 in
theorem r_Model_laysFree_76 {d : Nat} {Q : cm_Q} {h : cm_H} {a0 : Nat} {x1 : Int} {x2 : Int} {x3 : Int} {x4 : Int} {x5 : Int} {x6 : Int} {z7 : Option cm_V} (p_a0 : 0 < a0) (H : ((x2 ≤ x6 → cw d cd_Model_laysFree Q 115 [some (vR 12 a0), some (vI x1), some (vI x2), some (vI x3), some (vI x4), some (vI x5), some (vI 0), z7] [] h) ∧ (x6 < x2 → (cm_i (x2 * x4) ∧ (cm_i ((x2 * x4) + x6) ∧ ((¬ x6 = x5 → (0 < ((ch_R h a0 39)) ∧ ((0:Int) ≤ ((x2 * x4) + x6) ∧ ((x2 * x4) + x6) < ch_L h (ch_R h a0 39)) ∧ (∀ h5 : cm_H, h5 = ch_u h (ch_R h a0 39) ((x2 * x4) + x6) 0 → (cm_i (x6 + 1) ∧ cw d cd_Model_laysFree Q 76 [some (vR 12 a0), some (vI x1), some (vI x2), some (vI x3), some (vI x4), some (vI x5), some (vI (x6 + 1)), z7] [] h5)))) ∧ (x6 = x5 → (0 < ((ch_R h a0 39)) ∧ ((0:Int) ≤ ((x2 * x4) + x6) ∧ ((x2 * x4) + x6) < ch_L h (ch_R h a0 39)) ∧ (∀ h9 : cm_H, h9 = ch_u h (ch_R h a0 39) ((x2 * x4) + x6) 1 → (cm_i (x6 + 1) ∧ cw d cd_Model_laysFree Q 76 [some (vR 12 a0), some (vI x1), some (vI x2), some (vI x3), some (vI x4), some (vI x5), some (vI (x6 + 1)), z7] [] h9)))))))))) : cw d cd_Model_laysFree Q 76 [some (vR 12 a0), some (vI x1), some (vI x2), some (vI x3), some (vI x4), some (vI x5), some (vI x6), z7] [] h := by
  refine w_iload rfl rfl ?_
  refine w_iload rfl rfl ?_
  refine w_icmp rfl (And.intro (fun hc => ?_) (fun hc => ?_))
  · replace H := H.1 hc
    refine w_iconst rfl ⟨by decide, by decide⟩ ?_
    refine w_istore rfl rfl ?_
    exact H
  · replace H := H.2 hc
    refine w_aload rfl rfl ?_
    refine w_getR 39 20 rfl rfl rfl rfl p_a0 ?_
    refine w_iload rfl rfl ?_
    refine w_iload rfl rfl ?_
    have o1 := H.1
    replace H := H.2
    refine w_imul rfl o1 ?_
    refine w_iload rfl rfl ?_
    have o2 := H.1
    replace H := H.2
    refine w_iadd rfl o2 ?_
    refine w_iload rfl rfl ?_
    refine w_iload rfl rfl ?_
    refine w_icmp rfl (And.intro (fun hc => ?_) (fun hc => ?_))
    · replace H := H.1 hc
      refine w_iconst rfl ⟨by decide, by decide⟩ ?_
      have o3 := H.1
      replace H := H.2
      have o4 := H.1
      replace H := H.2
      refine w_iastore rfl o3 o4 (fun h5 eh5 => ?_)
      replace H := H h5 eh5
      have o6 := H.1
      replace H := H.2
      refine w_iinc rfl rfl rfl o6 ?_
      refine w_goto rfl ?_
      exact H
    · replace H := H.2 hc
      refine w_iconst rfl ⟨by decide, by decide⟩ ?_
      refine w_goto rfl ?_
      have o7 := H.1
      replace H := H.2
      have o8 := H.1
      replace H := H.2
      refine w_iastore rfl o7 o8 (fun h9 eh9 => ?_)
      replace H := H h9 eh9
      have o10 := H.1
      replace H := H.2
      refine w_iinc rfl rfl rfl o10 ?_
      refine w_goto rfl ?_
      exact H
set_option maxHeartbeats 4000000 in
set_option maxRecDepth 100000 in
theorem r_Model_laysFree_115 {d : Nat} {Q : cm_Q} {h : cm_H} {a0 : Nat} {x1 : Int} {x2 : Int} {x3 : Int} {x4 : Int} {x5 : Int} {x6 : Int} {z7 : Option cm_V} (p_a0 : 0 < a0) (H : ((x3 ≤ x6 → (cm_i (x4 + 1) ∧ (cm_i (x5 + 1) ∧ cw d cd_Model_laysFree Q 57 [some (vR 12 a0), some (vI x1), some (vI x2), some (vI x3), some (vI (x4 + 1)), some (vI (x5 + 1)), some (vI x6), z7] [] h))) ∧ (x6 < x3 → (cm_i (x2 * x4) ∧ (0 < ((ch_R h a0 33)) ∧ ((0:Int) ≤ x6 ∧ x6 < ch_L h (ch_R h a0 33)) ∧ (cm_i ((x2 * x4) + (ch_I h (ch_R h a0 33) x6)) ∧ (cm_i (160 * x6) ∧ (cm_i ((160 * x6) + x5) ∧ (0 < ((ch_R h a0 32)) ∧ ((0:Int) ≤ ((160 * x6) + x5) ∧ ((160 * x6) + x5) < ch_L h (ch_R h a0 32)) ∧ (cm_i (-(ch_I h (ch_R h a0 32) ((160 * x6) + x5))) ∧ (cI d m_Model_of [vL (-(ch_I h (ch_R h a0 32) ((160 * x6) + x5)))] h fun v13 h12 => (0 < ((ch_R h a0 39)) ∧ ((0:Int) ≤ ((x2 * x4) + (ch_I h (ch_R h a0 33) x6)) ∧ ((x2 * x4) + (ch_I h (ch_R h a0 33) x6)) < ch_L h12 (ch_R h a0 39)) ∧ (∀ h16 : cm_H, h16 = ch_u h12 (ch_R h a0 39) ((x2 * x4) + (ch_I h (ch_R h a0 33) x6)) v13 → (cm_i (x6 + 1) ∧ cw d cd_Model_laysFree Q 115 [some (vR 12 a0), some (vI x1), some (vI x2), some (vI x3), some (vI x4), some (vI x5), some (vI (x6 + 1)), z7] [] h16)))))))))))))) : cw d cd_Model_laysFree Q 115 [some (vR 12 a0), some (vI x1), some (vI x2), some (vI x3), some (vI x4), some (vI x5), some (vI x6), z7] [] h := by
  refine w_iload rfl rfl ?_
  refine w_iload rfl rfl ?_
  refine w_icmp rfl (And.intro (fun hc => ?_) (fun hc => ?_))
  · replace H := H.1 hc
    have o1 := H.1
    replace H := H.2
    refine w_iinc rfl rfl rfl o1 ?_
    have o2 := H.1
    replace H := H.2
    refine w_iinc rfl rfl rfl o2 ?_
    refine w_goto rfl ?_
    exact H
  · replace H := H.2 hc
    refine w_aload rfl rfl ?_
    refine w_getR 39 20 rfl rfl rfl rfl p_a0 ?_
    refine w_iload rfl rfl ?_
    refine w_iload rfl rfl ?_
    have o3 := H.1
    replace H := H.2
    refine w_imul rfl o3 ?_
    refine w_aload rfl rfl ?_
    refine w_getR 33 20 rfl rfl rfl rfl p_a0 ?_
    refine w_iload rfl rfl ?_
    have o4 := H.1
    replace H := H.2
    have o5 := H.1
    replace H := H.2
    refine w_iaload rfl o4 o5 ?_
    have o6 := H.1
    replace H := H.2
    refine w_iadd rfl o6 ?_
    refine w_aload rfl rfl ?_
    refine w_getR 32 20 rfl rfl rfl rfl p_a0 ?_
    refine w_iconst rfl ⟨by decide, by decide⟩ ?_
    refine w_iload rfl rfl ?_
    have o7 := H.1
    replace H := H.2
    refine w_imul rfl o7 ?_
    refine w_iload rfl rfl ?_
    have o8 := H.1
    replace H := H.2
    refine w_iadd rfl o8 ?_
    have o9 := H.1
    replace H := H.2
    have o10 := H.1
    replace H := H.2
    refine w_iaload rfl o9 o10 ?_
    have o11 := H.1
    replace H := H.2
    refine w_ineg rfl o11 ?_
    refine w_i2l rfl ?_
    refine w_callI rfl (fun _ => rfl) rfl (cI_mono H fun v13 h12 H => ?_)
    have o14 := H.1
    replace H := H.2
    have o15 := H.1
    replace H := H.2
    refine w_iastore rfl o14 o15 (fun h16 eh16 => ?_)
    replace H := H h16 eh16
    have o17 := H.1
    replace H := H.2
    refine w_iinc rfl rfl rfl o17 ?_
    refine w_goto rfl ?_
    exact H
set_option maxHeartbeats 4000000 in
set_option maxRecDepth 100000 in
theorem r_Model_laysFree_175 {d : Nat} {Q : cm_Q} {h : cm_H} {a0 : Nat} {x1 : Int} {x2 : Int} {z3 : Option cm_V} {x4 : Int} {x5 : Int} {z6 : Option cm_V} {z7 : Option cm_V}  (H : ((x4 ≤ x5 → (cI d m_Model_steps [vR 12 a0, vI x4, vI x2] h fun v2 h1 => cw d cd_Model_laysFree Q 247 [some (vR 12 a0), some (vI x1), some (vI x2), z3, some (vI x4), some (vI v2), some (vI 0), z7] [] h1)) ∧ (x5 < x4 → (cU d m_Model_clearsRow [vR 12 a0, vI x5] h fun h3 => cw d cd_Model_laysFree Q 191 [some (vR 12 a0), some (vI x1), some (vI x2), z3, some (vI x4), some (vI x5), some (vI 0), z7] [] h3)))) : cw d cd_Model_laysFree Q 175 [some (vR 12 a0), some (vI x1), some (vI x2), z3, some (vI x4), some (vI x5), z6, z7] [] h := by
  refine w_iload rfl rfl ?_
  refine w_iload rfl rfl ?_
  refine w_icmp rfl (And.intro (fun hc => ?_) (fun hc => ?_))
  · replace H := H.1 hc
    refine w_aload rfl rfl ?_
    refine w_iload rfl rfl ?_
    refine w_iload rfl rfl ?_
    refine w_callI rfl (fun _ => rfl) rfl (cI_mono H fun v2 h1 H => ?_)
    refine w_istore rfl rfl ?_
    refine w_iconst rfl ⟨by decide, by decide⟩ ?_
    refine w_istore rfl rfl ?_
    exact H
  · replace H := H.2 hc
    refine w_aload rfl rfl ?_
    refine w_iload rfl rfl ?_
    refine w_callU rfl (fun _ => rfl) rfl (cU_mono H fun h3 H => ?_)
    refine w_iconst rfl ⟨by decide, by decide⟩ ?_
    refine w_istore rfl rfl ?_
    exact H
set_option maxHeartbeats 4000000 in
set_option maxRecDepth 100000 in
theorem r_Model_laysFree_191 {d : Nat} {Q : cm_Q} {h : cm_H} {a0 : Nat} {x1 : Int} {x2 : Int} {z3 : Option cm_V} {x4 : Int} {x5 : Int} {x6 : Int} {z7 : Option cm_V} (p_a0 : 0 < a0) (H : ((x2 ≤ x6 → (cm_i (x5 + 1) ∧ cw d cd_Model_laysFree Q 175 [some (vR 12 a0), some (vI x1), some (vI x2), z3, some (vI x4), some (vI (x5 + 1)), some (vI x6), z7] [] h)) ∧ (x6 < x2 → (cm_i (160 * x5) ∧ (cm_i ((160 * x5) + x6) ∧ (cm_i (x2 * x5) ∧ (cm_i ((x2 * x5) + x6) ∧ (0 < ((ch_R h a0 39)) ∧ ((0:Int) ≤ ((x2 * x5) + x6) ∧ ((x2 * x5) + x6) < ch_L h (ch_R h a0 39)) ∧ (0 < ((ch_R h a0 32)) ∧ ((0:Int) ≤ ((160 * x5) + x6) ∧ ((160 * x5) + x6) < ch_L h (ch_R h a0 32)) ∧ (∀ h10 : cm_H, h10 = ch_u h (ch_R h a0 32) ((160 * x5) + x6) (ch_I h (ch_R h a0 39) ((x2 * x5) + x6)) → (cm_i (x6 + 1) ∧ cw d cd_Model_laysFree Q 191 [some (vR 12 a0), some (vI x1), some (vI x2), z3, some (vI x4), some (vI x5), some (vI (x6 + 1)), z7] [] h10))))))))))) : cw d cd_Model_laysFree Q 191 [some (vR 12 a0), some (vI x1), some (vI x2), z3, some (vI x4), some (vI x5), some (vI x6), z7] [] h := by
  refine w_iload rfl rfl ?_
  refine w_iload rfl rfl ?_
  refine w_icmp rfl (And.intro (fun hc => ?_) (fun hc => ?_))
  · replace H := H.1 hc
    have o1 := H.1
    replace H := H.2
    refine w_iinc rfl rfl rfl o1 ?_
    refine w_goto rfl ?_
    exact H
  · replace H := H.2 hc
    refine w_aload rfl rfl ?_
    refine w_getR 32 20 rfl rfl rfl rfl p_a0 ?_
    refine w_iconst rfl ⟨by decide, by decide⟩ ?_
    refine w_iload rfl rfl ?_
    have o2 := H.1
    replace H := H.2
    refine w_imul rfl o2 ?_
    refine w_iload rfl rfl ?_
    have o3 := H.1
    replace H := H.2
    refine w_iadd rfl o3 ?_
    refine w_aload rfl rfl ?_
    refine w_getR 39 20 rfl rfl rfl rfl p_a0 ?_
    refine w_iload rfl rfl ?_
    refine w_iload rfl rfl ?_
    have o4 := H.1
    replace H := H.2
    refine w_imul rfl o4 ?_
    refine w_iload rfl rfl ?_
    have o5 := H.1
    replace H := H.2
    refine w_iadd rfl o5 ?_
    have o6 := H.1
    replace H := H.2
    have o7 := H.1
    replace H := H.2
    refine w_iaload rfl o6 o7 ?_
    have o8 := H.1
    replace H := H.2
    have o9 := H.1
    replace H := H.2
    refine w_iastore rfl o8 o9 (fun h10 eh10 => ?_)
    replace H := H h10 eh10
    have o11 := H.1
    replace H := H.2
    refine w_iinc rfl rfl rfl o11 ?_
    refine w_goto rfl ?_
    exact H
set_option maxHeartbeats 4000000 in
set_option maxRecDepth 100000 in
theorem r_Model_laysFree_247 {d : Nat} {Q : cm_Q} {h : cm_H} {a0 : Nat} {x1 : Int} {x2 : Int} {z3 : Option cm_V} {z4 : Option cm_V} {x5 : Int} {x6 : Int} {z7 : Option cm_V}  (H : ((x5 ≤ x6 → Q (some (vI x5)) h) ∧ (x6 < x5 → cw d cd_Model_laysFree Q 257 [some (vR 12 a0), some (vI x1), some (vI x2), z3, z4, some (vI x5), some (vI x6), some (vI 0)] [] h))) : cw d cd_Model_laysFree Q 247 [some (vR 12 a0), some (vI x1), some (vI x2), z3, z4, some (vI x5), some (vI x6), z7] [] h := by
  refine w_iload rfl rfl ?_
  refine w_iload rfl rfl ?_
  refine w_icmp rfl (And.intro (fun hc => ?_) (fun hc => ?_))
  · replace H := H.1 hc
    refine w_iload rfl rfl ?_
    exact w_ireturn rfl H
  · replace H := H.2 hc
    refine w_iconst rfl ⟨by decide, by decide⟩ ?_
    refine w_istore rfl rfl ?_
    exact H
set_option maxHeartbeats 4000000 in
set_option maxRecDepth 100000 in
theorem r_Model_laysFree_257 {d : Nat} {Q : cm_Q} {h : cm_H} {a0 : Nat} {x1 : Int} {x2 : Int} {z3 : Option cm_V} {z4 : Option cm_V} {x5 : Int} {x6 : Int} {x7 : Int} (p_a0 : 0 < a0) (H : ((x2 ≤ x7 → (cm_i (x6 + 1) ∧ cw d cd_Model_laysFree Q 247 [some (vR 12 a0), some (vI x1), some (vI x2), z3, z4, some (vI x5), some (vI (x6 + 1)), some (vI x7)] [] h)) ∧ (x7 < x2 → (0 < ((ch_R h a0 35)) ∧ ((0:Int) ≤ x1 ∧ x1 < ch_L h (ch_R h a0 35)) ∧ (cm_i (x2 * x6) ∧ (cm_i ((ch_I h (ch_R h a0 35) x1) + (x2 * x6)) ∧ (cm_i (((ch_I h (ch_R h a0 35) x1) + (x2 * x6)) + x7) ∧ (cm_i (160 * x6) ∧ (cm_i ((160 * x6) + x7) ∧ (0 < ((ch_R h a0 32)) ∧ ((0:Int) ≤ ((160 * x6) + x7) ∧ ((160 * x6) + x7) < ch_L h (ch_R h a0 32)) ∧ (0 < ((ch_R h a0 36)) ∧ ((0:Int) ≤ (((ch_I h (ch_R h a0 35) x1) + (x2 * x6)) + x7) ∧ (((ch_I h (ch_R h a0 35) x1) + (x2 * x6)) + x7) < ch_L h (ch_R h a0 36)) ∧ (∀ h13 : cm_H, h13 = ch_u h (ch_R h a0 36) (((ch_I h (ch_R h a0 35) x1) + (x2 * x6)) + x7) (ch_I h (ch_R h a0 32) ((160 * x6) + x7)) → (cm_i (x7 + 1) ∧ cw d cd_Model_laysFree Q 257 [some (vR 12 a0), some (vI x1), some (vI x2), z3, z4, some (vI x5), some (vI x6), some (vI (x7 + 1))] [] h13))))))))))))) : cw d cd_Model_laysFree Q 257 [some (vR 12 a0), some (vI x1), some (vI x2), z3, z4, some (vI x5), some (vI x6), some (vI x7)] [] h := by
  refine w_iload rfl rfl ?_
  refine w_iload rfl rfl ?_
  refine w_icmp rfl (And.intro (fun hc => ?_) (fun hc => ?_))
  · replace H := H.1 hc
    have o1 := H.1
    replace H := H.2
    refine w_iinc rfl rfl rfl o1 ?_
    refine w_goto rfl ?_
    exact H
  · replace H := H.2 hc
    refine w_aload rfl rfl ?_
    refine w_getR 36 20 rfl rfl rfl rfl p_a0 ?_
    refine w_aload rfl rfl ?_
    refine w_getR 35 20 rfl rfl rfl rfl p_a0 ?_
    refine w_iload rfl rfl ?_
    have o2 := H.1
    replace H := H.2
    have o3 := H.1
    replace H := H.2
    refine w_iaload rfl o2 o3 ?_
    refine w_iload rfl rfl ?_
    refine w_iload rfl rfl ?_
    have o4 := H.1
    replace H := H.2
    refine w_imul rfl o4 ?_
    have o5 := H.1
    replace H := H.2
    refine w_iadd rfl o5 ?_
    refine w_iload rfl rfl ?_
    have o6 := H.1
    replace H := H.2
    refine w_iadd rfl o6 ?_
    refine w_aload rfl rfl ?_
    refine w_getR 32 20 rfl rfl rfl rfl p_a0 ?_
    refine w_iconst rfl ⟨by decide, by decide⟩ ?_
    refine w_iload rfl rfl ?_
    have o7 := H.1
    replace H := H.2
    refine w_imul rfl o7 ?_
    refine w_iload rfl rfl ?_
    have o8 := H.1
    replace H := H.2
    refine w_iadd rfl o8 ?_
    have o9 := H.1
    replace H := H.2
    have o10 := H.1
    replace H := H.2
    refine w_iaload rfl o9 o10 ?_
    have o11 := H.1
    replace H := H.2
    have o12 := H.1
    replace H := H.2
    refine w_iastore rfl o11 o12 (fun h13 eh13 => ?_)
    replace H := H h13 eh13
    have o14 := H.1
    replace H := H.2
    refine w_iinc rfl rfl rfl o14 ?_
    refine w_goto rfl ?_
    exact H
set_option maxHeartbeats 4000000 in
set_option maxRecDepth 100000 in
theorem r_Model_laysFree {d : Nat} {Q : cm_Q} {h : cm_H} {a0 : Nat} {x1 : Int} {x2 : Int} {x3 : Int} (p_a0 : 0 < a0) (H : cw d cd_Model_laysFree Q 3 [some (vR 12 a0), some (vI x1), some (vI x2), some (vI x3), some (vI 0), none, none, none] [] h) : cm_call (d + 1) m_Model_laysFree [vR 12 a0, vI x1, vI x2, vI x3] h Q := by
  refine cm_call_in (C := cd_Model_laysFree) (ls := [some (vR 12 a0), some (vI x1), some (vI x2), some (vI x3), none, none, none, none]) rfl rfl p_a0 rfl ?_
  refine w_iconst rfl ⟨by decide, by decide⟩ ?_
  refine w_istore rfl rfl ?_
  exact H
set_option maxHeartbeats 4000000 in
set_option maxRecDepth 100000 in
theorem r_Model_laysBaseRow_9 {d : Nat} {Q : cm_Q} {h : cm_H} {a0 : Nat} {x1 : Int} {x2 : Int} {a3 : Nat} {x4 : Int} {x5 : Int} (p_a0 : 0 < a0) (p_a3 : 0 < a3) (H : (cI d m_Model_many [vR 12 a0, vI x1] h fun v2 h1 => ((v2 ≤ x5 → Q none h1) ∧ (x5 < v2 → (cI d m_Model_from [vR 12 a0, vI x1] h1 fun v4 h3 => (cm_i (x4 + v4) ∧ (cm_i ((x4 + v4) + x5) ∧ (0 < ((ch_R h3 a0 35)) ∧ ((0:Int) ≤ x1 ∧ x1 < ch_L h3 (ch_R h3 a0 35)) ∧ (cI d m_Model_many [vR 12 a0, vI x1] h3 fun v10 h9 => (cm_i (v10 * x2) ∧ (cm_i ((ch_I h3 (ch_R h3 a0 35) x1) + (v10 * x2)) ∧ (cm_i (((ch_I h3 (ch_R h3 a0 35) x1) + (v10 * x2)) + x5) ∧ (0 < ((ch_R h3 a0 36)) ∧ ((0:Int) ≤ (((ch_I h3 (ch_R h3 a0 35) x1) + (v10 * x2)) + x5) ∧ (((ch_I h3 (ch_R h3 a0 35) x1) + (v10 * x2)) + x5) < ch_L h9 (ch_R h3 a0 36)) ∧ ((0:Int) ≤ ((x4 + v4) + x5) ∧ ((x4 + v4) + x5) < ch_L h9 a3) ∧ (∀ h17 : cm_H, h17 = ch_u h9 a3 ((x4 + v4) + x5) (ch_I h9 (ch_R h3 a0 36) (((ch_I h3 (ch_R h3 a0 35) x1) + (v10 * x2)) + x5)) → (cm_i (x5 + 1) ∧ cw d cd_Model_laysBaseRow Q 9 [some (vR 12 a0), some (vI x1), some (vI x2), some (vR 20 a3), some (vI x4), some (vI (x5 + 1))] [] h17))))))))))))))) : cw d cd_Model_laysBaseRow Q 9 [some (vR 12 a0), some (vI x1), some (vI x2), some (vR 20 a3), some (vI x4), some (vI x5)] [] h := by
  refine w_iload rfl rfl ?_
  refine w_aload rfl rfl ?_
  refine w_iload rfl rfl ?_
  refine w_callI rfl (fun _ => rfl) rfl (cI_mono H fun v2 h1 H => ?_)
  refine w_icmp rfl (And.intro (fun hc => ?_) (fun hc => ?_))
  · replace H := H.1 hc
    exact w_return rfl H
  · replace H := H.2 hc
    refine w_aload rfl rfl ?_
    refine w_iload rfl rfl ?_
    refine w_aload rfl rfl ?_
    refine w_iload rfl rfl ?_
    refine w_callI rfl (fun _ => rfl) rfl (cI_mono H fun v4 h3 H => ?_)
    have o5 := H.1
    replace H := H.2
    refine w_iadd rfl o5 ?_
    refine w_iload rfl rfl ?_
    have o6 := H.1
    replace H := H.2
    refine w_iadd rfl o6 ?_
    refine w_aload rfl rfl ?_
    refine w_getR 36 20 rfl rfl rfl rfl p_a0 ?_
    refine w_aload rfl rfl ?_
    refine w_getR 35 20 rfl rfl rfl rfl p_a0 ?_
    refine w_iload rfl rfl ?_
    have o7 := H.1
    replace H := H.2
    have o8 := H.1
    replace H := H.2
    refine w_iaload rfl o7 o8 ?_
    refine w_aload rfl rfl ?_
    refine w_iload rfl rfl ?_
    refine w_callI rfl (fun _ => rfl) rfl (cI_mono H fun v10 h9 H => ?_)
    refine w_iload rfl rfl ?_
    have o11 := H.1
    replace H := H.2
    refine w_imul rfl o11 ?_
    have o12 := H.1
    replace H := H.2
    refine w_iadd rfl o12 ?_
    refine w_iload rfl rfl ?_
    have o13 := H.1
    replace H := H.2
    refine w_iadd rfl o13 ?_
    have o14 := H.1
    replace H := H.2
    have o15 := H.1
    replace H := H.2
    refine w_iaload rfl o14 o15 ?_
    have o16 := H.1
    replace H := H.2
    refine w_iastore rfl p_a3 o16 (fun h17 eh17 => ?_)
    replace H := H h17 eh17
    have o18 := H.1
    replace H := H.2
    refine w_iinc rfl rfl rfl o18 ?_
    refine w_goto rfl ?_
    exact H
set_option maxHeartbeats 4000000 in
set_option maxRecDepth 100000 in
theorem r_Model_laysBaseRow {d : Nat} {Q : cm_Q} {h : cm_H} {a0 : Nat} {x1 : Int} {x2 : Int} {a3 : Nat} {x4 : Int} (p_a0 : 0 < a0) (H : (cU d m_Model_clears [vR 20 a3, vI x4] h fun h1 => cw d cd_Model_laysBaseRow Q 9 [some (vR 12 a0), some (vI x1), some (vI x2), some (vR 20 a3), some (vI x4), some (vI 0)] [] h1)) : cm_call (d + 1) m_Model_laysBaseRow [vR 12 a0, vI x1, vI x2, vR 20 a3, vI x4] h Q := by
  refine cm_call_in (C := cd_Model_laysBaseRow) (ls := [some (vR 12 a0), some (vI x1), some (vI x2), some (vR 20 a3), some (vI x4), none]) rfl rfl p_a0 rfl ?_
  refine w_aload rfl rfl ?_
  refine w_iload rfl rfl ?_
  refine w_callU rfl (fun _ => rfl) rfl (cU_mono H fun h1 H => ?_)
  refine w_iconst rfl ⟨by decide, by decide⟩ ?_
  refine w_istore rfl rfl ?_
  exact H
set_option maxHeartbeats 4000000 in
set_option maxRecDepth 100000 in
theorem r_Model_series {d : Nat} {Q : cm_Q} {h : cm_H} {a0 : Nat} {x1 : Int} (p_a0 : 0 < a0) (H : (∀ h1 : cm_H, h1 = ch_u h a0 0 0 → (cI d m_Model_within [vI x1, vI 0, vI 15] h1 fun v3 h2 => ((¬ v3 = 0 → (cU d m_Model_laysBases [vR 12 a0, vI x1] h2 fun h4 => (0 < ((ch_R h4 a0 34)) ∧ ((0:Int) ≤ x1 ∧ x1 < ch_L h4 (ch_R h4 a0 34)) ∧ Q (some (vI (ch_I h4 (ch_R h4 a0 34) x1))) h4))) ∧ (v3 = 0 → Q (some (vI (-1))) h2))))) : cm_call (d + 1) m_Model_series [vR 12 a0, vI x1] h Q := by
  refine cm_call_in (C := cd_Model_series) (ls := [some (vR 12 a0), some (vI x1)]) rfl rfl p_a0 rfl ?_
  refine w_aload rfl rfl ?_
  refine w_iconst rfl ⟨by decide, by decide⟩ ?_
  refine w_putI 0 rfl rfl rfl p_a0 (fun h1 eh1 => ?_)
  replace H := H h1 eh1
  refine w_iload rfl rfl ?_
  refine w_iconst rfl ⟨by decide, by decide⟩ ?_
  refine w_iconst rfl ⟨by decide, by decide⟩ ?_
  refine w_callI rfl (fun _ => rfl) rfl (cI_mono H fun v3 h2 H => ?_)
  refine w_if rfl (And.intro (fun hc => ?_) (fun hc => ?_))
  · replace H := H.1 hc
    refine w_aload rfl rfl ?_
    refine w_iload rfl rfl ?_
    refine w_callU rfl (fun _ => rfl) rfl (cU_mono H fun h4 H => ?_)
    refine w_aload rfl rfl ?_
    refine w_getR 34 20 rfl rfl rfl rfl p_a0 ?_
    refine w_iload rfl rfl ?_
    have o5 := H.1
    replace H := H.2
    have o6 := H.1
    replace H := H.2
    refine w_iaload rfl o5 o6 ?_
    exact w_ireturn rfl H
  · replace H := H.2 hc
    refine w_iconst rfl ⟨by decide, by decide⟩ ?_
    exact w_ireturn rfl H
set_option maxHeartbeats 4000000 in
set_option maxRecDepth 100000 in
theorem r_Model_base {d : Nat} {Q : cm_Q} {h : cm_H} {a0 : Nat} {x1 : Int} {x2 : Int} {x3 : Int} (p_a0 : 0 < a0) (H : (∀ h1 : cm_H, h1 = ch_u h a0 0 0 → (cI d m_Model_within [vI x1, vI 0, vI 15] h1 fun v3 h2 => ((v3 = 0 → Q (some (vI (-1))) h2) ∧ (¬ v3 = 0 → (cI d m_Model_isKept [vR 12 a0, vI x3] h2 fun v5 h4 => ((¬ v5 = 0 → (cU d m_Model_laysBases [vR 12 a0, vI x1] h4 fun h6 => (0 < ((ch_R h6 a0 34)) ∧ ((0:Int) ≤ x1 ∧ x1 < ch_L h6 (ch_R h6 a0 34)) ∧ (cm_i ((ch_I h6 (ch_R h6 a0 34) x1) - 1) ∧ (cI d m_Model_within [vI x2, vI 0, vI ((ch_I h6 (ch_R h6 a0 34) x1) - 1)] h6 fun v11 h10 => ((¬ v11 = 0 → (cm_i (1140 * x3) ∧ (cU d m_Model_laysBaseRow [vR 12 a0, vI x1, vI x2, vR 20 (ch_R h10 a0 5), vI (1140 * x3)] h10 fun h13 => (cI d m_Model_terms [vR 12 a0, vI (1140 * x3)] h13 fun v15 h14 => Q (some (vI v15)) h14)))) ∧ (v11 = 0 → Q (some (vI (-1))) h10))))))) ∧ (v5 = 0 → Q (some (vI (-1))) h4)))))))) : cm_call (d + 1) m_Model_base [vR 12 a0, vI x1, vI x2, vI x3] h Q := by
  refine cm_call_in (C := cd_Model_base) (ls := [some (vR 12 a0), some (vI x1), some (vI x2), some (vI x3)]) rfl rfl p_a0 rfl ?_
  refine w_aload rfl rfl ?_
  refine w_iconst rfl ⟨by decide, by decide⟩ ?_
  refine w_putI 0 rfl rfl rfl p_a0 (fun h1 eh1 => ?_)
  replace H := H h1 eh1
  refine w_iload rfl rfl ?_
  refine w_iconst rfl ⟨by decide, by decide⟩ ?_
  refine w_iconst rfl ⟨by decide, by decide⟩ ?_
  refine w_callI rfl (fun _ => rfl) rfl (cI_mono H fun v3 h2 H => ?_)
  refine w_if rfl (And.intro (fun hc => ?_) (fun hc => ?_))
  · replace H := H.1 hc
    refine w_iconst rfl ⟨by decide, by decide⟩ ?_
    exact w_ireturn rfl H
  · replace H := H.2 hc
    refine w_aload rfl rfl ?_
    refine w_iload rfl rfl ?_
    refine w_callI rfl (fun _ => rfl) rfl (cI_mono H fun v5 h4 H => ?_)
    refine w_if rfl (And.intro (fun hc => ?_) (fun hc => ?_))
    · replace H := H.1 hc
      refine w_aload rfl rfl ?_
      refine w_iload rfl rfl ?_
      refine w_callU rfl (fun _ => rfl) rfl (cU_mono H fun h6 H => ?_)
      refine w_iload rfl rfl ?_
      refine w_iconst rfl ⟨by decide, by decide⟩ ?_
      refine w_aload rfl rfl ?_
      refine w_getR 34 20 rfl rfl rfl rfl p_a0 ?_
      refine w_iload rfl rfl ?_
      have o7 := H.1
      replace H := H.2
      have o8 := H.1
      replace H := H.2
      refine w_iaload rfl o7 o8 ?_
      refine w_iconst rfl ⟨by decide, by decide⟩ ?_
      have o9 := H.1
      replace H := H.2
      refine w_isub rfl o9 ?_
      refine w_callI rfl (fun _ => rfl) rfl (cI_mono H fun v11 h10 H => ?_)
      refine w_if rfl (And.intro (fun hc => ?_) (fun hc => ?_))
      · replace H := H.1 hc
        refine w_aload rfl rfl ?_
        refine w_iload rfl rfl ?_
        refine w_iload rfl rfl ?_
        refine w_aload rfl rfl ?_
        refine w_getR 5 20 rfl rfl rfl rfl p_a0 ?_
        refine w_iconst rfl ⟨by decide, by decide⟩ ?_
        refine w_iload rfl rfl ?_
        have o12 := H.1
        replace H := H.2
        refine w_imul rfl o12 ?_
        refine w_callU rfl (fun _ => rfl) rfl (cU_mono H fun h13 H => ?_)
        refine w_aload rfl rfl ?_
        refine w_iconst rfl ⟨by decide, by decide⟩ ?_
        refine w_iload rfl rfl ?_
        refine w_imul rfl o12 ?_
        refine w_callI rfl (fun _ => rfl) rfl (cI_mono H fun v15 h14 H => ?_)
        exact w_ireturn rfl H
      · replace H := H.2 hc
        refine w_iconst rfl ⟨by decide, by decide⟩ ?_
        exact w_ireturn rfl H
    · replace H := H.2 hc
      refine w_iconst rfl ⟨by decide, by decide⟩ ?_
      exact w_ireturn rfl H
set_option maxHeartbeats 4000000 in
set_option maxRecDepth 100000 in
theorem r_Model_areAll_9 {d : Nat} {Q : cm_Q} {h : cm_H} {a0 : Nat} {x1 : Int} {x2 : Int} {z3 : Option cm_V} {z4 : Option cm_V} {z5 : Option cm_V} {z6 : Option cm_V} {z7 : Option cm_V} {z8 : Option cm_V} (p_a0 : 0 < a0) (H : (((ch_I h a0 1) ≤ x2 → (cI d m_Model_many [vR 12 a0, vI x1] h fun v2 h1 => cw d cd_Model_areAll Q 53 [some (vR 12 a0), some (vI x1), some (vI v2), some (vI 0), some (vI 0), some (vI 0), z6, z7, z8] [] h1)) ∧ (x2 < (ch_I h a0 1) → (cm_i (1140 * x2) ∧ (cI d m_Model_degree [vR 12 a0, vR 20 (ch_R h a0 40), vI (1140 * x2)] h fun v5 h4 => (cm_i (x1 + v5) ∧ (cm_i (x2 + 1) ∧ cw d cd_Model_areAll Q 9 [some (vR 12 a0), some (vI (x1 + v5)), some (vI (x2 + 1)), z3, z4, z5, z6, z7, z8] [] h4))))))) : cw d cd_Model_areAll Q 9 [some (vR 12 a0), some (vI x1), some (vI x2), z3, z4, z5, z6, z7, z8] [] h := by
  refine w_iload rfl rfl ?_
  refine w_aload rfl rfl ?_
  refine w_getI 1 rfl rfl rfl p_a0 ?_
  refine w_icmp rfl (And.intro (fun hc => ?_) (fun hc => ?_))
  · replace H := H.1 hc
    refine w_aload rfl rfl ?_
    refine w_iload rfl rfl ?_
    refine w_callI rfl (fun _ => rfl) rfl (cI_mono H fun v2 h1 H => ?_)
    refine w_istore rfl rfl ?_
    refine w_iconst rfl ⟨by decide, by decide⟩ ?_
    refine w_istore rfl rfl ?_
    refine w_iconst rfl ⟨by decide, by decide⟩ ?_
    refine w_istore rfl rfl ?_
    refine w_iconst rfl ⟨by decide, by decide⟩ ?_
    refine w_istore rfl rfl ?_
    exact H
  · replace H := H.2 hc
    refine w_iload rfl rfl ?_
    refine w_aload rfl rfl ?_
    refine w_aload rfl rfl ?_
    refine w_getR 40 20 rfl rfl rfl rfl p_a0 ?_
    refine w_iconst rfl ⟨by decide, by decide⟩ ?_
    refine w_iload rfl rfl ?_
    have o3 := H.1
    replace H := H.2
    refine w_imul rfl o3 ?_
    refine w_callI rfl (fun _ => rfl) rfl (cI_mono H fun v5 h4 H => ?_)
    have o6 := H.1
    replace H := H.2
    refine w_iadd rfl o6 ?_
    refine w_istore rfl rfl ?_
    have o7 := H.1
    replace H := H.2
    refine w_iinc rfl rfl rfl o7 ?_
    refine w_goto rfl ?_
    exact H
set_option maxHeartbeats 4000000 in
set_option maxRecDepth 100000 in
theorem r_Model_areAll_53 {d : Nat} {Q : cm_Q} {h : cm_H} {a0 : Nat} {x1 : Int} {x2 : Int} {x3 : Int} {x4 : Int} {x5 : Int} {z6 : Option cm_V} {z7 : Option cm_V} {z8 : Option cm_V} (p_a0 : 0 < a0) (H : (((ch_I h a0 1) ≤ x5 → ((¬ x4 = x2 → Q (some (vI 0)) h) ∧ (x4 = x2 → Q (some (vI 1)) h))) ∧ (x5 < (ch_I h a0 1) → (cm_i (1140 * x5) ∧ (cI d m_Model_degree [vR 12 a0, vR 20 (ch_R h a0 40), vI (1140 * x5)] h fun v3 h2 => (cm_i (x1 - v3) ∧ (cI d m_Model_from [vR 12 a0, vI (x1 - v3)] h2 fun v6 h5 => cw d cd_Model_areAll Q 88 [some (vR 12 a0), some (vI x1), some (vI x2), some (vI x3), some (vI x4), some (vI x5), some (vI v3), some (vI v6), z8] [] h5))))))) : cw d cd_Model_areAll Q 53 [some (vR 12 a0), some (vI x1), some (vI x2), some (vI x3), some (vI x4), some (vI x5), z6, z7, z8] [] h := by
  refine w_iload rfl rfl ?_
  refine w_aload rfl rfl ?_
  refine w_getI 1 rfl rfl rfl p_a0 ?_
  refine w_icmp rfl (And.intro (fun hc => ?_) (fun hc => ?_))
  · replace H := H.1 hc
    refine w_iload rfl rfl ?_
    refine w_iload rfl rfl ?_
    refine w_icmp rfl (And.intro (fun hc => ?_) (fun hc => ?_))
    · replace H := H.1 hc
      refine w_iconst rfl ⟨by decide, by decide⟩ ?_
      exact w_zreturn rfl (by decide) H
    · replace H := H.2 hc
      refine w_iconst rfl ⟨by decide, by decide⟩ ?_
      refine w_goto rfl ?_
      exact w_zreturn rfl (by decide) H
  · replace H := H.2 hc
    refine w_aload rfl rfl ?_
    refine w_aload rfl rfl ?_
    refine w_getR 40 20 rfl rfl rfl rfl p_a0 ?_
    refine w_iconst rfl ⟨by decide, by decide⟩ ?_
    refine w_iload rfl rfl ?_
    have o1 := H.1
    replace H := H.2
    refine w_imul rfl o1 ?_
    refine w_callI rfl (fun _ => rfl) rfl (cI_mono H fun v3 h2 H => ?_)
    refine w_istore rfl rfl ?_
    refine w_aload rfl rfl ?_
    refine w_iload rfl rfl ?_
    refine w_iload rfl rfl ?_
    have o4 := H.1
    replace H := H.2
    refine w_isub rfl o4 ?_
    refine w_callI rfl (fun _ => rfl) rfl (cI_mono H fun v6 h5 H => ?_)
    refine w_istore rfl rfl ?_
    exact H
set_option maxHeartbeats 4000000 in
set_option maxRecDepth 100000 in
theorem r_Model_areAll_88 {d : Nat} {Q : cm_Q} {h : cm_H} {a0 : Nat} {x1 : Int} {x2 : Int} {x3 : Int} {z4 : Option cm_V} {x5 : Int} {x6 : Int} {x7 : Int} {z8 : Option cm_V}  (H : (cm_i (x1 - x6) ∧ (cm_i ((x1 - x6) + 1) ∧ (cI d m_Model_from [vR 12 a0, vI ((x1 - x6) + 1)] h fun v4 h3 => ((v4 ≤ x7 → (cI d m_Model_steps [vR 12 a0, vI x3, vI x2] h3 fun v6 h5 => (cm_i (x5 + 1) ∧ cw d cd_Model_areAll Q 53 [some (vR 12 a0), some (vI x1), some (vI x2), some (vI v6), some (vI v6), some (vI (x5 + 1)), some (vI x6), some (vI x7), z8] [] h5))) ∧ (x7 < v4 → (cU d m_Model_clearsRow [vR 12 a0, vI x3] h3 fun h8 => (cI d m_Model_from [vR 12 a0, vI x6] h8 fun v10 h9 => cw d cd_Model_areAll Q 116 [some (vR 12 a0), some (vI x1), some (vI x2), some (vI x3), z4, some (vI x5), some (vI x6), some (vI x7), some (vI v10)] [] h9)))))))) : cw d cd_Model_areAll Q 88 [some (vR 12 a0), some (vI x1), some (vI x2), some (vI x3), z4, some (vI x5), some (vI x6), some (vI x7), z8] [] h := by
  refine w_iload rfl rfl ?_
  refine w_aload rfl rfl ?_
  refine w_iload rfl rfl ?_
  refine w_iload rfl rfl ?_
  have o1 := H.1
  replace H := H.2
  refine w_isub rfl o1 ?_
  refine w_iconst rfl ⟨by decide, by decide⟩ ?_
  have o2 := H.1
  replace H := H.2
  refine w_iadd rfl o2 ?_
  refine w_callI rfl (fun _ => rfl) rfl (cI_mono H fun v4 h3 H => ?_)
  refine w_icmp rfl (And.intro (fun hc => ?_) (fun hc => ?_))
  · replace H := H.1 hc
    refine w_aload rfl rfl ?_
    refine w_iload rfl rfl ?_
    refine w_iload rfl rfl ?_
    refine w_callI rfl (fun _ => rfl) rfl (cI_mono H fun v6 h5 H => ?_)
    refine w_istore rfl rfl ?_
    refine w_iload rfl rfl ?_
    refine w_istore rfl rfl ?_
    have o7 := H.1
    replace H := H.2
    refine w_iinc rfl rfl rfl o7 ?_
    refine w_goto rfl ?_
    exact H
  · replace H := H.2 hc
    refine w_aload rfl rfl ?_
    refine w_iload rfl rfl ?_
    refine w_callU rfl (fun _ => rfl) rfl (cU_mono H fun h8 H => ?_)
    refine w_aload rfl rfl ?_
    refine w_iload rfl rfl ?_
    refine w_callI rfl (fun _ => rfl) rfl (cI_mono H fun v10 h9 H => ?_)
    refine w_istore rfl rfl ?_
    exact H
set_option maxHeartbeats 4000000 in
set_option maxRecDepth 100000 in
theorem r_Model_areAll_116 {d : Nat} {Q : cm_Q} {h : cm_H} {a0 : Nat} {x1 : Int} {x2 : Int} {x3 : Int} {z4 : Option cm_V} {x5 : Int} {x6 : Int} {x7 : Int} {x8 : Int} (p_a0 : 0 < a0) (H : (cm_i (x6 + 1) ∧ (cI d m_Model_from [vR 12 a0, vI (x6 + 1)] h fun v3 h2 => ((v3 ≤ x8 → (cm_i (x3 + 1) ∧ (cm_i (x7 + 1) ∧ cw d cd_Model_areAll Q 88 [some (vR 12 a0), some (vI x1), some (vI x2), some (vI (x3 + 1)), z4, some (vI x5), some (vI x6), some (vI (x7 + 1)), some (vI x8)] [] h2))) ∧ (x8 < v3 → (cm_i (1140 * x5) ∧ (cm_i ((1140 * x5) + x8) ∧ (0 < ((ch_R h2 a0 40)) ∧ ((0:Int) ≤ ((1140 * x5) + x8) ∧ ((1140 * x5) + x8) < ch_L h2 (ch_R h2 a0 40)) ∧ (((ch_I h2 (ch_R h2 a0 40) ((1140 * x5) + x8)) = 0 → (cm_i (x8 + 1) ∧ cw d cd_Model_areAll Q 116 [some (vR 12 a0), some (vI x1), some (vI x2), some (vI x3), z4, some (vI x5), some (vI x6), some (vI x7), some (vI (x8 + 1))] [] h2)) ∧ (¬ (ch_I h2 (ch_R h2 a0 40) ((1140 * x5) + x8)) = 0 → (cm_i (160 * x3) ∧ (0 < ((ch_R h2 a0 2)) ∧ ((0:Int) ≤ x8 ∧ x8 < ch_L h2 (ch_R h2 a0 2)) ∧ ((0:Int) ≤ x7 ∧ x7 < ch_L h2 (ch_R h2 a0 2)) ∧ (cm_i ((ch_I h2 (ch_R h2 a0 2) x8) + (ch_I h2 (ch_R h2 a0 2) x7)) ∧ (0 < ((ch_R h2 a0 3)) ∧ ((0:Int) ≤ x8 ∧ x8 < ch_L h2 (ch_R h2 a0 3)) ∧ ((0:Int) ≤ x7 ∧ x7 < ch_L h2 (ch_R h2 a0 3)) ∧ (cm_i ((ch_I h2 (ch_R h2 a0 3) x8) + (ch_I h2 (ch_R h2 a0 3) x7)) ∧ (0 < ((ch_R h2 a0 4)) ∧ ((0:Int) ≤ x8 ∧ x8 < ch_L h2 (ch_R h2 a0 4)) ∧ ((0:Int) ≤ x7 ∧ x7 < ch_L h2 (ch_R h2 a0 4)) ∧ (cm_i ((ch_I h2 (ch_R h2 a0 4) x8) + (ch_I h2 (ch_R h2 a0 4) x7)) ∧ (cI d m_Model_at [vR 12 a0, vI ((ch_I h2 (ch_R h2 a0 2) x8) + (ch_I h2 (ch_R h2 a0 2) x7)), vI ((ch_I h2 (ch_R h2 a0 3) x8) + (ch_I h2 (ch_R h2 a0 3) x7)), vI ((ch_I h2 (ch_R h2 a0 4) x8) + (ch_I h2 (ch_R h2 a0 4) x7))] h2 fun v25 h24 => (cm_i ((160 * x3) + v25) ∧ (cI d m_Model_from [vR 12 a0, vI x1] h24 fun v28 h27 => (cm_i (((160 * x3) + v25) - v28) ∧ (0 < ((ch_R h27 a0 40)) ∧ ((0:Int) ≤ ((1140 * x5) + x8) ∧ ((1140 * x5) + x8) < ch_L h27 (ch_R h27 a0 40)) ∧ (0 < ((ch_R h2 a0 32)) ∧ ((0:Int) ≤ (((160 * x3) + v25) - v28) ∧ (((160 * x3) + v25) - v28) < ch_L h27 (ch_R h2 a0 32)) ∧ (∀ h34 : cm_H, h34 = ch_u h27 (ch_R h2 a0 32) (((160 * x3) + v25) - v28) (ch_I h27 (ch_R h27 a0 40) ((1140 * x5) + x8)) → (cm_i (x8 + 1) ∧ cw d cd_Model_areAll Q 116 [some (vR 12 a0), some (vI x1), some (vI x2), some (vI x3), z4, some (vI x5), some (vI x6), some (vI x7), some (vI (x8 + 1))] [] h34))))))))))))))))))))))))) : cw d cd_Model_areAll Q 116 [some (vR 12 a0), some (vI x1), some (vI x2), some (vI x3), z4, some (vI x5), some (vI x6), some (vI x7), some (vI x8)] [] h := by
  refine w_iload rfl rfl ?_
  refine w_aload rfl rfl ?_
  refine w_iload rfl rfl ?_
  refine w_iconst rfl ⟨by decide, by decide⟩ ?_
  have o1 := H.1
  replace H := H.2
  refine w_iadd rfl o1 ?_
  refine w_callI rfl (fun _ => rfl) rfl (cI_mono H fun v3 h2 H => ?_)
  refine w_icmp rfl (And.intro (fun hc => ?_) (fun hc => ?_))
  · replace H := H.1 hc
    have o4 := H.1
    replace H := H.2
    refine w_iinc rfl rfl rfl o4 ?_
    have o5 := H.1
    replace H := H.2
    refine w_iinc rfl rfl rfl o5 ?_
    refine w_goto rfl ?_
    exact H
  · replace H := H.2 hc
    refine w_aload rfl rfl ?_
    refine w_getR 40 20 rfl rfl rfl rfl p_a0 ?_
    refine w_iconst rfl ⟨by decide, by decide⟩ ?_
    refine w_iload rfl rfl ?_
    have o6 := H.1
    replace H := H.2
    refine w_imul rfl o6 ?_
    refine w_iload rfl rfl ?_
    have o7 := H.1
    replace H := H.2
    refine w_iadd rfl o7 ?_
    have o8 := H.1
    replace H := H.2
    have o9 := H.1
    replace H := H.2
    refine w_iaload rfl o8 o9 ?_
    refine w_if rfl (And.intro (fun hc => ?_) (fun hc => ?_))
    · replace H := H.1 hc
      have o10 := H.1
      replace H := H.2
      refine w_iinc rfl rfl rfl o10 ?_
      refine w_goto rfl ?_
      exact H
    · replace H := H.2 hc
      refine w_aload rfl rfl ?_
      refine w_getR 32 20 rfl rfl rfl rfl p_a0 ?_
      refine w_iconst rfl ⟨by decide, by decide⟩ ?_
      refine w_iload rfl rfl ?_
      have o11 := H.1
      replace H := H.2
      refine w_imul rfl o11 ?_
      refine w_aload rfl rfl ?_
      refine w_aload rfl rfl ?_
      refine w_getR 2 20 rfl rfl rfl rfl p_a0 ?_
      refine w_iload rfl rfl ?_
      have o12 := H.1
      replace H := H.2
      have o13 := H.1
      replace H := H.2
      refine w_iaload rfl o12 o13 ?_
      refine w_aload rfl rfl ?_
      refine w_getR 2 20 rfl rfl rfl rfl p_a0 ?_
      refine w_iload rfl rfl ?_
      have o14 := H.1
      replace H := H.2
      refine w_iaload rfl o12 o14 ?_
      have o15 := H.1
      replace H := H.2
      refine w_iadd rfl o15 ?_
      refine w_aload rfl rfl ?_
      refine w_getR 3 20 rfl rfl rfl rfl p_a0 ?_
      refine w_iload rfl rfl ?_
      have o16 := H.1
      replace H := H.2
      have o17 := H.1
      replace H := H.2
      refine w_iaload rfl o16 o17 ?_
      refine w_aload rfl rfl ?_
      refine w_getR 3 20 rfl rfl rfl rfl p_a0 ?_
      refine w_iload rfl rfl ?_
      have o18 := H.1
      replace H := H.2
      refine w_iaload rfl o16 o18 ?_
      have o19 := H.1
      replace H := H.2
      refine w_iadd rfl o19 ?_
      refine w_aload rfl rfl ?_
      refine w_getR 4 20 rfl rfl rfl rfl p_a0 ?_
      refine w_iload rfl rfl ?_
      have o20 := H.1
      replace H := H.2
      have o21 := H.1
      replace H := H.2
      refine w_iaload rfl o20 o21 ?_
      refine w_aload rfl rfl ?_
      refine w_getR 4 20 rfl rfl rfl rfl p_a0 ?_
      refine w_iload rfl rfl ?_
      have o22 := H.1
      replace H := H.2
      refine w_iaload rfl o20 o22 ?_
      have o23 := H.1
      replace H := H.2
      refine w_iadd rfl o23 ?_
      refine w_callI rfl (fun _ => rfl) rfl (cI_mono H fun v25 h24 H => ?_)
      have o26 := H.1
      replace H := H.2
      refine w_iadd rfl o26 ?_
      refine w_aload rfl rfl ?_
      refine w_iload rfl rfl ?_
      refine w_callI rfl (fun _ => rfl) rfl (cI_mono H fun v28 h27 H => ?_)
      have o29 := H.1
      replace H := H.2
      refine w_isub rfl o29 ?_
      refine w_aload rfl rfl ?_
      refine w_getR 40 20 rfl rfl rfl rfl p_a0 ?_
      refine w_iconst rfl ⟨by decide, by decide⟩ ?_
      refine w_iload rfl rfl ?_
      refine w_imul rfl o6 ?_
      refine w_iload rfl rfl ?_
      refine w_iadd rfl o7 ?_
      have o30 := H.1
      replace H := H.2
      have o31 := H.1
      replace H := H.2
      refine w_iaload rfl o30 o31 ?_
      have o32 := H.1
      replace H := H.2
      have o33 := H.1
      replace H := H.2
      refine w_iastore rfl o32 o33 (fun h34 eh34 => ?_)
      replace H := H h34 eh34
      have o35 := H.1
      replace H := H.2
      refine w_iinc rfl rfl rfl o35 ?_
      refine w_goto rfl ?_
      exact H
set_option maxHeartbeats 4000000 in
set_option maxRecDepth 100000 in
theorem r_Model_areAll {d : Nat} {Q : cm_Q} {h : cm_H} {a0 : Nat} (p_a0 : 0 < a0) (H : (cm_i (1 - (ch_I h a0 1)) ∧ cw d cd_Model_areAll Q 9 [some (vR 12 a0), some (vI (1 - (ch_I h a0 1))), some (vI 0), none, none, none, none, none, none] [] h)) : cm_call (d + 1) m_Model_areAll [vR 12 a0] h Q := by
  refine cm_call_in (C := cd_Model_areAll) (ls := [some (vR 12 a0), none, none, none, none, none, none, none, none]) rfl rfl p_a0 rfl ?_
  refine w_iconst rfl ⟨by decide, by decide⟩ ?_
  refine w_aload rfl rfl ?_
  refine w_getI 1 rfl rfl rfl p_a0 ?_
  have o1 := H.1
  replace H := H.2
  refine w_isub rfl o1 ?_
  refine w_istore rfl rfl ?_
  refine w_iconst rfl ⟨by decide, by decide⟩ ?_
  refine w_istore rfl rfl ?_
  exact H
set_option maxHeartbeats 4000000 in
set_option maxRecDepth 100000 in
theorem r_Model_isSystem_48 {d : Nat} {Q : cm_Q} {h : cm_H} {a0 : Nat} {x1 : Int} {x2 : Int} {x3 : Int} {x4 : Int} {x5 : Int} {x6 : Int} {z7 : Option cm_V} (p_a0 : 0 < a0) (H : (((ch_I h a0 1) ≤ x6 → ((x4 ≤ 18 → cw d cd_Model_isSystem Q 173 [some (vR 12 a0), some (vI x1), some (vI x2), some (vI x3), some (vI x4), some (vI x5), some (vI 0), z7] [] h) ∧ (18 < x4 → Q (some (vI (-1))) h))) ∧ (x6 < (ch_I h a0 1) → ((¬ x6 = 0 → ((¬ x6 = 1 → cw d cd_Model_isSystem Q 80 [some (vR 12 a0), some (vI x1), some (vI x2), some (vI x3), some (vI x4), some (vI x5), some (vI x6), z7] [vI x3, vI 1140] h) ∧ (x6 = 1 → cw d cd_Model_isSystem Q 80 [some (vR 12 a0), some (vI x1), some (vI x2), some (vI x3), some (vI x4), some (vI x5), some (vI x6), z7] [vI x2, vI 1140] h))) ∧ (x6 = 0 → cw d cd_Model_isSystem Q 80 [some (vR 12 a0), some (vI x1), some (vI x2), some (vI x3), some (vI x4), some (vI x5), some (vI x6), z7] [vI x1, vI 1140] h))))) : cw d cd_Model_isSystem Q 48 [some (vR 12 a0), some (vI x1), some (vI x2), some (vI x3), some (vI x4), some (vI x5), some (vI x6), z7] [] h := by
  refine w_iload rfl rfl ?_
  refine w_aload rfl rfl ?_
  refine w_getI 1 rfl rfl rfl p_a0 ?_
  refine w_icmp rfl (And.intro (fun hc => ?_) (fun hc => ?_))
  · replace H := H.1 hc
    refine w_iload rfl rfl ?_
    refine w_iconst rfl ⟨by decide, by decide⟩ ?_
    refine w_icmp rfl (And.intro (fun hc => ?_) (fun hc => ?_))
    · replace H := H.1 hc
      refine w_iconst rfl ⟨by decide, by decide⟩ ?_
      refine w_istore rfl rfl ?_
      exact H
    · replace H := H.2 hc
      refine w_iconst rfl ⟨by decide, by decide⟩ ?_
      exact w_ireturn rfl H
  · replace H := H.2 hc
    refine w_iconst rfl ⟨by decide, by decide⟩ ?_
    refine w_iload rfl rfl ?_
    refine w_if rfl (And.intro (fun hc => ?_) (fun hc => ?_))
    · replace H := H.1 hc
      refine w_iload rfl rfl ?_
      refine w_iconst rfl ⟨by decide, by decide⟩ ?_
      refine w_icmp rfl (And.intro (fun hc => ?_) (fun hc => ?_))
      · replace H := H.1 hc
        refine w_iload rfl rfl ?_
        exact H
      · replace H := H.2 hc
        refine w_iload rfl rfl ?_
        refine w_goto rfl ?_
        exact H
    · replace H := H.2 hc
      refine w_iload rfl rfl ?_
      refine w_goto rfl ?_
      exact H
set_option maxHeartbeats 4000000 in
set_option maxRecDepth 100000 in
theorem r_Model_isSystem_80 {d : Nat} {Q : cm_Q} {h : cm_H} {a0 : Nat} {x1 : Int} {x2 : Int} {x3 : Int} {x4 : Int} {x5 : Int} {x6 : Int} {z7 : Option cm_V} {s0 : Int} {s1 : Int} (p_a0 : 0 < a0) (H : (cm_i (s1 * s0) ∧ (cm_i (1140 * x6) ∧ (cU d m_Model_copies [vR 20 (ch_R h a0 5), vI (s1 * s0), vR 20 (ch_R h a0 40), vI (1140 * x6)] h fun h3 => (cI d m_Model_degree [vR 12 a0, vR 20 (ch_R h3 a0 5), vI (s1 * s0)] h3 fun v5 h4 => (cm_i (x4 + v5) ∧ ((x5 = 0 → (cm_i (x6 + 1) ∧ cw d cd_Model_isSystem Q 48 [some (vR 12 a0), some (vI x1), some (vI x2), some (vI x3), some (vI (x4 + v5)), some (vI 0), some (vI (x6 + 1)), some (vI (s1 * s0))] [] h4)) ∧ (¬ x5 = 0 → (cI d m_Model_degree [vR 12 a0, vR 20 (ch_R h4 a0 5), vI (s1 * s0)] h4 fun v9 h8 => ((v9 ≤ 0 → (cm_i (x6 + 1) ∧ cw d cd_Model_isSystem Q 48 [some (vR 12 a0), some (vI x1), some (vI x2), some (vI x3), some (vI (x4 + v5)), some (vI 0), some (vI (x6 + 1)), some (vI (s1 * s0))] [] h8)) ∧ (0 < v9 → (cI d m_Model_isOfOne [vR 12 a0, vR 20 (ch_R h8 a0 5), vI (s1 * s0)] h8 fun v12 h11 => ((v12 = 0 → (cm_i (x6 + 1) ∧ cw d cd_Model_isSystem Q 48 [some (vR 12 a0), some (vI x1), some (vI x2), some (vI x3), some (vI (x4 + v5)), some (vI 0), some (vI (x6 + 1)), some (vI (s1 * s0))] [] h11)) ∧ (¬ v12 = 0 → (cm_i (x6 + 1) ∧ cw d cd_Model_isSystem Q 48 [some (vR 12 a0), some (vI x1), some (vI x2), some (vI x3), some (vI (x4 + v5)), some (vI 1), some (vI (x6 + 1)), some (vI (s1 * s0))] [] h11))))))))))))))) : cw d cd_Model_isSystem Q 80 [some (vR 12 a0), some (vI x1), some (vI x2), some (vI x3), some (vI x4), some (vI x5), some (vI x6), z7] [vI s0, vI s1] h := by
  have o1 := H.1
  replace H := H.2
  refine w_imul rfl o1 ?_
  refine w_istore rfl rfl ?_
  refine w_aload rfl rfl ?_
  refine w_getR 5 20 rfl rfl rfl rfl p_a0 ?_
  refine w_iload rfl rfl ?_
  refine w_aload rfl rfl ?_
  refine w_getR 40 20 rfl rfl rfl rfl p_a0 ?_
  refine w_iconst rfl ⟨by decide, by decide⟩ ?_
  refine w_iload rfl rfl ?_
  have o2 := H.1
  replace H := H.2
  refine w_imul rfl o2 ?_
  refine w_callU rfl (fun _ => rfl) rfl (cU_mono H fun h3 H => ?_)
  refine w_iload rfl rfl ?_
  refine w_aload rfl rfl ?_
  refine w_aload rfl rfl ?_
  refine w_getR 5 20 rfl rfl rfl rfl p_a0 ?_
  refine w_iload rfl rfl ?_
  refine w_callI rfl (fun _ => rfl) rfl (cI_mono H fun v5 h4 H => ?_)
  have o6 := H.1
  replace H := H.2
  refine w_iadd rfl o6 ?_
  refine w_istore rfl rfl ?_
  refine w_iload rfl rfl ?_
  refine w_if rfl (And.intro (fun hc => ?_) (fun hc => ?_))
  · replace H := H.1 hc
    refine w_iconst rfl ⟨by decide, by decide⟩ ?_
    refine w_istore rfl rfl ?_
    have o7 := H.1
    replace H := H.2
    refine w_iinc rfl rfl rfl o7 ?_
    refine w_goto rfl ?_
    exact H
  · replace H := H.2 hc
    refine w_aload rfl rfl ?_
    refine w_aload rfl rfl ?_
    refine w_getR 5 20 rfl rfl rfl rfl p_a0 ?_
    refine w_iload rfl rfl ?_
    refine w_callI rfl (fun _ => rfl) rfl (cI_mono H fun v9 h8 H => ?_)
    refine w_if rfl (And.intro (fun hc => ?_) (fun hc => ?_))
    · replace H := H.1 hc
      refine w_iconst rfl ⟨by decide, by decide⟩ ?_
      refine w_istore rfl rfl ?_
      have o10 := H.1
      replace H := H.2
      refine w_iinc rfl rfl rfl o10 ?_
      refine w_goto rfl ?_
      exact H
    · replace H := H.2 hc
      refine w_aload rfl rfl ?_
      refine w_aload rfl rfl ?_
      refine w_getR 5 20 rfl rfl rfl rfl p_a0 ?_
      refine w_iload rfl rfl ?_
      refine w_callI rfl (fun _ => rfl) rfl (cI_mono H fun v12 h11 H => ?_)
      refine w_if rfl (And.intro (fun hc => ?_) (fun hc => ?_))
      · replace H := H.1 hc
        refine w_iconst rfl ⟨by decide, by decide⟩ ?_
        refine w_istore rfl rfl ?_
        have o13 := H.1
        replace H := H.2
        refine w_iinc rfl rfl rfl o13 ?_
        refine w_goto rfl ?_
        exact H
      · replace H := H.2 hc
        refine w_iconst rfl ⟨by decide, by decide⟩ ?_
        refine w_goto rfl ?_
        refine w_istore rfl rfl ?_
        have o14 := H.1
        replace H := H.2
        refine w_iinc rfl rfl rfl o14 ?_
        refine w_goto rfl ?_
        exact H
set_option maxHeartbeats 4000000 in
set_option maxRecDepth 100000 in
theorem r_Model_isSystem_173 {d : Nat} {Q : cm_Q} {h : cm_H} {a0 : Nat} {z1 : Option cm_V} {z2 : Option cm_V} {z3 : Option cm_V} {z4 : Option cm_V} {x5 : Int} {x6 : Int} {z7 : Option cm_V} (p_a0 : 0 < a0) (H : (((ch_I h a0 1) ≤ x6 → ((x5 = 0 → Q (some (vI 0)) h) ∧ (¬ x5 = 0 → (cI d m_Model_areAll [vR 12 a0] h fun v2 h1 => ((v2 = 0 → Q (some (vI 0)) h1) ∧ (¬ v2 = 0 → Q (some (vI 1)) h1)))))) ∧ (x6 < (ch_I h a0 1) → ((x5 = 0 → (cm_i (x6 + 1) ∧ cw d cd_Model_isSystem Q 173 [some (vR 12 a0), z1, z2, z3, z4, some (vI 0), some (vI (x6 + 1)), z7] [] h)) ∧ (¬ x5 = 0 → (cm_i (1140 * x6) ∧ (cI d m_Model_isAlone [vR 12 a0, vR 20 (ch_R h a0 40), vI (1140 * x6)] h fun v6 h5 => ((v6 = 0 → (cm_i (x6 + 1) ∧ cw d cd_Model_isSystem Q 173 [some (vR 12 a0), z1, z2, z3, z4, some (vI 0), some (vI (x6 + 1)), z7] [] h5)) ∧ (¬ v6 = 0 → (cm_i (x6 + 1) ∧ cw d cd_Model_isSystem Q 173 [some (vR 12 a0), z1, z2, z3, z4, some (vI 1), some (vI (x6 + 1)), z7] [] h5)))))))))) : cw d cd_Model_isSystem Q 173 [some (vR 12 a0), z1, z2, z3, z4, some (vI x5), some (vI x6), z7] [] h := by
  refine w_iload rfl rfl ?_
  refine w_aload rfl rfl ?_
  refine w_getI 1 rfl rfl rfl p_a0 ?_
  refine w_icmp rfl (And.intro (fun hc => ?_) (fun hc => ?_))
  · replace H := H.1 hc
    refine w_iload rfl rfl ?_
    refine w_if rfl (And.intro (fun hc => ?_) (fun hc => ?_))
    · replace H := H.1 hc
      refine w_iconst rfl ⟨by decide, by decide⟩ ?_
      exact w_ireturn rfl H
    · replace H := H.2 hc
      refine w_aload rfl rfl ?_
      refine w_callI rfl (fun _ => rfl) rfl (cI_mono H fun v2 h1 H => ?_)
      refine w_if rfl (And.intro (fun hc => ?_) (fun hc => ?_))
      · replace H := H.1 hc
        refine w_iconst rfl ⟨by decide, by decide⟩ ?_
        exact w_ireturn rfl H
      · replace H := H.2 hc
        refine w_iconst rfl ⟨by decide, by decide⟩ ?_
        refine w_goto rfl ?_
        exact w_ireturn rfl H
  · replace H := H.2 hc
    refine w_iload rfl rfl ?_
    refine w_if rfl (And.intro (fun hc => ?_) (fun hc => ?_))
    · replace H := H.1 hc
      refine w_iconst rfl ⟨by decide, by decide⟩ ?_
      refine w_istore rfl rfl ?_
      have o3 := H.1
      replace H := H.2
      refine w_iinc rfl rfl rfl o3 ?_
      refine w_goto rfl ?_
      exact H
    · replace H := H.2 hc
      refine w_aload rfl rfl ?_
      refine w_aload rfl rfl ?_
      refine w_getR 40 20 rfl rfl rfl rfl p_a0 ?_
      refine w_iconst rfl ⟨by decide, by decide⟩ ?_
      refine w_iload rfl rfl ?_
      have o4 := H.1
      replace H := H.2
      refine w_imul rfl o4 ?_
      refine w_callI rfl (fun _ => rfl) rfl (cI_mono H fun v6 h5 H => ?_)
      refine w_if rfl (And.intro (fun hc => ?_) (fun hc => ?_))
      · replace H := H.1 hc
        refine w_iconst rfl ⟨by decide, by decide⟩ ?_
        refine w_istore rfl rfl ?_
        have o7 := H.1
        replace H := H.2
        refine w_iinc rfl rfl rfl o7 ?_
        refine w_goto rfl ?_
        exact H
      · replace H := H.2 hc
        refine w_iconst rfl ⟨by decide, by decide⟩ ?_
        refine w_goto rfl ?_
        refine w_istore rfl rfl ?_
        have o8 := H.1
        replace H := H.2
        refine w_iinc rfl rfl rfl o8 ?_
        refine w_goto rfl ?_
        exact H
set_option maxHeartbeats 4000000 in
set_option maxRecDepth 100000 in
theorem r_Model_isSystem {d : Nat} {Q : cm_Q} {h : cm_H} {a0 : Nat} {x1 : Int} {x2 : Int} {x3 : Int} (p_a0 : 0 < a0) (H : (∀ h1 : cm_H, h1 = ch_u h a0 0 0 → (cI d m_Model_isKept [vR 12 a0, vI x1] h1 fun v3 h2 => ((v3 = 0 → Q (some (vI (-1))) h2) ∧ (¬ v3 = 0 → (cI d m_Model_isKept [vR 12 a0, vI x2] h2 fun v5 h4 => ((v5 = 0 → Q (some (vI (-1))) h4) ∧ (¬ v5 = 0 → ((¬ (ch_I h4 a0 1) = 3 → cw d cd_Model_isSystem Q 48 [some (vR 12 a0), some (vI x1), some (vI x2), some (vI x3), some (vI 0), some (vI 1), some (vI 0), none] [] h4) ∧ ((ch_I h4 a0 1) = 3 → (cI d m_Model_isKept [vR 12 a0, vI x3] h4 fun v7 h6 => ((¬ v7 = 0 → cw d cd_Model_isSystem Q 48 [some (vR 12 a0), some (vI x1), some (vI x2), some (vI x3), some (vI 0), some (vI 1), some (vI 0), none] [] h6) ∧ (v7 = 0 → Q (some (vI (-1))) h6))))))))))))) : cm_call (d + 1) m_Model_isSystem [vR 12 a0, vI x1, vI x2, vI x3] h Q := by
  refine cm_call_in (C := cd_Model_isSystem) (ls := [some (vR 12 a0), some (vI x1), some (vI x2), some (vI x3), none, none, none, none]) rfl rfl p_a0 rfl ?_
  refine w_aload rfl rfl ?_
  refine w_iconst rfl ⟨by decide, by decide⟩ ?_
  refine w_putI 0 rfl rfl rfl p_a0 (fun h1 eh1 => ?_)
  replace H := H h1 eh1
  refine w_aload rfl rfl ?_
  refine w_iload rfl rfl ?_
  refine w_callI rfl (fun _ => rfl) rfl (cI_mono H fun v3 h2 H => ?_)
  refine w_if rfl (And.intro (fun hc => ?_) (fun hc => ?_))
  · replace H := H.1 hc
    refine w_iconst rfl ⟨by decide, by decide⟩ ?_
    exact w_ireturn rfl H
  · replace H := H.2 hc
    refine w_aload rfl rfl ?_
    refine w_iload rfl rfl ?_
    refine w_callI rfl (fun _ => rfl) rfl (cI_mono H fun v5 h4 H => ?_)
    refine w_if rfl (And.intro (fun hc => ?_) (fun hc => ?_))
    · replace H := H.1 hc
      refine w_iconst rfl ⟨by decide, by decide⟩ ?_
      exact w_ireturn rfl H
    · replace H := H.2 hc
      refine w_aload rfl rfl ?_
      refine w_getI 1 rfl rfl rfl p_a0 ?_
      refine w_iconst rfl ⟨by decide, by decide⟩ ?_
      refine w_icmp rfl (And.intro (fun hc => ?_) (fun hc => ?_))
      · replace H := H.1 hc
        refine w_iconst rfl ⟨by decide, by decide⟩ ?_
        refine w_istore rfl rfl ?_
        refine w_iconst rfl ⟨by decide, by decide⟩ ?_
        refine w_istore rfl rfl ?_
        refine w_iconst rfl ⟨by decide, by decide⟩ ?_
        refine w_istore rfl rfl ?_
        exact H
      · replace H := H.2 hc
        refine w_aload rfl rfl ?_
        refine w_iload rfl rfl ?_
        refine w_callI rfl (fun _ => rfl) rfl (cI_mono H fun v7 h6 H => ?_)
        refine w_if rfl (And.intro (fun hc => ?_) (fun hc => ?_))
        · replace H := H.1 hc
          refine w_iconst rfl ⟨by decide, by decide⟩ ?_
          refine w_istore rfl rfl ?_
          refine w_iconst rfl ⟨by decide, by decide⟩ ?_
          refine w_istore rfl rfl ?_
          refine w_iconst rfl ⟨by decide, by decide⟩ ?_
          refine w_istore rfl rfl ?_
          exact H
        · replace H := H.2 hc
          refine w_iconst rfl ⟨by decide, by decide⟩ ?_
          exact w_ireturn rfl H
set_option maxHeartbeats 4000000 in
set_option maxRecDepth 100000 in
theorem r_Model_laysPrimary_31 {d : Nat} {Q : cm_Q} {h : cm_H} {a0 : Nat} {x1 : Int} {z2 : Option cm_V} (p_a0 : 0 < a0) (H : ((6 < x1 → (∀ h1 : cm_H, h1 = ch_u h a0 49 0 → ((¬ (ch_I h1 a0 1) = 2 → cw d cd_Model_laysPrimary Q 118 [some (vR 12 a0), some (vI 216), some (vI (ch_I h1 a0 11))] [] h1) ∧ ((ch_I h1 a0 1) = 2 → cw d cd_Model_laysPrimary Q 118 [some (vR 12 a0), some (vI 36), some (vI (ch_I h1 a0 11))] [] h1)))) ∧ (x1 ≤ 6 → cw d cd_Model_laysPrimary Q 39 [some (vR 12 a0), some (vI x1), some (vI 0)] [] h))) : cw d cd_Model_laysPrimary Q 31 [some (vR 12 a0), some (vI x1), z2] [] h := by
  refine w_iload rfl rfl ?_
  refine w_iconst rfl ⟨by decide, by decide⟩ ?_
  refine w_icmp rfl (And.intro (fun hc => ?_) (fun hc => ?_))
  · replace H := H.1 hc
    refine w_aload rfl rfl ?_
    refine w_iconst rfl ⟨by decide, by decide⟩ ?_
    refine w_putI 49 rfl rfl rfl p_a0 (fun h1 eh1 => ?_)
    replace H := H h1 eh1
    refine w_aload rfl rfl ?_
    refine w_getI 1 rfl rfl rfl p_a0 ?_
    refine w_iconst rfl ⟨by decide, by decide⟩ ?_
    refine w_icmp rfl (And.intro (fun hc => ?_) (fun hc => ?_))
    · replace H := H.1 hc
      refine w_iconst rfl ⟨by decide, by decide⟩ ?_
      refine w_istore rfl rfl ?_
      refine w_aload rfl rfl ?_
      refine w_getI 11 rfl rfl rfl p_a0 ?_
      refine w_istore rfl rfl ?_
      exact H
    · replace H := H.2 hc
      refine w_iconst rfl ⟨by decide, by decide⟩ ?_
      refine w_goto rfl ?_
      refine w_istore rfl rfl ?_
      refine w_aload rfl rfl ?_
      refine w_getI 11 rfl rfl rfl p_a0 ?_
      refine w_istore rfl rfl ?_
      exact H
  · replace H := H.2 hc
    refine w_iconst rfl ⟨by decide, by decide⟩ ?_
    refine w_istore rfl rfl ?_
    exact H
set_option maxHeartbeats 4000000 in
set_option maxRecDepth 100000 in
theorem r_Model_laysPrimary_39 {d : Nat} {Q : cm_Q} {h : cm_H} {a0 : Nat} {x1 : Int} {x2 : Int} (p_a0 : 0 < a0) (H : (0 < ((ch_R h a0 34)) ∧ ((0:Int) ≤ x1 ∧ x1 < ch_L h (ch_R h a0 34)) ∧ (((ch_I h (ch_R h a0 34) x1) ≤ x2 → (cm_i (x1 + 1) ∧ cw d cd_Model_laysPrimary Q 31 [some (vR 12 a0), some (vI (x1 + 1)), some (vI x2)] [] h)) ∧ (x2 < (ch_I h (ch_R h a0 34) x1) → (0 < ((ch_R h a0 47)) ∧ ((0:Int) ≤ (ch_I h a0 46) ∧ (ch_I h a0 46) < ch_L h (ch_R h a0 47)) ∧ (∀ h6 : cm_H, h6 = ch_u h (ch_R h a0 47) (ch_I h a0 46) x1 → (0 < ((ch_R h6 a0 48)) ∧ ((0:Int) ≤ (ch_I h6 a0 46) ∧ (ch_I h6 a0 46) < ch_L h6 (ch_R h6 a0 48)) ∧ (∀ h9 : cm_H, h9 = ch_u h6 (ch_R h6 a0 48) (ch_I h6 a0 46) x2 → (cm_i ((ch_I h9 a0 46) + 1) ∧ (∀ h11 : cm_H, h11 = ch_u h9 a0 46 ((ch_I h9 a0 46) + 1) → (cm_i (x2 + 1) ∧ cw d cd_Model_laysPrimary Q 39 [some (vR 12 a0), some (vI x1), some (vI (x2 + 1))] [] h11))))))))))) : cw d cd_Model_laysPrimary Q 39 [some (vR 12 a0), some (vI x1), some (vI x2)] [] h := by
  refine w_iload rfl rfl ?_
  refine w_aload rfl rfl ?_
  refine w_getR 34 20 rfl rfl rfl rfl p_a0 ?_
  refine w_iload rfl rfl ?_
  have o1 := H.1
  replace H := H.2
  have o2 := H.1
  replace H := H.2
  refine w_iaload rfl o1 o2 ?_
  refine w_icmp rfl (And.intro (fun hc => ?_) (fun hc => ?_))
  · replace H := H.1 hc
    have o3 := H.1
    replace H := H.2
    refine w_iinc rfl rfl rfl o3 ?_
    refine w_goto rfl ?_
    exact H
  · replace H := H.2 hc
    refine w_aload rfl rfl ?_
    refine w_getR 47 20 rfl rfl rfl rfl p_a0 ?_
    refine w_aload rfl rfl ?_
    refine w_getI 46 rfl rfl rfl p_a0 ?_
    refine w_iload rfl rfl ?_
    have o4 := H.1
    replace H := H.2
    have o5 := H.1
    replace H := H.2
    refine w_iastore rfl o4 o5 (fun h6 eh6 => ?_)
    replace H := H h6 eh6
    refine w_aload rfl rfl ?_
    refine w_getR 48 20 rfl rfl rfl rfl p_a0 ?_
    refine w_aload rfl rfl ?_
    refine w_getI 46 rfl rfl rfl p_a0 ?_
    refine w_iload rfl rfl ?_
    have o7 := H.1
    replace H := H.2
    have o8 := H.1
    replace H := H.2
    refine w_iastore rfl o7 o8 (fun h9 eh9 => ?_)
    replace H := H h9 eh9
    refine w_aload rfl rfl ?_
    refine w_dup rfl rfl ?_
    refine w_getI 46 rfl rfl rfl p_a0 ?_
    refine w_iconst rfl ⟨by decide, by decide⟩ ?_
    have o10 := H.1
    replace H := H.2
    refine w_iadd rfl o10 ?_
    refine w_putI 46 rfl rfl rfl p_a0 (fun h11 eh11 => ?_)
    replace H := H h11 eh11
    have o12 := H.1
    replace H := H.2
    refine w_iinc rfl rfl rfl o12 ?_
    refine w_goto rfl ?_
    exact H
set_option maxHeartbeats 4000000 in
set_option maxRecDepth 100000 in
theorem r_Model_laysPrimary_118 {d : Nat} {Q : cm_Q} {h : cm_H} {a0 : Nat} {x1 : Int} {x2 : Int} (p_a0 : 0 < a0) (H : ((x1 < x2 → cw d cd_Model_laysPrimary Q 154 [some (vR 12 a0), some (vI x1), some (vI x2)] [] h) ∧ (x2 ≤ x1 → ((¬ (ch_I h a0 42) = 0 → cw d cd_Model_laysPrimary Q 154 [some (vR 12 a0), some (vI x1), some (vI x2)] [] h) ∧ ((ch_I h a0 42) = 0 → ((60 ≤ (ch_I h a0 49) → cw d cd_Model_laysPrimary Q 154 [some (vR 12 a0), some (vI x1), some (vI x2)] [] h) ∧ ((ch_I h a0 49) < 60 → (cU d m_Model_asksProduct [vR 12 a0, vI x2] h fun h1 => (cm_i (x2 + (ch_I h1 a0 11)) ∧ cw d cd_Model_laysPrimary Q 118 [some (vR 12 a0), some (vI x1), some (vI (x2 + (ch_I h1 a0 11)))] [] h1))))))))) : cw d cd_Model_laysPrimary Q 118 [some (vR 12 a0), some (vI x1), some (vI x2)] [] h := by
  refine w_iload rfl rfl ?_
  refine w_iload rfl rfl ?_
  refine w_icmp rfl (And.intro (fun hc => ?_) (fun hc => ?_))
  · replace H := H.1 hc
    exact H
  · replace H := H.2 hc
    refine w_aload rfl rfl ?_
    refine w_getI 42 rfl rfl rfl p_a0 ?_
    refine w_if rfl (And.intro (fun hc => ?_) (fun hc => ?_))
    · replace H := H.1 hc
      exact H
    · replace H := H.2 hc
      refine w_aload rfl rfl ?_
      refine w_getI 49 rfl rfl rfl p_a0 ?_
      refine w_iconst rfl ⟨by decide, by decide⟩ ?_
      refine w_icmp rfl (And.intro (fun hc => ?_) (fun hc => ?_))
      · replace H := H.1 hc
        exact H
      · replace H := H.2 hc
        refine w_aload rfl rfl ?_
        refine w_iload rfl rfl ?_
        refine w_callU rfl (fun _ => rfl) rfl (cU_mono H fun h1 H => ?_)
        refine w_iload rfl rfl ?_
        refine w_aload rfl rfl ?_
        refine w_getI 11 rfl rfl rfl p_a0 ?_
        have o2 := H.1
        replace H := H.2
        refine w_iadd rfl o2 ?_
        refine w_istore rfl rfl ?_
        refine w_goto rfl ?_
        exact H
set_option maxHeartbeats 4000000 in
set_option maxRecDepth 100000 in
theorem r_Model_laysPrimary_154 {d : Nat} {Q : cm_Q} {h : cm_H} {a0 : Nat} {z1 : Option cm_V} {z2 : Option cm_V} (p_a0 : 0 < a0) (H : (((ch_I h a0 42) = 0 → Q none h) ∧ (¬ (ch_I h a0 42) = 0 → (cU d m_Model_laysSecondary [vR 12 a0] h fun h1 => Q none h1)))) : cw d cd_Model_laysPrimary Q 154 [some (vR 12 a0), z1, z2] [] h := by
  refine w_aload rfl rfl ?_
  refine w_getI 42 rfl rfl rfl p_a0 ?_
  refine w_if rfl (And.intro (fun hc => ?_) (fun hc => ?_))
  · replace H := H.1 hc
    exact w_return rfl H
  · replace H := H.2 hc
    refine w_aload rfl rfl ?_
    refine w_callU rfl (fun _ => rfl) rfl (cU_mono H fun h1 H => ?_)
    exact w_return rfl H
set_option maxHeartbeats 4000000 in
set_option maxRecDepth 100000 in
theorem r_Model_laysPrimary {d : Nat} {Q : cm_Q} {h : cm_H} {a0 : Nat} (p_a0 : 0 < a0) (H : (((ch_I h a0 41) = 0 → (∀ h1 : cm_H, h1 = ch_u h a0 41 1 → (∀ h2 : cm_H, h2 = ch_u h1 a0 42 0 → (cU d m_Model_laysBases [vR 12 a0, vI 6] h2 fun h3 => (∀ h4 : cm_H, h4 = ch_u h3 a0 46 0 → cw d cd_Model_laysPrimary Q 31 [some (vR 12 a0), some (vI 1), none] [] h4))))) ∧ (¬ (ch_I h a0 41) = 0 → Q none h))) : cm_call (d + 1) m_Model_laysPrimary [vR 12 a0] h Q := by
  refine cm_call_in (C := cd_Model_laysPrimary) (ls := [some (vR 12 a0), none, none]) rfl rfl p_a0 rfl ?_
  refine w_aload rfl rfl ?_
  refine w_getI 41 rfl rfl rfl p_a0 ?_
  refine w_if rfl (And.intro (fun hc => ?_) (fun hc => ?_))
  · replace H := H.1 hc
    refine w_aload rfl rfl ?_
    refine w_iconst rfl ⟨by decide, by decide⟩ ?_
    refine w_putZ 41 rfl rfl rfl (by decide) p_a0 (fun h1 eh1 => ?_)
    replace H := H h1 eh1
    refine w_aload rfl rfl ?_
    refine w_iconst rfl ⟨by decide, by decide⟩ ?_
    refine w_putZ 42 rfl rfl rfl (by decide) p_a0 (fun h2 eh2 => ?_)
    replace H := H h2 eh2
    refine w_aload rfl rfl ?_
    refine w_iconst rfl ⟨by decide, by decide⟩ ?_
    refine w_callU rfl (fun _ => rfl) rfl (cU_mono H fun h3 H => ?_)
    refine w_aload rfl rfl ?_
    refine w_iconst rfl ⟨by decide, by decide⟩ ?_
    refine w_putI 46 rfl rfl rfl p_a0 (fun h4 eh4 => ?_)
    replace H := H h4 eh4
    refine w_iconst rfl ⟨by decide, by decide⟩ ?_
    refine w_istore rfl rfl ?_
    exact H
  · replace H := H.2 hc
    exact w_return rfl H
set_option maxHeartbeats 4000000 in
set_option maxRecDepth 100000 in
theorem r_Model_asksProduct_2 {d : Nat} {Q : cm_Q} {h : cm_H} {a0 : Nat} {x1 : Int} {x2 : Int} {z3 : Option cm_V} {z4 : Option cm_V} {z5 : Option cm_V} (p_a0 : 0 < a0) (H : (((ch_I h a0 46) ≤ x2 → Q none h) ∧ (x2 < (ch_I h a0 46) → ((¬ (ch_I h a0 42) = 0 → Q none h) ∧ ((ch_I h a0 42) = 0 → ((60 ≤ (ch_I h a0 49) → Q none h) ∧ ((ch_I h a0 49) < 60 → (cm_i (x2 + 1) ∧ cw d cd_Model_asksProduct Q 30 [some (vR 12 a0), some (vI x1), some (vI x2), some (vI (x2 + 1)), z4, z5] [] h)))))))) : cw d cd_Model_asksProduct Q 2 [some (vR 12 a0), some (vI x1), some (vI x2), z3, z4, z5] [] h := by
  refine w_iload rfl rfl ?_
  refine w_aload rfl rfl ?_
  refine w_getI 46 rfl rfl rfl p_a0 ?_
  refine w_icmp rfl (And.intro (fun hc => ?_) (fun hc => ?_))
  · replace H := H.1 hc
    exact w_return rfl H
  · replace H := H.2 hc
    refine w_aload rfl rfl ?_
    refine w_getI 42 rfl rfl rfl p_a0 ?_
    refine w_if rfl (And.intro (fun hc => ?_) (fun hc => ?_))
    · replace H := H.1 hc
      exact w_return rfl H
    · replace H := H.2 hc
      refine w_aload rfl rfl ?_
      refine w_getI 49 rfl rfl rfl p_a0 ?_
      refine w_iconst rfl ⟨by decide, by decide⟩ ?_
      refine w_icmp rfl (And.intro (fun hc => ?_) (fun hc => ?_))
      · replace H := H.1 hc
        exact w_return rfl H
      · replace H := H.2 hc
        refine w_iload rfl rfl ?_
        refine w_iconst rfl ⟨by decide, by decide⟩ ?_
        have o1 := H.1
        replace H := H.2
        refine w_iadd rfl o1 ?_
        refine w_istore rfl rfl ?_
        exact H
set_option maxHeartbeats 4000000 in
set_option maxRecDepth 100000 in
theorem r_Model_asksProduct_30 {d : Nat} {Q : cm_Q} {h : cm_H} {a0 : Nat} {x1 : Int} {x2 : Int} {x3 : Int} {z4 : Option cm_V} {z5 : Option cm_V} (p_a0 : 0 < a0) (H : (((ch_I h a0 46) ≤ x3 → (cm_i (x2 + 1) ∧ cw d cd_Model_asksProduct Q 2 [some (vR 12 a0), some (vI x1), some (vI (x2 + 1)), some (vI x3), z4, z5] [] h)) ∧ (x3 < (ch_I h a0 46) → ((¬ (ch_I h a0 42) = 0 → (cm_i (x2 + 1) ∧ cw d cd_Model_asksProduct Q 2 [some (vR 12 a0), some (vI x1), some (vI (x2 + 1)), some (vI x3), z4, z5] [] h)) ∧ ((ch_I h a0 42) = 0 → ((60 ≤ (ch_I h a0 49) → (cm_i (x2 + 1) ∧ cw d cd_Model_asksProduct Q 2 [some (vR 12 a0), some (vI x1), some (vI (x2 + 1)), some (vI x3), z4, z5] [] h)) ∧ ((ch_I h a0 49) < 60 → (0 < ((ch_R h a0 47)) ∧ ((0:Int) ≤ x2 ∧ x2 < ch_L h (ch_R h a0 47)) ∧ ((0:Int) ≤ x3 ∧ x3 < ch_L h (ch_R h a0 47)) ∧ (cm_i ((ch_I h (ch_R h a0 47) x2) * (ch_I h (ch_R h a0 47) x3)) ∧ ((¬ (ch_I h a0 1) = 2 → (cm_i (x3 + 1) ∧ cw d cd_Model_asksProduct Q 95 [some (vR 12 a0), some (vI x1), some (vI x2), some (vI x3), some (vI ((ch_I h (ch_R h a0 47) x2) * (ch_I h (ch_R h a0 47) x3))), some (vI (x3 + 1))] [] h)) ∧ ((ch_I h a0 1) = 2 → ((¬ ((ch_I h (ch_R h a0 47) x2) * (ch_I h (ch_R h a0 47) x3)) = x1 → (cm_i (x3 + 1) ∧ cw d cd_Model_asksProduct Q 95 [some (vR 12 a0), some (vI x1), some (vI x2), some (vI x3), some (vI ((ch_I h (ch_R h a0 47) x2) * (ch_I h (ch_R h a0 47) x3))), some (vI (x3 + 1))] [] h)) ∧ (((ch_I h (ch_R h a0 47) x2) * (ch_I h (ch_R h a0 47) x3)) = x1 → (cU d m_Model_asksThese [vR 12 a0, vI x2, vI x3, vI 0] h fun h10 => (cm_i (x3 + 1) ∧ cw d cd_Model_asksProduct Q 95 [some (vR 12 a0), some (vI x1), some (vI x2), some (vI x3), some (vI ((ch_I h (ch_R h a0 47) x2) * (ch_I h (ch_R h a0 47) x3))), some (vI (x3 + 1))] [] h10))))))))))))))) : cw d cd_Model_asksProduct Q 30 [some (vR 12 a0), some (vI x1), some (vI x2), some (vI x3), z4, z5] [] h := by
  refine w_iload rfl rfl ?_
  refine w_aload rfl rfl ?_
  refine w_getI 46 rfl rfl rfl p_a0 ?_
  refine w_icmp rfl (And.intro (fun hc => ?_) (fun hc => ?_))
  · replace H := H.1 hc
    have o1 := H.1
    replace H := H.2
    refine w_iinc rfl rfl rfl o1 ?_
    refine w_goto rfl ?_
    exact H
  · replace H := H.2 hc
    refine w_aload rfl rfl ?_
    refine w_getI 42 rfl rfl rfl p_a0 ?_
    refine w_if rfl (And.intro (fun hc => ?_) (fun hc => ?_))
    · replace H := H.1 hc
      have o2 := H.1
      replace H := H.2
      refine w_iinc rfl rfl rfl o2 ?_
      refine w_goto rfl ?_
      exact H
    · replace H := H.2 hc
      refine w_aload rfl rfl ?_
      refine w_getI 49 rfl rfl rfl p_a0 ?_
      refine w_iconst rfl ⟨by decide, by decide⟩ ?_
      refine w_icmp rfl (And.intro (fun hc => ?_) (fun hc => ?_))
      · replace H := H.1 hc
        have o3 := H.1
        replace H := H.2
        refine w_iinc rfl rfl rfl o3 ?_
        refine w_goto rfl ?_
        exact H
      · replace H := H.2 hc
        refine w_aload rfl rfl ?_
        refine w_getR 47 20 rfl rfl rfl rfl p_a0 ?_
        refine w_iload rfl rfl ?_
        have o4 := H.1
        replace H := H.2
        have o5 := H.1
        replace H := H.2
        refine w_iaload rfl o4 o5 ?_
        refine w_aload rfl rfl ?_
        refine w_getR 47 20 rfl rfl rfl rfl p_a0 ?_
        refine w_iload rfl rfl ?_
        have o6 := H.1
        replace H := H.2
        refine w_iaload rfl o4 o6 ?_
        have o7 := H.1
        replace H := H.2
        refine w_imul rfl o7 ?_
        refine w_istore rfl rfl ?_
        refine w_aload rfl rfl ?_
        refine w_getI 1 rfl rfl rfl p_a0 ?_
        refine w_iconst rfl ⟨by decide, by decide⟩ ?_
        refine w_icmp rfl (And.intro (fun hc => ?_) (fun hc => ?_))
        · replace H := H.1 hc
          refine w_iload rfl rfl ?_
          refine w_iconst rfl ⟨by decide, by decide⟩ ?_
          have o8 := H.1
          replace H := H.2
          refine w_iadd rfl o8 ?_
          refine w_istore rfl rfl ?_
          exact H
        · replace H := H.2 hc
          refine w_iload rfl rfl ?_
          refine w_iload rfl rfl ?_
          refine w_icmp rfl (And.intro (fun hc => ?_) (fun hc => ?_))
          · replace H := H.1 hc
            refine w_iload rfl rfl ?_
            refine w_iconst rfl ⟨by decide, by decide⟩ ?_
            have o9 := H.1
            replace H := H.2
            refine w_iadd rfl o9 ?_
            refine w_istore rfl rfl ?_
            exact H
          · replace H := H.2 hc
            refine w_aload rfl rfl ?_
            refine w_iload rfl rfl ?_
            refine w_iload rfl rfl ?_
            refine w_iconst rfl ⟨by decide, by decide⟩ ?_
            refine w_callU rfl (fun _ => rfl) rfl (cU_mono H fun h10 H => ?_)
            refine w_iload rfl rfl ?_
            refine w_iconst rfl ⟨by decide, by decide⟩ ?_
            have o11 := H.1
            replace H := H.2
            refine w_iadd rfl o11 ?_
            refine w_istore rfl rfl ?_
            exact H
set_option maxHeartbeats 4000000 in
set_option maxRecDepth 100000 in
theorem r_Model_asksProduct_95 {d : Nat} {Q : cm_Q} {h : cm_H} {a0 : Nat} {x1 : Int} {x2 : Int} {x3 : Int} {x4 : Int} {x5 : Int} (p_a0 : 0 < a0) (H : ((¬ (ch_I h a0 1) = 3 → (cm_i (x3 + 1) ∧ cw d cd_Model_asksProduct Q 30 [some (vR 12 a0), some (vI x1), some (vI x2), some (vI (x3 + 1)), some (vI x4), some (vI x5)] [] h)) ∧ ((ch_I h a0 1) = 3 → (((ch_I h a0 46) ≤ x5 → (cm_i (x3 + 1) ∧ cw d cd_Model_asksProduct Q 30 [some (vR 12 a0), some (vI x1), some (vI x2), some (vI (x3 + 1)), some (vI x4), some (vI x5)] [] h)) ∧ (x5 < (ch_I h a0 46) → ((¬ (ch_I h a0 42) = 0 → (cm_i (x3 + 1) ∧ cw d cd_Model_asksProduct Q 30 [some (vR 12 a0), some (vI x1), some (vI x2), some (vI (x3 + 1)), some (vI x4), some (vI x5)] [] h)) ∧ ((ch_I h a0 42) = 0 → ((60 ≤ (ch_I h a0 49) → (cm_i (x3 + 1) ∧ cw d cd_Model_asksProduct Q 30 [some (vR 12 a0), some (vI x1), some (vI x2), some (vI (x3 + 1)), some (vI x4), some (vI x5)] [] h)) ∧ ((ch_I h a0 49) < 60 → (0 < ((ch_R h a0 47)) ∧ ((0:Int) ≤ x5 ∧ x5 < ch_L h (ch_R h a0 47)) ∧ (cm_i (x4 * (ch_I h (ch_R h a0 47) x5)) ∧ ((¬ (x4 * (ch_I h (ch_R h a0 47) x5)) = x1 → (cm_i (x5 + 1) ∧ cw d cd_Model_asksProduct Q 95 [some (vR 12 a0), some (vI x1), some (vI x2), some (vI x3), some (vI x4), some (vI (x5 + 1))] [] h)) ∧ ((x4 * (ch_I h (ch_R h a0 47) x5)) = x1 → (cU d m_Model_asksThese [vR 12 a0, vI x2, vI x3, vI x5] h fun h9 => (cm_i (x5 + 1) ∧ cw d cd_Model_asksProduct Q 95 [some (vR 12 a0), some (vI x1), some (vI x2), some (vI x3), some (vI x4), some (vI (x5 + 1))] [] h9))))))))))))))) : cw d cd_Model_asksProduct Q 95 [some (vR 12 a0), some (vI x1), some (vI x2), some (vI x3), some (vI x4), some (vI x5)] [] h := by
  refine w_aload rfl rfl ?_
  refine w_getI 1 rfl rfl rfl p_a0 ?_
  refine w_iconst rfl ⟨by decide, by decide⟩ ?_
  refine w_icmp rfl (And.intro (fun hc => ?_) (fun hc => ?_))
  · replace H := H.1 hc
    have o1 := H.1
    replace H := H.2
    refine w_iinc rfl rfl rfl o1 ?_
    refine w_goto rfl ?_
    exact H
  · replace H := H.2 hc
    refine w_iload rfl rfl ?_
    refine w_aload rfl rfl ?_
    refine w_getI 46 rfl rfl rfl p_a0 ?_
    refine w_icmp rfl (And.intro (fun hc => ?_) (fun hc => ?_))
    · replace H := H.1 hc
      have o2 := H.1
      replace H := H.2
      refine w_iinc rfl rfl rfl o2 ?_
      refine w_goto rfl ?_
      exact H
    · replace H := H.2 hc
      refine w_aload rfl rfl ?_
      refine w_getI 42 rfl rfl rfl p_a0 ?_
      refine w_if rfl (And.intro (fun hc => ?_) (fun hc => ?_))
      · replace H := H.1 hc
        have o3 := H.1
        replace H := H.2
        refine w_iinc rfl rfl rfl o3 ?_
        refine w_goto rfl ?_
        exact H
      · replace H := H.2 hc
        refine w_aload rfl rfl ?_
        refine w_getI 49 rfl rfl rfl p_a0 ?_
        refine w_iconst rfl ⟨by decide, by decide⟩ ?_
        refine w_icmp rfl (And.intro (fun hc => ?_) (fun hc => ?_))
        · replace H := H.1 hc
          have o4 := H.1
          replace H := H.2
          refine w_iinc rfl rfl rfl o4 ?_
          refine w_goto rfl ?_
          exact H
        · replace H := H.2 hc
          refine w_iload rfl rfl ?_
          refine w_aload rfl rfl ?_
          refine w_getR 47 20 rfl rfl rfl rfl p_a0 ?_
          refine w_iload rfl rfl ?_
          have o5 := H.1
          replace H := H.2
          have o6 := H.1
          replace H := H.2
          refine w_iaload rfl o5 o6 ?_
          have o7 := H.1
          replace H := H.2
          refine w_imul rfl o7 ?_
          refine w_iload rfl rfl ?_
          refine w_icmp rfl (And.intro (fun hc => ?_) (fun hc => ?_))
          · replace H := H.1 hc
            have o8 := H.1
            replace H := H.2
            refine w_iinc rfl rfl rfl o8 ?_
            refine w_goto rfl ?_
            exact H
          · replace H := H.2 hc
            refine w_aload rfl rfl ?_
            refine w_iload rfl rfl ?_
            refine w_iload rfl rfl ?_
            refine w_iload rfl rfl ?_
            refine w_callU rfl (fun _ => rfl) rfl (cU_mono H fun h9 H => ?_)
            have o10 := H.1
            replace H := H.2
            refine w_iinc rfl rfl rfl o10 ?_
            refine w_goto rfl ?_
            exact H
set_option maxHeartbeats 4000000 in
set_option maxRecDepth 100000 in
theorem r_Model_asksProduct {d : Nat} {Q : cm_Q} {h : cm_H} {a0 : Nat} {x1 : Int} (p_a0 : 0 < a0) (H : cw d cd_Model_asksProduct Q 2 [some (vR 12 a0), some (vI x1), some (vI 0), none, none, none] [] h) : cm_call (d + 1) m_Model_asksProduct [vR 12 a0, vI x1] h Q := by
  refine cm_call_in (C := cd_Model_asksProduct) (ls := [some (vR 12 a0), some (vI x1), none, none, none, none]) rfl rfl p_a0 rfl ?_
  refine w_iconst rfl ⟨by decide, by decide⟩ ?_
  refine w_istore rfl rfl ?_
  exact H
set_option maxHeartbeats 4000000 in
set_option maxRecDepth 100000 in
theorem r_Model_asksThese_13 {d : Nat} {Q : cm_Q} {h : cm_H} {a0 : Nat} {x1 : Int} {x2 : Int} {x3 : Int} {x4 : Int} {z5 : Option cm_V} (p_a0 : 0 < a0) (H : (((ch_I h a0 1) ≤ x4 → (cI d m_Model_areAll [vR 12 a0] h fun v2 h1 => (v2 = 0 ∨ v2 = 1) ∧ (∀ h4 : cm_H, h4 = ch_u h1 a0 42 v2 → cw d cd_Model_asksThese Q 117 [some (vR 12 a0), some (vI x1), some (vI x2), some (vI x3), some (vI 0), z5] [] h4))) ∧ (x4 < (ch_I h a0 1) → ((¬ x4 = 0 → ((¬ x4 = 1 → cw d cd_Model_asksThese Q 42 [some (vR 12 a0), some (vI x1), some (vI x2), some (vI x3), some (vI x4), z5] [vI x3] h) ∧ (x4 = 1 → cw d cd_Model_asksThese Q 42 [some (vR 12 a0), some (vI x1), some (vI x2), some (vI x3), some (vI x4), z5] [vI x2] h))) ∧ (x4 = 0 → cw d cd_Model_asksThese Q 42 [some (vR 12 a0), some (vI x1), some (vI x2), some (vI x3), some (vI x4), z5] [vI x1] h))))) : cw d cd_Model_asksThese Q 13 [some (vR 12 a0), some (vI x1), some (vI x2), some (vI x3), some (vI x4), z5] [] h := by
  refine w_iload rfl rfl ?_
  refine w_aload rfl rfl ?_
  refine w_getI 1 rfl rfl rfl p_a0 ?_
  refine w_icmp rfl (And.intro (fun hc => ?_) (fun hc => ?_))
  · replace H := H.1 hc
    refine w_aload rfl rfl ?_
    refine w_aload rfl rfl ?_
    refine w_callI rfl (fun _ => rfl) rfl (cI_mono H fun v2 h1 H => ?_)
    have o3 := H.1
    replace H := H.2
    refine w_putZ 42 rfl rfl rfl o3 p_a0 (fun h4 eh4 => ?_)
    replace H := H h4 eh4
    refine w_iconst rfl ⟨by decide, by decide⟩ ?_
    refine w_istore rfl rfl ?_
    exact H
  · replace H := H.2 hc
    refine w_iload rfl rfl ?_
    refine w_if rfl (And.intro (fun hc => ?_) (fun hc => ?_))
    · replace H := H.1 hc
      refine w_iload rfl rfl ?_
      refine w_iconst rfl ⟨by decide, by decide⟩ ?_
      refine w_icmp rfl (And.intro (fun hc => ?_) (fun hc => ?_))
      · replace H := H.1 hc
        refine w_iload rfl rfl ?_
        exact H
      · replace H := H.2 hc
        refine w_iload rfl rfl ?_
        refine w_goto rfl ?_
        exact H
    · replace H := H.2 hc
      refine w_iload rfl rfl ?_
      refine w_goto rfl ?_
      exact H
set_option maxHeartbeats 4000000 in
set_option maxRecDepth 100000 in
theorem r_Model_asksThese_42 {d : Nat} {Q : cm_Q} {h : cm_H} {a0 : Nat} {x1 : Int} {x2 : Int} {x3 : Int} {x4 : Int} {z5 : Option cm_V} {s0 : Int} (p_a0 : 0 < a0) (H : (0 < ((ch_R h a0 47)) ∧ ((0:Int) ≤ s0 ∧ s0 < ch_L h (ch_R h a0 47)) ∧ (0 < ((ch_R h a0 43)) ∧ ((0:Int) ≤ x4 ∧ x4 < ch_L h (ch_R h a0 43)) ∧ (∀ h5 : cm_H, h5 = ch_u h (ch_R h a0 43) x4 (ch_I h (ch_R h a0 47) s0) → (0 < ((ch_R h5 a0 48)) ∧ ((0:Int) ≤ s0 ∧ s0 < ch_L h5 (ch_R h5 a0 48)) ∧ (0 < ((ch_R h5 a0 44)) ∧ ((0:Int) ≤ x4 ∧ x4 < ch_L h5 (ch_R h5 a0 44)) ∧ (∀ h10 : cm_H, h10 = ch_u h5 (ch_R h5 a0 44) x4 (ch_I h5 (ch_R h5 a0 48) s0) → (0 < ((ch_R h10 a0 47)) ∧ ((0:Int) ≤ s0 ∧ s0 < ch_L h10 (ch_R h10 a0 47)) ∧ (0 < ((ch_R h10 a0 48)) ∧ ((0:Int) ≤ s0 ∧ s0 < ch_L h10 (ch_R h10 a0 48)) ∧ (cm_i (1140 * x4) ∧ (cU d m_Model_laysBaseRow [vR 12 a0, vI (ch_I h10 (ch_R h10 a0 47) s0), vI (ch_I h10 (ch_R h10 a0 48) s0), vR 20 (ch_R h10 a0 40), vI (1140 * x4)] h10 fun h16 => (cm_i (x4 + 1) ∧ cw d cd_Model_asksThese Q 13 [some (vR 12 a0), some (vI x1), some (vI x2), some (vI x3), some (vI (x4 + 1)), some (vI s0)] [] h16)))))))))))) : cw d cd_Model_asksThese Q 42 [some (vR 12 a0), some (vI x1), some (vI x2), some (vI x3), some (vI x4), z5] [vI s0] h := by
  refine w_istore rfl rfl ?_
  refine w_aload rfl rfl ?_
  refine w_getR 43 20 rfl rfl rfl rfl p_a0 ?_
  refine w_iload rfl rfl ?_
  refine w_aload rfl rfl ?_
  refine w_getR 47 20 rfl rfl rfl rfl p_a0 ?_
  refine w_iload rfl rfl ?_
  have o1 := H.1
  replace H := H.2
  have o2 := H.1
  replace H := H.2
  refine w_iaload rfl o1 o2 ?_
  have o3 := H.1
  replace H := H.2
  have o4 := H.1
  replace H := H.2
  refine w_iastore rfl o3 o4 (fun h5 eh5 => ?_)
  replace H := H h5 eh5
  refine w_aload rfl rfl ?_
  refine w_getR 44 20 rfl rfl rfl rfl p_a0 ?_
  refine w_iload rfl rfl ?_
  refine w_aload rfl rfl ?_
  refine w_getR 48 20 rfl rfl rfl rfl p_a0 ?_
  refine w_iload rfl rfl ?_
  have o6 := H.1
  replace H := H.2
  have o7 := H.1
  replace H := H.2
  refine w_iaload rfl o6 o7 ?_
  have o8 := H.1
  replace H := H.2
  have o9 := H.1
  replace H := H.2
  refine w_iastore rfl o8 o9 (fun h10 eh10 => ?_)
  replace H := H h10 eh10
  refine w_aload rfl rfl ?_
  refine w_aload rfl rfl ?_
  refine w_getR 47 20 rfl rfl rfl rfl p_a0 ?_
  refine w_iload rfl rfl ?_
  have o11 := H.1
  replace H := H.2
  have o12 := H.1
  replace H := H.2
  refine w_iaload rfl o11 o12 ?_
  refine w_aload rfl rfl ?_
  refine w_getR 48 20 rfl rfl rfl rfl p_a0 ?_
  refine w_iload rfl rfl ?_
  have o13 := H.1
  replace H := H.2
  have o14 := H.1
  replace H := H.2
  refine w_iaload rfl o13 o14 ?_
  refine w_aload rfl rfl ?_
  refine w_getR 40 20 rfl rfl rfl rfl p_a0 ?_
  refine w_iconst rfl ⟨by decide, by decide⟩ ?_
  refine w_iload rfl rfl ?_
  have o15 := H.1
  replace H := H.2
  refine w_imul rfl o15 ?_
  refine w_callU rfl (fun _ => rfl) rfl (cU_mono H fun h16 H => ?_)
  have o17 := H.1
  replace H := H.2
  refine w_iinc rfl rfl rfl o17 ?_
  refine w_goto rfl ?_
  exact H
set_option maxHeartbeats 4000000 in
set_option maxRecDepth 100000 in
theorem r_Model_asksThese_117 {d : Nat} {Q : cm_Q} {h : cm_H} {a0 : Nat} {z1 : Option cm_V} {z2 : Option cm_V} {z3 : Option cm_V} {x4 : Int} {z5 : Option cm_V} (p_a0 : 0 < a0) (H : ((3420 ≤ x4 → Q none h) ∧ (x4 < 3420 → (((ch_I h a0 42) = 0 → Q none h) ∧ (¬ (ch_I h a0 42) = 0 → (0 < ((ch_R h a0 40)) ∧ ((0:Int) ≤ x4 ∧ x4 < ch_L h (ch_R h a0 40)) ∧ (0 < ((ch_R h a0 45)) ∧ ((0:Int) ≤ x4 ∧ x4 < ch_L h (ch_R h a0 45)) ∧ (∀ h5 : cm_H, h5 = ch_u h (ch_R h a0 45) x4 (ch_I h (ch_R h a0 40) x4) → (cm_i (x4 + 1) ∧ cw d cd_Model_asksThese Q 117 [some (vR 12 a0), z1, z2, z3, some (vI (x4 + 1)), z5] [] h5))))))))) : cw d cd_Model_asksThese Q 117 [some (vR 12 a0), z1, z2, z3, some (vI x4), z5] [] h := by
  refine w_iload rfl rfl ?_
  refine w_iconst rfl ⟨by decide, by decide⟩ ?_
  refine w_icmp rfl (And.intro (fun hc => ?_) (fun hc => ?_))
  · replace H := H.1 hc
    exact w_return rfl H
  · replace H := H.2 hc
    refine w_aload rfl rfl ?_
    refine w_getI 42 rfl rfl rfl p_a0 ?_
    refine w_if rfl (And.intro (fun hc => ?_) (fun hc => ?_))
    · replace H := H.1 hc
      exact w_return rfl H
    · replace H := H.2 hc
      refine w_aload rfl rfl ?_
      refine w_getR 45 20 rfl rfl rfl rfl p_a0 ?_
      refine w_iload rfl rfl ?_
      refine w_aload rfl rfl ?_
      refine w_getR 40 20 rfl rfl rfl rfl p_a0 ?_
      refine w_iload rfl rfl ?_
      have o1 := H.1
      replace H := H.2
      have o2 := H.1
      replace H := H.2
      refine w_iaload rfl o1 o2 ?_
      have o3 := H.1
      replace H := H.2
      have o4 := H.1
      replace H := H.2
      refine w_iastore rfl o3 o4 (fun h5 eh5 => ?_)
      replace H := H h5 eh5
      have o6 := H.1
      replace H := H.2
      refine w_iinc rfl rfl rfl o6 ?_
      refine w_goto rfl ?_
      exact H
set_option maxHeartbeats 4000000 in
set_option maxRecDepth 100000 in
theorem r_Model_asksThese {d : Nat} {Q : cm_Q} {h : cm_H} {a0 : Nat} {x1 : Int} {x2 : Int} {x3 : Int} (p_a0 : 0 < a0) (H : (cm_i ((ch_I h a0 49) + 1) ∧ (∀ h2 : cm_H, h2 = ch_u h a0 49 ((ch_I h a0 49) + 1) → cw d cd_Model_asksThese Q 13 [some (vR 12 a0), some (vI x1), some (vI x2), some (vI x3), some (vI 0), none] [] h2))) : cm_call (d + 1) m_Model_asksThese [vR 12 a0, vI x1, vI x2, vI x3] h Q := by
  refine cm_call_in (C := cd_Model_asksThese) (ls := [some (vR 12 a0), some (vI x1), some (vI x2), some (vI x3), none, none]) rfl rfl p_a0 rfl ?_
  refine w_aload rfl rfl ?_
  refine w_dup rfl rfl ?_
  refine w_getI 49 rfl rfl rfl p_a0 ?_
  refine w_iconst rfl ⟨by decide, by decide⟩ ?_
  have o1 := H.1
  replace H := H.2
  refine w_iadd rfl o1 ?_
  refine w_putI 49 rfl rfl rfl p_a0 (fun h2 eh2 => ?_)
  replace H := H h2 eh2
  refine w_iconst rfl ⟨by decide, by decide⟩ ?_
  refine w_istore rfl rfl ?_
  exact H
set_option maxHeartbeats 4000000 in
set_option maxRecDepth 100000 in
theorem r_Model_primary {d : Nat} {Q : cm_Q} {h : cm_H} {a0 : Nat} {x1 : Int} {x2 : Int} (p_a0 : 0 < a0) (H : (∀ h1 : cm_H, h1 = ch_u h a0 0 0 → (cm_i ((ch_I h1 a0 1) - 1) ∧ (cI d m_Model_within [vI x1, vI 0, vI ((ch_I h1 a0 1) - 1)] h1 fun v4 h3 => ((v4 = 0 → Q (some (vI (-1))) h3) ∧ (¬ v4 = 0 → (cI d m_Model_within [vI x2, vI 0, vI 1] h3 fun v6 h5 => ((¬ v6 = 0 → (cU d m_Model_laysPrimary [vR 12 a0] h5 fun h7 => ((¬ (ch_I h7 a0 42) = 0 → ((¬ x2 = 0 → (0 < ((ch_R h7 a0 44)) ∧ ((0:Int) ≤ x1 ∧ x1 < ch_L h7 (ch_R h7 a0 44)) ∧ Q (some (vI (ch_I h7 (ch_R h7 a0 44) x1))) h7)) ∧ (x2 = 0 → (0 < ((ch_R h7 a0 43)) ∧ ((0:Int) ≤ x1 ∧ x1 < ch_L h7 (ch_R h7 a0 43)) ∧ Q (some (vI (ch_I h7 (ch_R h7 a0 43) x1))) h7)))) ∧ ((ch_I h7 a0 42) = 0 → Q (some (vI (-1))) h7)))) ∧ (v6 = 0 → Q (some (vI (-1))) h5))))))))) : cm_call (d + 1) m_Model_primary [vR 12 a0, vI x1, vI x2] h Q := by
  refine cm_call_in (C := cd_Model_primary) (ls := [some (vR 12 a0), some (vI x1), some (vI x2)]) rfl rfl p_a0 rfl ?_
  refine w_aload rfl rfl ?_
  refine w_iconst rfl ⟨by decide, by decide⟩ ?_
  refine w_putI 0 rfl rfl rfl p_a0 (fun h1 eh1 => ?_)
  replace H := H h1 eh1
  refine w_iload rfl rfl ?_
  refine w_iconst rfl ⟨by decide, by decide⟩ ?_
  refine w_aload rfl rfl ?_
  refine w_getI 1 rfl rfl rfl p_a0 ?_
  refine w_iconst rfl ⟨by decide, by decide⟩ ?_
  have o2 := H.1
  replace H := H.2
  refine w_isub rfl o2 ?_
  refine w_callI rfl (fun _ => rfl) rfl (cI_mono H fun v4 h3 H => ?_)
  refine w_if rfl (And.intro (fun hc => ?_) (fun hc => ?_))
  · replace H := H.1 hc
    refine w_iconst rfl ⟨by decide, by decide⟩ ?_
    exact w_ireturn rfl H
  · replace H := H.2 hc
    refine w_iload rfl rfl ?_
    refine w_iconst rfl ⟨by decide, by decide⟩ ?_
    refine w_iconst rfl ⟨by decide, by decide⟩ ?_
    refine w_callI rfl (fun _ => rfl) rfl (cI_mono H fun v6 h5 H => ?_)
    refine w_if rfl (And.intro (fun hc => ?_) (fun hc => ?_))
    · replace H := H.1 hc
      refine w_aload rfl rfl ?_
      refine w_callU rfl (fun _ => rfl) rfl (cU_mono H fun h7 H => ?_)
      refine w_aload rfl rfl ?_
      refine w_getI 42 rfl rfl rfl p_a0 ?_
      refine w_if rfl (And.intro (fun hc => ?_) (fun hc => ?_))
      · replace H := H.1 hc
        refine w_iload rfl rfl ?_
        refine w_if rfl (And.intro (fun hc => ?_) (fun hc => ?_))
        · replace H := H.1 hc
          refine w_aload rfl rfl ?_
          refine w_getR 44 20 rfl rfl rfl rfl p_a0 ?_
          refine w_iload rfl rfl ?_
          have o8 := H.1
          replace H := H.2
          have o9 := H.1
          replace H := H.2
          refine w_iaload rfl o8 o9 ?_
          exact w_ireturn rfl H
        · replace H := H.2 hc
          refine w_aload rfl rfl ?_
          refine w_getR 43 20 rfl rfl rfl rfl p_a0 ?_
          refine w_iload rfl rfl ?_
          have o10 := H.1
          replace H := H.2
          have o11 := H.1
          replace H := H.2
          refine w_iaload rfl o10 o11 ?_
          refine w_goto rfl ?_
          exact w_ireturn rfl H
      · replace H := H.2 hc
        refine w_iconst rfl ⟨by decide, by decide⟩ ?_
        refine w_goto rfl ?_
        exact w_ireturn rfl H
    · replace H := H.2 hc
      refine w_iconst rfl ⟨by decide, by decide⟩ ?_
      exact w_ireturn rfl H
set_option maxHeartbeats 4000000 in
set_option maxRecDepth 100000 in
theorem r_Model_laysProducts_7 {d : Nat} {Q : cm_Q} {h : cm_H} {a0 : Nat} {x1 : Int} {x2 : Int} {z3 : Option cm_V} {z4 : Option cm_V} {z5 : Option cm_V} {z6 : Option cm_V} {z7 : Option cm_V} (p_a0 : 0 < a0) (H : (((ch_I h a0 50) ≤ x2 → Q none h) ∧ (x2 < (ch_I h a0 50) → (0 < ((ch_R h a0 51)) ∧ ((0:Int) ≤ x2 ∧ x2 < ch_L h (ch_R h a0 51)) ∧ (cm_i (x1 - (ch_I h (ch_R h a0 51) x2)) ∧ cw d cd_Model_laysProducts Q 27 [some (vR 12 a0), some (vI x1), some (vI x2), some (vI (x1 - (ch_I h (ch_R h a0 51) x2))), some (vI 0), z5, z6, z7] [] h))))) : cw d cd_Model_laysProducts Q 7 [some (vR 12 a0), some (vI x1), some (vI x2), z3, z4, z5, z6, z7] [] h := by
  refine w_iload rfl rfl ?_
  refine w_aload rfl rfl ?_
  refine w_getI 50 rfl rfl rfl p_a0 ?_
  refine w_icmp rfl (And.intro (fun hc => ?_) (fun hc => ?_))
  · replace H := H.1 hc
    exact w_return rfl H
  · replace H := H.2 hc
    refine w_iload rfl rfl ?_
    refine w_aload rfl rfl ?_
    refine w_getR 51 20 rfl rfl rfl rfl p_a0 ?_
    refine w_iload rfl rfl ?_
    have o1 := H.1
    replace H := H.2
    have o2 := H.1
    replace H := H.2
    refine w_iaload rfl o1 o2 ?_
    have o3 := H.1
    replace H := H.2
    refine w_isub rfl o3 ?_
    refine w_istore rfl rfl ?_
    refine w_iconst rfl ⟨by decide, by decide⟩ ?_
    refine w_istore rfl rfl ?_
    exact H
set_option maxHeartbeats 4000000 in
set_option maxRecDepth 100000 in
theorem r_Model_laysProducts_27 {d : Nat} {Q : cm_Q} {h : cm_H} {a0 : Nat} {x1 : Int} {x2 : Int} {x3 : Int} {x4 : Int} {z5 : Option cm_V} {z6 : Option cm_V} {z7 : Option cm_V} (p_a0 : 0 < a0) (H : (0 < ((ch_R h a0 43)) ∧ ((0:Int) ≤ 0 ∧ 0 < ch_L h (ch_R h a0 43)) ∧ (cm_i (x4 * (ch_I h (ch_R h a0 43) 0)) ∧ ((x3 < (x4 * (ch_I h (ch_R h a0 43) 0)) → (cm_i (x2 + 1) ∧ cw d cd_Model_laysProducts Q 7 [some (vR 12 a0), some (vI x1), some (vI (x2 + 1)), some (vI x3), some (vI x4), z5, z6, z7] [] h)) ∧ ((x4 * (ch_I h (ch_R h a0 43) 0)) ≤ x3 → cw d cd_Model_laysProducts Q 43 [some (vR 12 a0), some (vI x1), some (vI x2), some (vI x3), some (vI x4), some (vI 0), z6, z7] [] h))))) : cw d cd_Model_laysProducts Q 27 [some (vR 12 a0), some (vI x1), some (vI x2), some (vI x3), some (vI x4), z5, z6, z7] [] h := by
  refine w_iload rfl rfl ?_
  refine w_aload rfl rfl ?_
  refine w_getR 43 20 rfl rfl rfl rfl p_a0 ?_
  refine w_iconst rfl ⟨by decide, by decide⟩ ?_
  have o1 := H.1
  replace H := H.2
  have o2 := H.1
  replace H := H.2
  refine w_iaload rfl o1 o2 ?_
  have o3 := H.1
  replace H := H.2
  refine w_imul rfl o3 ?_
  refine w_iload rfl rfl ?_
  refine w_icmp rfl (And.intro (fun hc => ?_) (fun hc => ?_))
  · replace H := H.1 hc
    have o4 := H.1
    replace H := H.2
    refine w_iinc rfl rfl rfl o4 ?_
    refine w_goto rfl ?_
    exact H
  · replace H := H.2 hc
    refine w_iconst rfl ⟨by decide, by decide⟩ ?_
    refine w_istore rfl rfl ?_
    exact H
set_option maxHeartbeats 4000000 in
set_option maxRecDepth 100000 in
theorem r_Model_laysProducts_43 {d : Nat} {Q : cm_Q} {h : cm_H} {a0 : Nat} {x1 : Int} {x2 : Int} {x3 : Int} {x4 : Int} {x5 : Int} {z6 : Option cm_V} {z7 : Option cm_V} (p_a0 : 0 < a0) (H : (0 < ((ch_R h a0 43)) ∧ ((0:Int) ≤ 0 ∧ 0 < ch_L h (ch_R h a0 43)) ∧ (cm_i (x4 * (ch_I h (ch_R h a0 43) 0)) ∧ ((0:Int) ≤ 1 ∧ 1 < ch_L h (ch_R h a0 43)) ∧ (cm_i (x5 * (ch_I h (ch_R h a0 43) 1)) ∧ (cm_i ((x4 * (ch_I h (ch_R h a0 43) 0)) + (x5 * (ch_I h (ch_R h a0 43) 1))) ∧ ((x3 < ((x4 * (ch_I h (ch_R h a0 43) 0)) + (x5 * (ch_I h (ch_R h a0 43) 1))) → (cm_i (x4 + 1) ∧ cw d cd_Model_laysProducts Q 27 [some (vR 12 a0), some (vI x1), some (vI x2), some (vI x3), some (vI (x4 + 1)), some (vI x5), z6, z7] [] h)) ∧ (((x4 * (ch_I h (ch_R h a0 43) 0)) + (x5 * (ch_I h (ch_R h a0 43) 1))) ≤ x3 → (cm_i (x3 - (x4 * (ch_I h (ch_R h a0 43) 0))) ∧ (cm_i ((x3 - (x4 * (ch_I h (ch_R h a0 43) 0))) - (x5 * (ch_I h (ch_R h a0 43) 1))) ∧ ((¬ (ch_I h a0 1) = 2 → ((0:Int) ≤ 2 ∧ 2 < ch_L h (ch_R h a0 43)) ∧ (0 < (ch_I h (ch_R h a0 43) 2) ∧ ((¬ (Int.tmod ((x3 - (x4 * (ch_I h (ch_R h a0 43) 0))) - (x5 * (ch_I h (ch_R h a0 43) 1))) (ch_I h (ch_R h a0 43) 2)) = 0 → cw d cd_Model_laysProducts Q 127 [some (vR 12 a0), some (vI x1), some (vI x2), some (vI x3), some (vI x4), some (vI x5), some (vI ((x3 - (x4 * (ch_I h (ch_R h a0 43) 0))) - (x5 * (ch_I h (ch_R h a0 43) 1)))), z7] [vI 0] h) ∧ ((Int.tmod ((x3 - (x4 * (ch_I h (ch_R h a0 43) 0))) - (x5 * (ch_I h (ch_R h a0 43) 1))) (ch_I h (ch_R h a0 43) 2)) = 0 → cw d cd_Model_laysProducts Q 127 [some (vR 12 a0), some (vI x1), some (vI x2), some (vI x3), some (vI x4), some (vI x5), some (vI ((x3 - (x4 * (ch_I h (ch_R h a0 43) 0))) - (x5 * (ch_I h (ch_R h a0 43) 1)))), z7] [vI 1] h)))) ∧ ((ch_I h a0 1) = 2 → ((¬ ((x3 - (x4 * (ch_I h (ch_R h a0 43) 0))) - (x5 * (ch_I h (ch_R h a0 43) 1))) = 0 → cw d cd_Model_laysProducts Q 127 [some (vR 12 a0), some (vI x1), some (vI x2), some (vI x3), some (vI x4), some (vI x5), some (vI ((x3 - (x4 * (ch_I h (ch_R h a0 43) 0))) - (x5 * (ch_I h (ch_R h a0 43) 1)))), z7] [vI 0] h) ∧ (((x3 - (x4 * (ch_I h (ch_R h a0 43) 0))) - (x5 * (ch_I h (ch_R h a0 43) 1))) = 0 → cw d cd_Model_laysProducts Q 127 [some (vR 12 a0), some (vI x1), some (vI x2), some (vI x3), some (vI x4), some (vI x5), some (vI ((x3 - (x4 * (ch_I h (ch_R h a0 43) 0))) - (x5 * (ch_I h (ch_R h a0 43) 1)))), z7] [vI 1] h))))))))))))) : cw d cd_Model_laysProducts Q 43 [some (vR 12 a0), some (vI x1), some (vI x2), some (vI x3), some (vI x4), some (vI x5), z6, z7] [] h := by
  refine w_iload rfl rfl ?_
  refine w_aload rfl rfl ?_
  refine w_getR 43 20 rfl rfl rfl rfl p_a0 ?_
  refine w_iconst rfl ⟨by decide, by decide⟩ ?_
  have o1 := H.1
  replace H := H.2
  have o2 := H.1
  replace H := H.2
  refine w_iaload rfl o1 o2 ?_
  have o3 := H.1
  replace H := H.2
  refine w_imul rfl o3 ?_
  refine w_iload rfl rfl ?_
  refine w_aload rfl rfl ?_
  refine w_getR 43 20 rfl rfl rfl rfl p_a0 ?_
  refine w_iconst rfl ⟨by decide, by decide⟩ ?_
  have o4 := H.1
  replace H := H.2
  refine w_iaload rfl o1 o4 ?_
  have o5 := H.1
  replace H := H.2
  refine w_imul rfl o5 ?_
  have o6 := H.1
  replace H := H.2
  refine w_iadd rfl o6 ?_
  refine w_iload rfl rfl ?_
  refine w_icmp rfl (And.intro (fun hc => ?_) (fun hc => ?_))
  · replace H := H.1 hc
    have o7 := H.1
    replace H := H.2
    refine w_iinc rfl rfl rfl o7 ?_
    refine w_goto rfl ?_
    exact H
  · replace H := H.2 hc
    refine w_iload rfl rfl ?_
    refine w_iload rfl rfl ?_
    refine w_aload rfl rfl ?_
    refine w_getR 43 20 rfl rfl rfl rfl p_a0 ?_
    refine w_iconst rfl ⟨by decide, by decide⟩ ?_
    refine w_iaload rfl o1 o2 ?_
    refine w_imul rfl o3 ?_
    have o8 := H.1
    replace H := H.2
    refine w_isub rfl o8 ?_
    refine w_iload rfl rfl ?_
    refine w_aload rfl rfl ?_
    refine w_getR 43 20 rfl rfl rfl rfl p_a0 ?_
    refine w_iconst rfl ⟨by decide, by decide⟩ ?_
    refine w_iaload rfl o1 o4 ?_
    refine w_imul rfl o5 ?_
    have o9 := H.1
    replace H := H.2
    refine w_isub rfl o9 ?_
    refine w_istore rfl rfl ?_
    refine w_aload rfl rfl ?_
    refine w_getI 1 rfl rfl rfl p_a0 ?_
    refine w_iconst rfl ⟨by decide, by decide⟩ ?_
    refine w_icmp rfl (And.intro (fun hc => ?_) (fun hc => ?_))
    · replace H := H.1 hc
      refine w_iload rfl rfl ?_
      refine w_aload rfl rfl ?_
      refine w_getR 43 20 rfl rfl rfl rfl p_a0 ?_
      refine w_iconst rfl ⟨by decide, by decide⟩ ?_
      have o10 := H.1
      replace H := H.2
      refine w_iaload rfl o1 o10 ?_
      have o11 := H.1
      replace H := H.2
      refine w_irem rfl o11 ?_
      refine w_if rfl (And.intro (fun hc => ?_) (fun hc => ?_))
      · replace H := H.1 hc
        refine w_iconst rfl ⟨by decide, by decide⟩ ?_
        exact H
      · replace H := H.2 hc
        refine w_iconst rfl ⟨by decide, by decide⟩ ?_
        refine w_goto rfl ?_
        exact H
    · replace H := H.2 hc
      refine w_iload rfl rfl ?_
      refine w_if rfl (And.intro (fun hc => ?_) (fun hc => ?_))
      · replace H := H.1 hc
        refine w_iconst rfl ⟨by decide, by decide⟩ ?_
        refine w_goto rfl ?_
        exact H
      · replace H := H.2 hc
        refine w_iconst rfl ⟨by decide, by decide⟩ ?_
        refine w_goto rfl ?_
        exact H
set_option maxHeartbeats 4000000 in
set_option maxRecDepth 100000 in
theorem r_Model_laysProducts_127 {d : Nat} {Q : cm_Q} {h : cm_H} {a0 : Nat} {x1 : Int} {x2 : Int} {x3 : Int} {x4 : Int} {x5 : Int} {x6 : Int} {z7 : Option cm_V} {s0 : Int} (p_a0 : 0 < a0) (H : ((s0 = 0 → (cm_i (x5 + 1) ∧ cw d cd_Model_laysProducts Q 43 [some (vR 12 a0), some (vI x1), some (vI x2), some (vI x3), some (vI x4), some (vI (x5 + 1)), some (vI x6), some (vI s0)] [] h)) ∧ (¬ s0 = 0 → ((¬ (ch_I h a0 1) = 2 → (0 < ((ch_R h a0 43)) ∧ ((0:Int) ≤ 2 ∧ 2 < ch_L h (ch_R h a0 43)) ∧ (0 < (ch_I h (ch_R h a0 43) 2) ∧ (cU d m_Model_laysProduct [vR 12 a0, vI x2, vI x4, vI x5, vI (Int.tdiv x6 (ch_I h (ch_R h a0 43) 2)), vI x1] h fun h5 => (cm_i (x5 + 1) ∧ cw d cd_Model_laysProducts Q 43 [some (vR 12 a0), some (vI x1), some (vI x2), some (vI x3), some (vI x4), some (vI (x5 + 1)), some (vI x6), some (vI s0)] [] h5))))) ∧ ((ch_I h a0 1) = 2 → (cU d m_Model_laysProduct [vR 12 a0, vI x2, vI x4, vI x5, vI 0, vI x1] h fun h7 => (cm_i (x5 + 1) ∧ cw d cd_Model_laysProducts Q 43 [some (vR 12 a0), some (vI x1), some (vI x2), some (vI x3), some (vI x4), some (vI (x5 + 1)), some (vI x6), some (vI s0)] [] h7))))))) : cw d cd_Model_laysProducts Q 127 [some (vR 12 a0), some (vI x1), some (vI x2), some (vI x3), some (vI x4), some (vI x5), some (vI x6), z7] [vI s0] h := by
  refine w_istore rfl rfl ?_
  refine w_iload rfl rfl ?_
  refine w_if rfl (And.intro (fun hc => ?_) (fun hc => ?_))
  · replace H := H.1 hc
    have o1 := H.1
    replace H := H.2
    refine w_iinc rfl rfl rfl o1 ?_
    refine w_goto rfl ?_
    exact H
  · replace H := H.2 hc
    refine w_aload rfl rfl ?_
    refine w_iload rfl rfl ?_
    refine w_iload rfl rfl ?_
    refine w_iload rfl rfl ?_
    refine w_aload rfl rfl ?_
    refine w_getI 1 rfl rfl rfl p_a0 ?_
    refine w_iconst rfl ⟨by decide, by decide⟩ ?_
    refine w_icmp rfl (And.intro (fun hc => ?_) (fun hc => ?_))
    · replace H := H.1 hc
      refine w_iload rfl rfl ?_
      refine w_aload rfl rfl ?_
      refine w_getR 43 20 rfl rfl rfl rfl p_a0 ?_
      refine w_iconst rfl ⟨by decide, by decide⟩ ?_
      have o2 := H.1
      replace H := H.2
      have o3 := H.1
      replace H := H.2
      refine w_iaload rfl o2 o3 ?_
      have o4 := H.1
      replace H := H.2
      refine w_idiv rfl o4 ?_
      refine w_iload rfl rfl ?_
      refine w_callU rfl (fun _ => rfl) rfl (cU_mono H fun h5 H => ?_)
      have o6 := H.1
      replace H := H.2
      refine w_iinc rfl rfl rfl o6 ?_
      refine w_goto rfl ?_
      exact H
    · replace H := H.2 hc
      refine w_iconst rfl ⟨by decide, by decide⟩ ?_
      refine w_goto rfl ?_
      refine w_iload rfl rfl ?_
      refine w_callU rfl (fun _ => rfl) rfl (cU_mono H fun h7 H => ?_)
      have o8 := H.1
      replace H := H.2
      refine w_iinc rfl rfl rfl o8 ?_
      refine w_goto rfl ?_
      exact H
set_option maxHeartbeats 4000000 in
set_option maxRecDepth 100000 in
theorem r_Model_laysProducts {d : Nat} {Q : cm_Q} {h : cm_H} {a0 : Nat} {x1 : Int} (p_a0 : 0 < a0) (H : (∀ h1 : cm_H, h1 = ch_u h a0 53 0 → cw d cd_Model_laysProducts Q 7 [some (vR 12 a0), some (vI x1), some (vI 0), none, none, none, none, none] [] h1)) : cm_call (d + 1) m_Model_laysProducts [vR 12 a0, vI x1] h Q := by
  refine cm_call_in (C := cd_Model_laysProducts) (ls := [some (vR 12 a0), some (vI x1), none, none, none, none, none, none]) rfl rfl p_a0 rfl ?_
  refine w_aload rfl rfl ?_
  refine w_iconst rfl ⟨by decide, by decide⟩ ?_
  refine w_putI 53 rfl rfl rfl p_a0 (fun h1 eh1 => ?_)
  replace H := H h1 eh1
  refine w_iconst rfl ⟨by decide, by decide⟩ ?_
  refine w_istore rfl rfl ?_
  exact H
set_option maxHeartbeats 4000000 in
set_option maxRecDepth 100000 in
theorem r_Model_timesPrimary_2 {d : Nat} {Q : cm_Q} {h : cm_H} {a0 : Nat} {x1 : Int} {x2 : Int} {x3 : Int} (p_a0 : 0 < a0) (H : ((x2 ≤ x3 → Q none h) ∧ (x3 < x2 → (cm_i (1140 * x1) ∧ (cU d m_Model_multiplies [vR 12 a0, vR 20 (ch_R h a0 6), vI 0, vR 20 (ch_R h a0 45), vI (1140 * x1), vR 20 (ch_R h a0 8), vI 0] h fun h2 => (cU d m_Model_copies [vR 20 (ch_R h2 a0 8), vI 0, vR 20 (ch_R h2 a0 6), vI 0] h2 fun h3 => (cm_i (x3 + 1) ∧ cw d cd_Model_timesPrimary Q 2 [some (vR 12 a0), some (vI x1), some (vI x2), some (vI (x3 + 1))] [] h3))))))) : cw d cd_Model_timesPrimary Q 2 [some (vR 12 a0), some (vI x1), some (vI x2), some (vI x3)] [] h := by
  refine w_iload rfl rfl ?_
  refine w_iload rfl rfl ?_
  refine w_icmp rfl (And.intro (fun hc => ?_) (fun hc => ?_))
  · replace H := H.1 hc
    exact w_return rfl H
  · replace H := H.2 hc
    refine w_aload rfl rfl ?_
    refine w_aload rfl rfl ?_
    refine w_getR 6 20 rfl rfl rfl rfl p_a0 ?_
    refine w_iconst rfl ⟨by decide, by decide⟩ ?_
    refine w_aload rfl rfl ?_
    refine w_getR 45 20 rfl rfl rfl rfl p_a0 ?_
    refine w_iconst rfl ⟨by decide, by decide⟩ ?_
    refine w_iload rfl rfl ?_
    have o1 := H.1
    replace H := H.2
    refine w_imul rfl o1 ?_
    refine w_aload rfl rfl ?_
    refine w_getR 8 20 rfl rfl rfl rfl p_a0 ?_
    refine w_iconst rfl ⟨by decide, by decide⟩ ?_
    refine w_callU rfl (fun _ => rfl) rfl (cU_mono H fun h2 H => ?_)
    refine w_aload rfl rfl ?_
    refine w_getR 8 20 rfl rfl rfl rfl p_a0 ?_
    refine w_iconst rfl ⟨by decide, by decide⟩ ?_
    refine w_aload rfl rfl ?_
    refine w_getR 6 20 rfl rfl rfl rfl p_a0 ?_
    refine w_iconst rfl ⟨by decide, by decide⟩ ?_
    refine w_callU rfl (fun _ => rfl) rfl (cU_mono H fun h3 H => ?_)
    have o4 := H.1
    replace H := H.2
    refine w_iinc rfl rfl rfl o4 ?_
    refine w_goto rfl ?_
    exact H
set_option maxHeartbeats 4000000 in
set_option maxRecDepth 100000 in
theorem r_Model_timesPrimary {d : Nat} {Q : cm_Q} {h : cm_H} {a0 : Nat} {x1 : Int} {x2 : Int} (p_a0 : 0 < a0) (H : cw d cd_Model_timesPrimary Q 2 [some (vR 12 a0), some (vI x1), some (vI x2), some (vI 0)] [] h) : cm_call (d + 1) m_Model_timesPrimary [vR 12 a0, vI x1, vI x2] h Q := by
  refine cm_call_in (C := cd_Model_timesPrimary) (ls := [some (vR 12 a0), some (vI x1), some (vI x2), none]) rfl rfl p_a0 rfl ?_
  refine w_iconst rfl ⟨by decide, by decide⟩ ?_
  refine w_istore rfl rfl ?_
  exact H
set_option maxHeartbeats 4000000 in
set_option maxRecDepth 100000 in
theorem r_Model_laysProduct_51 {d : Nat} {Q : cm_Q} {h : cm_H} {a0 : Nat} {x1 : Int} {x2 : Int} {x3 : Int} {x4 : Int} {x5 : Int} {x6 : Int} (p_a0 : 0 < a0) (H : (cI d m_Model_many [vR 12 a0, vI x5] h fun v2 h1 => ((v2 ≤ x6 → (0 < ((ch_R h1 a0 54)) ∧ ((0:Int) ≤ (ch_I h1 a0 53) ∧ (ch_I h1 a0 53) < ch_L h1 (ch_R h1 a0 54)) ∧ (∀ h5 : cm_H, h5 = ch_u h1 (ch_R h1 a0 54) (ch_I h1 a0 53) x1 → (0 < ((ch_R h5 a0 55)) ∧ ((0:Int) ≤ (ch_I h5 a0 53) ∧ (ch_I h5 a0 53) < ch_L h5 (ch_R h5 a0 55)) ∧ (∀ h8 : cm_H, h8 = ch_u h5 (ch_R h5 a0 55) (ch_I h5 a0 53) x2 → (0 < ((ch_R h8 a0 56)) ∧ ((0:Int) ≤ (ch_I h8 a0 53) ∧ (ch_I h8 a0 53) < ch_L h8 (ch_R h8 a0 56)) ∧ (∀ h11 : cm_H, h11 = ch_u h8 (ch_R h8 a0 56) (ch_I h8 a0 53) x3 → (0 < ((ch_R h11 a0 57)) ∧ ((0:Int) ≤ (ch_I h11 a0 53) ∧ (ch_I h11 a0 53) < ch_L h11 (ch_R h11 a0 57)) ∧ (∀ h14 : cm_H, h14 = ch_u h11 (ch_R h11 a0 57) (ch_I h11 a0 53) x4 → (cm_i ((ch_I h14 a0 53) + 1) ∧ (∀ h16 : cm_H, h16 = ch_u h14 a0 53 ((ch_I h14 a0 53) + 1) → Q none h16))))))))))) ∧ (x6 < v2 → (cm_i (160 * (ch_I h1 a0 53)) ∧ (cm_i ((160 * (ch_I h1 a0 53)) + x6) ∧ (cI d m_Model_from [vR 12 a0, vI x5] h1 fun v20 h19 => (cm_i (v20 + x6) ∧ (0 < ((ch_R h1 a0 6)) ∧ ((0:Int) ≤ (v20 + x6) ∧ (v20 + x6) < ch_L h19 (ch_R h1 a0 6)) ∧ (0 < ((ch_R h1 a0 32)) ∧ ((0:Int) ≤ ((160 * (ch_I h1 a0 53)) + x6) ∧ ((160 * (ch_I h1 a0 53)) + x6) < ch_L h19 (ch_R h1 a0 32)) ∧ (∀ h26 : cm_H, h26 = ch_u h19 (ch_R h1 a0 32) ((160 * (ch_I h1 a0 53)) + x6) (ch_I h19 (ch_R h1 a0 6) (v20 + x6)) → (cm_i (x6 + 1) ∧ cw d cd_Model_laysProduct Q 51 [some (vR 12 a0), some (vI x1), some (vI x2), some (vI x3), some (vI x4), some (vI x5), some (vI (x6 + 1))] [] h26)))))))))))) : cw d cd_Model_laysProduct Q 51 [some (vR 12 a0), some (vI x1), some (vI x2), some (vI x3), some (vI x4), some (vI x5), some (vI x6)] [] h := by
  refine w_iload rfl rfl ?_
  refine w_aload rfl rfl ?_
  refine w_iload rfl rfl ?_
  refine w_callI rfl (fun _ => rfl) rfl (cI_mono H fun v2 h1 H => ?_)
  refine w_icmp rfl (And.intro (fun hc => ?_) (fun hc => ?_))
  · replace H := H.1 hc
    refine w_aload rfl rfl ?_
    refine w_getR 54 20 rfl rfl rfl rfl p_a0 ?_
    refine w_aload rfl rfl ?_
    refine w_getI 53 rfl rfl rfl p_a0 ?_
    refine w_iload rfl rfl ?_
    have o3 := H.1
    replace H := H.2
    have o4 := H.1
    replace H := H.2
    refine w_iastore rfl o3 o4 (fun h5 eh5 => ?_)
    replace H := H h5 eh5
    refine w_aload rfl rfl ?_
    refine w_getR 55 20 rfl rfl rfl rfl p_a0 ?_
    refine w_aload rfl rfl ?_
    refine w_getI 53 rfl rfl rfl p_a0 ?_
    refine w_iload rfl rfl ?_
    have o6 := H.1
    replace H := H.2
    have o7 := H.1
    replace H := H.2
    refine w_iastore rfl o6 o7 (fun h8 eh8 => ?_)
    replace H := H h8 eh8
    refine w_aload rfl rfl ?_
    refine w_getR 56 20 rfl rfl rfl rfl p_a0 ?_
    refine w_aload rfl rfl ?_
    refine w_getI 53 rfl rfl rfl p_a0 ?_
    refine w_iload rfl rfl ?_
    have o9 := H.1
    replace H := H.2
    have o10 := H.1
    replace H := H.2
    refine w_iastore rfl o9 o10 (fun h11 eh11 => ?_)
    replace H := H h11 eh11
    refine w_aload rfl rfl ?_
    refine w_getR 57 20 rfl rfl rfl rfl p_a0 ?_
    refine w_aload rfl rfl ?_
    refine w_getI 53 rfl rfl rfl p_a0 ?_
    refine w_iload rfl rfl ?_
    have o12 := H.1
    replace H := H.2
    have o13 := H.1
    replace H := H.2
    refine w_iastore rfl o12 o13 (fun h14 eh14 => ?_)
    replace H := H h14 eh14
    refine w_aload rfl rfl ?_
    refine w_dup rfl rfl ?_
    refine w_getI 53 rfl rfl rfl p_a0 ?_
    refine w_iconst rfl ⟨by decide, by decide⟩ ?_
    have o15 := H.1
    replace H := H.2
    refine w_iadd rfl o15 ?_
    refine w_putI 53 rfl rfl rfl p_a0 (fun h16 eh16 => ?_)
    replace H := H h16 eh16
    exact w_return rfl H
  · replace H := H.2 hc
    refine w_aload rfl rfl ?_
    refine w_getR 32 20 rfl rfl rfl rfl p_a0 ?_
    refine w_iconst rfl ⟨by decide, by decide⟩ ?_
    refine w_aload rfl rfl ?_
    refine w_getI 53 rfl rfl rfl p_a0 ?_
    have o17 := H.1
    replace H := H.2
    refine w_imul rfl o17 ?_
    refine w_iload rfl rfl ?_
    have o18 := H.1
    replace H := H.2
    refine w_iadd rfl o18 ?_
    refine w_aload rfl rfl ?_
    refine w_getR 6 20 rfl rfl rfl rfl p_a0 ?_
    refine w_aload rfl rfl ?_
    refine w_iload rfl rfl ?_
    refine w_callI rfl (fun _ => rfl) rfl (cI_mono H fun v20 h19 H => ?_)
    refine w_iload rfl rfl ?_
    have o21 := H.1
    replace H := H.2
    refine w_iadd rfl o21 ?_
    have o22 := H.1
    replace H := H.2
    have o23 := H.1
    replace H := H.2
    refine w_iaload rfl o22 o23 ?_
    have o24 := H.1
    replace H := H.2
    have o25 := H.1
    replace H := H.2
    refine w_iastore rfl o24 o25 (fun h26 eh26 => ?_)
    replace H := H h26 eh26
    have o27 := H.1
    replace H := H.2
    refine w_iinc rfl rfl rfl o27 ?_
    refine w_goto rfl ?_
    exact H
set_option maxHeartbeats 4000000 in
set_option maxRecDepth 100000 in
theorem r_Model_laysProduct {d : Nat} {Q : cm_Q} {h : cm_H} {a0 : Nat} {x1 : Int} {x2 : Int} {x3 : Int} {x4 : Int} {x5 : Int} (p_a0 : 0 < a0) (H : (0 < ((ch_R h a0 51)) ∧ ((0:Int) ≤ x1 ∧ x1 < ch_L h (ch_R h a0 51)) ∧ (0 < ((ch_R h a0 52)) ∧ ((0:Int) ≤ x1 ∧ x1 < ch_L h (ch_R h a0 52)) ∧ (cU d m_Model_laysBaseRow [vR 12 a0, vI (ch_I h (ch_R h a0 51) x1), vI (ch_I h (ch_R h a0 52) x1), vR 20 (ch_R h a0 6), vI 0] h fun h5 => (cU d m_Model_timesPrimary [vR 12 a0, vI 0, vI x2] h5 fun h6 => (cU d m_Model_timesPrimary [vR 12 a0, vI 1, vI x3] h6 fun h7 => (cU d m_Model_timesPrimary [vR 12 a0, vI 2, vI x4] h7 fun h8 => (cU d m_Model_clearsRow [vR 12 a0, vI (ch_I h8 a0 53)] h8 fun h9 => cw d cd_Model_laysProduct Q 51 [some (vR 12 a0), some (vI x1), some (vI x2), some (vI x3), some (vI x4), some (vI x5), some (vI 0)] [] h9)))))))) : cm_call (d + 1) m_Model_laysProduct [vR 12 a0, vI x1, vI x2, vI x3, vI x4, vI x5] h Q := by
  refine cm_call_in (C := cd_Model_laysProduct) (ls := [some (vR 12 a0), some (vI x1), some (vI x2), some (vI x3), some (vI x4), some (vI x5), none]) rfl rfl p_a0 rfl ?_
  refine w_aload rfl rfl ?_
  refine w_aload rfl rfl ?_
  refine w_getR 51 20 rfl rfl rfl rfl p_a0 ?_
  refine w_iload rfl rfl ?_
  have o1 := H.1
  replace H := H.2
  have o2 := H.1
  replace H := H.2
  refine w_iaload rfl o1 o2 ?_
  refine w_aload rfl rfl ?_
  refine w_getR 52 20 rfl rfl rfl rfl p_a0 ?_
  refine w_iload rfl rfl ?_
  have o3 := H.1
  replace H := H.2
  have o4 := H.1
  replace H := H.2
  refine w_iaload rfl o3 o4 ?_
  refine w_aload rfl rfl ?_
  refine w_getR 6 20 rfl rfl rfl rfl p_a0 ?_
  refine w_iconst rfl ⟨by decide, by decide⟩ ?_
  refine w_callU rfl (fun _ => rfl) rfl (cU_mono H fun h5 H => ?_)
  refine w_aload rfl rfl ?_
  refine w_iconst rfl ⟨by decide, by decide⟩ ?_
  refine w_iload rfl rfl ?_
  refine w_callU rfl (fun _ => rfl) rfl (cU_mono H fun h6 H => ?_)
  refine w_aload rfl rfl ?_
  refine w_iconst rfl ⟨by decide, by decide⟩ ?_
  refine w_iload rfl rfl ?_
  refine w_callU rfl (fun _ => rfl) rfl (cU_mono H fun h7 H => ?_)
  refine w_aload rfl rfl ?_
  refine w_iconst rfl ⟨by decide, by decide⟩ ?_
  refine w_iload rfl rfl ?_
  refine w_callU rfl (fun _ => rfl) rfl (cU_mono H fun h8 H => ?_)
  refine w_aload rfl rfl ?_
  refine w_aload rfl rfl ?_
  refine w_getI 53 rfl rfl rfl p_a0 ?_
  refine w_callU rfl (fun _ => rfl) rfl (cU_mono H fun h9 H => ?_)
  refine w_iconst rfl ⟨by decide, by decide⟩ ?_
  refine w_istore rfl rfl ?_
  exact H
set_option maxHeartbeats 4000000 in
set_option maxRecDepth 100000 in
theorem r_Model_laysSecondary_13 {d : Nat} {Q : cm_Q} {h : cm_H} {a0 : Nat} {x1 : Int} {z2 : Option cm_V} {z3 : Option cm_V} {z4 : Option cm_V} {z5 : Option cm_V} (p_a0 : 0 < a0) (H : ((15 < x1 → Q none h) ∧ (x1 ≤ 15 → (cI d m_Model_many [vR 12 a0, vI x1] h fun v2 h1 => (cU d m_Model_laysProducts [vR 12 a0, vI x1] h1 fun h3 => (cI d m_Model_steps [vR 12 a0, vI (ch_I h3 a0 53), vI v2] h3 fun v5 h4 => cw d cd_Model_laysSecondary Q 43 [some (vR 12 a0), some (vI x1), some (vI v2), some (vI v5), some (vI 0), z5] [] h4)))))) : cw d cd_Model_laysSecondary Q 13 [some (vR 12 a0), some (vI x1), z2, z3, z4, z5] [] h := by
  refine w_iload rfl rfl ?_
  refine w_iconst rfl ⟨by decide, by decide⟩ ?_
  refine w_icmp rfl (And.intro (fun hc => ?_) (fun hc => ?_))
  · replace H := H.1 hc
    exact w_return rfl H
  · replace H := H.2 hc
    refine w_aload rfl rfl ?_
    refine w_iload rfl rfl ?_
    refine w_callI rfl (fun _ => rfl) rfl (cI_mono H fun v2 h1 H => ?_)
    refine w_istore rfl rfl ?_
    refine w_aload rfl rfl ?_
    refine w_iload rfl rfl ?_
    refine w_callU rfl (fun _ => rfl) rfl (cU_mono H fun h3 H => ?_)
    refine w_aload rfl rfl ?_
    refine w_aload rfl rfl ?_
    refine w_getI 53 rfl rfl rfl p_a0 ?_
    refine w_iload rfl rfl ?_
    refine w_callI rfl (fun _ => rfl) rfl (cI_mono H fun v5 h4 H => ?_)
    refine w_istore rfl rfl ?_
    refine w_iconst rfl ⟨by decide, by decide⟩ ?_
    refine w_istore rfl rfl ?_
    exact H
set_option maxHeartbeats 4000000 in
set_option maxRecDepth 100000 in
theorem r_Model_laysSecondary_43 {d : Nat} {Q : cm_Q} {h : cm_H} {a0 : Nat} {x1 : Int} {x2 : Int} {x3 : Int} {x4 : Int} {z5 : Option cm_V} (p_a0 : 0 < a0) (H : (0 < ((ch_R h a0 34)) ∧ ((0:Int) ≤ x1 ∧ x1 < ch_L h (ch_R h a0 34)) ∧ (((ch_I h (ch_R h a0 34) x1) ≤ x4 → (cm_i (x1 + 1) ∧ cw d cd_Model_laysSecondary Q 13 [some (vR 12 a0), some (vI (x1 + 1)), some (vI x2), some (vI x3), some (vI x4), z5] [] h)) ∧ (x4 < (ch_I h (ch_R h a0 34) x1) → (cU d m_Model_clearsRow [vR 12 a0, vI x3] h fun h4 => cw d cd_Model_laysSecondary Q 62 [some (vR 12 a0), some (vI x1), some (vI x2), some (vI x3), some (vI x4), some (vI 0)] [] h4))))) : cw d cd_Model_laysSecondary Q 43 [some (vR 12 a0), some (vI x1), some (vI x2), some (vI x3), some (vI x4), z5] [] h := by
  refine w_iload rfl rfl ?_
  refine w_aload rfl rfl ?_
  refine w_getR 34 20 rfl rfl rfl rfl p_a0 ?_
  refine w_iload rfl rfl ?_
  have o1 := H.1
  replace H := H.2
  have o2 := H.1
  replace H := H.2
  refine w_iaload rfl o1 o2 ?_
  refine w_icmp rfl (And.intro (fun hc => ?_) (fun hc => ?_))
  · replace H := H.1 hc
    have o3 := H.1
    replace H := H.2
    refine w_iinc rfl rfl rfl o3 ?_
    refine w_goto rfl ?_
    exact H
  · replace H := H.2 hc
    refine w_aload rfl rfl ?_
    refine w_iload rfl rfl ?_
    refine w_callU rfl (fun _ => rfl) rfl (cU_mono H fun h4 H => ?_)
    refine w_iconst rfl ⟨by decide, by decide⟩ ?_
    refine w_istore rfl rfl ?_
    exact H
set_option maxHeartbeats 4000000 in
set_option maxRecDepth 100000 in
theorem r_Model_laysSecondary_62 {d : Nat} {Q : cm_Q} {h : cm_H} {a0 : Nat} {x1 : Int} {x2 : Int} {x3 : Int} {x4 : Int} {x5 : Int} (p_a0 : 0 < a0) (H : ((x2 ≤ x5 → (cm_i (x3 + 1) ∧ (cI d m_Model_steps [vR 12 a0, vI (x3 + 1), vI x2] h fun v3 h2 => ((v3 ≤ x3 → (cm_i (x4 + 1) ∧ cw d cd_Model_laysSecondary Q 43 [some (vR 12 a0), some (vI x1), some (vI x2), some (vI x3), some (vI (x4 + 1)), some (vI v3)] [] h2)) ∧ (x3 < v3 → (0 < ((ch_R h2 a0 51)) ∧ ((0:Int) ≤ (ch_I h2 a0 50) ∧ (ch_I h2 a0 50) < ch_L h2 (ch_R h2 a0 51)) ∧ (∀ h7 : cm_H, h7 = ch_u h2 (ch_R h2 a0 51) (ch_I h2 a0 50) x1 → (0 < ((ch_R h7 a0 52)) ∧ ((0:Int) ≤ (ch_I h7 a0 50) ∧ (ch_I h7 a0 50) < ch_L h7 (ch_R h7 a0 52)) ∧ (∀ h10 : cm_H, h10 = ch_u h7 (ch_R h7 a0 52) (ch_I h7 a0 50) x4 → (cm_i ((ch_I h10 a0 50) + 1) ∧ (∀ h12 : cm_H, h12 = ch_u h10 a0 50 ((ch_I h10 a0 50) + 1) → (cm_i (x4 + 1) ∧ cw d cd_Model_laysSecondary Q 43 [some (vR 12 a0), some (vI x1), some (vI x2), some (vI v3), some (vI (x4 + 1)), some (vI v3)] [] h12)))))))))))) ∧ (x5 < x2 → (cm_i (160 * x3) ∧ (cm_i ((160 * x3) + x5) ∧ (0 < ((ch_R h a0 35)) ∧ ((0:Int) ≤ x1 ∧ x1 < ch_L h (ch_R h a0 35)) ∧ (cm_i (x2 * x4) ∧ (cm_i ((ch_I h (ch_R h a0 35) x1) + (x2 * x4)) ∧ (cm_i (((ch_I h (ch_R h a0 35) x1) + (x2 * x4)) + x5) ∧ (0 < ((ch_R h a0 36)) ∧ ((0:Int) ≤ (((ch_I h (ch_R h a0 35) x1) + (x2 * x4)) + x5) ∧ (((ch_I h (ch_R h a0 35) x1) + (x2 * x4)) + x5) < ch_L h (ch_R h a0 36)) ∧ (0 < ((ch_R h a0 32)) ∧ ((0:Int) ≤ ((160 * x3) + x5) ∧ ((160 * x3) + x5) < ch_L h (ch_R h a0 32)) ∧ (∀ h25 : cm_H, h25 = ch_u h (ch_R h a0 32) ((160 * x3) + x5) (ch_I h (ch_R h a0 36) (((ch_I h (ch_R h a0 35) x1) + (x2 * x4)) + x5)) → (cm_i (x5 + 1) ∧ cw d cd_Model_laysSecondary Q 62 [some (vR 12 a0), some (vI x1), some (vI x2), some (vI x3), some (vI x4), some (vI (x5 + 1))] [] h25))))))))))))) : cw d cd_Model_laysSecondary Q 62 [some (vR 12 a0), some (vI x1), some (vI x2), some (vI x3), some (vI x4), some (vI x5)] [] h := by
  refine w_iload rfl rfl ?_
  refine w_iload rfl rfl ?_
  refine w_icmp rfl (And.intro (fun hc => ?_) (fun hc => ?_))
  · replace H := H.1 hc
    refine w_aload rfl rfl ?_
    refine w_iload rfl rfl ?_
    refine w_iconst rfl ⟨by decide, by decide⟩ ?_
    have o1 := H.1
    replace H := H.2
    refine w_iadd rfl o1 ?_
    refine w_iload rfl rfl ?_
    refine w_callI rfl (fun _ => rfl) rfl (cI_mono H fun v3 h2 H => ?_)
    refine w_istore rfl rfl ?_
    refine w_iload rfl rfl ?_
    refine w_iload rfl rfl ?_
    refine w_icmp rfl (And.intro (fun hc => ?_) (fun hc => ?_))
    · replace H := H.1 hc
      have o4 := H.1
      replace H := H.2
      refine w_iinc rfl rfl rfl o4 ?_
      refine w_goto rfl ?_
      exact H
    · replace H := H.2 hc
      refine w_aload rfl rfl ?_
      refine w_getR 51 20 rfl rfl rfl rfl p_a0 ?_
      refine w_aload rfl rfl ?_
      refine w_getI 50 rfl rfl rfl p_a0 ?_
      refine w_iload rfl rfl ?_
      have o5 := H.1
      replace H := H.2
      have o6 := H.1
      replace H := H.2
      refine w_iastore rfl o5 o6 (fun h7 eh7 => ?_)
      replace H := H h7 eh7
      refine w_aload rfl rfl ?_
      refine w_getR 52 20 rfl rfl rfl rfl p_a0 ?_
      refine w_aload rfl rfl ?_
      refine w_getI 50 rfl rfl rfl p_a0 ?_
      refine w_iload rfl rfl ?_
      have o8 := H.1
      replace H := H.2
      have o9 := H.1
      replace H := H.2
      refine w_iastore rfl o8 o9 (fun h10 eh10 => ?_)
      replace H := H h10 eh10
      refine w_aload rfl rfl ?_
      refine w_dup rfl rfl ?_
      refine w_getI 50 rfl rfl rfl p_a0 ?_
      refine w_iconst rfl ⟨by decide, by decide⟩ ?_
      have o11 := H.1
      replace H := H.2
      refine w_iadd rfl o11 ?_
      refine w_putI 50 rfl rfl rfl p_a0 (fun h12 eh12 => ?_)
      replace H := H h12 eh12
      refine w_iload rfl rfl ?_
      refine w_istore rfl rfl ?_
      have o13 := H.1
      replace H := H.2
      refine w_iinc rfl rfl rfl o13 ?_
      refine w_goto rfl ?_
      exact H
  · replace H := H.2 hc
    refine w_aload rfl rfl ?_
    refine w_getR 32 20 rfl rfl rfl rfl p_a0 ?_
    refine w_iconst rfl ⟨by decide, by decide⟩ ?_
    refine w_iload rfl rfl ?_
    have o14 := H.1
    replace H := H.2
    refine w_imul rfl o14 ?_
    refine w_iload rfl rfl ?_
    have o15 := H.1
    replace H := H.2
    refine w_iadd rfl o15 ?_
    refine w_aload rfl rfl ?_
    refine w_getR 36 20 rfl rfl rfl rfl p_a0 ?_
    refine w_aload rfl rfl ?_
    refine w_getR 35 20 rfl rfl rfl rfl p_a0 ?_
    refine w_iload rfl rfl ?_
    have o16 := H.1
    replace H := H.2
    have o17 := H.1
    replace H := H.2
    refine w_iaload rfl o16 o17 ?_
    refine w_iload rfl rfl ?_
    refine w_iload rfl rfl ?_
    have o18 := H.1
    replace H := H.2
    refine w_imul rfl o18 ?_
    have o19 := H.1
    replace H := H.2
    refine w_iadd rfl o19 ?_
    refine w_iload rfl rfl ?_
    have o20 := H.1
    replace H := H.2
    refine w_iadd rfl o20 ?_
    have o21 := H.1
    replace H := H.2
    have o22 := H.1
    replace H := H.2
    refine w_iaload rfl o21 o22 ?_
    have o23 := H.1
    replace H := H.2
    have o24 := H.1
    replace H := H.2
    refine w_iastore rfl o23 o24 (fun h25 eh25 => ?_)
    replace H := H h25 eh25
    have o26 := H.1
    replace H := H.2
    refine w_iinc rfl rfl rfl o26 ?_
    refine w_goto rfl ?_
    exact H
set_option maxHeartbeats 4000000 in
set_option maxRecDepth 100000 in
theorem r_Model_laysSecondary {d : Nat} {Q : cm_Q} {h : cm_H} {a0 : Nat} (p_a0 : 0 < a0) (H : (cU d m_Model_laysBases [vR 12 a0, vI 15] h fun h1 => (∀ h2 : cm_H, h2 = ch_u h1 a0 50 0 → cw d cd_Model_laysSecondary Q 13 [some (vR 12 a0), some (vI 0), none, none, none, none] [] h2))) : cm_call (d + 1) m_Model_laysSecondary [vR 12 a0] h Q := by
  refine cm_call_in (C := cd_Model_laysSecondary) (ls := [some (vR 12 a0), none, none, none, none, none]) rfl rfl p_a0 rfl ?_
  refine w_aload rfl rfl ?_
  refine w_iconst rfl ⟨by decide, by decide⟩ ?_
  refine w_callU rfl (fun _ => rfl) rfl (cU_mono H fun h1 H => ?_)
  refine w_aload rfl rfl ?_
  refine w_iconst rfl ⟨by decide, by decide⟩ ?_
  refine w_putI 50 rfl rfl rfl p_a0 (fun h2 eh2 => ?_)
  replace H := H h2 eh2
  refine w_iconst rfl ⟨by decide, by decide⟩ ?_
  refine w_istore rfl rfl ?_
  exact H
set_option maxHeartbeats 4000000 in
set_option maxRecDepth 100000 in
theorem r_Model_secondaries {d : Nat} {Q : cm_Q} {h : cm_H} {a0 : Nat} (p_a0 : 0 < a0) (H : (∀ h1 : cm_H, h1 = ch_u h a0 0 0 → (cU d m_Model_laysPrimary [vR 12 a0] h1 fun h2 => (((ch_I h2 a0 42) = 0 → Q (some (vI (-1))) h2) ∧ (¬ (ch_I h2 a0 42) = 0 → Q (some (vI (ch_I h2 a0 50))) h2))))) : cm_call (d + 1) m_Model_secondaries [vR 12 a0] h Q := by
  refine cm_call_in (C := cd_Model_secondaries) (ls := [some (vR 12 a0)]) rfl rfl p_a0 rfl ?_
  refine w_aload rfl rfl ?_
  refine w_iconst rfl ⟨by decide, by decide⟩ ?_
  refine w_putI 0 rfl rfl rfl p_a0 (fun h1 eh1 => ?_)
  replace H := H h1 eh1
  refine w_aload rfl rfl ?_
  refine w_callU rfl (fun _ => rfl) rfl (cU_mono H fun h2 H => ?_)
  refine w_aload rfl rfl ?_
  refine w_getI 42 rfl rfl rfl p_a0 ?_
  refine w_if rfl (And.intro (fun hc => ?_) (fun hc => ?_))
  · replace H := H.1 hc
    refine w_iconst rfl ⟨by decide, by decide⟩ ?_
    exact w_ireturn rfl H
  · replace H := H.2 hc
    refine w_aload rfl rfl ?_
    refine w_getI 50 rfl rfl rfl p_a0 ?_
    refine w_goto rfl ?_
    exact w_ireturn rfl H
set_option maxHeartbeats 4000000 in
set_option maxRecDepth 100000 in
theorem r_Model_secondary {d : Nat} {Q : cm_Q} {h : cm_H} {a0 : Nat} {x1 : Int} {x2 : Int} (p_a0 : 0 < a0) (H : (∀ h1 : cm_H, h1 = ch_u h a0 0 0 → (cU d m_Model_laysPrimary [vR 12 a0] h1 fun h2 => (((ch_I h2 a0 42) = 0 → Q (some (vI (-1))) h2) ∧ (¬ (ch_I h2 a0 42) = 0 → (cm_i ((ch_I h2 a0 50) - 1) ∧ (cI d m_Model_within [vI x1, vI 0, vI ((ch_I h2 a0 50) - 1)] h2 fun v5 h4 => ((v5 = 0 → Q (some (vI (-1))) h4) ∧ (¬ v5 = 0 → (cI d m_Model_within [vI x2, vI 0, vI 1] h4 fun v7 h6 => ((¬ v7 = 0 → ((¬ x2 = 0 → (0 < ((ch_R h6 a0 52)) ∧ ((0:Int) ≤ x1 ∧ x1 < ch_L h6 (ch_R h6 a0 52)) ∧ Q (some (vI (ch_I h6 (ch_R h6 a0 52) x1))) h6)) ∧ (x2 = 0 → (0 < ((ch_R h6 a0 51)) ∧ ((0:Int) ≤ x1 ∧ x1 < ch_L h6 (ch_R h6 a0 51)) ∧ Q (some (vI (ch_I h6 (ch_R h6 a0 51) x1))) h6)))) ∧ (v7 = 0 → Q (some (vI (-1))) h6)))))))))))) : cm_call (d + 1) m_Model_secondary [vR 12 a0, vI x1, vI x2] h Q := by
  refine cm_call_in (C := cd_Model_secondary) (ls := [some (vR 12 a0), some (vI x1), some (vI x2)]) rfl rfl p_a0 rfl ?_
  refine w_aload rfl rfl ?_
  refine w_iconst rfl ⟨by decide, by decide⟩ ?_
  refine w_putI 0 rfl rfl rfl p_a0 (fun h1 eh1 => ?_)
  replace H := H h1 eh1
  refine w_aload rfl rfl ?_
  refine w_callU rfl (fun _ => rfl) rfl (cU_mono H fun h2 H => ?_)
  refine w_aload rfl rfl ?_
  refine w_getI 42 rfl rfl rfl p_a0 ?_
  refine w_if rfl (And.intro (fun hc => ?_) (fun hc => ?_))
  · replace H := H.1 hc
    refine w_iconst rfl ⟨by decide, by decide⟩ ?_
    exact w_ireturn rfl H
  · replace H := H.2 hc
    refine w_iload rfl rfl ?_
    refine w_iconst rfl ⟨by decide, by decide⟩ ?_
    refine w_aload rfl rfl ?_
    refine w_getI 50 rfl rfl rfl p_a0 ?_
    refine w_iconst rfl ⟨by decide, by decide⟩ ?_
    have o3 := H.1
    replace H := H.2
    refine w_isub rfl o3 ?_
    refine w_callI rfl (fun _ => rfl) rfl (cI_mono H fun v5 h4 H => ?_)
    refine w_if rfl (And.intro (fun hc => ?_) (fun hc => ?_))
    · replace H := H.1 hc
      refine w_iconst rfl ⟨by decide, by decide⟩ ?_
      exact w_ireturn rfl H
    · replace H := H.2 hc
      refine w_iload rfl rfl ?_
      refine w_iconst rfl ⟨by decide, by decide⟩ ?_
      refine w_iconst rfl ⟨by decide, by decide⟩ ?_
      refine w_callI rfl (fun _ => rfl) rfl (cI_mono H fun v7 h6 H => ?_)
      refine w_if rfl (And.intro (fun hc => ?_) (fun hc => ?_))
      · replace H := H.1 hc
        refine w_iload rfl rfl ?_
        refine w_if rfl (And.intro (fun hc => ?_) (fun hc => ?_))
        · replace H := H.1 hc
          refine w_aload rfl rfl ?_
          refine w_getR 52 20 rfl rfl rfl rfl p_a0 ?_
          refine w_iload rfl rfl ?_
          have o8 := H.1
          replace H := H.2
          have o9 := H.1
          replace H := H.2
          refine w_iaload rfl o8 o9 ?_
          exact w_ireturn rfl H
        · replace H := H.2 hc
          refine w_aload rfl rfl ?_
          refine w_getR 51 20 rfl rfl rfl rfl p_a0 ?_
          refine w_iload rfl rfl ?_
          have o10 := H.1
          replace H := H.2
          have o11 := H.1
          replace H := H.2
          refine w_iaload rfl o10 o11 ?_
          refine w_goto rfl ?_
          exact w_ireturn rfl H
      · replace H := H.2 hc
        refine w_iconst rfl ⟨by decide, by decide⟩ ?_
        exact w_ireturn rfl H
set_option maxHeartbeats 4000000 in
set_option maxRecDepth 100000 in
theorem r_Model_numerator_32 {d : Nat} {Q : cm_Q} {h : cm_H} {a0 : Nat} {x1 : Int} {x2 : Int} {x3 : Int} (p_a0 : 0 < a0) (H : (((ch_I h a0 50) ≤ x3 → Q (some (vI x2)) h) ∧ (x3 < (ch_I h a0 50) → (0 < ((ch_R h a0 51)) ∧ ((0:Int) ≤ x3 ∧ x3 < ch_L h (ch_R h a0 51)) ∧ ((¬ (ch_I h (ch_R h a0 51) x3) = x1 → (cm_i (x2 + 0) ∧ (cm_i (x3 + 1) ∧ cw d cd_Model_numerator Q 32 [some (vR 12 a0), some (vI x1), some (vI (x2 + 0)), some (vI (x3 + 1))] [] h))) ∧ ((ch_I h (ch_R h a0 51) x3) = x1 → (cm_i (x2 + 1) ∧ (cm_i (x3 + 1) ∧ cw d cd_Model_numerator Q 32 [some (vR 12 a0), some (vI x1), some (vI (x2 + 1)), some (vI (x3 + 1))] [] h)))))))) : cw d cd_Model_numerator Q 32 [some (vR 12 a0), some (vI x1), some (vI x2), some (vI x3)] [] h := by
  refine w_iload rfl rfl ?_
  refine w_aload rfl rfl ?_
  refine w_getI 50 rfl rfl rfl p_a0 ?_
  refine w_icmp rfl (And.intro (fun hc => ?_) (fun hc => ?_))
  · replace H := H.1 hc
    refine w_iload rfl rfl ?_
    exact w_ireturn rfl H
  · replace H := H.2 hc
    refine w_iload rfl rfl ?_
    refine w_aload rfl rfl ?_
    refine w_getR 51 20 rfl rfl rfl rfl p_a0 ?_
    refine w_iload rfl rfl ?_
    have o1 := H.1
    replace H := H.2
    have o2 := H.1
    replace H := H.2
    refine w_iaload rfl o1 o2 ?_
    refine w_iload rfl rfl ?_
    refine w_icmp rfl (And.intro (fun hc => ?_) (fun hc => ?_))
    · replace H := H.1 hc
      refine w_iconst rfl ⟨by decide, by decide⟩ ?_
      have o3 := H.1
      replace H := H.2
      refine w_iadd rfl o3 ?_
      refine w_istore rfl rfl ?_
      have o4 := H.1
      replace H := H.2
      refine w_iinc rfl rfl rfl o4 ?_
      refine w_goto rfl ?_
      exact H
    · replace H := H.2 hc
      refine w_iconst rfl ⟨by decide, by decide⟩ ?_
      refine w_goto rfl ?_
      have o5 := H.1
      replace H := H.2
      refine w_iadd rfl o5 ?_
      refine w_istore rfl rfl ?_
      have o6 := H.1
      replace H := H.2
      refine w_iinc rfl rfl rfl o6 ?_
      refine w_goto rfl ?_
      exact H
set_option maxHeartbeats 4000000 in
set_option maxRecDepth 100000 in
theorem r_Model_numerator {d : Nat} {Q : cm_Q} {h : cm_H} {a0 : Nat} {x1 : Int} (p_a0 : 0 < a0) (H : (∀ h1 : cm_H, h1 = ch_u h a0 0 0 → (cU d m_Model_laysPrimary [vR 12 a0] h1 fun h2 => (((ch_I h2 a0 42) = 0 → Q (some (vI (-1))) h2) ∧ (¬ (ch_I h2 a0 42) = 0 → (cI d m_Model_within [vI x1, vI 0, vI 15] h2 fun v4 h3 => ((¬ v4 = 0 → cw d cd_Model_numerator Q 32 [some (vR 12 a0), some (vI x1), some (vI 0), some (vI 0)] [] h3) ∧ (v4 = 0 → Q (some (vI (-1))) h3)))))))) : cm_call (d + 1) m_Model_numerator [vR 12 a0, vI x1] h Q := by
  refine cm_call_in (C := cd_Model_numerator) (ls := [some (vR 12 a0), some (vI x1), none, none]) rfl rfl p_a0 rfl ?_
  refine w_aload rfl rfl ?_
  refine w_iconst rfl ⟨by decide, by decide⟩ ?_
  refine w_putI 0 rfl rfl rfl p_a0 (fun h1 eh1 => ?_)
  replace H := H h1 eh1
  refine w_aload rfl rfl ?_
  refine w_callU rfl (fun _ => rfl) rfl (cU_mono H fun h2 H => ?_)
  refine w_aload rfl rfl ?_
  refine w_getI 42 rfl rfl rfl p_a0 ?_
  refine w_if rfl (And.intro (fun hc => ?_) (fun hc => ?_))
  · replace H := H.1 hc
    refine w_iconst rfl ⟨by decide, by decide⟩ ?_
    exact w_ireturn rfl H
  · replace H := H.2 hc
    refine w_iload rfl rfl ?_
    refine w_iconst rfl ⟨by decide, by decide⟩ ?_
    refine w_iconst rfl ⟨by decide, by decide⟩ ?_
    refine w_callI rfl (fun _ => rfl) rfl (cI_mono H fun v4 h3 H => ?_)
    refine w_if rfl (And.intro (fun hc => ?_) (fun hc => ?_))
    · replace H := H.1 hc
      refine w_iconst rfl ⟨by decide, by decide⟩ ?_
      refine w_istore rfl rfl ?_
      refine w_iconst rfl ⟨by decide, by decide⟩ ?_
      refine w_istore rfl rfl ?_
      exact H
    · replace H := H.2 hc
      refine w_iconst rfl ⟨by decide, by decide⟩ ?_
      exact w_ireturn rfl H
set_option maxHeartbeats 4000000 in
set_option maxRecDepth 100000 in
theorem r_Model_solves_15 {d : Nat} {Q : cm_Q} {h : cm_H} {a0 : Nat} {a1 : Nat} {x2 : Int} {x3 : Int} {x4 : Int} {z5 : Option cm_V} {z6 : Option cm_V}  (H : ((x3 < x4 → Q none h) ∧ (x4 ≤ x3 → (cI d m_Model_from [vR 12 a0, vI x4] h fun v2 h1 => cw d cd_Model_solves Q 32 [some (vR 12 a0), some (vR 20 a1), some (vI x2), some (vI x3), some (vI x4), some (vI 0), some (vI v2)] [] h1)))) : cw d cd_Model_solves Q 15 [some (vR 12 a0), some (vR 20 a1), some (vI x2), some (vI x3), some (vI x4), z5, z6] [] h := by
  refine w_iload rfl rfl ?_
  refine w_iload rfl rfl ?_
  refine w_icmp rfl (And.intro (fun hc => ?_) (fun hc => ?_))
  · replace H := H.1 hc
    exact w_return rfl H
  · replace H := H.2 hc
    refine w_iconst rfl ⟨by decide, by decide⟩ ?_
    refine w_istore rfl rfl ?_
    refine w_aload rfl rfl ?_
    refine w_iload rfl rfl ?_
    refine w_callI rfl (fun _ => rfl) rfl (cI_mono H fun v2 h1 H => ?_)
    refine w_istore rfl rfl ?_
    exact H
set_option maxHeartbeats 4000000 in
set_option maxRecDepth 100000 in
theorem r_Model_solves_32 {d : Nat} {Q : cm_Q} {h : cm_H} {a0 : Nat} {a1 : Nat} {x2 : Int} {x3 : Int} {x4 : Int} {x5 : Int} {x6 : Int} (p_a1 : 0 < a1) (H : (cm_i (x4 + 1) ∧ (cI d m_Model_from [vR 12 a0, vI (x4 + 1)] h fun v3 h2 => ((v3 ≤ x6 → ((x5 = 0 → cw d cd_Model_solves Q 15 [some (vR 12 a0), some (vR 20 a1), some (vI x2), some (vI x3), some (vI (x4 + 1)), some (vI x5), some (vI x6)] [] h2) ∧ (¬ x5 = 0 → (cU d m_Model_solvesDegree [vR 12 a0, vR 20 a1, vI x2, vI x4] h2 fun h4 => cw d cd_Model_solves Q 15 [some (vR 12 a0), some (vR 20 a1), some (vI x2), some (vI x3), some (vI (x4 + 1)), some (vI x5), some (vI x6)] [] h4)))) ∧ (x6 < v3 → ((¬ x5 = 0 → (cm_i (x6 + 1) ∧ cw d cd_Model_solves Q 32 [some (vR 12 a0), some (vR 20 a1), some (vI x2), some (vI x3), some (vI x4), some (vI 1), some (vI (x6 + 1))] [] h2)) ∧ (x5 = 0 → (cm_i (x2 + x6) ∧ ((0:Int) ≤ (x2 + x6) ∧ (x2 + x6) < ch_L h2 a1) ∧ (((ch_I h2 a1 (x2 + x6)) = 0 → (cm_i (x6 + 1) ∧ cw d cd_Model_solves Q 32 [some (vR 12 a0), some (vR 20 a1), some (vI x2), some (vI x3), some (vI x4), some (vI 0), some (vI (x6 + 1))] [] h2)) ∧ (¬ (ch_I h2 a1 (x2 + x6)) = 0 → (cm_i (x6 + 1) ∧ cw d cd_Model_solves Q 32 [some (vR 12 a0), some (vR 20 a1), some (vI x2), some (vI x3), some (vI x4), some (vI 1), some (vI (x6 + 1))] [] h2))))))))))) : cw d cd_Model_solves Q 32 [some (vR 12 a0), some (vR 20 a1), some (vI x2), some (vI x3), some (vI x4), some (vI x5), some (vI x6)] [] h := by
  refine w_iload rfl rfl ?_
  refine w_aload rfl rfl ?_
  refine w_iload rfl rfl ?_
  refine w_iconst rfl ⟨by decide, by decide⟩ ?_
  have o1 := H.1
  replace H := H.2
  refine w_iadd rfl o1 ?_
  refine w_callI rfl (fun _ => rfl) rfl (cI_mono H fun v3 h2 H => ?_)
  refine w_icmp rfl (And.intro (fun hc => ?_) (fun hc => ?_))
  · replace H := H.1 hc
    refine w_iload rfl rfl ?_
    refine w_if rfl (And.intro (fun hc => ?_) (fun hc => ?_))
    · replace H := H.1 hc
      refine w_iinc rfl rfl rfl o1 ?_
      refine w_goto rfl ?_
      exact H
    · replace H := H.2 hc
      refine w_aload rfl rfl ?_
      refine w_aload rfl rfl ?_
      refine w_iload rfl rfl ?_
      refine w_iload rfl rfl ?_
      refine w_callU rfl (fun _ => rfl) rfl (cU_mono H fun h4 H => ?_)
      refine w_iinc rfl rfl rfl o1 ?_
      refine w_goto rfl ?_
      exact H
  · replace H := H.2 hc
    refine w_iload rfl rfl ?_
    refine w_if rfl (And.intro (fun hc => ?_) (fun hc => ?_))
    · replace H := H.1 hc
      refine w_iconst rfl ⟨by decide, by decide⟩ ?_
      refine w_goto rfl ?_
      refine w_istore rfl rfl ?_
      have o5 := H.1
      replace H := H.2
      refine w_iinc rfl rfl rfl o5 ?_
      refine w_goto rfl ?_
      exact H
    · replace H := H.2 hc
      refine w_aload rfl rfl ?_
      refine w_iload rfl rfl ?_
      refine w_iload rfl rfl ?_
      have o6 := H.1
      replace H := H.2
      refine w_iadd rfl o6 ?_
      have o7 := H.1
      replace H := H.2
      refine w_iaload rfl p_a1 o7 ?_
      refine w_if rfl (And.intro (fun hc => ?_) (fun hc => ?_))
      · replace H := H.1 hc
        refine w_iconst rfl ⟨by decide, by decide⟩ ?_
        refine w_istore rfl rfl ?_
        have o8 := H.1
        replace H := H.2
        refine w_iinc rfl rfl rfl o8 ?_
        refine w_goto rfl ?_
        exact H
      · replace H := H.2 hc
        refine w_iconst rfl ⟨by decide, by decide⟩ ?_
        refine w_goto rfl ?_
        refine w_istore rfl rfl ?_
        have o9 := H.1
        replace H := H.2
        refine w_iinc rfl rfl rfl o9 ?_
        refine w_goto rfl ?_
        exact H
set_option maxHeartbeats 4000000 in
set_option maxRecDepth 100000 in
theorem r_Model_solves {d : Nat} {Q : cm_Q} {h : cm_H} {a0 : Nat} {a1 : Nat} {x2 : Int} (p_a0 : 0 < a0) (H : (∀ h1 : cm_H, h1 = ch_u h a0 60 0 → (cI d m_Model_degree [vR 12 a0, vR 20 a1, vI x2] h1 fun v3 h2 => cw d cd_Model_solves Q 15 [some (vR 12 a0), some (vR 20 a1), some (vI x2), some (vI v3), some (vI 0), none, none] [] h2))) : cm_call (d + 1) m_Model_solves [vR 12 a0, vR 20 a1, vI x2] h Q := by
  refine cm_call_in (C := cd_Model_solves) (ls := [some (vR 12 a0), some (vR 20 a1), some (vI x2), none, none, none, none]) rfl rfl p_a0 rfl ?_
  refine w_aload rfl rfl ?_
  refine w_iconst rfl ⟨by decide, by decide⟩ ?_
  refine w_putI 60 rfl rfl rfl p_a0 (fun h1 eh1 => ?_)
  replace H := H h1 eh1
  refine w_aload rfl rfl ?_
  refine w_aload rfl rfl ?_
  refine w_iload rfl rfl ?_
  refine w_callI rfl (fun _ => rfl) rfl (cI_mono H fun v3 h2 H => ?_)
  refine w_istore rfl rfl ?_
  refine w_iconst rfl ⟨by decide, by decide⟩ ?_
  refine w_istore rfl rfl ?_
  exact H
set_option maxHeartbeats 4000000 in
set_option maxRecDepth 100000 in
theorem r_Model_solvesDegree_15 {d : Nat} {Q : cm_Q} {h : cm_H} {a0 : Nat} {a1 : Nat} {x2 : Int} {x3 : Int} {x4 : Int} {x5 : Int} {z6 : Option cm_V} {z7 : Option cm_V} {z8 : Option cm_V} {z9 : Option cm_V} (p_a0 : 0 < a0) (H : (((ch_I h a0 53) ≤ x5 → cw d cd_Model_solvesDegree Q 76 [some (vR 12 a0), some (vR 20 a1), some (vI x2), some (vI x3), some (vI x4), some (vI 0), z6, z7, z8, z9] [] h) ∧ (x5 < (ch_I h a0 53) → cw d cd_Model_solvesDegree Q 27 [some (vR 12 a0), some (vR 20 a1), some (vI x2), some (vI x3), some (vI x4), some (vI x5), some (vI 0), z7, z8, z9] [] h))) : cw d cd_Model_solvesDegree Q 15 [some (vR 12 a0), some (vR 20 a1), some (vI x2), some (vI x3), some (vI x4), some (vI x5), z6, z7, z8, z9] [] h := by
  refine w_iload rfl rfl ?_
  refine w_aload rfl rfl ?_
  refine w_getI 53 rfl rfl rfl p_a0 ?_
  refine w_icmp rfl (And.intro (fun hc => ?_) (fun hc => ?_))
  · replace H := H.1 hc
    refine w_iconst rfl ⟨by decide, by decide⟩ ?_
    refine w_istore rfl rfl ?_
    exact H
  · replace H := H.2 hc
    refine w_iconst rfl ⟨by decide, by decide⟩ ?_
    refine w_istore rfl rfl ?_
    exact H
set_option maxHeartbeats 4000000 in
set_option maxRecDepth 100000 in
theorem r_Model_solvesDegree_27 {d : Nat} {Q : cm_Q} {h : cm_H} {a0 : Nat} {a1 : Nat} {x2 : Int} {x3 : Int} {x4 : Int} {x5 : Int} {x6 : Int} {z7 : Option cm_V} {z8 : Option cm_V} {z9 : Option cm_V} (p_a0 : 0 < a0) (H : ((x4 ≤ x6 → (cm_i (x5 + 1) ∧ cw d cd_Model_solvesDegree Q 15 [some (vR 12 a0), some (vR 20 a1), some (vI x2), some (vI x3), some (vI x4), some (vI (x5 + 1)), some (vI x6), z7, z8, z9] [] h)) ∧ (x6 < x4 → (cm_i (x4 * x5) ∧ (cm_i ((x4 * x5) + x6) ∧ (cm_i (160 * x5) ∧ (cm_i ((160 * x5) + x6) ∧ (0 < ((ch_R h a0 32)) ∧ ((0:Int) ≤ ((160 * x5) + x6) ∧ ((160 * x5) + x6) < ch_L h (ch_R h a0 32)) ∧ (0 < ((ch_R h a0 62)) ∧ ((0:Int) ≤ ((x4 * x5) + x6) ∧ ((x4 * x5) + x6) < ch_L h (ch_R h a0 62)) ∧ (∀ h10 : cm_H, h10 = ch_u h (ch_R h a0 62) ((x4 * x5) + x6) (ch_I h (ch_R h a0 32) ((160 * x5) + x6)) → (cm_i (x6 + 1) ∧ cw d cd_Model_solvesDegree Q 27 [some (vR 12 a0), some (vR 20 a1), some (vI x2), some (vI x3), some (vI x4), some (vI x5), some (vI (x6 + 1)), z7, z8, z9] [] h10))))))))))) : cw d cd_Model_solvesDegree Q 27 [some (vR 12 a0), some (vR 20 a1), some (vI x2), some (vI x3), some (vI x4), some (vI x5), some (vI x6), z7, z8, z9] [] h := by
  refine w_iload rfl rfl ?_
  refine w_iload rfl rfl ?_
  refine w_icmp rfl (And.intro (fun hc => ?_) (fun hc => ?_))
  · replace H := H.1 hc
    have o1 := H.1
    replace H := H.2
    refine w_iinc rfl rfl rfl o1 ?_
    refine w_goto rfl ?_
    exact H
  · replace H := H.2 hc
    refine w_aload rfl rfl ?_
    refine w_getR 62 20 rfl rfl rfl rfl p_a0 ?_
    refine w_iload rfl rfl ?_
    refine w_iload rfl rfl ?_
    have o2 := H.1
    replace H := H.2
    refine w_imul rfl o2 ?_
    refine w_iload rfl rfl ?_
    have o3 := H.1
    replace H := H.2
    refine w_iadd rfl o3 ?_
    refine w_aload rfl rfl ?_
    refine w_getR 32 20 rfl rfl rfl rfl p_a0 ?_
    refine w_iconst rfl ⟨by decide, by decide⟩ ?_
    refine w_iload rfl rfl ?_
    have o4 := H.1
    replace H := H.2
    refine w_imul rfl o4 ?_
    refine w_iload rfl rfl ?_
    have o5 := H.1
    replace H := H.2
    refine w_iadd rfl o5 ?_
    have o6 := H.1
    replace H := H.2
    have o7 := H.1
    replace H := H.2
    refine w_iaload rfl o6 o7 ?_
    have o8 := H.1
    replace H := H.2
    have o9 := H.1
    replace H := H.2
    refine w_iastore rfl o8 o9 (fun h10 eh10 => ?_)
    replace H := H h10 eh10
    have o11 := H.1
    replace H := H.2
    refine w_iinc rfl rfl rfl o11 ?_
    refine w_goto rfl ?_
    exact H
set_option maxHeartbeats 4000000 in
set_option maxRecDepth 100000 in
theorem r_Model_solvesDegree_76 {d : Nat} {Q : cm_Q} {h : cm_H} {a0 : Nat} {a1 : Nat} {x2 : Int} {x3 : Int} {x4 : Int} {x5 : Int} {z6 : Option cm_V} {z7 : Option cm_V} {z8 : Option cm_V} {z9 : Option cm_V} (p_a0 : 0 < a0) (H : ((x4 ≤ x5 → (cI d m_Model_steps [vR 12 a0, vI x4, vI (ch_I h a0 53)] h fun v2 h1 => cw d cd_Model_solvesDegree Q 183 [some (vR 12 a0), some (vR 20 a1), some (vI x2), some (vI x3), some (vI x4), some (vI v2), some (vI 0), z7, z8, z9] [] h1)) ∧ (x5 < x4 → (cU d m_Model_clearsRow [vR 12 a0, vI x5] h fun h3 => cw d cd_Model_solvesDegree Q 92 [some (vR 12 a0), some (vR 20 a1), some (vI x2), some (vI x3), some (vI x4), some (vI x5), some (vI 0), z7, z8, z9] [] h3)))) : cw d cd_Model_solvesDegree Q 76 [some (vR 12 a0), some (vR 20 a1), some (vI x2), some (vI x3), some (vI x4), some (vI x5), z6, z7, z8, z9] [] h := by
  refine w_iload rfl rfl ?_
  refine w_iload rfl rfl ?_
  refine w_icmp rfl (And.intro (fun hc => ?_) (fun hc => ?_))
  · replace H := H.1 hc
    refine w_aload rfl rfl ?_
    refine w_iload rfl rfl ?_
    refine w_aload rfl rfl ?_
    refine w_getI 53 rfl rfl rfl p_a0 ?_
    refine w_callI rfl (fun _ => rfl) rfl (cI_mono H fun v2 h1 H => ?_)
    refine w_istore rfl rfl ?_
    refine w_iconst rfl ⟨by decide, by decide⟩ ?_
    refine w_istore rfl rfl ?_
    exact H
  · replace H := H.2 hc
    refine w_aload rfl rfl ?_
    refine w_iload rfl rfl ?_
    refine w_callU rfl (fun _ => rfl) rfl (cU_mono H fun h3 H => ?_)
    refine w_iconst rfl ⟨by decide, by decide⟩ ?_
    refine w_istore rfl rfl ?_
    exact H
set_option maxHeartbeats 4000000 in
set_option maxRecDepth 100000 in
theorem r_Model_solvesDegree_92 {d : Nat} {Q : cm_Q} {h : cm_H} {a0 : Nat} {a1 : Nat} {x2 : Int} {x3 : Int} {x4 : Int} {x5 : Int} {x6 : Int} {z7 : Option cm_V} {z8 : Option cm_V} {z9 : Option cm_V} (p_a0 : 0 < a0) (p_a1 : 0 < a1) (H : (((ch_I h a0 53) ≤ x6 → (cm_i (160 * x5) ∧ (cm_i ((160 * x5) + (ch_I h a0 53)) ∧ (cI d m_Model_from [vR 12 a0, vI x3] h fun v4 h3 => (cm_i (x2 + v4) ∧ (cm_i ((x2 + v4) + x5) ∧ ((0:Int) ≤ ((x2 + v4) + x5) ∧ ((x2 + v4) + x5) < ch_L h3 a1) ∧ (0 < ((ch_R h a0 32)) ∧ ((0:Int) ≤ ((160 * x5) + (ch_I h a0 53)) ∧ ((160 * x5) + (ch_I h a0 53)) < ch_L h3 (ch_R h a0 32)) ∧ (∀ h10 : cm_H, h10 = ch_u h3 (ch_R h a0 32) ((160 * x5) + (ch_I h a0 53)) (ch_I h3 a1 ((x2 + v4) + x5)) → (cm_i (x5 + 1) ∧ cw d cd_Model_solvesDegree Q 76 [some (vR 12 a0), some (vR 20 a1), some (vI x2), some (vI x3), some (vI x4), some (vI (x5 + 1)), some (vI x6), z7, z8, z9] [] h10))))))))) ∧ (x6 < (ch_I h a0 53) → (cm_i (160 * x5) ∧ (cm_i ((160 * x5) + x6) ∧ (cm_i (x4 * x6) ∧ (cm_i ((x4 * x6) + x5) ∧ (0 < ((ch_R h a0 62)) ∧ ((0:Int) ≤ ((x4 * x6) + x5) ∧ ((x4 * x6) + x5) < ch_L h (ch_R h a0 62)) ∧ (0 < ((ch_R h a0 32)) ∧ ((0:Int) ≤ ((160 * x5) + x6) ∧ ((160 * x5) + x6) < ch_L h (ch_R h a0 32)) ∧ (∀ h20 : cm_H, h20 = ch_u h (ch_R h a0 32) ((160 * x5) + x6) (ch_I h (ch_R h a0 62) ((x4 * x6) + x5)) → (cm_i (x6 + 1) ∧ cw d cd_Model_solvesDegree Q 92 [some (vR 12 a0), some (vR 20 a1), some (vI x2), some (vI x3), some (vI x4), some (vI x5), some (vI (x6 + 1)), z7, z8, z9] [] h20))))))))))) : cw d cd_Model_solvesDegree Q 92 [some (vR 12 a0), some (vR 20 a1), some (vI x2), some (vI x3), some (vI x4), some (vI x5), some (vI x6), z7, z8, z9] [] h := by
  refine w_iload rfl rfl ?_
  refine w_aload rfl rfl ?_
  refine w_getI 53 rfl rfl rfl p_a0 ?_
  refine w_icmp rfl (And.intro (fun hc => ?_) (fun hc => ?_))
  · replace H := H.1 hc
    refine w_aload rfl rfl ?_
    refine w_getR 32 20 rfl rfl rfl rfl p_a0 ?_
    refine w_iconst rfl ⟨by decide, by decide⟩ ?_
    refine w_iload rfl rfl ?_
    have o1 := H.1
    replace H := H.2
    refine w_imul rfl o1 ?_
    refine w_aload rfl rfl ?_
    refine w_getI 53 rfl rfl rfl p_a0 ?_
    have o2 := H.1
    replace H := H.2
    refine w_iadd rfl o2 ?_
    refine w_aload rfl rfl ?_
    refine w_iload rfl rfl ?_
    refine w_aload rfl rfl ?_
    refine w_iload rfl rfl ?_
    refine w_callI rfl (fun _ => rfl) rfl (cI_mono H fun v4 h3 H => ?_)
    have o5 := H.1
    replace H := H.2
    refine w_iadd rfl o5 ?_
    refine w_iload rfl rfl ?_
    have o6 := H.1
    replace H := H.2
    refine w_iadd rfl o6 ?_
    have o7 := H.1
    replace H := H.2
    refine w_iaload rfl p_a1 o7 ?_
    have o8 := H.1
    replace H := H.2
    have o9 := H.1
    replace H := H.2
    refine w_iastore rfl o8 o9 (fun h10 eh10 => ?_)
    replace H := H h10 eh10
    have o11 := H.1
    replace H := H.2
    refine w_iinc rfl rfl rfl o11 ?_
    refine w_goto rfl ?_
    exact H
  · replace H := H.2 hc
    refine w_aload rfl rfl ?_
    refine w_getR 32 20 rfl rfl rfl rfl p_a0 ?_
    refine w_iconst rfl ⟨by decide, by decide⟩ ?_
    refine w_iload rfl rfl ?_
    have o12 := H.1
    replace H := H.2
    refine w_imul rfl o12 ?_
    refine w_iload rfl rfl ?_
    have o13 := H.1
    replace H := H.2
    refine w_iadd rfl o13 ?_
    refine w_aload rfl rfl ?_
    refine w_getR 62 20 rfl rfl rfl rfl p_a0 ?_
    refine w_iload rfl rfl ?_
    refine w_iload rfl rfl ?_
    have o14 := H.1
    replace H := H.2
    refine w_imul rfl o14 ?_
    refine w_iload rfl rfl ?_
    have o15 := H.1
    replace H := H.2
    refine w_iadd rfl o15 ?_
    have o16 := H.1
    replace H := H.2
    have o17 := H.1
    replace H := H.2
    refine w_iaload rfl o16 o17 ?_
    have o18 := H.1
    replace H := H.2
    have o19 := H.1
    replace H := H.2
    refine w_iastore rfl o18 o19 (fun h20 eh20 => ?_)
    replace H := H h20 eh20
    have o21 := H.1
    replace H := H.2
    refine w_iinc rfl rfl rfl o21 ?_
    refine w_goto rfl ?_
    exact H
set_option maxHeartbeats 4000000 in
set_option maxRecDepth 100000 in
theorem r_Model_solvesDegree_183 {d : Nat} {Q : cm_Q} {h : cm_H} {a0 : Nat} {z1 : Option cm_V} {z2 : Option cm_V} {z3 : Option cm_V} {z4 : Option cm_V} {x5 : Int} {x6 : Int} {z7 : Option cm_V} {z8 : Option cm_V} {z9 : Option cm_V} (p_a0 : 0 < a0) (H : ((x5 ≤ x6 → Q none h) ∧ (x6 < x5 → (cm_i (160 * x6) ∧ (cm_i ((160 * x6) + (ch_I h a0 53)) ∧ (0 < ((ch_R h a0 32)) ∧ ((0:Int) ≤ ((160 * x6) + (ch_I h a0 53)) ∧ ((160 * x6) + (ch_I h a0 53)) < ch_L h (ch_R h a0 32)) ∧ (((ch_I h (ch_R h a0 32) ((160 * x6) + (ch_I h a0 53))) = 0 → (cm_i (x6 + 1) ∧ cw d cd_Model_solvesDegree Q 183 [some (vR 12 a0), z1, z2, z3, z4, some (vI x5), some (vI (x6 + 1)), some (vI (ch_I h (ch_R h a0 32) ((160 * x6) + (ch_I h a0 53)))), z8, z9] [] h)) ∧ (¬ (ch_I h (ch_R h a0 32) ((160 * x6) + (ch_I h a0 53))) = 0 → (0 < ((ch_R h a0 33)) ∧ ((0:Int) ≤ x6 ∧ x6 < ch_L h (ch_R h a0 33)) ∧ (cm_i (5 * (ch_I h a0 60)) ∧ (0 < ((ch_R h a0 54)) ∧ ((0:Int) ≤ (ch_I h (ch_R h a0 33) x6) ∧ (ch_I h (ch_R h a0 33) x6) < ch_L h (ch_R h a0 54)) ∧ (0 < ((ch_R h a0 61)) ∧ ((0:Int) ≤ (5 * (ch_I h a0 60)) ∧ (5 * (ch_I h a0 60)) < ch_L h (ch_R h a0 61)) ∧ (∀ h13 : cm_H, h13 = ch_u h (ch_R h a0 61) (5 * (ch_I h a0 60)) (ch_I h (ch_R h a0 54) (ch_I h (ch_R h a0 33) x6)) → (cm_i ((5 * (ch_I h a0 60)) + 1) ∧ (0 < ((ch_R h13 a0 55)) ∧ ((0:Int) ≤ (ch_I h (ch_R h a0 33) x6) ∧ (ch_I h (ch_R h a0 33) x6) < ch_L h13 (ch_R h13 a0 55)) ∧ (0 < ((ch_R h13 a0 61)) ∧ ((0:Int) ≤ ((5 * (ch_I h a0 60)) + 1) ∧ ((5 * (ch_I h a0 60)) + 1) < ch_L h13 (ch_R h13 a0 61)) ∧ (∀ h19 : cm_H, h19 = ch_u h13 (ch_R h13 a0 61) ((5 * (ch_I h a0 60)) + 1) (ch_I h13 (ch_R h13 a0 55) (ch_I h (ch_R h a0 33) x6)) → (cm_i ((5 * (ch_I h a0 60)) + 2) ∧ (0 < ((ch_R h19 a0 56)) ∧ ((0:Int) ≤ (ch_I h (ch_R h a0 33) x6) ∧ (ch_I h (ch_R h a0 33) x6) < ch_L h19 (ch_R h19 a0 56)) ∧ (0 < ((ch_R h19 a0 61)) ∧ ((0:Int) ≤ ((5 * (ch_I h a0 60)) + 2) ∧ ((5 * (ch_I h a0 60)) + 2) < ch_L h19 (ch_R h19 a0 61)) ∧ (∀ h25 : cm_H, h25 = ch_u h19 (ch_R h19 a0 61) ((5 * (ch_I h a0 60)) + 2) (ch_I h19 (ch_R h19 a0 56) (ch_I h (ch_R h a0 33) x6)) → (cm_i ((5 * (ch_I h a0 60)) + 3) ∧ (0 < ((ch_R h25 a0 57)) ∧ ((0:Int) ≤ (ch_I h (ch_R h a0 33) x6) ∧ (ch_I h (ch_R h a0 33) x6) < ch_L h25 (ch_R h25 a0 57)) ∧ (0 < ((ch_R h25 a0 61)) ∧ ((0:Int) ≤ ((5 * (ch_I h a0 60)) + 3) ∧ ((5 * (ch_I h a0 60)) + 3) < ch_L h25 (ch_R h25 a0 61)) ∧ (∀ h31 : cm_H, h31 = ch_u h25 (ch_R h25 a0 61) ((5 * (ch_I h a0 60)) + 3) (ch_I h25 (ch_R h25 a0 57) (ch_I h (ch_R h a0 33) x6)) → (cm_i ((5 * (ch_I h a0 60)) + 4) ∧ (0 < ((ch_R h31 a0 61)) ∧ ((0:Int) ≤ ((5 * (ch_I h a0 60)) + 4) ∧ ((5 * (ch_I h a0 60)) + 4) < ch_L h31 (ch_R h31 a0 61)) ∧ (∀ h35 : cm_H, h35 = ch_u h31 (ch_R h31 a0 61) ((5 * (ch_I h a0 60)) + 4) (ch_I h (ch_R h a0 32) ((160 * x6) + (ch_I h a0 53))) → (cm_i ((ch_I h35 a0 60) + 1) ∧ (∀ h37 : cm_H, h37 = ch_u h35 a0 60 ((ch_I h35 a0 60) + 1) → (cm_i (x6 + 1) ∧ cw d cd_Model_solvesDegree Q 183 [some (vR 12 a0), z1, z2, z3, z4, some (vI x5), some (vI (x6 + 1)), some (vI (ch_I h (ch_R h a0 32) ((160 * x6) + (ch_I h a0 53)))), some (vI (ch_I h (ch_R h a0 33) x6)), some (vI (5 * (ch_I h a0 60)))] [] h37))))))))))))))))))))))))))))))) : cw d cd_Model_solvesDegree Q 183 [some (vR 12 a0), z1, z2, z3, z4, some (vI x5), some (vI x6), z7, z8, z9] [] h := by
  refine w_iload rfl rfl ?_
  refine w_iload rfl rfl ?_
  refine w_icmp rfl (And.intro (fun hc => ?_) (fun hc => ?_))
  · replace H := H.1 hc
    exact w_return rfl H
  · replace H := H.2 hc
    refine w_aload rfl rfl ?_
    refine w_getR 32 20 rfl rfl rfl rfl p_a0 ?_
    refine w_iconst rfl ⟨by decide, by decide⟩ ?_
    refine w_iload rfl rfl ?_
    have o1 := H.1
    replace H := H.2
    refine w_imul rfl o1 ?_
    refine w_aload rfl rfl ?_
    refine w_getI 53 rfl rfl rfl p_a0 ?_
    have o2 := H.1
    replace H := H.2
    refine w_iadd rfl o2 ?_
    have o3 := H.1
    replace H := H.2
    have o4 := H.1
    replace H := H.2
    refine w_iaload rfl o3 o4 ?_
    refine w_istore rfl rfl ?_
    refine w_iload rfl rfl ?_
    refine w_if rfl (And.intro (fun hc => ?_) (fun hc => ?_))
    · replace H := H.1 hc
      have o5 := H.1
      replace H := H.2
      refine w_iinc rfl rfl rfl o5 ?_
      refine w_goto rfl ?_
      exact H
    · replace H := H.2 hc
      refine w_aload rfl rfl ?_
      refine w_getR 33 20 rfl rfl rfl rfl p_a0 ?_
      refine w_iload rfl rfl ?_
      have o6 := H.1
      replace H := H.2
      have o7 := H.1
      replace H := H.2
      refine w_iaload rfl o6 o7 ?_
      refine w_istore rfl rfl ?_
      refine w_iconst rfl ⟨by decide, by decide⟩ ?_
      refine w_aload rfl rfl ?_
      refine w_getI 60 rfl rfl rfl p_a0 ?_
      have o8 := H.1
      replace H := H.2
      refine w_imul rfl o8 ?_
      refine w_istore rfl rfl ?_
      refine w_aload rfl rfl ?_
      refine w_getR 61 20 rfl rfl rfl rfl p_a0 ?_
      refine w_iload rfl rfl ?_
      refine w_aload rfl rfl ?_
      refine w_getR 54 20 rfl rfl rfl rfl p_a0 ?_
      refine w_iload rfl rfl ?_
      have o9 := H.1
      replace H := H.2
      have o10 := H.1
      replace H := H.2
      refine w_iaload rfl o9 o10 ?_
      have o11 := H.1
      replace H := H.2
      have o12 := H.1
      replace H := H.2
      refine w_iastore rfl o11 o12 (fun h13 eh13 => ?_)
      replace H := H h13 eh13
      refine w_aload rfl rfl ?_
      refine w_getR 61 20 rfl rfl rfl rfl p_a0 ?_
      refine w_iload rfl rfl ?_
      refine w_iconst rfl ⟨by decide, by decide⟩ ?_
      have o14 := H.1
      replace H := H.2
      refine w_iadd rfl o14 ?_
      refine w_aload rfl rfl ?_
      refine w_getR 55 20 rfl rfl rfl rfl p_a0 ?_
      refine w_iload rfl rfl ?_
      have o15 := H.1
      replace H := H.2
      have o16 := H.1
      replace H := H.2
      refine w_iaload rfl o15 o16 ?_
      have o17 := H.1
      replace H := H.2
      have o18 := H.1
      replace H := H.2
      refine w_iastore rfl o17 o18 (fun h19 eh19 => ?_)
      replace H := H h19 eh19
      refine w_aload rfl rfl ?_
      refine w_getR 61 20 rfl rfl rfl rfl p_a0 ?_
      refine w_iload rfl rfl ?_
      refine w_iconst rfl ⟨by decide, by decide⟩ ?_
      have o20 := H.1
      replace H := H.2
      refine w_iadd rfl o20 ?_
      refine w_aload rfl rfl ?_
      refine w_getR 56 20 rfl rfl rfl rfl p_a0 ?_
      refine w_iload rfl rfl ?_
      have o21 := H.1
      replace H := H.2
      have o22 := H.1
      replace H := H.2
      refine w_iaload rfl o21 o22 ?_
      have o23 := H.1
      replace H := H.2
      have o24 := H.1
      replace H := H.2
      refine w_iastore rfl o23 o24 (fun h25 eh25 => ?_)
      replace H := H h25 eh25
      refine w_aload rfl rfl ?_
      refine w_getR 61 20 rfl rfl rfl rfl p_a0 ?_
      refine w_iload rfl rfl ?_
      refine w_iconst rfl ⟨by decide, by decide⟩ ?_
      have o26 := H.1
      replace H := H.2
      refine w_iadd rfl o26 ?_
      refine w_aload rfl rfl ?_
      refine w_getR 57 20 rfl rfl rfl rfl p_a0 ?_
      refine w_iload rfl rfl ?_
      have o27 := H.1
      replace H := H.2
      have o28 := H.1
      replace H := H.2
      refine w_iaload rfl o27 o28 ?_
      have o29 := H.1
      replace H := H.2
      have o30 := H.1
      replace H := H.2
      refine w_iastore rfl o29 o30 (fun h31 eh31 => ?_)
      replace H := H h31 eh31
      refine w_aload rfl rfl ?_
      refine w_getR 61 20 rfl rfl rfl rfl p_a0 ?_
      refine w_iload rfl rfl ?_
      refine w_iconst rfl ⟨by decide, by decide⟩ ?_
      have o32 := H.1
      replace H := H.2
      refine w_iadd rfl o32 ?_
      refine w_iload rfl rfl ?_
      have o33 := H.1
      replace H := H.2
      have o34 := H.1
      replace H := H.2
      refine w_iastore rfl o33 o34 (fun h35 eh35 => ?_)
      replace H := H h35 eh35
      refine w_aload rfl rfl ?_
      refine w_dup rfl rfl ?_
      refine w_getI 60 rfl rfl rfl p_a0 ?_
      refine w_iconst rfl ⟨by decide, by decide⟩ ?_
      have o36 := H.1
      replace H := H.2
      refine w_iadd rfl o36 ?_
      refine w_putI 60 rfl rfl rfl p_a0 (fun h37 eh37 => ?_)
      replace H := H h37 eh37
      have o38 := H.1
      replace H := H.2
      refine w_iinc rfl rfl rfl o38 ?_
      refine w_goto rfl ?_
      exact H
set_option maxHeartbeats 4000000 in
set_option maxRecDepth 100000 in
theorem r_Model_solvesDegree {d : Nat} {Q : cm_Q} {h : cm_H} {a0 : Nat} {a1 : Nat} {x2 : Int} {x3 : Int} (p_a0 : 0 < a0) (H : (cI d m_Model_many [vR 12 a0, vI x3] h fun v2 h1 => (cU d m_Model_laysProducts [vR 12 a0, vI x3] h1 fun h3 => cw d cd_Model_solvesDegree Q 15 [some (vR 12 a0), some (vR 20 a1), some (vI x2), some (vI x3), some (vI v2), some (vI 0), none, none, none, none] [] h3))) : cm_call (d + 1) m_Model_solvesDegree [vR 12 a0, vR 20 a1, vI x2, vI x3] h Q := by
  refine cm_call_in (C := cd_Model_solvesDegree) (ls := [some (vR 12 a0), some (vR 20 a1), some (vI x2), some (vI x3), none, none, none, none, none, none]) rfl rfl p_a0 rfl ?_
  refine w_aload rfl rfl ?_
  refine w_iload rfl rfl ?_
  refine w_callI rfl (fun _ => rfl) rfl (cI_mono H fun v2 h1 H => ?_)
  refine w_istore rfl rfl ?_
  refine w_aload rfl rfl ?_
  refine w_iload rfl rfl ?_
  refine w_callU rfl (fun _ => rfl) rfl (cU_mono H fun h3 H => ?_)
  refine w_iconst rfl ⟨by decide, by decide⟩ ?_
  refine w_istore rfl rfl ?_
  exact H
set_option maxHeartbeats 4000000 in
set_option maxRecDepth 100000 in
theorem r_Model_told_3 {d : Nat} {Q : cm_Q} {h : cm_H} {a0 : Nat} {x1 : Int} {x2 : Int} {x3 : Int} {x4 : Int} {x5 : Int} {x6 : Int} (p_a0 : 0 < a0) (H : ((x1 ≤ x6 → Q (some (vI 0)) h) ∧ (x6 < x1 → (cm_i (5 * x6) ∧ ((0:Int) ≤ (5 * x6) ∧ (5 * x6) < ch_L h a0) ∧ ((¬ (ch_I h a0 (5 * x6)) = x2 → (cm_i (x6 + 1) ∧ cw d cd_Model_told Q 3 [some (vR 20 a0), some (vI x1), some (vI x2), some (vI x3), some (vI x4), some (vI x5), some (vI (x6 + 1))] [] h)) ∧ ((ch_I h a0 (5 * x6)) = x2 → (cm_i ((5 * x6) + 1) ∧ ((0:Int) ≤ ((5 * x6) + 1) ∧ ((5 * x6) + 1) < ch_L h a0) ∧ ((¬ (ch_I h a0 ((5 * x6) + 1)) = x3 → (cm_i (x6 + 1) ∧ cw d cd_Model_told Q 3 [some (vR 20 a0), some (vI x1), some (vI x2), some (vI x3), some (vI x4), some (vI x5), some (vI (x6 + 1))] [] h)) ∧ ((ch_I h a0 ((5 * x6) + 1)) = x3 → (cm_i ((5 * x6) + 2) ∧ ((0:Int) ≤ ((5 * x6) + 2) ∧ ((5 * x6) + 2) < ch_L h a0) ∧ ((¬ (ch_I h a0 ((5 * x6) + 2)) = x4 → (cm_i (x6 + 1) ∧ cw d cd_Model_told Q 3 [some (vR 20 a0), some (vI x1), some (vI x2), some (vI x3), some (vI x4), some (vI x5), some (vI (x6 + 1))] [] h)) ∧ ((ch_I h a0 ((5 * x6) + 2)) = x4 → (cm_i ((5 * x6) + 3) ∧ ((0:Int) ≤ ((5 * x6) + 3) ∧ ((5 * x6) + 3) < ch_L h a0) ∧ ((¬ (ch_I h a0 ((5 * x6) + 3)) = x5 → (cm_i (x6 + 1) ∧ cw d cd_Model_told Q 3 [some (vR 20 a0), some (vI x1), some (vI x2), some (vI x3), some (vI x4), some (vI x5), some (vI (x6 + 1))] [] h)) ∧ ((ch_I h a0 ((5 * x6) + 3)) = x5 → (cm_i ((5 * x6) + 4) ∧ ((0:Int) ≤ ((5 * x6) + 4) ∧ ((5 * x6) + 4) < ch_L h a0) ∧ Q (some (vI (ch_I h a0 ((5 * x6) + 4)))) h)))))))))))))))) : cw d cd_Model_told Q 3 [some (vR 20 a0), some (vI x1), some (vI x2), some (vI x3), some (vI x4), some (vI x5), some (vI x6)] [] h := by
  refine w_iload rfl rfl ?_
  refine w_iload rfl rfl ?_
  refine w_icmp rfl (And.intro (fun hc => ?_) (fun hc => ?_))
  · replace H := H.1 hc
    refine w_iconst rfl ⟨by decide, by decide⟩ ?_
    exact w_ireturn rfl H
  · replace H := H.2 hc
    refine w_aload rfl rfl ?_
    refine w_iconst rfl ⟨by decide, by decide⟩ ?_
    refine w_iload rfl rfl ?_
    have o1 := H.1
    replace H := H.2
    refine w_imul rfl o1 ?_
    have o2 := H.1
    replace H := H.2
    refine w_iaload rfl p_a0 o2 ?_
    refine w_iload rfl rfl ?_
    refine w_icmp rfl (And.intro (fun hc => ?_) (fun hc => ?_))
    · replace H := H.1 hc
      have o3 := H.1
      replace H := H.2
      refine w_iinc rfl rfl rfl o3 ?_
      refine w_goto rfl ?_
      exact H
    · replace H := H.2 hc
      refine w_aload rfl rfl ?_
      refine w_iconst rfl ⟨by decide, by decide⟩ ?_
      refine w_iload rfl rfl ?_
      refine w_imul rfl o1 ?_
      refine w_iconst rfl ⟨by decide, by decide⟩ ?_
      have o4 := H.1
      replace H := H.2
      refine w_iadd rfl o4 ?_
      have o5 := H.1
      replace H := H.2
      refine w_iaload rfl p_a0 o5 ?_
      refine w_iload rfl rfl ?_
      refine w_icmp rfl (And.intro (fun hc => ?_) (fun hc => ?_))
      · replace H := H.1 hc
        have o6 := H.1
        replace H := H.2
        refine w_iinc rfl rfl rfl o6 ?_
        refine w_goto rfl ?_
        exact H
      · replace H := H.2 hc
        refine w_aload rfl rfl ?_
        refine w_iconst rfl ⟨by decide, by decide⟩ ?_
        refine w_iload rfl rfl ?_
        refine w_imul rfl o1 ?_
        refine w_iconst rfl ⟨by decide, by decide⟩ ?_
        have o7 := H.1
        replace H := H.2
        refine w_iadd rfl o7 ?_
        have o8 := H.1
        replace H := H.2
        refine w_iaload rfl p_a0 o8 ?_
        refine w_iload rfl rfl ?_
        refine w_icmp rfl (And.intro (fun hc => ?_) (fun hc => ?_))
        · replace H := H.1 hc
          have o9 := H.1
          replace H := H.2
          refine w_iinc rfl rfl rfl o9 ?_
          refine w_goto rfl ?_
          exact H
        · replace H := H.2 hc
          refine w_aload rfl rfl ?_
          refine w_iconst rfl ⟨by decide, by decide⟩ ?_
          refine w_iload rfl rfl ?_
          refine w_imul rfl o1 ?_
          refine w_iconst rfl ⟨by decide, by decide⟩ ?_
          have o10 := H.1
          replace H := H.2
          refine w_iadd rfl o10 ?_
          have o11 := H.1
          replace H := H.2
          refine w_iaload rfl p_a0 o11 ?_
          refine w_iload rfl rfl ?_
          refine w_icmp rfl (And.intro (fun hc => ?_) (fun hc => ?_))
          · replace H := H.1 hc
            have o12 := H.1
            replace H := H.2
            refine w_iinc rfl rfl rfl o12 ?_
            refine w_goto rfl ?_
            exact H
          · replace H := H.2 hc
            refine w_aload rfl rfl ?_
            refine w_iconst rfl ⟨by decide, by decide⟩ ?_
            refine w_iload rfl rfl ?_
            refine w_imul rfl o1 ?_
            refine w_iconst rfl ⟨by decide, by decide⟩ ?_
            have o13 := H.1
            replace H := H.2
            refine w_iadd rfl o13 ?_
            have o14 := H.1
            replace H := H.2
            refine w_iaload rfl p_a0 o14 ?_
            exact w_ireturn rfl H
set_option maxHeartbeats 4000000 in
set_option maxRecDepth 100000 in
theorem r_Model_told {d : Nat} {Q : cm_Q} {h : cm_H} {a0 : Nat} {x1 : Int} {x2 : Int} {x3 : Int} {x4 : Int} {x5 : Int}  (H : cw d cd_Model_told Q 3 [some (vR 20 a0), some (vI x1), some (vI x2), some (vI x3), some (vI x4), some (vI x5), some (vI 0)] [] h) : cm_call (d + 1) m_Model_told [vR 20 a0, vI x1, vI x2, vI x3, vI x4, vI x5] h Q := by
  refine cm_call_in (C := cd_Model_told) (ls := [some (vR 20 a0), some (vI x1), some (vI x2), some (vI x3), some (vI x4), some (vI x5), none]) rfl rfl trivial rfl ?_
  refine w_iconst rfl ⟨by decide, by decide⟩ ?_
  refine w_istore rfl rfl ?_
  exact H
set_option maxHeartbeats 4000000 in
set_option maxRecDepth 100000 in
theorem r_Model_rewrite_70 {d : Nat} {Q : cm_Q} {h : cm_H} {a0 : Nat} {z1 : Option cm_V} {x2 : Int} (p_a0 : 0 < a0) (H : (cm_i (5 * (ch_I h a0 60)) ∧ (((5 * (ch_I h a0 60)) ≤ x2 → Q (some (vI (ch_I h a0 60))) h) ∧ (x2 < (5 * (ch_I h a0 60)) → (0 < ((ch_R h a0 61)) ∧ ((0:Int) ≤ x2 ∧ x2 < ch_L h (ch_R h a0 61)) ∧ (0 < ((ch_R h a0 59)) ∧ ((0:Int) ≤ x2 ∧ x2 < ch_L h (ch_R h a0 59)) ∧ (∀ h6 : cm_H, h6 = ch_u h (ch_R h a0 59) x2 (ch_I h (ch_R h a0 61) x2) → (cm_i (x2 + 1) ∧ cw d cd_Model_rewrite Q 70 [some (vR 12 a0), z1, some (vI (x2 + 1))] [] h6)))))))) : cw d cd_Model_rewrite Q 70 [some (vR 12 a0), z1, some (vI x2)] [] h := by
  refine w_iload rfl rfl ?_
  refine w_iconst rfl ⟨by decide, by decide⟩ ?_
  refine w_aload rfl rfl ?_
  refine w_getI 60 rfl rfl rfl p_a0 ?_
  have o1 := H.1
  replace H := H.2
  refine w_imul rfl o1 ?_
  refine w_icmp rfl (And.intro (fun hc => ?_) (fun hc => ?_))
  · replace H := H.1 hc
    refine w_aload rfl rfl ?_
    refine w_getI 60 rfl rfl rfl p_a0 ?_
    exact w_ireturn rfl H
  · replace H := H.2 hc
    refine w_aload rfl rfl ?_
    refine w_getR 59 20 rfl rfl rfl rfl p_a0 ?_
    refine w_iload rfl rfl ?_
    refine w_aload rfl rfl ?_
    refine w_getR 61 20 rfl rfl rfl rfl p_a0 ?_
    refine w_iload rfl rfl ?_
    have o2 := H.1
    replace H := H.2
    have o3 := H.1
    replace H := H.2
    refine w_iaload rfl o2 o3 ?_
    have o4 := H.1
    replace H := H.2
    have o5 := H.1
    replace H := H.2
    refine w_iastore rfl o4 o5 (fun h6 eh6 => ?_)
    replace H := H h6 eh6
    have o7 := H.1
    replace H := H.2
    refine w_iinc rfl rfl rfl o7 ?_
    refine w_goto rfl ?_
    exact H
set_option maxHeartbeats 4000000 in
set_option maxRecDepth 100000 in
theorem r_Model_rewrite {d : Nat} {Q : cm_Q} {h : cm_H} {a0 : Nat} {x1 : Int} (p_a0 : 0 < a0) (H : (∀ h1 : cm_H, h1 = ch_u h a0 0 0 → (cI d m_Model_isKept [vR 12 a0, vI x1] h1 fun v3 h2 => ((¬ v3 = 0 → (cU d m_Model_laysPrimary [vR 12 a0] h2 fun h4 => ((¬ (ch_I h4 a0 42) = 0 → (cm_i (1140 * x1) ∧ (cI d m_Model_isAlone [vR 12 a0, vR 20 (ch_R h4 a0 5), vI (1140 * x1)] h4 fun v7 h6 => ((¬ v7 = 0 → (cU d m_Model_solves [vR 12 a0, vR 20 (ch_R h6 a0 5), vI (1140 * x1)] h6 fun h8 => (∀ h9 : cm_H, h9 = ch_u h8 a0 58 (ch_I h8 a0 60) → cw d cd_Model_rewrite Q 70 [some (vR 12 a0), some (vI x1), some (vI 0)] [] h9))) ∧ (v7 = 0 → Q (some (vI (-2))) h6))))) ∧ ((ch_I h4 a0 42) = 0 → Q (some (vI (-1))) h4)))) ∧ (v3 = 0 → Q (some (vI (-1))) h2))))) : cm_call (d + 1) m_Model_rewrite [vR 12 a0, vI x1] h Q := by
  refine cm_call_in (C := cd_Model_rewrite) (ls := [some (vR 12 a0), some (vI x1), none]) rfl rfl p_a0 rfl ?_
  refine w_aload rfl rfl ?_
  refine w_iconst rfl ⟨by decide, by decide⟩ ?_
  refine w_putI 0 rfl rfl rfl p_a0 (fun h1 eh1 => ?_)
  replace H := H h1 eh1
  refine w_aload rfl rfl ?_
  refine w_iload rfl rfl ?_
  refine w_callI rfl (fun _ => rfl) rfl (cI_mono H fun v3 h2 H => ?_)
  refine w_if rfl (And.intro (fun hc => ?_) (fun hc => ?_))
  · replace H := H.1 hc
    refine w_aload rfl rfl ?_
    refine w_callU rfl (fun _ => rfl) rfl (cU_mono H fun h4 H => ?_)
    refine w_aload rfl rfl ?_
    refine w_getI 42 rfl rfl rfl p_a0 ?_
    refine w_if rfl (And.intro (fun hc => ?_) (fun hc => ?_))
    · replace H := H.1 hc
      refine w_aload rfl rfl ?_
      refine w_aload rfl rfl ?_
      refine w_getR 5 20 rfl rfl rfl rfl p_a0 ?_
      refine w_iconst rfl ⟨by decide, by decide⟩ ?_
      refine w_iload rfl rfl ?_
      have o5 := H.1
      replace H := H.2
      refine w_imul rfl o5 ?_
      refine w_callI rfl (fun _ => rfl) rfl (cI_mono H fun v7 h6 H => ?_)
      refine w_if rfl (And.intro (fun hc => ?_) (fun hc => ?_))
      · replace H := H.1 hc
        refine w_aload rfl rfl ?_
        refine w_aload rfl rfl ?_
        refine w_getR 5 20 rfl rfl rfl rfl p_a0 ?_
        refine w_iconst rfl ⟨by decide, by decide⟩ ?_
        refine w_iload rfl rfl ?_
        refine w_imul rfl o5 ?_
        refine w_callU rfl (fun _ => rfl) rfl (cU_mono H fun h8 H => ?_)
        refine w_aload rfl rfl ?_
        refine w_aload rfl rfl ?_
        refine w_getI 60 rfl rfl rfl p_a0 ?_
        refine w_putI 58 rfl rfl rfl p_a0 (fun h9 eh9 => ?_)
        replace H := H h9 eh9
        refine w_iconst rfl ⟨by decide, by decide⟩ ?_
        refine w_istore rfl rfl ?_
        exact H
      · replace H := H.2 hc
        refine w_iconst rfl ⟨by decide, by decide⟩ ?_
        exact w_ireturn rfl H
    · replace H := H.2 hc
      refine w_iconst rfl ⟨by decide, by decide⟩ ?_
      exact w_ireturn rfl H
  · replace H := H.2 hc
    refine w_iconst rfl ⟨by decide, by decide⟩ ?_
    exact w_ireturn rfl H
set_option maxHeartbeats 4000000 in
set_option maxRecDepth 100000 in
theorem r_Model_arePowers {d : Nat} {Q : cm_Q} {h : cm_H} {a0 : Nat} {x1 : Int} {x2 : Int} {x3 : Int} {x4 : Int} (p_a0 : 0 < a0) (H : (cm_i ((ch_I h a0 50) - 1) ∧ (cI d m_Model_within [vI x1, vI 0, vI ((ch_I h a0 50) - 1)] h fun v3 h2 => ((v3 = 0 → Q (some (vI 0)) h2) ∧ (¬ v3 = 0 → ((x2 < 0 → Q (some (vI 0)) h2) ∧ (0 ≤ x2 → ((x3 < 0 → Q (some (vI 0)) h2) ∧ (0 ≤ x3 → ((x4 < 0 → Q (some (vI 0)) h2) ∧ (0 ≤ x4 → (((ch_I h2 a0 1) = 3 → Q (some (vI 1)) h2) ∧ (¬ (ch_I h2 a0 1) = 3 → ((¬ x4 = 0 → Q (some (vI 0)) h2) ∧ (x4 = 0 → Q (some (vI 1)) h2))))))))))))))) : cm_call (d + 1) m_Model_arePowers [vR 12 a0, vI x1, vI x2, vI x3, vI x4] h Q := by
  refine cm_call_in (C := cd_Model_arePowers) (ls := [some (vR 12 a0), some (vI x1), some (vI x2), some (vI x3), some (vI x4)]) rfl rfl p_a0 rfl ?_
  refine w_iload rfl rfl ?_
  refine w_iconst rfl ⟨by decide, by decide⟩ ?_
  refine w_aload rfl rfl ?_
  refine w_getI 50 rfl rfl rfl p_a0 ?_
  refine w_iconst rfl ⟨by decide, by decide⟩ ?_
  have o1 := H.1
  replace H := H.2
  refine w_isub rfl o1 ?_
  refine w_callI rfl (fun _ => rfl) rfl (cI_mono H fun v3 h2 H => ?_)
  refine w_if rfl (And.intro (fun hc => ?_) (fun hc => ?_))
  · replace H := H.1 hc
    refine w_iconst rfl ⟨by decide, by decide⟩ ?_
    exact w_zreturn rfl (by decide) H
  · replace H := H.2 hc
    refine w_iload rfl rfl ?_
    refine w_if rfl (And.intro (fun hc => ?_) (fun hc => ?_))
    · replace H := H.1 hc
      refine w_iconst rfl ⟨by decide, by decide⟩ ?_
      exact w_zreturn rfl (by decide) H
    · replace H := H.2 hc
      refine w_iload rfl rfl ?_
      refine w_if rfl (And.intro (fun hc => ?_) (fun hc => ?_))
      · replace H := H.1 hc
        refine w_iconst rfl ⟨by decide, by decide⟩ ?_
        exact w_zreturn rfl (by decide) H
      · replace H := H.2 hc
        refine w_iload rfl rfl ?_
        refine w_if rfl (And.intro (fun hc => ?_) (fun hc => ?_))
        · replace H := H.1 hc
          refine w_iconst rfl ⟨by decide, by decide⟩ ?_
          exact w_zreturn rfl (by decide) H
        · replace H := H.2 hc
          refine w_aload rfl rfl ?_
          refine w_getI 1 rfl rfl rfl p_a0 ?_
          refine w_iconst rfl ⟨by decide, by decide⟩ ?_
          refine w_icmp rfl (And.intro (fun hc => ?_) (fun hc => ?_))
          · replace H := H.1 hc
            refine w_iconst rfl ⟨by decide, by decide⟩ ?_
            refine w_goto rfl ?_
            exact w_zreturn rfl (by decide) H
          · replace H := H.2 hc
            refine w_iload rfl rfl ?_
            refine w_if rfl (And.intro (fun hc => ?_) (fun hc => ?_))
            · replace H := H.1 hc
              refine w_iconst rfl ⟨by decide, by decide⟩ ?_
              exact w_zreturn rfl (by decide) H
            · replace H := H.2 hc
              refine w_iconst rfl ⟨by decide, by decide⟩ ?_
              refine w_goto rfl ?_
              exact w_zreturn rfl (by decide) H
set_option maxHeartbeats 4000000 in
set_option maxRecDepth 100000 in
theorem r_Model_rewritten {d : Nat} {Q : cm_Q} {h : cm_H} {a0 : Nat} {x1 : Int} {x2 : Int} {x3 : Int} {x4 : Int} (p_a0 : 0 < a0) (H : (∀ h1 : cm_H, h1 = ch_u h a0 0 0 → (((ch_I h1 a0 58) = (-1) → Q (some (vI (-1))) h1) ∧ (¬ (ch_I h1 a0 58) = (-1) → (cI d m_Model_arePowers [vR 12 a0, vI x1, vI x2, vI x3, vI x4] h1 fun v3 h2 => ((¬ v3 = 0 → (cI d m_Model_told [vR 20 (ch_R h2 a0 59), vI (ch_I h2 a0 58), vI x1, vI x2, vI x3, vI x4] h2 fun v5 h4 => Q (some (vI v5)) h4)) ∧ (v3 = 0 → Q (some (vI (-1))) h2))))))) : cm_call (d + 1) m_Model_rewritten [vR 12 a0, vI x1, vI x2, vI x3, vI x4] h Q := by
  refine cm_call_in (C := cd_Model_rewritten) (ls := [some (vR 12 a0), some (vI x1), some (vI x2), some (vI x3), some (vI x4)]) rfl rfl p_a0 rfl ?_
  refine w_aload rfl rfl ?_
  refine w_iconst rfl ⟨by decide, by decide⟩ ?_
  refine w_putI 0 rfl rfl rfl p_a0 (fun h1 eh1 => ?_)
  replace H := H h1 eh1
  refine w_aload rfl rfl ?_
  refine w_getI 58 rfl rfl rfl p_a0 ?_
  refine w_iconst rfl ⟨by decide, by decide⟩ ?_
  refine w_icmp rfl (And.intro (fun hc => ?_) (fun hc => ?_))
  · replace H := H.1 hc
    refine w_iconst rfl ⟨by decide, by decide⟩ ?_
    refine w_goto rfl ?_
    exact w_ireturn rfl H
  · replace H := H.2 hc
    refine w_aload rfl rfl ?_
    refine w_iload rfl rfl ?_
    refine w_iload rfl rfl ?_
    refine w_iload rfl rfl ?_
    refine w_iload rfl rfl ?_
    refine w_callI rfl (fun _ => rfl) rfl (cI_mono H fun v3 h2 H => ?_)
    refine w_if rfl (And.intro (fun hc => ?_) (fun hc => ?_))
    · replace H := H.1 hc
      refine w_aload rfl rfl ?_
      refine w_getR 59 20 rfl rfl rfl rfl p_a0 ?_
      refine w_aload rfl rfl ?_
      refine w_getI 58 rfl rfl rfl p_a0 ?_
      refine w_iload rfl rfl ?_
      refine w_iload rfl rfl ?_
      refine w_iload rfl rfl ?_
      refine w_iload rfl rfl ?_
      refine w_callI rfl (fun _ => rfl) rfl (cI_mono H fun v5 h4 H => ?_)
      exact w_ireturn rfl H
    · replace H := H.2 hc
      refine w_iconst rfl ⟨by decide, by decide⟩ ?_
      refine w_goto rfl ?_
      exact w_ireturn rfl H
set_option maxHeartbeats 4000000 in
set_option maxRecDepth 100000 in
theorem r_Model_relation {d : Nat} {Q : cm_Q} {h : cm_H} {a0 : Nat} {x1 : Int} {x2 : Int} {x3 : Int} {x4 : Int} {x5 : Int} {x6 : Int} (p_a0 : 0 < a0) (H : (∀ h1 : cm_H, h1 = ch_u h a0 0 0 → (cU d m_Model_laysPrimary [vR 12 a0] h1 fun h2 => (((ch_I h2 a0 42) = 0 → Q (some (vI (-1))) h2) ∧ (¬ (ch_I h2 a0 42) = 0 → (cm_i ((ch_I h2 a0 50) - 1) ∧ (cI d m_Model_within [vI x1, vI 0, vI ((ch_I h2 a0 50) - 1)] h2 fun v5 h4 => ((v5 = 0 → Q (some (vI (-1))) h4) ∧ (¬ v5 = 0 → (cm_i ((ch_I h4 a0 50) - 1) ∧ (cI d m_Model_within [vI x2, vI 0, vI ((ch_I h4 a0 50) - 1)] h4 fun v8 h7 => ((v8 = 0 → Q (some (vI (-1))) h7) ∧ (¬ v8 = 0 → (cI d m_Model_arePowers [vR 12 a0, vI x3, vI x4, vI x5, vI x6] h7 fun v10 h9 => ((¬ v10 = 0 → (0 < ((ch_R h9 a0 51)) ∧ ((0:Int) ≤ x1 ∧ x1 < ch_L h9 (ch_R h9 a0 51)) ∧ ((0:Int) ≤ x2 ∧ x2 < ch_L h9 (ch_R h9 a0 51)) ∧ (cm_i ((ch_I h9 (ch_R h9 a0 51) x1) + (ch_I h9 (ch_R h9 a0 51) x2)) ∧ ((((ch_I h9 (ch_R h9 a0 51) x1) + (ch_I h9 (ch_R h9 a0 51) x2)) ≤ 15 → (0 < ((ch_R h9 a0 52)) ∧ ((0:Int) ≤ x1 ∧ x1 < ch_L h9 (ch_R h9 a0 52)) ∧ (cU d m_Model_laysBaseRow [vR 12 a0, vI (ch_I h9 (ch_R h9 a0 51) x1), vI (ch_I h9 (ch_R h9 a0 52) x1), vR 20 (ch_R h9 a0 6), vI 0] h9 fun h17 => (0 < ((ch_R h17 a0 51)) ∧ ((0:Int) ≤ x2 ∧ x2 < ch_L h17 (ch_R h17 a0 51)) ∧ (0 < ((ch_R h17 a0 52)) ∧ ((0:Int) ≤ x2 ∧ x2 < ch_L h17 (ch_R h17 a0 52)) ∧ (cU d m_Model_laysBaseRow [vR 12 a0, vI (ch_I h17 (ch_R h17 a0 51) x2), vI (ch_I h17 (ch_R h17 a0 52) x2), vR 20 (ch_R h17 a0 7), vI 0] h17 fun h22 => (cU d m_Model_multiplies [vR 12 a0, vR 20 (ch_R h22 a0 6), vI 0, vR 20 (ch_R h22 a0 7), vI 0, vR 20 (ch_R h22 a0 8), vI 0] h22 fun h23 => (cU d m_Model_copies [vR 20 (ch_R h23 a0 8), vI 0, vR 20 (ch_R h23 a0 7), vI 0] h23 fun h24 => (cU d m_Model_solves [vR 12 a0, vR 20 (ch_R h24 a0 7), vI 0] h24 fun h25 => (cI d m_Model_told [vR 20 (ch_R h25 a0 61), vI (ch_I h25 a0 60), vI x3, vI x4, vI x5, vI x6] h25 fun v27 h26 => Q (some (vI v27)) h26)))))))))) ∧ (15 < ((ch_I h9 (ch_R h9 a0 51) x1) + (ch_I h9 (ch_R h9 a0 51) x2)) → Q (some (vI (-2))) h9))))) ∧ (v10 = 0 → Q (some (vI (-1))) h9)))))))))))))))) : cm_call (d + 1) m_Model_relation [vR 12 a0, vI x1, vI x2, vI x3, vI x4, vI x5, vI x6] h Q := by
  refine cm_call_in (C := cd_Model_relation) (ls := [some (vR 12 a0), some (vI x1), some (vI x2), some (vI x3), some (vI x4), some (vI x5), some (vI x6)]) rfl rfl p_a0 rfl ?_
  refine w_aload rfl rfl ?_
  refine w_iconst rfl ⟨by decide, by decide⟩ ?_
  refine w_putI 0 rfl rfl rfl p_a0 (fun h1 eh1 => ?_)
  replace H := H h1 eh1
  refine w_aload rfl rfl ?_
  refine w_callU rfl (fun _ => rfl) rfl (cU_mono H fun h2 H => ?_)
  refine w_aload rfl rfl ?_
  refine w_getI 42 rfl rfl rfl p_a0 ?_
  refine w_if rfl (And.intro (fun hc => ?_) (fun hc => ?_))
  · replace H := H.1 hc
    refine w_iconst rfl ⟨by decide, by decide⟩ ?_
    exact w_ireturn rfl H
  · replace H := H.2 hc
    refine w_iload rfl rfl ?_
    refine w_iconst rfl ⟨by decide, by decide⟩ ?_
    refine w_aload rfl rfl ?_
    refine w_getI 50 rfl rfl rfl p_a0 ?_
    refine w_iconst rfl ⟨by decide, by decide⟩ ?_
    have o3 := H.1
    replace H := H.2
    refine w_isub rfl o3 ?_
    refine w_callI rfl (fun _ => rfl) rfl (cI_mono H fun v5 h4 H => ?_)
    refine w_if rfl (And.intro (fun hc => ?_) (fun hc => ?_))
    · replace H := H.1 hc
      refine w_iconst rfl ⟨by decide, by decide⟩ ?_
      exact w_ireturn rfl H
    · replace H := H.2 hc
      refine w_iload rfl rfl ?_
      refine w_iconst rfl ⟨by decide, by decide⟩ ?_
      refine w_aload rfl rfl ?_
      refine w_getI 50 rfl rfl rfl p_a0 ?_
      refine w_iconst rfl ⟨by decide, by decide⟩ ?_
      have o6 := H.1
      replace H := H.2
      refine w_isub rfl o6 ?_
      refine w_callI rfl (fun _ => rfl) rfl (cI_mono H fun v8 h7 H => ?_)
      refine w_if rfl (And.intro (fun hc => ?_) (fun hc => ?_))
      · replace H := H.1 hc
        refine w_iconst rfl ⟨by decide, by decide⟩ ?_
        exact w_ireturn rfl H
      · replace H := H.2 hc
        refine w_aload rfl rfl ?_
        refine w_iload rfl rfl ?_
        refine w_iload rfl rfl ?_
        refine w_iload rfl rfl ?_
        refine w_iload rfl rfl ?_
        refine w_callI rfl (fun _ => rfl) rfl (cI_mono H fun v10 h9 H => ?_)
        refine w_if rfl (And.intro (fun hc => ?_) (fun hc => ?_))
        · replace H := H.1 hc
          refine w_aload rfl rfl ?_
          refine w_getR 51 20 rfl rfl rfl rfl p_a0 ?_
          refine w_iload rfl rfl ?_
          have o11 := H.1
          replace H := H.2
          have o12 := H.1
          replace H := H.2
          refine w_iaload rfl o11 o12 ?_
          refine w_aload rfl rfl ?_
          refine w_getR 51 20 rfl rfl rfl rfl p_a0 ?_
          refine w_iload rfl rfl ?_
          have o13 := H.1
          replace H := H.2
          refine w_iaload rfl o11 o13 ?_
          have o14 := H.1
          replace H := H.2
          refine w_iadd rfl o14 ?_
          refine w_iconst rfl ⟨by decide, by decide⟩ ?_
          refine w_icmp rfl (And.intro (fun hc => ?_) (fun hc => ?_))
          · replace H := H.1 hc
            refine w_aload rfl rfl ?_
            refine w_aload rfl rfl ?_
            refine w_getR 51 20 rfl rfl rfl rfl p_a0 ?_
            refine w_iload rfl rfl ?_
            refine w_iaload rfl o11 o12 ?_
            refine w_aload rfl rfl ?_
            refine w_getR 52 20 rfl rfl rfl rfl p_a0 ?_
            refine w_iload rfl rfl ?_
            have o15 := H.1
            replace H := H.2
            have o16 := H.1
            replace H := H.2
            refine w_iaload rfl o15 o16 ?_
            refine w_aload rfl rfl ?_
            refine w_getR 6 20 rfl rfl rfl rfl p_a0 ?_
            refine w_iconst rfl ⟨by decide, by decide⟩ ?_
            refine w_callU rfl (fun _ => rfl) rfl (cU_mono H fun h17 H => ?_)
            refine w_aload rfl rfl ?_
            refine w_aload rfl rfl ?_
            refine w_getR 51 20 rfl rfl rfl rfl p_a0 ?_
            refine w_iload rfl rfl ?_
            have o18 := H.1
            replace H := H.2
            have o19 := H.1
            replace H := H.2
            refine w_iaload rfl o18 o19 ?_
            refine w_aload rfl rfl ?_
            refine w_getR 52 20 rfl rfl rfl rfl p_a0 ?_
            refine w_iload rfl rfl ?_
            have o20 := H.1
            replace H := H.2
            have o21 := H.1
            replace H := H.2
            refine w_iaload rfl o20 o21 ?_
            refine w_aload rfl rfl ?_
            refine w_getR 7 20 rfl rfl rfl rfl p_a0 ?_
            refine w_iconst rfl ⟨by decide, by decide⟩ ?_
            refine w_callU rfl (fun _ => rfl) rfl (cU_mono H fun h22 H => ?_)
            refine w_aload rfl rfl ?_
            refine w_aload rfl rfl ?_
            refine w_getR 6 20 rfl rfl rfl rfl p_a0 ?_
            refine w_iconst rfl ⟨by decide, by decide⟩ ?_
            refine w_aload rfl rfl ?_
            refine w_getR 7 20 rfl rfl rfl rfl p_a0 ?_
            refine w_iconst rfl ⟨by decide, by decide⟩ ?_
            refine w_aload rfl rfl ?_
            refine w_getR 8 20 rfl rfl rfl rfl p_a0 ?_
            refine w_iconst rfl ⟨by decide, by decide⟩ ?_
            refine w_callU rfl (fun _ => rfl) rfl (cU_mono H fun h23 H => ?_)
            refine w_aload rfl rfl ?_
            refine w_getR 8 20 rfl rfl rfl rfl p_a0 ?_
            refine w_iconst rfl ⟨by decide, by decide⟩ ?_
            refine w_aload rfl rfl ?_
            refine w_getR 7 20 rfl rfl rfl rfl p_a0 ?_
            refine w_iconst rfl ⟨by decide, by decide⟩ ?_
            refine w_callU rfl (fun _ => rfl) rfl (cU_mono H fun h24 H => ?_)
            refine w_aload rfl rfl ?_
            refine w_aload rfl rfl ?_
            refine w_getR 7 20 rfl rfl rfl rfl p_a0 ?_
            refine w_iconst rfl ⟨by decide, by decide⟩ ?_
            refine w_callU rfl (fun _ => rfl) rfl (cU_mono H fun h25 H => ?_)
            refine w_aload rfl rfl ?_
            refine w_getR 61 20 rfl rfl rfl rfl p_a0 ?_
            refine w_aload rfl rfl ?_
            refine w_getI 60 rfl rfl rfl p_a0 ?_
            refine w_iload rfl rfl ?_
            refine w_iload rfl rfl ?_
            refine w_iload rfl rfl ?_
            refine w_iload rfl rfl ?_
            refine w_callI rfl (fun _ => rfl) rfl (cI_mono H fun v27 h26 H => ?_)
            exact w_ireturn rfl H
          · replace H := H.2 hc
            refine w_iconst rfl ⟨by decide, by decide⟩ ?_
            exact w_ireturn rfl H
        · replace H := H.2 hc
          refine w_iconst rfl ⟨by decide, by decide⟩ ?_
          exact w_ireturn rfl H
set_option maxHeartbeats 4000000 in
set_option maxRecDepth 100000 in
theorem r_Model_count {d : Nat} {Q : cm_Q} {h : cm_H} {a0 : Nat} {x1 : Int} (p_a0 : 0 < a0) (H : (∀ h1 : cm_H, h1 = ch_u h a0 0 0 → ((¬ x1 = 0 → ((¬ x1 = 1 → Q (some (vI (-1))) h1) ∧ (x1 = 1 → Q (some (vI (ch_I h1 a0 58))) h1))) ∧ (x1 = 0 → Q (some (vI (ch_I h1 a0 14))) h1)))) : cm_call (d + 1) m_Model_count [vR 12 a0, vI x1] h Q := by
  refine cm_call_in (C := cd_Model_count) (ls := [some (vR 12 a0), some (vI x1)]) rfl rfl p_a0 rfl ?_
  refine w_aload rfl rfl ?_
  refine w_iconst rfl ⟨by decide, by decide⟩ ?_
  refine w_putI 0 rfl rfl rfl p_a0 (fun h1 eh1 => ?_)
  replace H := H h1 eh1
  refine w_iload rfl rfl ?_
  refine w_if rfl (And.intro (fun hc => ?_) (fun hc => ?_))
  · replace H := H.1 hc
    refine w_iload rfl rfl ?_
    refine w_iconst rfl ⟨by decide, by decide⟩ ?_
    refine w_icmp rfl (And.intro (fun hc => ?_) (fun hc => ?_))
    · replace H := H.1 hc
      refine w_iconst rfl ⟨by decide, by decide⟩ ?_
      exact w_ireturn rfl H
    · replace H := H.2 hc
      refine w_aload rfl rfl ?_
      refine w_getI 58 rfl rfl rfl p_a0 ?_
      refine w_goto rfl ?_
      exact w_ireturn rfl H
  · replace H := H.2 hc
    refine w_aload rfl rfl ?_
    refine w_getI 14 rfl rfl rfl p_a0 ?_
    refine w_goto rfl ?_
    exact w_ireturn rfl H
