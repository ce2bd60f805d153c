/-! RULES: what must hold at an entry or a cut place (printed by wip/whole/genrules.py) -/
set_option maxHeartbeats 4000000 in
set_option maxRecDepth 100000 in
theorem r_Arr_range {d : Nat} {Q : cm_Q} {h : cm_H} {x0 : Int} {x1 : Int} {x2 : Int}  (H : ((x1 ≤ x2 → ((0 ≤ x1 → ((x2 ≤ x0 → Q none h) ∧ (x0 < x2 → False))) ∧ (x1 < 0 → False))) ∧ (x2 < x1 → False))) : cm_call (d + 1) m_Arr_range [vI x0, vI x1, vI x2] h Q := by
  refine cm_call_in (C := cd_Arr_range) (ls := [some (vI x0), some (vI x1), some (vI x2)]) rfl rfl trivial rfl ?_
  refine w_iload rfl rfl ?_
  refine w_iload rfl rfl ?_
  refine w_icmp rfl (And.intro (fun hc => ?_) (fun hc => ?_))
  · replace H := H.1 hc
    refine w_iload rfl rfl ?_
    refine w_if rfl (And.intro (fun hc => ?_) (fun hc => ?_))
    · replace H := H.1 hc
      refine w_iload rfl rfl ?_
      refine w_iload rfl rfl ?_
      refine w_icmp rfl (And.intro (fun hc => ?_) (fun hc => ?_))
      · replace H := H.1 hc
        exact w_return rfl H
      · replace H := H.2 hc
        exact H.elim
    · replace H := H.2 hc
      exact H.elim
  · replace H := H.2 hc
    exact H.elim
set_option maxHeartbeats 4000000 in
set_option maxRecDepth 100000 in
theorem r_Arr_fill_5 {d : Nat} {Q : cm_Q} {h : cm_H} {a0 : Nat} {x1 : Int} {x2 : Int} {x3 : Int} (p_a0 : 0 < a0) (H : ((x3 ≤ x2 → Q none h) ∧ (x2 < x3 → ((0:Int) ≤ x2 ∧ x2 < ch_L h a0) ∧ (∀ h2 : cm_H, h2 = ch_u h a0 x2 x1 → (cm_i (x2 + 1) ∧ cw d cd_Arr_fill Q 5 [some (vR 20 a0), some (vI x1), some (vI (x2 + 1)), some (vI x3)] [] h2))))) : cw d cd_Arr_fill Q 5 [some (vR 20 a0), some (vI x1), some (vI x2), some (vI x3)] [] h := by
  refine w_iload rfl rfl ?_
  refine w_iload rfl rfl ?_
  refine w_icmp rfl (And.intro (fun hc => ?_) (fun hc => ?_))
  · replace H := H.1 hc
    exact w_return rfl H
  · replace H := H.2 hc
    refine w_aload rfl rfl ?_
    refine w_iload rfl rfl ?_
    refine w_iload rfl rfl ?_
    have o1 := H.1
    replace H := H.2
    refine w_iastore rfl p_a0 o1 (fun h2 eh2 => ?_)
    replace H := H h2 eh2
    have o3 := H.1
    replace H := H.2
    refine w_iinc rfl rfl rfl o3 ?_
    refine w_goto rfl ?_
    exact H
set_option maxHeartbeats 4000000 in
set_option maxRecDepth 100000 in
theorem r_Arr_fill {d : Nat} {Q : cm_Q} {h : cm_H} {a0 : Nat} {x1 : Int} (p_a0 : 0 < a0) (H : cw d cd_Arr_fill Q 5 [some (vR 20 a0), some (vI x1), some (vI 0), some (vI (ch_L h a0))] [] h) : cm_call (d + 1) m_Arr_fill [vR 20 a0, vI x1] h Q := by
  refine cm_call_in (C := cd_Arr_fill) (ls := [some (vR 20 a0), some (vI x1), none, none]) rfl rfl trivial rfl ?_
  refine w_iconst rfl ⟨by decide, by decide⟩ ?_
  refine w_istore rfl rfl ?_
  refine w_aload rfl rfl ?_
  refine w_alen rfl rfl p_a0 ?_
  refine w_istore rfl rfl ?_
  exact H
set_option maxHeartbeats 4000000 in
set_option maxRecDepth 100000 in
theorem r_Arr_fill4_10 {d : Nat} {Q : cm_Q} {h : cm_H} {a0 : Nat} {z1 : Option cm_V} {x2 : Int} {x3 : Int} {x4 : Int} (p_a0 : 0 < a0) (H : ((x2 ≤ x4 → Q none h) ∧ (x4 < x2 → ((0:Int) ≤ x4 ∧ x4 < ch_L h a0) ∧ (∀ h2 : cm_H, h2 = ch_u h a0 x4 x3 → (cm_i (x4 + 1) ∧ cw d cd_Arr_fill4 Q 10 [some (vR 20 a0), z1, some (vI x2), some (vI x3), some (vI (x4 + 1))] [] h2))))) : cw d cd_Arr_fill4 Q 10 [some (vR 20 a0), z1, some (vI x2), some (vI x3), some (vI x4)] [] h := by
  refine w_iload rfl rfl ?_
  refine w_iload rfl rfl ?_
  refine w_icmp rfl (And.intro (fun hc => ?_) (fun hc => ?_))
  · replace H := H.1 hc
    exact w_return rfl H
  · replace H := H.2 hc
    refine w_aload rfl rfl ?_
    refine w_iload rfl rfl ?_
    refine w_iload rfl rfl ?_
    have o1 := H.1
    replace H := H.2
    refine w_iastore rfl p_a0 o1 (fun h2 eh2 => ?_)
    replace H := H h2 eh2
    have o3 := H.1
    replace H := H.2
    refine w_iinc rfl rfl rfl o3 ?_
    refine w_goto rfl ?_
    exact H
set_option maxHeartbeats 4000000 in
set_option maxRecDepth 100000 in
theorem r_Arr_fill4 {d : Nat} {Q : cm_Q} {h : cm_H} {a0 : Nat} {x1 : Int} {x2 : Int} {x3 : Int} (p_a0 : 0 < a0) (H : (cU d m_Arr_range [vI (ch_L h a0), vI x1, vI x2] h fun h1 => cw d cd_Arr_fill4 Q 10 [some (vR 20 a0), some (vI x1), some (vI x2), some (vI x3), some (vI x1)] [] h1)) : cm_call (d + 1) m_Arr_fill4 [vR 20 a0, vI x1, vI x2, vI x3] h Q := by
  refine cm_call_in (C := cd_Arr_fill4) (ls := [some (vR 20 a0), some (vI x1), some (vI x2), some (vI x3), none]) rfl rfl trivial rfl ?_
  refine w_aload rfl rfl ?_
  refine w_alen rfl rfl p_a0 ?_
  refine w_iload rfl rfl ?_
  refine w_iload rfl rfl ?_
  refine w_callU rfl (fun _ => rfl) rfl (cU_mono H fun h1 H => ?_)
  refine w_iload rfl rfl ?_
  refine w_istore rfl rfl ?_
  exact H
set_option maxHeartbeats 4000000 in
set_option maxRecDepth 100000 in
theorem r_Piece_init {d : Nat} {Q : cm_Q} {h : cm_H} {a0 : Nat} (p_a0 : 0 < a0) (H : (∀ h1 : cm_H, h1 = ch_new h 20 1 (Int.toNat 1) → (∀ h2 : cm_H, h2 = ch_r h1 a0 0 (ch_n h) → Q none h2))) : cm_call (d + 1) m_Piece_init [vR 5 a0] h Q := by
  refine cm_call_in (C := cd_Piece_init) (ls := [some (vR 5 a0)]) rfl rfl p_a0 rfl ?_
  refine w_aload rfl rfl ?_
  refine w_objInit rfl rfl p_a0 ?_
  refine w_aload rfl rfl ?_
  refine w_iconst rfl ⟨by decide, by decide⟩ ?_
  refine w_newI rfl (by decide) (fun h1 eh1 => ?_)
  replace H := H h1 eh1
  refine w_putR 0 rfl rfl rfl rfl p_a0 (fun h2 eh2 => ?_)
  replace H := H h2 eh2
  exact w_return rfl H
set_option maxHeartbeats 4000000 in
set_option maxRecDepth 100000 in
theorem r_Piece_put {d : Nat} {Q : cm_Q} {h : cm_H} {a0 : Nat} {a1 : Nat} {x2 : Int} {x3 : Int} (p_a0 : 0 < a0) (H : (∀ h1 : cm_H, h1 = ch_r h a0 0 a1 → (∀ h2 : cm_H, h2 = ch_u h1 a0 1 x2 → (∀ h3 : cm_H, h3 = ch_u h2 a0 2 x3 → Q none h3)))) : cm_call (d + 1) m_Piece_put [vR 5 a0, vR 20 a1, vI x2, vI x3] h Q := by
  refine cm_call_in (C := cd_Piece_put) (ls := [some (vR 5 a0), some (vR 20 a1), some (vI x2), some (vI x3)]) rfl rfl p_a0 rfl ?_
  refine w_aload rfl rfl ?_
  refine w_aload rfl rfl ?_
  refine w_putR 0 rfl rfl rfl rfl p_a0 (fun h1 eh1 => ?_)
  replace H := H h1 eh1
  refine w_aload rfl rfl ?_
  refine w_iload rfl rfl ?_
  refine w_putI 1 rfl rfl rfl p_a0 (fun h2 eh2 => ?_)
  replace H := H h2 eh2
  refine w_aload rfl rfl ?_
  refine w_iload rfl rfl ?_
  refine w_putI 2 rfl rfl rfl p_a0 (fun h3 eh3 => ?_)
  replace H := H h3 eh3
  exact w_return rfl H
set_option maxHeartbeats 4000000 in
set_option maxRecDepth 100000 in
theorem r_Shape_init_49 {d : Nat} {Q : cm_Q} {h : cm_H} {a0 : Nat} {x1 : Int} {x2 : Int} {z3 : Option cm_V} (p_a0 : 0 < a0) (H : ((18 ≤ x2 → cw d cd_Shape_init Q 90 [some (vR 9 a0), some (vI x1), some (vI 0), z3] [] h) ∧ (x2 < 18 → (cm_i (x2 + 1) ∧ (0 < ((ch_R h a0 2)) ∧ ((0:Int) ≤ x2 ∧ x2 < ch_L h (ch_R h a0 2)) ∧ ((¬ x1 = 3 → (cm_i ((ch_I h (ch_R h a0 2) x2) + 1) ∧ ((0:Int) ≤ (x2 + 1) ∧ (x2 + 1) < ch_L h (ch_R h a0 2)) ∧ (∀ h6 : cm_H, h6 = ch_u h (ch_R h a0 2) (x2 + 1) ((ch_I h (ch_R h a0 2) x2) + 1) → cw d cd_Shape_init Q 49 [some (vR 9 a0), some (vI x1), some (vI (x2 + 1)), z3] [] h6))) ∧ (x1 = 3 → (cm_i ((ch_I h (ch_R h a0 2) x2) + (x2 + 1)) ∧ ((0:Int) ≤ (x2 + 1) ∧ (x2 + 1) < ch_L h (ch_R h a0 2)) ∧ (∀ h9 : cm_H, h9 = ch_u h (ch_R h a0 2) (x2 + 1) ((ch_I h (ch_R h a0 2) x2) + (x2 + 1)) → cw d cd_Shape_init Q 49 [some (vR 9 a0), some (vI x1), some (vI (x2 + 1)), z3] [] h9))))))))) : cw d cd_Shape_init Q 49 [some (vR 9 a0), some (vI x1), some (vI x2), z3] [] h := by
  refine w_iload rfl rfl ?_
  refine w_iconst rfl ⟨by decide, by decide⟩ ?_
  refine w_icmp rfl (And.intro (fun hc => ?_) (fun hc => ?_))
  · replace H := H.1 hc
    refine w_iconst rfl ⟨by decide, by decide⟩ ?_
    refine w_istore rfl rfl ?_
    exact H
  · replace H := H.2 hc
    refine w_aload rfl rfl ?_
    refine w_getR 2 20 rfl rfl rfl rfl p_a0 ?_
    refine w_iload rfl rfl ?_
    refine w_iconst rfl ⟨by decide, by decide⟩ ?_
    have o1 := H.1
    replace H := H.2
    refine w_iadd rfl o1 ?_
    refine w_aload rfl rfl ?_
    refine w_getR 2 20 rfl rfl rfl rfl p_a0 ?_
    refine w_iload rfl rfl ?_
    have o2 := H.1
    replace H := H.2
    have o3 := H.1
    replace H := H.2
    refine w_iaload rfl o2 o3 ?_
    refine w_iload rfl rfl ?_
    refine w_iconst rfl ⟨by decide, by decide⟩ ?_
    refine w_icmp rfl (And.intro (fun hc => ?_) (fun hc => ?_))
    · replace H := H.1 hc
      refine w_iconst rfl ⟨by decide, by decide⟩ ?_
      have o4 := H.1
      replace H := H.2
      refine w_iadd rfl o4 ?_
      have o5 := H.1
      replace H := H.2
      refine w_iastore rfl o2 o5 (fun h6 eh6 => ?_)
      replace H := H h6 eh6
      refine w_iinc rfl rfl rfl o1 ?_
      refine w_goto rfl ?_
      exact H
    · replace H := H.2 hc
      refine w_iload rfl rfl ?_
      refine w_iconst rfl ⟨by decide, by decide⟩ ?_
      refine w_iadd rfl o1 ?_
      refine w_goto rfl ?_
      have o7 := H.1
      replace H := H.2
      refine w_iadd rfl o7 ?_
      have o8 := H.1
      replace H := H.2
      refine w_iastore rfl o2 o8 (fun h9 eh9 => ?_)
      replace H := H h9 eh9
      refine w_iinc rfl rfl rfl o1 ?_
      refine w_goto rfl ?_
      exact H
set_option maxHeartbeats 4000000 in
set_option maxRecDepth 100000 in
theorem r_Shape_init_90 {d : Nat} {Q : cm_Q} {h : cm_H} {a0 : Nat} {z1 : Option cm_V} {x2 : Int} {z3 : Option cm_V} (p_a0 : 0 < a0) (H : ((16 ≤ x2 → (0 < ((ch_R h a0 3)) ∧ ((0:Int) ≤ 16 ∧ 16 < ch_L h (ch_R h a0 3)) ∧ (∀ h3 : cm_H, h3 = ch_u h a0 1 (ch_I h (ch_R h a0 3) 16) → (0 < ((ch_R h3 a0 2)) ∧ ((0:Int) ≤ 16 ∧ 16 < ch_L h3 (ch_R h3 a0 2)) ∧ ((0:Int) ≤ (ch_I h3 (ch_R h3 a0 2) 16) ∧ (ch_I h3 (ch_R h3 a0 2) 16) ≤ 1000000) ∧ (∀ h7 : cm_H, h7 = ch_new h3 20 (ch_I h3 (ch_R h3 a0 2) 16) (Int.toNat (ch_I h3 (ch_R h3 a0 2) 16)) → (∀ h8 : cm_H, h8 = ch_r h7 a0 4 (ch_n h3) → (0 < ((ch_R h8 a0 2)) ∧ ((0:Int) ≤ 16 ∧ 16 < ch_L h8 (ch_R h8 a0 2)) ∧ ((0:Int) ≤ (ch_I h8 (ch_R h8 a0 2) 16) ∧ (ch_I h8 (ch_R h8 a0 2) 16) ≤ 1000000) ∧ (∀ h12 : cm_H, h12 = ch_new h8 20 (ch_I h8 (ch_R h8 a0 2) 16) (Int.toNat (ch_I h8 (ch_R h8 a0 2) 16)) → (∀ h13 : cm_H, h13 = ch_r h12 a0 5 (ch_n h8) → cw d cd_Shape_init Q 164 [some (vR 9 a0), z1, some (vI 0), z3] [] h13))))))))) ∧ (x2 < 16 → (cm_i (x2 + 1) ∧ (0 < ((ch_R h a0 3)) ∧ ((0:Int) ≤ x2 ∧ x2 < ch_L h (ch_R h a0 3)) ∧ (0 < ((ch_R h a0 2)) ∧ ((0:Int) ≤ (x2 + 1) ∧ (x2 + 1) < ch_L h (ch_R h a0 2)) ∧ (cm_i ((ch_I h (ch_R h a0 3) x2) + (ch_I h (ch_R h a0 2) (x2 + 1))) ∧ ((0:Int) ≤ (x2 + 1) ∧ (x2 + 1) < ch_L h (ch_R h a0 3)) ∧ (∀ h21 : cm_H, h21 = ch_u h (ch_R h a0 3) (x2 + 1) ((ch_I h (ch_R h a0 3) x2) + (ch_I h (ch_R h a0 2) (x2 + 1))) → cw d cd_Shape_init Q 90 [some (vR 9 a0), z1, some (vI (x2 + 1)), z3] [] h21)))))))) : cw d cd_Shape_init Q 90 [some (vR 9 a0), z1, some (vI x2), z3] [] h := by
  refine w_iload rfl rfl ?_
  refine w_iconst rfl ⟨by decide, by decide⟩ ?_
  refine w_icmp rfl (And.intro (fun hc => ?_) (fun hc => ?_))
  · replace H := H.1 hc
    refine w_aload rfl rfl ?_
    refine w_aload rfl rfl ?_
    refine w_getR 3 20 rfl rfl rfl rfl p_a0 ?_
    refine w_iconst rfl ⟨by decide, by decide⟩ ?_
    have o1 := H.1
    replace H := H.2
    have o2 := H.1
    replace H := H.2
    refine w_iaload rfl o1 o2 ?_
    refine w_putI 1 rfl rfl rfl p_a0 (fun h3 eh3 => ?_)
    replace H := H h3 eh3
    refine w_aload rfl rfl ?_
    refine w_aload rfl rfl ?_
    refine w_getR 2 20 rfl rfl rfl rfl p_a0 ?_
    refine w_iconst rfl ⟨by decide, by decide⟩ ?_
    have o4 := H.1
    replace H := H.2
    have o5 := H.1
    replace H := H.2
    refine w_iaload rfl o4 o5 ?_
    have o6 := H.1
    replace H := H.2
    refine w_newI rfl o6 (fun h7 eh7 => ?_)
    replace H := H h7 eh7
    refine w_putR 4 rfl rfl rfl rfl p_a0 (fun h8 eh8 => ?_)
    replace H := H h8 eh8
    refine w_aload rfl rfl ?_
    refine w_aload rfl rfl ?_
    refine w_getR 2 20 rfl rfl rfl rfl p_a0 ?_
    refine w_iconst rfl ⟨by decide, by decide⟩ ?_
    have o9 := H.1
    replace H := H.2
    have o10 := H.1
    replace H := H.2
    refine w_iaload rfl o9 o10 ?_
    have o11 := H.1
    replace H := H.2
    refine w_newI rfl o11 (fun h12 eh12 => ?_)
    replace H := H h12 eh12
    refine w_putR 5 rfl rfl rfl rfl p_a0 (fun h13 eh13 => ?_)
    replace H := H h13 eh13
    refine w_iconst rfl ⟨by decide, by decide⟩ ?_
    refine w_istore rfl rfl ?_
    exact H
  · replace H := H.2 hc
    refine w_aload rfl rfl ?_
    refine w_getR 3 20 rfl rfl rfl rfl p_a0 ?_
    refine w_iload rfl rfl ?_
    refine w_iconst rfl ⟨by decide, by decide⟩ ?_
    have o14 := H.1
    replace H := H.2
    refine w_iadd rfl o14 ?_
    refine w_aload rfl rfl ?_
    refine w_getR 3 20 rfl rfl rfl rfl p_a0 ?_
    refine w_iload rfl rfl ?_
    have o15 := H.1
    replace H := H.2
    have o16 := H.1
    replace H := H.2
    refine w_iaload rfl o15 o16 ?_
    refine w_aload rfl rfl ?_
    refine w_getR 2 20 rfl rfl rfl rfl p_a0 ?_
    refine w_iload rfl rfl ?_
    refine w_iconst rfl ⟨by decide, by decide⟩ ?_
    refine w_iadd rfl o14 ?_
    have o17 := H.1
    replace H := H.2
    have o18 := H.1
    replace H := H.2
    refine w_iaload rfl o17 o18 ?_
    have o19 := H.1
    replace H := H.2
    refine w_iadd rfl o19 ?_
    have o20 := H.1
    replace H := H.2
    refine w_iastore rfl o15 o20 (fun h21 eh21 => ?_)
    replace H := H h21 eh21
    refine w_iinc rfl rfl rfl o14 ?_
    refine w_goto rfl ?_
    exact H
set_option maxHeartbeats 4000000 in
set_option maxRecDepth 100000 in
theorem r_Shape_init_164 {d : Nat} {Q : cm_Q} {h : cm_H} {a0 : Nat} {z1 : Option cm_V} {x2 : Int} {z3 : Option cm_V} (p_a0 : 0 < a0) (H : ((16 ≤ x2 → Q none h) ∧ (x2 < 16 → (0 < ((ch_R h a0 2)) ∧ ((0:Int) ≤ x2 ∧ x2 < ch_L h (ch_R h a0 2)) ∧ cw d cd_Shape_init Q 177 [some (vR 9 a0), z1, some (vI x2), some (vI (ch_I h (ch_R h a0 2) x2))] [] h)))) : cw d cd_Shape_init Q 164 [some (vR 9 a0), z1, some (vI x2), z3] [] h := by
  refine w_iload rfl rfl ?_
  refine w_iconst rfl ⟨by decide, by decide⟩ ?_
  refine w_icmp rfl (And.intro (fun hc => ?_) (fun hc => ?_))
  · replace H := H.1 hc
    exact w_return rfl H
  · replace H := H.2 hc
    refine w_aload rfl rfl ?_
    refine w_getR 2 20 rfl rfl rfl rfl p_a0 ?_
    refine w_iload rfl rfl ?_
    have o1 := H.1
    replace H := H.2
    have o2 := H.1
    replace H := H.2
    refine w_iaload rfl o1 o2 ?_
    refine w_istore rfl rfl ?_
    exact H
set_option maxHeartbeats 4000000 in
set_option maxRecDepth 100000 in
theorem r_Shape_init_177 {d : Nat} {Q : cm_Q} {h : cm_H} {a0 : Nat} {z1 : Option cm_V} {x2 : Int} {x3 : Int} (p_a0 : 0 < a0) (H : (cm_i (x2 + 1) ∧ (0 < ((ch_R h a0 2)) ∧ ((0:Int) ≤ (x2 + 1) ∧ (x2 + 1) < ch_L h (ch_R h a0 2)) ∧ (((ch_I h (ch_R h a0 2) (x2 + 1)) ≤ x3 → cw d cd_Shape_init Q 164 [some (vR 9 a0), z1, some (vI (x2 + 1)), some (vI x3)] [] h) ∧ (x3 < (ch_I h (ch_R h a0 2) (x2 + 1)) → (0 < ((ch_R h a0 4)) ∧ ((0:Int) ≤ x3 ∧ x3 < ch_L h (ch_R h a0 4)) ∧ (∀ h6 : cm_H, h6 = ch_u h (ch_R h a0 4) x3 x2 → (0 < ((ch_R h6 a0 2)) ∧ ((0:Int) ≤ (x2 + 1) ∧ (x2 + 1) < ch_L h6 (ch_R h6 a0 2)) ∧ ((0:Int) ≤ x2 ∧ x2 < ch_L h6 (ch_R h6 a0 2)) ∧ (cm_i ((ch_I h6 (ch_R h6 a0 2) (x2 + 1)) - (ch_I h6 (ch_R h6 a0 2) x2)) ∧ (0 < ((ch_R h6 a0 5)) ∧ ((0:Int) ≤ x3 ∧ x3 < ch_L h6 (ch_R h6 a0 5)) ∧ (∀ h13 : cm_H, h13 = ch_u h6 (ch_R h6 a0 5) x3 ((ch_I h6 (ch_R h6 a0 2) (x2 + 1)) - (ch_I h6 (ch_R h6 a0 2) x2)) → (cm_i (x3 + 1) ∧ cw d cd_Shape_init Q 177 [some (vR 9 a0), z1, some (vI x2), some (vI (x3 + 1))] [] h13)))))))))))) : cw d cd_Shape_init Q 177 [some (vR 9 a0), z1, some (vI x2), some (vI x3)] [] h := by
  refine w_iload rfl rfl ?_
  refine w_aload rfl rfl ?_
  refine w_getR 2 20 rfl rfl rfl rfl p_a0 ?_
  refine w_iload rfl rfl ?_
  refine w_iconst rfl ⟨by decide, by decide⟩ ?_
  have o1 := H.1
  replace H := H.2
  refine w_iadd rfl o1 ?_
  have o2 := H.1
  replace H := H.2
  have o3 := H.1
  replace H := H.2
  refine w_iaload rfl o2 o3 ?_
  refine w_icmp rfl (And.intro (fun hc => ?_) (fun hc => ?_))
  · replace H := H.1 hc
    refine w_iinc rfl rfl rfl o1 ?_
    refine w_goto rfl ?_
    exact H
  · replace H := H.2 hc
    refine w_aload rfl rfl ?_
    refine w_getR 4 20 rfl rfl rfl rfl p_a0 ?_
    refine w_iload rfl rfl ?_
    refine w_iload rfl rfl ?_
    have o4 := H.1
    replace H := H.2
    have o5 := H.1
    replace H := H.2
    refine w_iastore rfl o4 o5 (fun h6 eh6 => ?_)
    replace H := H h6 eh6
    refine w_aload rfl rfl ?_
    refine w_getR 5 20 rfl rfl rfl rfl p_a0 ?_
    refine w_iload rfl rfl ?_
    refine w_aload rfl rfl ?_
    refine w_getR 2 20 rfl rfl rfl rfl p_a0 ?_
    refine w_iload rfl rfl ?_
    refine w_iconst rfl ⟨by decide, by decide⟩ ?_
    refine w_iadd rfl o1 ?_
    have o7 := H.1
    replace H := H.2
    have o8 := H.1
    replace H := H.2
    refine w_iaload rfl o7 o8 ?_
    refine w_aload rfl rfl ?_
    refine w_getR 2 20 rfl rfl rfl rfl p_a0 ?_
    refine w_iload rfl rfl ?_
    have o9 := H.1
    replace H := H.2
    refine w_iaload rfl o7 o9 ?_
    have o10 := H.1
    replace H := H.2
    refine w_isub rfl o10 ?_
    have o11 := H.1
    replace H := H.2
    have o12 := H.1
    replace H := H.2
    refine w_iastore rfl o11 o12 (fun h13 eh13 => ?_)
    replace H := H h13 eh13
    have o14 := H.1
    replace H := H.2
    refine w_iinc rfl rfl rfl o14 ?_
    refine w_goto rfl ?_
    exact H
set_option maxHeartbeats 4000000 in
set_option maxRecDepth 100000 in
theorem r_Shape_init {d : Nat} {Q : cm_Q} {h : cm_H} {a0 : Nat} {x1 : Int} (p_a0 : 0 < a0) (H : (∀ h1 : cm_H, h1 = ch_new h 20 19 (Int.toNat 19) → (∀ h2 : cm_H, h2 = ch_r h1 a0 2 (ch_n h) → (∀ h3 : cm_H, h3 = ch_new h2 20 17 (Int.toNat 17) → (∀ h4 : cm_H, h4 = ch_r h3 a0 3 (ch_n h2) → (∀ h5 : cm_H, h5 = ch_new h4 5 0 3 → (cU d m_Piece_init [vR 5 (ch_n h4)] h5 fun h6 => (∀ h7 : cm_H, h7 = ch_r h6 a0 6 (ch_n h4) → (∀ h8 : cm_H, h8 = ch_new h7 5 0 3 → (cU d m_Piece_init [vR 5 (ch_n h7)] h8 fun h9 => (∀ h10 : cm_H, h10 = ch_r h9 a0 7 (ch_n h7) → (∀ h11 : cm_H, h11 = ch_u h10 a0 0 x1 → cw d cd_Shape_init Q 49 [some (vR 9 a0), some (vI x1), some (vI 0), none] [] h11)))))))))))) : cm_call (d + 1) m_Shape_init [vR 9 a0, vI x1] h Q := by
  refine cm_call_in (C := cd_Shape_init) (ls := [some (vR 9 a0), some (vI x1), none, none]) rfl rfl p_a0 rfl ?_
  refine w_aload rfl rfl ?_
  refine w_objInit rfl rfl p_a0 ?_
  refine w_aload rfl rfl ?_
  refine w_iconst rfl ⟨by decide, by decide⟩ ?_
  refine w_newI rfl (by decide) (fun h1 eh1 => ?_)
  replace H := H h1 eh1
  refine w_putR 2 rfl rfl rfl rfl p_a0 (fun h2 eh2 => ?_)
  replace H := H h2 eh2
  refine w_aload rfl rfl ?_
  refine w_iconst rfl ⟨by decide, by decide⟩ ?_
  refine w_newI rfl (by decide) (fun h3 eh3 => ?_)
  replace H := H h3 eh3
  refine w_putR 3 rfl rfl rfl rfl p_a0 (fun h4 eh4 => ?_)
  replace H := H h4 eh4
  refine w_aload rfl rfl ?_
  refine w_new 5 3 rfl rfl rfl (fun h5 eh5 => ?_)
  replace H := H h5 eh5
  refine w_dup rfl rfl ?_
  refine w_callU rfl (fun _ => rfl) rfl (cU_mono H fun h6 H => ?_)
  refine w_putR 6 rfl rfl rfl rfl p_a0 (fun h7 eh7 => ?_)
  replace H := H h7 eh7
  refine w_aload rfl rfl ?_
  refine w_new 5 3 rfl rfl rfl (fun h8 eh8 => ?_)
  replace H := H h8 eh8
  refine w_dup rfl rfl ?_
  refine w_callU rfl (fun _ => rfl) rfl (cU_mono H fun h9 H => ?_)
  refine w_putR 7 rfl rfl rfl rfl p_a0 (fun h10 eh10 => ?_)
  replace H := H h10 eh10
  refine w_aload rfl rfl ?_
  refine w_iload rfl rfl ?_
  refine w_putI 0 rfl rfl rfl p_a0 (fun h11 eh11 => ?_)
  replace H := H h11 eh11
  refine w_iconst rfl ⟨by decide, by decide⟩ ?_
  refine w_istore rfl rfl ?_
  exact H
set_option maxHeartbeats 4000000 in
set_option maxRecDepth 100000 in
theorem r_Shape_power {d : Nat} {Q : cm_Q} {h : cm_H} {a0 : Nat} {x1 : Int} {x2 : Int} {x3 : Int} (p_a0 : 0 < a0) (H : (0 < ((ch_R h a0 4)) ∧ ((0:Int) ≤ x2 ∧ x2 < ch_L h (ch_R h a0 4)) ∧ (0 < ((ch_R h a0 2)) ∧ ((0:Int) ≤ (ch_I h (ch_R h a0 4) x2) ∧ (ch_I h (ch_R h a0 4) x2) < ch_L h (ch_R h a0 2)) ∧ (cm_i (x2 - (ch_I h (ch_R h a0 2) (ch_I h (ch_R h a0 4) x2))) ∧ ((¬ x3 = 0 → ((¬ x3 = 1 → Q (some (vI (x2 - (ch_I h (ch_R h a0 2) (ch_I h (ch_R h a0 4) x2))))) h) ∧ (x3 = 1 → (cm_i ((ch_I h (ch_R h a0 4) x2) - (x2 - (ch_I h (ch_R h a0 2) (ch_I h (ch_R h a0 4) x2)))) ∧ Q (some (vI ((ch_I h (ch_R h a0 4) x2) - (x2 - (ch_I h (ch_R h a0 2) (ch_I h (ch_R h a0 4) x2)))))) h)))) ∧ (x3 = 0 → (cm_i (x1 - (ch_I h (ch_R h a0 4) x2)) ∧ Q (some (vI (x1 - (ch_I h (ch_R h a0 4) x2)))) h))))))) : cm_call (d + 1) m_Shape_power [vR 9 a0, vI x1, vI x2, vI x3] h Q := by
  refine cm_call_in (C := cd_Shape_power) (ls := [some (vR 9 a0), some (vI x1), some (vI x2), some (vI x3), none, none]) rfl rfl p_a0 rfl ?_
  refine w_aload rfl rfl ?_
  refine w_getR 4 20 rfl rfl rfl rfl p_a0 ?_
  refine w_iload rfl rfl ?_
  have o1 := H.1
  replace H := H.2
  have o2 := H.1
  replace H := H.2
  refine w_iaload rfl o1 o2 ?_
  refine w_istore rfl rfl ?_
  refine w_iload rfl rfl ?_
  refine w_aload rfl rfl ?_
  refine w_getR 2 20 rfl rfl rfl rfl p_a0 ?_
  refine w_iload rfl rfl ?_
  have o3 := H.1
  replace H := H.2
  have o4 := H.1
  replace H := H.2
  refine w_iaload rfl o3 o4 ?_
  have o5 := H.1
  replace H := H.2
  refine w_isub rfl o5 ?_
  refine w_istore rfl rfl ?_
  refine w_iload rfl rfl ?_
  refine w_if rfl (And.intro (fun hc => ?_) (fun hc => ?_))
  · replace H := H.1 hc
    refine w_iload rfl rfl ?_
    refine w_iconst rfl ⟨by decide, by decide⟩ ?_
    refine w_icmp rfl (And.intro (fun hc => ?_) (fun hc => ?_))
    · replace H := H.1 hc
      refine w_iload rfl rfl ?_
      exact w_ireturn rfl H
    · replace H := H.2 hc
      refine w_iload rfl rfl ?_
      refine w_iload rfl rfl ?_
      have o6 := H.1
      replace H := H.2
      refine w_isub rfl o6 ?_
      refine w_goto rfl ?_
      exact w_ireturn rfl H
  · replace H := H.2 hc
    refine w_iload rfl rfl ?_
    refine w_iload rfl rfl ?_
    have o7 := H.1
    replace H := H.2
    refine w_isub rfl o7 ?_
    exact w_ireturn rfl H
set_option maxHeartbeats 4000000 in
set_option maxRecDepth 100000 in
theorem r_Shape_isZero_7 {d : Nat} {Q : cm_Q} {h : cm_H} {a0 : Nat} {a1 : Nat} {x2 : Int} {x3 : Int} (p_a0 : 0 < a0) (p_a1 : 0 < a1) (H : (cm_i (x2 + 1) ∧ (0 < ((ch_R h a0 3)) ∧ ((0:Int) ≤ (x2 + 1) ∧ (x2 + 1) < ch_L h (ch_R h a0 3)) ∧ (((ch_I h (ch_R h a0 3) (x2 + 1)) ≤ x3 → Q (some (vI 1)) h) ∧ (x3 < (ch_I h (ch_R h a0 3) (x2 + 1)) → ((0:Int) ≤ x3 ∧ x3 < ch_L h a1) ∧ (((ch_I h a1 x3) = 0 → (cm_i (x3 + 1) ∧ cw d cd_Shape_isZero Q 7 [some (vR 9 a0), some (vR 20 a1), some (vI x2), some (vI (x3 + 1))] [] h)) ∧ (¬ (ch_I h a1 x3) = 0 → Q (some (vI 0)) h))))))) : cw d cd_Shape_isZero Q 7 [some (vR 9 a0), some (vR 20 a1), some (vI x2), some (vI x3)] [] h := by
  refine w_iload rfl rfl ?_
  refine w_aload rfl rfl ?_
  refine w_getR 3 20 rfl rfl rfl rfl p_a0 ?_
  refine w_iload rfl rfl ?_
  refine w_iconst rfl ⟨by decide, by decide⟩ ?_
  have o1 := H.1
  replace H := H.2
  refine w_iadd rfl o1 ?_
  have o2 := H.1
  replace H := H.2
  have o3 := H.1
  replace H := H.2
  refine w_iaload rfl o2 o3 ?_
  refine w_icmp rfl (And.intro (fun hc => ?_) (fun hc => ?_))
  · replace H := H.1 hc
    refine w_iconst rfl ⟨by decide, by decide⟩ ?_
    exact w_zreturn rfl (by decide) H
  · replace H := H.2 hc
    refine w_aload rfl rfl ?_
    refine w_iload rfl rfl ?_
    have o4 := H.1
    replace H := H.2
    refine w_iaload rfl p_a1 o4 ?_
    refine w_if rfl (And.intro (fun hc => ?_) (fun hc => ?_))
    · replace H := H.1 hc
      have o5 := H.1
      replace H := H.2
      refine w_iinc rfl rfl rfl o5 ?_
      refine w_goto rfl ?_
      exact H
    · replace H := H.2 hc
      refine w_iconst rfl ⟨by decide, by decide⟩ ?_
      exact w_zreturn rfl (by decide) H
set_option maxHeartbeats 4000000 in
set_option maxRecDepth 100000 in
theorem r_Shape_isZero {d : Nat} {Q : cm_Q} {h : cm_H} {a0 : Nat} {a1 : Nat} {x2 : Int} (p_a0 : 0 < a0) (H : (0 < ((ch_R h a0 3)) ∧ ((0:Int) ≤ x2 ∧ x2 < ch_L h (ch_R h a0 3)) ∧ cw d cd_Shape_isZero Q 7 [some (vR 9 a0), some (vR 20 a1), some (vI x2), some (vI (ch_I h (ch_R h a0 3) x2))] [] h)) : cm_call (d + 1) m_Shape_isZero [vR 9 a0, vR 20 a1, vI x2] h Q := by
  refine cm_call_in (C := cd_Shape_isZero) (ls := [some (vR 9 a0), some (vR 20 a1), some (vI x2), none]) rfl rfl p_a0 rfl ?_
  refine w_aload rfl rfl ?_
  refine w_getR 3 20 rfl rfl rfl rfl p_a0 ?_
  refine w_iload rfl rfl ?_
  have o1 := H.1
  replace H := H.2
  have o2 := H.1
  replace H := H.2
  refine w_iaload rfl o1 o2 ?_
  refine w_istore rfl rfl ?_
  exact H
set_option maxHeartbeats 4000000 in
set_option maxRecDepth 100000 in
theorem r_Shape_degreeOf_7 {d : Nat} {Q : cm_Q} {h : cm_H} {a0 : Nat} {a1 : Nat} {x2 : Int} {z3 : Option cm_V} (p_a1 : 0 < a1) (H : ((x2 ≤ 0 → cw d cd_Shape_degreeOf Q 26 [some (vR 9 a0), some (vR 20 a1), some (vI x2), some (vI 15)] [] h) ∧ (0 < x2 → ((0:Int) ≤ x2 ∧ x2 < ch_L h a1) ∧ ((¬ (ch_I h a1 x2) = 0 → cw d cd_Shape_degreeOf Q 26 [some (vR 9 a0), some (vR 20 a1), some (vI x2), some (vI 15)] [] h) ∧ ((ch_I h a1 x2) = 0 → (cm_i (x2 + (-1)) ∧ cw d cd_Shape_degreeOf Q 7 [some (vR 9 a0), some (vR 20 a1), some (vI (x2 + (-1))), z3] [] h)))))) : cw d cd_Shape_degreeOf Q 7 [some (vR 9 a0), some (vR 20 a1), some (vI x2), z3] [] h := by
  refine w_iload rfl rfl ?_
  refine w_if rfl (And.intro (fun hc => ?_) (fun hc => ?_))
  · replace H := H.1 hc
    refine w_iconst rfl ⟨by decide, by decide⟩ ?_
    refine w_istore rfl rfl ?_
    exact H
  · replace H := H.2 hc
    refine w_aload rfl rfl ?_
    refine w_iload rfl rfl ?_
    have o1 := H.1
    replace H := H.2
    refine w_iaload rfl p_a1 o1 ?_
    refine w_if rfl (And.intro (fun hc => ?_) (fun hc => ?_))
    · replace H := H.1 hc
      refine w_iconst rfl ⟨by decide, by decide⟩ ?_
      refine w_istore rfl rfl ?_
      exact H
    · replace H := H.2 hc
      have o2 := H.1
      replace H := H.2
      refine w_iinc rfl rfl rfl o2 ?_
      refine w_goto rfl ?_
      exact H
set_option maxHeartbeats 4000000 in
set_option maxRecDepth 100000 in
theorem r_Shape_degreeOf_26 {d : Nat} {Q : cm_Q} {h : cm_H} {a0 : Nat} {z1 : Option cm_V} {x2 : Int} {x3 : Int} (p_a0 : 0 < a0) (H : ((x3 ≤ 0 → Q (some (vI x3)) h) ∧ (0 < x3 → (0 < ((ch_R h a0 3)) ∧ ((0:Int) ≤ x3 ∧ x3 < ch_L h (ch_R h a0 3)) ∧ (((ch_I h (ch_R h a0 3) x3) ≤ x2 → Q (some (vI x3)) h) ∧ (x2 < (ch_I h (ch_R h a0 3) x3) → (cm_i (x3 + (-1)) ∧ cw d cd_Shape_degreeOf Q 26 [some (vR 9 a0), z1, some (vI x2), some (vI (x3 + (-1)))] [] h))))))) : cw d cd_Shape_degreeOf Q 26 [some (vR 9 a0), z1, some (vI x2), some (vI x3)] [] h := by
  refine w_iload rfl rfl ?_
  refine w_if rfl (And.intro (fun hc => ?_) (fun hc => ?_))
  · replace H := H.1 hc
    refine w_iload rfl rfl ?_
    exact w_ireturn rfl H
  · replace H := H.2 hc
    refine w_aload rfl rfl ?_
    refine w_getR 3 20 rfl rfl rfl rfl p_a0 ?_
    refine w_iload rfl rfl ?_
    have o1 := H.1
    replace H := H.2
    have o2 := H.1
    replace H := H.2
    refine w_iaload rfl o1 o2 ?_
    refine w_iload rfl rfl ?_
    refine w_icmp rfl (And.intro (fun hc => ?_) (fun hc => ?_))
    · replace H := H.1 hc
      refine w_iload rfl rfl ?_
      exact w_ireturn rfl H
    · replace H := H.2 hc
      have o3 := H.1
      replace H := H.2
      refine w_iinc rfl rfl rfl o3 ?_
      refine w_goto rfl ?_
      exact H
set_option maxHeartbeats 4000000 in
set_option maxRecDepth 100000 in
theorem r_Shape_degreeOf {d : Nat} {Q : cm_Q} {h : cm_H} {a0 : Nat} {a1 : Nat} (p_a0 : 0 < a0) (H : (cm_i ((ch_I h a0 1) - 1) ∧ cw d cd_Shape_degreeOf Q 7 [some (vR 9 a0), some (vR 20 a1), some (vI ((ch_I h a0 1) - 1)), none] [] h)) : cm_call (d + 1) m_Shape_degreeOf [vR 9 a0, vR 20 a1] h Q := by
  refine cm_call_in (C := cd_Shape_degreeOf) (ls := [some (vR 9 a0), some (vR 20 a1), none, none]) rfl rfl p_a0 rfl ?_
  refine w_aload rfl rfl ?_
  refine w_getI 1 rfl rfl rfl p_a0 ?_
  refine w_iconst rfl ⟨by decide, by decide⟩ ?_
  have o1 := H.1
  replace H := H.2
  refine w_isub rfl o1 ?_
  refine w_istore rfl rfl ?_
  exact H
set_option maxHeartbeats 4000000 in
set_option maxRecDepth 100000 in
theorem r_Shape_termsOf_4 {d : Nat} {Q : cm_Q} {h : cm_H} {a0 : Nat} {a1 : Nat} {x2 : Int} {x3 : Int} (p_a0 : 0 < a0) (p_a1 : 0 < a1) (H : (((ch_I h a0 1) ≤ x3 → Q (some (vI x2)) h) ∧ (x3 < (ch_I h a0 1) → ((0:Int) ≤ x3 ∧ x3 < ch_L h a1) ∧ (((ch_I h a1 x3) = 0 → (cm_i (x3 + 1) ∧ cw d cd_Shape_termsOf Q 4 [some (vR 9 a0), some (vR 20 a1), some (vI x2), some (vI (x3 + 1))] [] h)) ∧ (¬ (ch_I h a1 x3) = 0 → (cm_i (x2 + 1) ∧ (cm_i (x3 + 1) ∧ cw d cd_Shape_termsOf Q 4 [some (vR 9 a0), some (vR 20 a1), some (vI (x2 + 1)), some (vI (x3 + 1))] [] h))))))) : cw d cd_Shape_termsOf Q 4 [some (vR 9 a0), some (vR 20 a1), some (vI x2), some (vI x3)] [] h := by
  refine w_iload rfl rfl ?_
  refine w_aload rfl rfl ?_
  refine w_getI 1 rfl rfl rfl p_a0 ?_
  refine w_icmp rfl (And.intro (fun hc => ?_) (fun hc => ?_))
  · replace H := H.1 hc
    refine w_iload rfl rfl ?_
    exact w_ireturn rfl H
  · replace H := H.2 hc
    refine w_aload rfl rfl ?_
    refine w_iload rfl rfl ?_
    have o1 := H.1
    replace H := H.2
    refine w_iaload rfl p_a1 o1 ?_
    refine w_if rfl (And.intro (fun hc => ?_) (fun hc => ?_))
    · replace H := H.1 hc
      have o2 := H.1
      replace H := H.2
      refine w_iinc rfl rfl rfl o2 ?_
      refine w_goto rfl ?_
      exact H
    · replace H := H.2 hc
      have o3 := H.1
      replace H := H.2
      refine w_iinc rfl rfl rfl o3 ?_
      have o4 := H.1
      replace H := H.2
      refine w_iinc rfl rfl rfl o4 ?_
      refine w_goto rfl ?_
      exact H
set_option maxHeartbeats 4000000 in
set_option maxRecDepth 100000 in
theorem r_Shape_termsOf {d : Nat} {Q : cm_Q} {h : cm_H} {a0 : Nat} {a1 : Nat} (p_a0 : 0 < a0) (H : cw d cd_Shape_termsOf Q 4 [some (vR 9 a0), some (vR 20 a1), some (vI 0), some (vI 0)] [] h) : cm_call (d + 1) m_Shape_termsOf [vR 9 a0, vR 20 a1] h Q := by
  refine cm_call_in (C := cd_Shape_termsOf) (ls := [some (vR 9 a0), some (vR 20 a1), none, none]) rfl rfl p_a0 rfl ?_
  refine w_iconst rfl ⟨by decide, by decide⟩ ?_
  refine w_istore rfl rfl ?_
  refine w_iconst rfl ⟨by decide, by decide⟩ ?_
  refine w_istore rfl rfl ?_
  exact H
set_option maxHeartbeats 4000000 in
set_option maxRecDepth 100000 in
theorem r_Shape_isOneDegree_4 {d : Nat} {Q : cm_Q} {h : cm_H} {a0 : Nat} {a1 : Nat} {x2 : Int} {x3 : Int}  (H : ((15 < x3 → ((1 < x2 → Q (some (vI 0)) h) ∧ (x2 ≤ 1 → Q (some (vI 1)) h))) ∧ (x3 ≤ 15 → (cI d m_Shape_isZero [vR 9 a0, vR 20 a1, vI x3] h fun v2 h1 => ((¬ v2 = 0 → (cm_i (x3 + 1) ∧ cw d cd_Shape_isOneDegree Q 4 [some (vR 9 a0), some (vR 20 a1), some (vI x2), some (vI (x3 + 1))] [] h1)) ∧ (v2 = 0 → (cm_i (x2 + 1) ∧ (cm_i (x3 + 1) ∧ cw d cd_Shape_isOneDegree Q 4 [some (vR 9 a0), some (vR 20 a1), some (vI (x2 + 1)), some (vI (x3 + 1))] [] h1)))))))) : cw d cd_Shape_isOneDegree Q 4 [some (vR 9 a0), some (vR 20 a1), some (vI x2), some (vI x3)] [] h := by
  refine w_iload rfl rfl ?_
  refine w_iconst rfl ⟨by decide, by decide⟩ ?_
  refine w_icmp rfl (And.intro (fun hc => ?_) (fun hc => ?_))
  · replace H := H.1 hc
    refine w_iload rfl rfl ?_
    refine w_iconst rfl ⟨by decide, by decide⟩ ?_
    refine w_icmp rfl (And.intro (fun hc => ?_) (fun hc => ?_))
    · replace H := H.1 hc
      refine w_iconst rfl ⟨by decide, by decide⟩ ?_
      exact w_zreturn rfl (by decide) H
    · replace H := H.2 hc
      refine w_iconst rfl ⟨by decide, by decide⟩ ?_
      refine w_goto rfl ?_
      exact w_zreturn rfl (by decide) H
  · replace H := H.2 hc
    refine w_aload rfl rfl ?_
    refine w_aload rfl rfl ?_
    refine w_iload rfl rfl ?_
    refine w_callI rfl (fun _ => rfl) rfl (cI_mono H fun v2 h1 H => ?_)
    refine w_if rfl (And.intro (fun hc => ?_) (fun hc => ?_))
    · replace H := H.1 hc
      have o3 := H.1
      replace H := H.2
      refine w_iinc rfl rfl rfl o3 ?_
      refine w_goto rfl ?_
      exact H
    · replace H := H.2 hc
      have o4 := H.1
      replace H := H.2
      refine w_iinc rfl rfl rfl o4 ?_
      have o5 := H.1
      replace H := H.2
      refine w_iinc rfl rfl rfl o5 ?_
      refine w_goto rfl ?_
      exact H
set_option maxHeartbeats 4000000 in
set_option maxRecDepth 100000 in
theorem r_Shape_isOneDegree {d : Nat} {Q : cm_Q} {h : cm_H} {a0 : Nat} {a1 : Nat} (p_a0 : 0 < a0) (H : cw d cd_Shape_isOneDegree Q 4 [some (vR 9 a0), some (vR 20 a1), some (vI 0), some (vI 0)] [] h) : cm_call (d + 1) m_Shape_isOneDegree [vR 9 a0, vR 20 a1] h Q := by
  refine cm_call_in (C := cd_Shape_isOneDegree) (ls := [some (vR 9 a0), some (vR 20 a1), none, none]) rfl rfl p_a0 rfl ?_
  refine w_iconst rfl ⟨by decide, by decide⟩ ?_
  refine w_istore rfl rfl ?_
  refine w_iconst rfl ⟨by decide, by decide⟩ ?_
  refine w_istore rfl rfl ?_
  exact H
set_option maxHeartbeats 4000000 in
set_option maxRecDepth 100000 in
theorem r_Shape_addProduct_3 {d : Nat} {Q : cm_Q} {h : cm_H} {a0 : Nat} {a1 : Nat} {a2 : Nat} {a3 : Nat} {x4 : Int} {x5 : Int} {z6 : Option cm_V} {z7 : Option cm_V} {z8 : Option cm_V} {z9 : Option cm_V} {z10 : Option cm_V} {z11 : Option cm_V} {z12 : Option cm_V} {z13 : Option cm_V} (p_a0 : 0 < a0) (p_a1 : 0 < a1) (H : (cm_i ((ch_I h a1 2) + 1) ∧ (0 < ((ch_R h a0 2)) ∧ ((0:Int) ≤ ((ch_I h a1 2) + 1) ∧ ((ch_I h a1 2) + 1) < ch_L h (ch_R h a0 2)) ∧ (((ch_I h (ch_R h a0 2) ((ch_I h a1 2) + 1)) ≤ x5 → Q none h) ∧ (x5 < (ch_I h (ch_R h a0 2) ((ch_I h a1 2) + 1)) → (cm_i ((ch_I h a1 1) + x5) ∧ (0 < ((ch_R h a1 0)) ∧ ((0:Int) ≤ ((ch_I h a1 1) + x5) ∧ ((ch_I h a1 1) + x5) < ch_L h (ch_R h a1 0)) ∧ ((¬ (ch_I h (ch_R h a1 0) ((ch_I h a1 1) + x5)) = 0 → (0 < ((ch_R h a0 4)) ∧ ((0:Int) ≤ x5 ∧ x5 < ch_L h (ch_R h a0 4)) ∧ ((0:Int) ≤ (ch_I h (ch_R h a0 4) x5) ∧ (ch_I h (ch_R h a0 4) x5) < ch_L h (ch_R h a0 2)) ∧ (cm_i (x5 - (ch_I h (ch_R h a0 2) (ch_I h (ch_R h a0 4) x5))) ∧ cw d cd_Shape_addProduct Q 65 [some (vR 9 a0), some (vR 5 a1), some (vR 5 a2), some (vR 20 a3), some (vI x4), some (vI x5), some (vI (ch_I h (ch_R h a1 0) ((ch_I h a1 1) + x5))), some (vI (ch_I h (ch_R h a0 4) x5)), some (vI (x5 - (ch_I h (ch_R h a0 2) (ch_I h (ch_R h a0 4) x5)))), some (vI 0), z10, z11, z12, z13] [] h))) ∧ ((ch_I h (ch_R h a1 0) ((ch_I h a1 1) + x5)) = 0 → (cm_i (x5 + 1) ∧ cw d cd_Shape_addProduct Q 3 [some (vR 9 a0), some (vR 5 a1), some (vR 5 a2), some (vR 20 a3), some (vI x4), some (vI (x5 + 1)), some (vI (ch_I h (ch_R h a1 0) ((ch_I h a1 1) + x5))), z7, z8, z9, z10, z11, z12, z13] [] h)))))))))) : cw d cd_Shape_addProduct Q 3 [some (vR 9 a0), some (vR 5 a1), some (vR 5 a2), some (vR 20 a3), some (vI x4), some (vI x5), z6, z7, z8, z9, z10, z11, z12, z13] [] h := by
  refine w_iload rfl rfl ?_
  refine w_aload rfl rfl ?_
  refine w_getR 2 20 rfl rfl rfl rfl p_a0 ?_
  refine w_aload rfl rfl ?_
  refine w_getI 2 rfl rfl rfl p_a1 ?_
  refine w_iconst rfl ⟨by decide, by decide⟩ ?_
  have o1 := H.1
  replace H := H.2
  refine w_iadd rfl o1 ?_
  have o2 := H.1
  replace H := H.2
  have o3 := H.1
  replace H := H.2
  refine w_iaload rfl o2 o3 ?_
  refine w_icmp rfl (And.intro (fun hc => ?_) (fun hc => ?_))
  · replace H := H.1 hc
    exact w_return rfl H
  · replace H := H.2 hc
    refine w_aload rfl rfl ?_
    refine w_getR 0 20 rfl rfl rfl rfl p_a1 ?_
    refine w_aload rfl rfl ?_
    refine w_getI 1 rfl rfl rfl p_a1 ?_
    refine w_iload rfl rfl ?_
    have o4 := H.1
    replace H := H.2
    refine w_iadd rfl o4 ?_
    have o5 := H.1
    replace H := H.2
    have o6 := H.1
    replace H := H.2
    refine w_iaload rfl o5 o6 ?_
    refine w_istore rfl rfl ?_
    refine w_iload rfl rfl ?_
    refine w_if rfl (And.intro (fun hc => ?_) (fun hc => ?_))
    · replace H := H.1 hc
      refine w_aload rfl rfl ?_
      refine w_getR 4 20 rfl rfl rfl rfl p_a0 ?_
      refine w_iload rfl rfl ?_
      have o7 := H.1
      replace H := H.2
      have o8 := H.1
      replace H := H.2
      refine w_iaload rfl o7 o8 ?_
      refine w_istore rfl rfl ?_
      refine w_iload rfl rfl ?_
      refine w_aload rfl rfl ?_
      refine w_getR 2 20 rfl rfl rfl rfl p_a0 ?_
      refine w_iload rfl rfl ?_
      have o9 := H.1
      replace H := H.2
      refine w_iaload rfl o2 o9 ?_
      have o10 := H.1
      replace H := H.2
      refine w_isub rfl o10 ?_
      refine w_istore rfl rfl ?_
      refine w_iconst rfl ⟨by decide, by decide⟩ ?_
      refine w_istore rfl rfl ?_
      exact H
    · replace H := H.2 hc
      refine w_goto rfl ?_
      have o11 := H.1
      replace H := H.2
      refine w_iinc rfl rfl rfl o11 ?_
      refine w_goto rfl ?_
      exact H
set_option maxHeartbeats 4000000 in
set_option maxRecDepth 100000 in
theorem r_Shape_addProduct_65 {d : Nat} {Q : cm_Q} {h : cm_H} {a0 : Nat} {a1 : Nat} {a2 : Nat} {a3 : Nat} {x4 : Int} {x5 : Int} {x6 : Int} {x7 : Int} {x8 : Int} {x9 : Int} {z10 : Option cm_V} {z11 : Option cm_V} {z12 : Option cm_V} {z13 : Option cm_V} (p_a2 : 0 < a2) (p_a0 : 0 < a0) (H : (((ch_I h a2 2) < x9 → (cm_i (x5 + 1) ∧ cw d cd_Shape_addProduct Q 3 [some (vR 9 a0), some (vR 5 a1), some (vR 5 a2), some (vR 20 a3), some (vI x4), some (vI (x5 + 1)), some (vI x6), some (vI x7), some (vI x8), some (vI x9), z10, z11, z12, z13] [] h)) ∧ (x9 ≤ (ch_I h a2 2) → (0 < ((ch_R h a0 2)) ∧ ((0:Int) ≤ x9 ∧ x9 < ch_L h (ch_R h a0 2)) ∧ (cm_i ((ch_I h a2 1) + (ch_I h (ch_R h a0 2) x9)) ∧ (cm_i (x7 + x9) ∧ ((0:Int) ≤ (x7 + x9) ∧ (x7 + x9) < ch_L h (ch_R h a0 2)) ∧ (cm_i (x4 + (ch_I h (ch_R h a0 2) (x7 + x9))) ∧ (cm_i ((x4 + (ch_I h (ch_R h a0 2) (x7 + x9))) + x8) ∧ (cm_i (x9 + 1) ∧ ((0:Int) ≤ (x9 + 1) ∧ (x9 + 1) < ch_L h (ch_R h a0 2)) ∧ (cm_i ((ch_I h (ch_R h a0 2) (x9 + 1)) - (ch_I h (ch_R h a0 2) x9)) ∧ cw d cd_Shape_addProduct Q 128 [some (vR 9 a0), some (vR 5 a1), some (vR 5 a2), some (vR 20 a3), some (vI x4), some (vI x5), some (vI x6), some (vI x7), some (vI x8), some (vI x9), some (vI ((ch_I h a2 1) + (ch_I h (ch_R h a0 2) x9))), some (vI ((x4 + (ch_I h (ch_R h a0 2) (x7 + x9))) + x8)), some (vI ((ch_I h (ch_R h a0 2) (x9 + 1)) - (ch_I h (ch_R h a0 2) x9))), some (vI 0)] [] h)))))))))) : cw d cd_Shape_addProduct Q 65 [some (vR 9 a0), some (vR 5 a1), some (vR 5 a2), some (vR 20 a3), some (vI x4), some (vI x5), some (vI x6), some (vI x7), some (vI x8), some (vI x9), z10, z11, z12, z13] [] h := by
  refine w_iload rfl rfl ?_
  refine w_aload rfl rfl ?_
  refine w_getI 2 rfl rfl rfl p_a2 ?_
  refine w_icmp rfl (And.intro (fun hc => ?_) (fun hc => ?_))
  · replace H := H.1 hc
    have o1 := H.1
    replace H := H.2
    refine w_iinc rfl rfl rfl o1 ?_
    refine w_goto rfl ?_
    exact H
  · replace H := H.2 hc
    refine w_aload rfl rfl ?_
    refine w_getI 1 rfl rfl rfl p_a2 ?_
    refine w_aload rfl rfl ?_
    refine w_getR 2 20 rfl rfl rfl rfl p_a0 ?_
    refine w_iload rfl rfl ?_
    have o2 := H.1
    replace H := H.2
    have o3 := H.1
    replace H := H.2
    refine w_iaload rfl o2 o3 ?_
    have o4 := H.1
    replace H := H.2
    refine w_iadd rfl o4 ?_
    refine w_istore rfl rfl ?_
    refine w_iload rfl rfl ?_
    refine w_aload rfl rfl ?_
    refine w_getR 2 20 rfl rfl rfl rfl p_a0 ?_
    refine w_iload rfl rfl ?_
    refine w_iload rfl rfl ?_
    have o5 := H.1
    replace H := H.2
    refine w_iadd rfl o5 ?_
    have o6 := H.1
    replace H := H.2
    refine w_iaload rfl o2 o6 ?_
    have o7 := H.1
    replace H := H.2
    refine w_iadd rfl o7 ?_
    refine w_iload rfl rfl ?_
    have o8 := H.1
    replace H := H.2
    refine w_iadd rfl o8 ?_
    refine w_istore rfl rfl ?_
    refine w_aload rfl rfl ?_
    refine w_getR 2 20 rfl rfl rfl rfl p_a0 ?_
    refine w_iload rfl rfl ?_
    refine w_iconst rfl ⟨by decide, by decide⟩ ?_
    have o9 := H.1
    replace H := H.2
    refine w_iadd rfl o9 ?_
    have o10 := H.1
    replace H := H.2
    refine w_iaload rfl o2 o10 ?_
    refine w_aload rfl rfl ?_
    refine w_getR 2 20 rfl rfl rfl rfl p_a0 ?_
    refine w_iload rfl rfl ?_
    refine w_iaload rfl o2 o3 ?_
    have o11 := H.1
    replace H := H.2
    refine w_isub rfl o11 ?_
    refine w_istore rfl rfl ?_
    refine w_iconst rfl ⟨by decide, by decide⟩ ?_
    refine w_istore rfl rfl ?_
    exact H
set_option maxHeartbeats 4000000 in
set_option maxRecDepth 100000 in
theorem r_Shape_addProduct_128 {d : Nat} {Q : cm_Q} {h : cm_H} {a0 : Nat} {a1 : Nat} {a2 : Nat} {a3 : Nat} {x4 : Int} {x5 : Int} {x6 : Int} {x7 : Int} {x8 : Int} {x9 : Int} {x10 : Int} {x11 : Int} {x12 : Int} {x13 : Int} (p_a3 : 0 < a3) (p_a2 : 0 < a2) (H : ((x12 ≤ x13 → (cm_i (x9 + 1) ∧ cw d cd_Shape_addProduct Q 65 [some (vR 9 a0), some (vR 5 a1), some (vR 5 a2), some (vR 20 a3), some (vI x4), some (vI x5), some (vI x6), some (vI x7), some (vI x8), some (vI (x9 + 1)), some (vI x10), some (vI x11), some (vI x12), some (vI x13)] [] h)) ∧ (x13 < x12 → (cm_i (x11 + x13) ∧ ((0:Int) ≤ (x11 + x13) ∧ (x11 + x13) < ch_L h a3) ∧ (cm_i (x10 + x13) ∧ (0 < ((ch_R h a2 0)) ∧ ((0:Int) ≤ (x10 + x13) ∧ (x10 + x13) < ch_L h (ch_R h a2 0)) ∧ (cm_i (x6 * (ch_I h (ch_R h a2 0) (x10 + x13))) ∧ (cm_i ((ch_I h a3 (x11 + x13)) + (x6 * (ch_I h (ch_R h a2 0) (x10 + x13)))) ∧ (∀ h9 : cm_H, h9 = ch_u h a3 (x11 + x13) ((ch_I h a3 (x11 + x13)) + (x6 * (ch_I h (ch_R h a2 0) (x10 + x13)))) → (cm_i (x13 + 1) ∧ cw d cd_Shape_addProduct Q 128 [some (vR 9 a0), some (vR 5 a1), some (vR 5 a2), some (vR 20 a3), some (vI x4), some (vI x5), some (vI x6), some (vI x7), some (vI x8), some (vI x9), some (vI x10), some (vI x11), some (vI x12), some (vI (x13 + 1))] [] h9)))))))))) : cw d cd_Shape_addProduct Q 128 [some (vR 9 a0), some (vR 5 a1), some (vR 5 a2), some (vR 20 a3), some (vI x4), some (vI x5), some (vI x6), some (vI x7), some (vI x8), some (vI x9), some (vI x10), some (vI x11), some (vI x12), some (vI x13)] [] h := by
  refine w_iload rfl rfl ?_
  refine w_iload rfl rfl ?_
  refine w_icmp rfl (And.intro (fun hc => ?_) (fun hc => ?_))
  · replace H := H.1 hc
    have o1 := H.1
    replace H := H.2
    refine w_iinc rfl rfl rfl o1 ?_
    refine w_goto rfl ?_
    exact H
  · replace H := H.2 hc
    refine w_aload rfl rfl ?_
    refine w_iload rfl rfl ?_
    refine w_iload rfl rfl ?_
    have o2 := H.1
    replace H := H.2
    refine w_iadd rfl o2 ?_
    refine w_dup2 rfl rfl ?_
    have o3 := H.1
    replace H := H.2
    refine w_iaload rfl p_a3 o3 ?_
    refine w_iload rfl rfl ?_
    refine w_aload rfl rfl ?_
    refine w_getR 0 20 rfl rfl rfl rfl p_a2 ?_
    refine w_iload rfl rfl ?_
    refine w_iload rfl rfl ?_
    have o4 := H.1
    replace H := H.2
    refine w_iadd rfl o4 ?_
    have o5 := H.1
    replace H := H.2
    have o6 := H.1
    replace H := H.2
    refine w_iaload rfl o5 o6 ?_
    have o7 := H.1
    replace H := H.2
    refine w_imul rfl o7 ?_
    have o8 := H.1
    replace H := H.2
    refine w_iadd rfl o8 ?_
    refine w_iastore rfl p_a3 o3 (fun h9 eh9 => ?_)
    replace H := H h9 eh9
    have o10 := H.1
    replace H := H.2
    refine w_iinc rfl rfl rfl o10 ?_
    refine w_goto rfl ?_
    exact H
set_option maxHeartbeats 4000000 in
set_option maxRecDepth 100000 in
theorem r_Shape_addProduct {d : Nat} {Q : cm_Q} {h : cm_H} {a0 : Nat} {a1 : Nat} {a2 : Nat} {a3 : Nat} {x4 : Int} (p_a0 : 0 < a0) (H : cw d cd_Shape_addProduct Q 3 [some (vR 9 a0), some (vR 5 a1), some (vR 5 a2), some (vR 20 a3), some (vI x4), some (vI 0), none, none, none, none, none, none, none, none] [] h) : cm_call (d + 1) m_Shape_addProduct [vR 9 a0, vR 5 a1, vR 5 a2, vR 20 a3, vI x4] h Q := by
  refine cm_call_in (C := cd_Shape_addProduct) (ls := [some (vR 9 a0), some (vR 5 a1), some (vR 5 a2), some (vR 20 a3), some (vI x4), none, none, none, none, none, none, none, none, none]) rfl rfl p_a0 rfl ?_
  refine w_iconst rfl ⟨by decide, by decide⟩ ?_
  refine w_istore rfl rfl ?_
  exact H
set_option maxHeartbeats 4000000 in
set_option maxRecDepth 100000 in
theorem r_Shape_multiply_27 {d : Nat} {Q : cm_Q} {h : cm_H} {a0 : Nat} {a1 : Nat} {a2 : Nat} {a3 : Nat} {x4 : Int} {x5 : Int} {x6 : Int} {z7 : Option cm_V} (p_a0 : 0 < a0) (H : ((x4 < x6 → cw d cd_Shape_multiply Q 126 [some (vR 9 a0), some (vR 20 a1), some (vR 20 a2), some (vR 20 a3), some (vI x4), some (vI x5), some (vI 0), z7] [] h) ∧ (x6 ≤ x4 → (0 < ((ch_R h a0 3)) ∧ ((0:Int) ≤ x6 ∧ x6 < ch_L h (ch_R h a0 3)) ∧ (cU d m_Piece_put [vR 5 (ch_R h a0 6), vR 20 a1, vI (ch_I h (ch_R h a0 3) x6), vI x6] h fun h3 => cw d cd_Shape_multiply Q 54 [some (vR 9 a0), some (vR 20 a1), some (vR 20 a2), some (vR 20 a3), some (vI x4), some (vI x5), some (vI x6), some (vI 0)] [] h3))))) : cw d cd_Shape_multiply Q 27 [some (vR 9 a0), some (vR 20 a1), some (vR 20 a2), some (vR 20 a3), some (vI x4), some (vI x5), some (vI x6), z7] [] h := by
  refine w_iload rfl rfl ?_
  refine w_iload rfl rfl ?_
  refine w_icmp rfl (And.intro (fun hc => ?_) (fun hc => ?_))
  · replace H := H.1 hc
    refine w_iconst rfl ⟨by decide, by decide⟩ ?_
    refine w_istore rfl rfl ?_
    exact H
  · replace H := H.2 hc
    refine w_aload rfl rfl ?_
    refine w_getR 6 5 rfl rfl rfl rfl p_a0 ?_
    refine w_aload rfl rfl ?_
    refine w_aload rfl rfl ?_
    refine w_getR 3 20 rfl rfl rfl rfl p_a0 ?_
    refine w_iload rfl rfl ?_
    have o1 := H.1
    replace H := H.2
    have o2 := H.1
    replace H := H.2
    refine w_iaload rfl o1 o2 ?_
    refine w_iload rfl rfl ?_
    refine w_callU rfl (fun _ => rfl) rfl (cU_mono H fun h3 H => ?_)
    refine w_iconst rfl ⟨by decide, by decide⟩ ?_
    refine w_istore rfl rfl ?_
    exact H
set_option maxHeartbeats 4000000 in
set_option maxRecDepth 100000 in
theorem r_Shape_multiply_54 {d : Nat} {Q : cm_Q} {h : cm_H} {a0 : Nat} {a1 : Nat} {a2 : Nat} {a3 : Nat} {x4 : Int} {x5 : Int} {x6 : Int} {x7 : Int} (p_a0 : 0 < a0) (H : ((x5 < x7 → (cm_i (x6 + 1) ∧ cw d cd_Shape_multiply Q 27 [some (vR 9 a0), some (vR 20 a1), some (vR 20 a2), some (vR 20 a3), some (vI x4), some (vI x5), some (vI (x6 + 1)), some (vI x7)] [] h)) ∧ (x7 ≤ x5 → (cm_i (x6 + x7) ∧ ((15 < (x6 + x7) → (cm_i (x6 + 1) ∧ cw d cd_Shape_multiply Q 27 [some (vR 9 a0), some (vR 20 a1), some (vR 20 a2), some (vR 20 a3), some (vI x4), some (vI x5), some (vI (x6 + 1)), some (vI x7)] [] h)) ∧ ((x6 + x7) ≤ 15 → (0 < ((ch_R h a0 3)) ∧ ((0:Int) ≤ x7 ∧ x7 < ch_L h (ch_R h a0 3)) ∧ (cU d m_Piece_put [vR 5 (ch_R h a0 7), vR 20 a2, vI (ch_I h (ch_R h a0 3) x7), vI x7] h fun h6 => (0 < ((ch_R h6 a0 3)) ∧ ((0:Int) ≤ (x6 + x7) ∧ (x6 + x7) < ch_L h6 (ch_R h6 a0 3)) ∧ (cU d m_Shape_addProduct [vR 9 a0, vR 5 (ch_R h6 a0 6), vR 5 (ch_R h6 a0 7), vR 20 a3, vI (ch_I h6 (ch_R h6 a0 3) (x6 + x7))] h6 fun h9 => (cm_i (x7 + 1) ∧ cw d cd_Shape_multiply Q 54 [some (vR 9 a0), some (vR 20 a1), some (vR 20 a2), some (vR 20 a3), some (vI x4), some (vI x5), some (vI x6), some (vI (x7 + 1))] [] h9))))))))))) : cw d cd_Shape_multiply Q 54 [some (vR 9 a0), some (vR 20 a1), some (vR 20 a2), some (vR 20 a3), some (vI x4), some (vI x5), some (vI x6), some (vI x7)] [] h := by
  refine w_iload rfl rfl ?_
  refine w_iload rfl rfl ?_
  refine w_icmp rfl (And.intro (fun hc => ?_) (fun hc => ?_))
  · replace H := H.1 hc
    have o1 := H.1
    replace H := H.2
    refine w_iinc rfl rfl rfl o1 ?_
    refine w_goto rfl ?_
    exact H
  · replace H := H.2 hc
    refine w_iload rfl rfl ?_
    refine w_iload rfl rfl ?_
    have o2 := H.1
    replace H := H.2
    refine w_iadd rfl o2 ?_
    refine w_iconst rfl ⟨by decide, by decide⟩ ?_
    refine w_icmp rfl (And.intro (fun hc => ?_) (fun hc => ?_))
    · replace H := H.1 hc
      have o3 := H.1
      replace H := H.2
      refine w_iinc rfl rfl rfl o3 ?_
      refine w_goto rfl ?_
      exact H
    · replace H := H.2 hc
      refine w_aload rfl rfl ?_
      refine w_getR 7 5 rfl rfl rfl rfl p_a0 ?_
      refine w_aload rfl rfl ?_
      refine w_aload rfl rfl ?_
      refine w_getR 3 20 rfl rfl rfl rfl p_a0 ?_
      refine w_iload rfl rfl ?_
      have o4 := H.1
      replace H := H.2
      have o5 := H.1
      replace H := H.2
      refine w_iaload rfl o4 o5 ?_
      refine w_iload rfl rfl ?_
      refine w_callU rfl (fun _ => rfl) rfl (cU_mono H fun h6 H => ?_)
      refine w_aload rfl rfl ?_
      refine w_aload rfl rfl ?_
      refine w_getR 6 5 rfl rfl rfl rfl p_a0 ?_
      refine w_aload rfl rfl ?_
      refine w_getR 7 5 rfl rfl rfl rfl p_a0 ?_
      refine w_aload rfl rfl ?_
      refine w_aload rfl rfl ?_
      refine w_getR 3 20 rfl rfl rfl rfl p_a0 ?_
      refine w_iload rfl rfl ?_
      refine w_iload rfl rfl ?_
      refine w_iadd rfl o2 ?_
      have o7 := H.1
      replace H := H.2
      have o8 := H.1
      replace H := H.2
      refine w_iaload rfl o7 o8 ?_
      refine w_callU rfl (fun _ => rfl) rfl (cU_mono H fun h9 H => ?_)
      have o10 := H.1
      replace H := H.2
      refine w_iinc rfl rfl rfl o10 ?_
      refine w_goto rfl ?_
      exact H
set_option maxHeartbeats 4000000 in
set_option maxRecDepth 100000 in
theorem r_Shape_multiply_126 {d : Nat} {Q : cm_Q} {h : cm_H} {a0 : Nat} {z1 : Option cm_V} {z2 : Option cm_V} {a3 : Nat} {z4 : Option cm_V} {z5 : Option cm_V} {x6 : Int} {z7 : Option cm_V} (p_a0 : 0 < a0) (p_a3 : 0 < a3) (H : (((ch_I h a0 1) ≤ x6 → Q none h) ∧ (x6 < (ch_I h a0 1) → ((0:Int) ≤ x6 ∧ x6 < ch_L h a3) ∧ (∀ h2 : cm_H, h2 = ch_u h a3 x6 (Int.tmod (ch_I h a3 x6) 2521) → (cm_i (x6 + 1) ∧ cw d cd_Shape_multiply Q 126 [some (vR 9 a0), z1, z2, some (vR 20 a3), z4, z5, some (vI (x6 + 1)), z7] [] h2))))) : cw d cd_Shape_multiply Q 126 [some (vR 9 a0), z1, z2, some (vR 20 a3), z4, z5, some (vI x6), z7] [] h := by
  refine w_iload rfl rfl ?_
  refine w_aload rfl rfl ?_
  refine w_getI 1 rfl rfl rfl p_a0 ?_
  refine w_icmp rfl (And.intro (fun hc => ?_) (fun hc => ?_))
  · replace H := H.1 hc
    exact w_return rfl H
  · replace H := H.2 hc
    refine w_aload rfl rfl ?_
    refine w_iload rfl rfl ?_
    refine w_dup2 rfl rfl ?_
    have o1 := H.1
    replace H := H.2
    refine w_iaload rfl p_a3 o1 ?_
    refine w_iconst rfl ⟨by decide, by decide⟩ ?_
    refine w_irem rfl (by decide) ?_
    refine w_iastore rfl p_a3 o1 (fun h2 eh2 => ?_)
    replace H := H h2 eh2
    have o3 := H.1
    replace H := H.2
    refine w_iinc rfl rfl rfl o3 ?_
    refine w_goto rfl ?_
    exact H
set_option maxHeartbeats 4000000 in
set_option maxRecDepth 100000 in
theorem r_Shape_multiply {d : Nat} {Q : cm_Q} {h : cm_H} {a0 : Nat} {a1 : Nat} {a2 : Nat} {a3 : Nat} (p_a0 : 0 < a0) (H : (cU d m_Arr_fill4 [vR 20 a3, vI 0, vI (ch_I h a0 1), vI 0] h fun h1 => (cI d m_Shape_degreeOf [vR 9 a0, vR 20 a1] h1 fun v3 h2 => (cI d m_Shape_degreeOf [vR 9 a0, vR 20 a2] h2 fun v5 h4 => cw d cd_Shape_multiply Q 27 [some (vR 9 a0), some (vR 20 a1), some (vR 20 a2), some (vR 20 a3), some (vI v3), some (vI v5), some (vI 0), none] [] h4)))) : cm_call (d + 1) m_Shape_multiply [vR 9 a0, vR 20 a1, vR 20 a2, vR 20 a3] h Q := by
  refine cm_call_in (C := cd_Shape_multiply) (ls := [some (vR 9 a0), some (vR 20 a1), some (vR 20 a2), some (vR 20 a3), none, none, none, none]) rfl rfl p_a0 rfl ?_
  refine w_aload rfl rfl ?_
  refine w_iconst rfl ⟨by decide, by decide⟩ ?_
  refine w_aload rfl rfl ?_
  refine w_getI 1 rfl rfl rfl p_a0 ?_
  refine w_iconst rfl ⟨by decide, by decide⟩ ?_
  refine w_callU rfl (fun _ => rfl) rfl (cU_mono H fun h1 H => ?_)
  refine w_aload rfl rfl ?_
  refine w_aload rfl rfl ?_
  refine w_callI rfl (fun _ => rfl) rfl (cI_mono H fun v3 h2 H => ?_)
  refine w_istore rfl rfl ?_
  refine w_aload rfl rfl ?_
  refine w_aload rfl rfl ?_
  refine w_callI rfl (fun _ => rfl) rfl (cI_mono H fun v5 h4 H => ?_)
  refine w_istore rfl rfl ?_
  refine w_iconst rfl ⟨by decide, by decide⟩ ?_
  refine w_istore rfl rfl ?_
  exact H
set_option maxHeartbeats 4000000 in
set_option maxRecDepth 100000 in
theorem r_Echelon_init {d : Nat} {Q : cm_Q} {h : cm_H} {a0 : Nat} (p_a0 : 0 < a0) (H : (∀ h1 : cm_H, h1 = ch_new h 20 0 (Int.toNat 0) → (∀ h2 : cm_H, h2 = ch_r h1 a0 2 (ch_n h) → (∀ h3 : cm_H, h3 = ch_new h2 20 153 (Int.toNat 153) → (∀ h4 : cm_H, h4 = ch_r h3 a0 3 (ch_n h2) → Q none h4))))) : cm_call (d + 1) m_Echelon_init [vR 1 a0] h Q := by
  refine cm_call_in (C := cd_Echelon_init) (ls := [some (vR 1 a0)]) rfl rfl p_a0 rfl ?_
  refine w_aload rfl rfl ?_
  refine w_objInit rfl rfl p_a0 ?_
  refine w_aload rfl rfl ?_
  refine w_iconst rfl ⟨by decide, by decide⟩ ?_
  refine w_newI rfl (by decide) (fun h1 eh1 => ?_)
  replace H := H h1 eh1
  refine w_putR 2 rfl rfl rfl rfl p_a0 (fun h2 eh2 => ?_)
  replace H := H h2 eh2
  refine w_aload rfl rfl ?_
  refine w_iconst rfl ⟨by decide, by decide⟩ ?_
  refine w_newI rfl (by decide) (fun h3 eh3 => ?_)
  replace H := H h3 eh3
  refine w_putR 3 rfl rfl rfl rfl p_a0 (fun h4 eh4 => ?_)
  replace H := H h4 eh4
  exact w_return rfl H
set_option maxHeartbeats 4000000 in
set_option maxRecDepth 100000 in
theorem r_Echelon_begin {d : Nat} {Q : cm_Q} {h : cm_H} {a0 : Nat} {x1 : Int} {x2 : Int} (p_a0 : 0 < a0) (H : (∀ h1 : cm_H, h1 = ch_u h a0 0 x1 → (∀ h2 : cm_H, h2 = ch_u h1 a0 1 0 → (cU d m_Arr_fill [vR 20 (ch_R h2 a0 3), vI (-1)] h2 fun h3 => ((x2 = 0 → (cA d m_Works_withRoom [vR 20 (ch_R h3 a0 2), vI 23409, vI 23409] h3 20 fun v5 h4 => (∀ h6 : cm_H, h6 = ch_r h4 a0 2 v5 → Q none h6))) ∧ (¬ x2 = 0 → (cA d m_Works_withRoom [vR 20 (ch_R h3 a0 2), vI 324, vI 324] h3 20 fun v8 h7 => (∀ h9 : cm_H, h9 = ch_r h7 a0 2 v8 → Q none h9)))))))) : cm_call (d + 1) m_Echelon_begin [vR 1 a0, vI x1, vI x2] h Q := by
  refine cm_call_in (C := cd_Echelon_begin) (ls := [some (vR 1 a0), some (vI x1), some (vI x2), none]) rfl rfl p_a0 rfl ?_
  refine w_aload rfl rfl ?_
  refine w_iload rfl rfl ?_
  refine w_putI 0 rfl rfl rfl p_a0 (fun h1 eh1 => ?_)
  replace H := H h1 eh1
  refine w_aload rfl rfl ?_
  refine w_iconst rfl ⟨by decide, by decide⟩ ?_
  refine w_putI 1 rfl rfl rfl p_a0 (fun h2 eh2 => ?_)
  replace H := H h2 eh2
  refine w_aload rfl rfl ?_
  refine w_getR 3 20 rfl rfl rfl rfl p_a0 ?_
  refine w_iconst rfl ⟨by decide, by decide⟩ ?_
  refine w_callU rfl (fun _ => rfl) rfl (cU_mono H fun h3 H => ?_)
  refine w_iload rfl rfl ?_
  refine w_if rfl (And.intro (fun hc => ?_) (fun hc => ?_))
  · replace H := H.1 hc
    refine w_iconst rfl ⟨by decide, by decide⟩ ?_
    refine w_istore rfl rfl ?_
    refine w_aload rfl rfl ?_
    refine w_aload rfl rfl ?_
    refine w_getR 2 20 rfl rfl rfl rfl p_a0 ?_
    refine w_iload rfl rfl ?_
    refine w_iload rfl rfl ?_
    refine w_callA rfl (fun _ => rfl) rfl (cA_mono H fun v5 h4 H => ?_)
    refine w_putR 2 rfl rfl rfl rfl p_a0 (fun h6 eh6 => ?_)
    replace H := H h6 eh6
    exact w_return rfl H
  · replace H := H.2 hc
    refine w_iconst rfl ⟨by decide, by decide⟩ ?_
    refine w_goto rfl ?_
    refine w_istore rfl rfl ?_
    refine w_aload rfl rfl ?_
    refine w_aload rfl rfl ?_
    refine w_getR 2 20 rfl rfl rfl rfl p_a0 ?_
    refine w_iload rfl rfl ?_
    refine w_iload rfl rfl ?_
    refine w_callA rfl (fun _ => rfl) rfl (cA_mono H fun v8 h7 H => ?_)
    refine w_putR 2 rfl rfl rfl rfl p_a0 (fun h9 eh9 => ?_)
    replace H := H h9 eh9
    exact w_return rfl H
set_option maxHeartbeats 4000000 in
set_option maxRecDepth 100000 in
theorem r_Echelon_insert_2 {d : Nat} {Q : cm_Q} {h : cm_H} {a0 : Nat} {a1 : Nat} {x2 : Int} {z3 : Option cm_V} {z4 : Option cm_V} {z5 : Option cm_V} (p_a0 : 0 < a0) (p_a1 : 0 < a1) (H : (((ch_I h a0 0) ≤ x2 → cw d cd_Echelon_insert Q 65 [some (vR 1 a0), some (vR 20 a1), some (vI x2), z3, z4, z5] [] h) ∧ (x2 < (ch_I h a0 0) → ((0:Int) ≤ x2 ∧ x2 < ch_L h a1) ∧ (((Int.tmod (ch_I h a1 x2) 2521) = 0 → cw d cd_Echelon_insert Q 29 [some (vR 1 a0), some (vR 20 a1), some (vI x2), z3, z4, z5] [] h) ∧ (¬ (Int.tmod (ch_I h a1 x2) 2521) = 0 → (0 < ((ch_R h a0 3)) ∧ ((0:Int) ≤ x2 ∧ x2 < ch_L h (ch_R h a0 3)) ∧ (((ch_I h (ch_R h a0 3) x2) < 0 → cw d cd_Echelon_insert Q 65 [some (vR 1 a0), some (vR 20 a1), some (vI x2), z3, z4, z5] [] h) ∧ (0 ≤ (ch_I h (ch_R h a0 3) x2) → cw d cd_Echelon_insert Q 29 [some (vR 1 a0), some (vR 20 a1), some (vI x2), z3, z4, z5] [] h)))))))) : cw d cd_Echelon_insert Q 2 [some (vR 1 a0), some (vR 20 a1), some (vI x2), z3, z4, z5] [] h := by
  refine w_iload rfl rfl ?_
  refine w_aload rfl rfl ?_
  refine w_getI 0 rfl rfl rfl p_a0 ?_
  refine w_icmp rfl (And.intro (fun hc => ?_) (fun hc => ?_))
  · replace H := H.1 hc
    exact H
  · replace H := H.2 hc
    refine w_aload rfl rfl ?_
    refine w_iload rfl rfl ?_
    have o1 := H.1
    replace H := H.2
    refine w_iaload rfl p_a1 o1 ?_
    refine w_iconst rfl ⟨by decide, by decide⟩ ?_
    refine w_irem rfl (by decide) ?_
    refine w_if rfl (And.intro (fun hc => ?_) (fun hc => ?_))
    · replace H := H.1 hc
      exact H
    · replace H := H.2 hc
      refine w_aload rfl rfl ?_
      refine w_getR 3 20 rfl rfl rfl rfl p_a0 ?_
      refine w_iload rfl rfl ?_
      have o2 := H.1
      replace H := H.2
      have o3 := H.1
      replace H := H.2
      refine w_iaload rfl o2 o3 ?_
      refine w_if rfl (And.intro (fun hc => ?_) (fun hc => ?_))
      · replace H := H.1 hc
        exact H
      · replace H := H.2 hc
        exact H
set_option maxHeartbeats 4000000 in
set_option maxRecDepth 100000 in
theorem r_Echelon_insert_29 {d : Nat} {Q : cm_Q} {h : cm_H} {a0 : Nat} {a1 : Nat} {x2 : Int} {z3 : Option cm_V} {z4 : Option cm_V} {z5 : Option cm_V} (p_a1 : 0 < a1) (p_a0 : 0 < a0) (H : ((0:Int) ≤ x2 ∧ x2 < ch_L h a1) ∧ (((Int.tmod (ch_I h a1 x2) 2521) = 0 → (cm_i (x2 + 1) ∧ cw d cd_Echelon_insert Q 2 [some (vR 1 a0), some (vR 20 a1), some (vI (x2 + 1)), some (vI (Int.tmod (ch_I h a1 x2) 2521)), z4, z5] [] h)) ∧ (¬ (Int.tmod (ch_I h a1 x2) 2521) = 0 → (0 < ((ch_R h a0 3)) ∧ ((0:Int) ≤ x2 ∧ x2 < ch_L h (ch_R h a0 3)) ∧ (cm_i (2521 - (Int.tmod (ch_I h a1 x2) 2521)) ∧ (cU d m_Echelon_subtract [vR 1 a0, vI (ch_I h (ch_R h a0 3) x2), vI (2521 - (Int.tmod (ch_I h a1 x2) 2521)), vR 20 a1, vI 0, vI x2] h fun h6 => (cm_i (x2 + 1) ∧ cw d cd_Echelon_insert Q 2 [some (vR 1 a0), some (vR 20 a1), some (vI (x2 + 1)), some (vI (Int.tmod (ch_I h a1 x2) 2521)), z4, z5] [] h6))))))) : cw d cd_Echelon_insert Q 29 [some (vR 1 a0), some (vR 20 a1), some (vI x2), z3, z4, z5] [] h := by
  refine w_aload rfl rfl ?_
  refine w_iload rfl rfl ?_
  have o1 := H.1
  replace H := H.2
  refine w_iaload rfl p_a1 o1 ?_
  refine w_iconst rfl ⟨by decide, by decide⟩ ?_
  refine w_irem rfl (by decide) ?_
  refine w_istore rfl rfl ?_
  refine w_iload rfl rfl ?_
  refine w_if rfl (And.intro (fun hc => ?_) (fun hc => ?_))
  · replace H := H.1 hc
    have o2 := H.1
    replace H := H.2
    refine w_iinc rfl rfl rfl o2 ?_
    refine w_goto rfl ?_
    exact H
  · replace H := H.2 hc
    refine w_aload rfl rfl ?_
    refine w_aload rfl rfl ?_
    refine w_getR 3 20 rfl rfl rfl rfl p_a0 ?_
    refine w_iload rfl rfl ?_
    have o3 := H.1
    replace H := H.2
    have o4 := H.1
    replace H := H.2
    refine w_iaload rfl o3 o4 ?_
    refine w_iconst rfl ⟨by decide, by decide⟩ ?_
    refine w_iload rfl rfl ?_
    have o5 := H.1
    replace H := H.2
    refine w_isub rfl o5 ?_
    refine w_aload rfl rfl ?_
    refine w_iconst rfl ⟨by decide, by decide⟩ ?_
    refine w_iload rfl rfl ?_
    refine w_callU rfl (fun _ => rfl) rfl (cU_mono H fun h6 H => ?_)
    have o7 := H.1
    replace H := H.2
    refine w_iinc rfl rfl rfl o7 ?_
    refine w_goto rfl ?_
    exact H
set_option maxHeartbeats 4000000 in
set_option maxRecDepth 100000 in
theorem r_Echelon_insert_65 {d : Nat} {Q : cm_Q} {h : cm_H} {a0 : Nat} {a1 : Nat} {x2 : Int} {z3 : Option cm_V} {z4 : Option cm_V} {z5 : Option cm_V} (p_a0 : 0 < a0) (p_a1 : 0 < a1) (H : ((¬ x2 = (ch_I h a0 0) → (cm_i ((ch_I h a0 0) * (ch_I h a0 1)) ∧ ((0:Int) ≤ x2 ∧ x2 < ch_L h a1) ∧ (cI d m_Works_raise [vI (Int.tmod (ch_I h a1 x2) 2521), vI 2519] h fun v4 h3 => (cm_i (((ch_I h a0 0) * (ch_I h a0 1)) + x2) ∧ (cU d m_Arr_fill4 [vR 20 (ch_R h3 a0 2), vI ((ch_I h a0 0) * (ch_I h a0 1)), vI (((ch_I h a0 0) * (ch_I h a0 1)) + x2), vI 0] h3 fun h6 => cw d cd_Echelon_insert Q 114 [some (vR 1 a0), some (vR 20 a1), some (vI x2), some (vI ((ch_I h a0 0) * (ch_I h a0 1))), some (vI v4), some (vI x2)] [] h6))))) ∧ (x2 = (ch_I h a0 0) → Q none h))) : cw d cd_Echelon_insert Q 65 [some (vR 1 a0), some (vR 20 a1), some (vI x2), z3, z4, z5] [] h := by
  refine w_iload rfl rfl ?_
  refine w_aload rfl rfl ?_
  refine w_getI 0 rfl rfl rfl p_a0 ?_
  refine w_icmp rfl (And.intro (fun hc => ?_) (fun hc => ?_))
  · replace H := H.1 hc
    refine w_aload rfl rfl ?_
    refine w_getI 0 rfl rfl rfl p_a0 ?_
    refine w_aload rfl rfl ?_
    refine w_getI 1 rfl rfl rfl p_a0 ?_
    have o1 := H.1
    replace H := H.2
    refine w_imul rfl o1 ?_
    refine w_istore rfl rfl ?_
    refine w_aload rfl rfl ?_
    refine w_iload rfl rfl ?_
    have o2 := H.1
    replace H := H.2
    refine w_iaload rfl p_a1 o2 ?_
    refine w_iconst rfl ⟨by decide, by decide⟩ ?_
    refine w_irem rfl (by decide) ?_
    refine w_iconst rfl ⟨by decide, by decide⟩ ?_
    refine w_callI rfl (fun _ => rfl) rfl (cI_mono H fun v4 h3 H => ?_)
    refine w_istore rfl rfl ?_
    refine w_aload rfl rfl ?_
    refine w_getR 2 20 rfl rfl rfl rfl p_a0 ?_
    refine w_iload rfl rfl ?_
    refine w_iload rfl rfl ?_
    refine w_iload rfl rfl ?_
    have o5 := H.1
    replace H := H.2
    refine w_iadd rfl o5 ?_
    refine w_iconst rfl ⟨by decide, by decide⟩ ?_
    refine w_callU rfl (fun _ => rfl) rfl (cU_mono H fun h6 H => ?_)
    refine w_iload rfl rfl ?_
    refine w_istore rfl rfl ?_
    exact H
  · replace H := H.2 hc
    exact w_return rfl H
set_option maxHeartbeats 4000000 in
set_option maxRecDepth 100000 in
theorem r_Echelon_insert_114 {d : Nat} {Q : cm_Q} {h : cm_H} {a0 : Nat} {a1 : Nat} {x2 : Int} {x3 : Int} {x4 : Int} {x5 : Int} (p_a0 : 0 < a0) (p_a1 : 0 < a1) (H : (((ch_I h a0 0) ≤ x5 → (0 < ((ch_R h a0 3)) ∧ ((0:Int) ≤ x2 ∧ x2 < ch_L h (ch_R h a0 3)) ∧ (∀ h3 : cm_H, h3 = ch_u h (ch_R h a0 3) x2 (ch_I h a0 1) → (cm_i ((ch_I h3 a0 1) + 1) ∧ (∀ h5 : cm_H, h5 = ch_u h3 a0 1 ((ch_I h3 a0 1) + 1) → Q none h5))))) ∧ (x5 < (ch_I h a0 0) → (cm_i (x3 + x5) ∧ ((0:Int) ≤ x5 ∧ x5 < ch_L h a1) ∧ (cm_i ((Int.tmod (ch_I h a1 x5) 2521) * x4) ∧ (0 < ((ch_R h a0 2)) ∧ ((0:Int) ≤ (x3 + x5) ∧ (x3 + x5) < ch_L h (ch_R h a0 2)) ∧ (∀ h11 : cm_H, h11 = ch_u h (ch_R h a0 2) (x3 + x5) (Int.tmod ((Int.tmod (ch_I h a1 x5) 2521) * x4) 2521) → (cm_i (x5 + 1) ∧ cw d cd_Echelon_insert Q 114 [some (vR 1 a0), some (vR 20 a1), some (vI x2), some (vI x3), some (vI x4), some (vI (x5 + 1))] [] h11)))))))) : cw d cd_Echelon_insert Q 114 [some (vR 1 a0), some (vR 20 a1), some (vI x2), some (vI x3), some (vI x4), some (vI x5)] [] h := by
  refine w_iload rfl rfl ?_
  refine w_aload rfl rfl ?_
  refine w_getI 0 rfl rfl rfl p_a0 ?_
  refine w_icmp rfl (And.intro (fun hc => ?_) (fun hc => ?_))
  · replace H := H.1 hc
    refine w_aload rfl rfl ?_
    refine w_getR 3 20 rfl rfl rfl rfl p_a0 ?_
    refine w_iload rfl rfl ?_
    refine w_aload rfl rfl ?_
    refine w_getI 1 rfl rfl rfl p_a0 ?_
    have o1 := H.1
    replace H := H.2
    have o2 := H.1
    replace H := H.2
    refine w_iastore rfl o1 o2 (fun h3 eh3 => ?_)
    replace H := H h3 eh3
    refine w_aload rfl rfl ?_
    refine w_dup rfl rfl ?_
    refine w_getI 1 rfl rfl rfl p_a0 ?_
    refine w_iconst rfl ⟨by decide, by decide⟩ ?_
    have o4 := H.1
    replace H := H.2
    refine w_iadd rfl o4 ?_
    refine w_putI 1 rfl rfl rfl p_a0 (fun h5 eh5 => ?_)
    replace H := H h5 eh5
    exact w_return rfl H
  · replace H := H.2 hc
    refine w_aload rfl rfl ?_
    refine w_getR 2 20 rfl rfl rfl rfl p_a0 ?_
    refine w_iload rfl rfl ?_
    refine w_iload rfl rfl ?_
    have o6 := H.1
    replace H := H.2
    refine w_iadd rfl o6 ?_
    refine w_aload rfl rfl ?_
    refine w_iload rfl rfl ?_
    have o7 := H.1
    replace H := H.2
    refine w_iaload rfl p_a1 o7 ?_
    refine w_iconst rfl ⟨by decide, by decide⟩ ?_
    refine w_irem rfl (by decide) ?_
    refine w_iload rfl rfl ?_
    have o8 := H.1
    replace H := H.2
    refine w_imul rfl o8 ?_
    refine w_iconst rfl ⟨by decide, by decide⟩ ?_
    refine w_irem rfl (by decide) ?_
    have o9 := H.1
    replace H := H.2
    have o10 := H.1
    replace H := H.2
    refine w_iastore rfl o9 o10 (fun h11 eh11 => ?_)
    replace H := H h11 eh11
    have o12 := H.1
    replace H := H.2
    refine w_iinc rfl rfl rfl o12 ?_
    refine w_goto rfl ?_
    exact H
set_option maxHeartbeats 4000000 in
set_option maxRecDepth 100000 in
theorem r_Echelon_insert {d : Nat} {Q : cm_Q} {h : cm_H} {a0 : Nat} {a1 : Nat} (p_a0 : 0 < a0) (H : cw d cd_Echelon_insert Q 2 [some (vR 1 a0), some (vR 20 a1), some (vI 0), none, none, none] [] h) : cm_call (d + 1) m_Echelon_insert [vR 1 a0, vR 20 a1] h Q := by
  refine cm_call_in (C := cd_Echelon_insert) (ls := [some (vR 1 a0), some (vR 20 a1), none, none, none, none]) rfl rfl p_a0 rfl ?_
  refine w_iconst rfl ⟨by decide, by decide⟩ ?_
  refine w_istore rfl rfl ?_
  exact H
set_option maxHeartbeats 4000000 in
set_option maxRecDepth 100000 in
theorem r_Echelon_subtract_22 {d : Nat} {Q : cm_Q} {h : cm_H} {a0 : Nat} {z1 : Option cm_V} {x2 : Int} {a3 : Nat} {x4 : Int} {z5 : Option cm_V} {x6 : Int} {x7 : Int} (p_a0 : 0 < a0) (p_a3 : 0 < a3) (H : (((ch_I h a0 0) ≤ x7 → Q none h) ∧ (x7 < (ch_I h a0 0) → (cm_i (x4 + x7) ∧ ((0:Int) ≤ (x4 + x7) ∧ (x4 + x7) < ch_L h a3) ∧ (cm_i (x6 + x7) ∧ (0 < ((ch_R h a0 2)) ∧ ((0:Int) ≤ (x6 + x7) ∧ (x6 + x7) < ch_L h (ch_R h a0 2)) ∧ (cm_i (x2 * (ch_I h (ch_R h a0 2) (x6 + x7))) ∧ (cm_i ((ch_I h a3 (x4 + x7)) + (x2 * (ch_I h (ch_R h a0 2) (x6 + x7)))) ∧ (∀ h8 : cm_H, h8 = ch_u h a3 (x4 + x7) ((ch_I h a3 (x4 + x7)) + (x2 * (ch_I h (ch_R h a0 2) (x6 + x7)))) → (cm_i (x7 + 1) ∧ cw d cd_Echelon_subtract Q 22 [some (vR 1 a0), z1, some (vI x2), some (vR 20 a3), some (vI x4), z5, some (vI x6), some (vI (x7 + 1))] [] h8)))))))))) : cw d cd_Echelon_subtract Q 22 [some (vR 1 a0), z1, some (vI x2), some (vR 20 a3), some (vI x4), z5, some (vI x6), some (vI x7)] [] h := by
  refine w_iload rfl rfl ?_
  refine w_aload rfl rfl ?_
  refine w_getI 0 rfl rfl rfl p_a0 ?_
  refine w_icmp rfl (And.intro (fun hc => ?_) (fun hc => ?_))
  · replace H := H.1 hc
    exact w_return rfl H
  · replace H := H.2 hc
    refine w_aload rfl rfl ?_
    refine w_iload rfl rfl ?_
    refine w_iload rfl rfl ?_
    have o1 := H.1
    replace H := H.2
    refine w_iadd rfl o1 ?_
    refine w_dup2 rfl rfl ?_
    have o2 := H.1
    replace H := H.2
    refine w_iaload rfl p_a3 o2 ?_
    refine w_iload rfl rfl ?_
    refine w_aload rfl rfl ?_
    refine w_getR 2 20 rfl rfl rfl rfl p_a0 ?_
    refine w_iload rfl rfl ?_
    refine w_iload rfl rfl ?_
    have o3 := H.1
    replace H := H.2
    refine w_iadd rfl o3 ?_
    have o4 := H.1
    replace H := H.2
    have o5 := H.1
    replace H := H.2
    refine w_iaload rfl o4 o5 ?_
    have o6 := H.1
    replace H := H.2
    refine w_imul rfl o6 ?_
    have o7 := H.1
    replace H := H.2
    refine w_iadd rfl o7 ?_
    refine w_iastore rfl p_a3 o2 (fun h8 eh8 => ?_)
    replace H := H h8 eh8
    have o9 := H.1
    replace H := H.2
    refine w_iinc rfl rfl rfl o9 ?_
    refine w_goto rfl ?_
    exact H
set_option maxHeartbeats 4000000 in
set_option maxRecDepth 100000 in
theorem r_Echelon_subtract {d : Nat} {Q : cm_Q} {h : cm_H} {a0 : Nat} {x1 : Int} {x2 : Int} {a3 : Nat} {x4 : Int} {x5 : Int} (p_a0 : 0 < a0) (p_a3 : 0 < a3) (H : (cm_i ((ch_I h a0 0) * x1) ∧ (cm_i (x4 + x5) ∧ ((0:Int) ≤ (x4 + x5) ∧ (x4 + x5) < ch_L h a3) ∧ (∀ h4 : cm_H, h4 = ch_u h a3 (x4 + x5) 0 → (cm_i (x5 + 1) ∧ cw d cd_Echelon_subtract Q 22 [some (vR 1 a0), some (vI x1), some (vI x2), some (vR 20 a3), some (vI x4), some (vI x5), some (vI ((ch_I h a0 0) * x1)), some (vI (x5 + 1))] [] h4))))) : cm_call (d + 1) m_Echelon_subtract [vR 1 a0, vI x1, vI x2, vR 20 a3, vI x4, vI x5] h Q := by
  refine cm_call_in (C := cd_Echelon_subtract) (ls := [some (vR 1 a0), some (vI x1), some (vI x2), some (vR 20 a3), some (vI x4), some (vI x5), none, none]) rfl rfl p_a0 rfl ?_
  refine w_aload rfl rfl ?_
  refine w_getI 0 rfl rfl rfl p_a0 ?_
  refine w_iload rfl rfl ?_
  have o1 := H.1
  replace H := H.2
  refine w_imul rfl o1 ?_
  refine w_istore rfl rfl ?_
  refine w_aload rfl rfl ?_
  refine w_iload rfl rfl ?_
  refine w_iload rfl rfl ?_
  have o2 := H.1
  replace H := H.2
  refine w_iadd rfl o2 ?_
  refine w_iconst rfl ⟨by decide, by decide⟩ ?_
  have o3 := H.1
  replace H := H.2
  refine w_iastore rfl p_a3 o3 (fun h4 eh4 => ?_)
  replace H := H h4 eh4
  refine w_iload rfl rfl ?_
  refine w_iconst rfl ⟨by decide, by decide⟩ ?_
  have o5 := H.1
  replace H := H.2
  refine w_iadd rfl o5 ?_
  refine w_istore rfl rfl ?_
  exact H
set_option maxHeartbeats 4000000 in
set_option maxRecDepth 100000 in
theorem r_Echelon_finish_7 {d : Nat} {Q : cm_Q} {h : cm_H} {a0 : Nat} {x1 : Int} (p_a0 : 0 < a0) (H : ((x1 < 0 → Q none h) ∧ (0 ≤ x1 → (0 < ((ch_R h a0 3)) ∧ ((0:Int) ≤ x1 ∧ x1 < ch_L h (ch_R h a0 3)) ∧ (((ch_I h (ch_R h a0 3) x1) < 0 → (cm_i (x1 + (-1)) ∧ cw d cd_Echelon_finish Q 7 [some (vR 1 a0), some (vI (x1 + (-1)))] [] h)) ∧ (0 ≤ (ch_I h (ch_R h a0 3) x1) → (cm_i ((ch_I h a0 0) * (ch_I h (ch_R h a0 3) x1)) ∧ (cU d m_Echelon_finishRow [vR 1 a0, vI ((ch_I h a0 0) * (ch_I h (ch_R h a0 3) x1)), vI x1] h fun h5 => (cm_i (x1 + (-1)) ∧ cw d cd_Echelon_finish Q 7 [some (vR 1 a0), some (vI (x1 + (-1)))] [] h5))))))))) : cw d cd_Echelon_finish Q 7 [some (vR 1 a0), some (vI x1)] [] h := by
  refine w_iload rfl rfl ?_
  refine w_if rfl (And.intro (fun hc => ?_) (fun hc => ?_))
  · replace H := H.1 hc
    exact w_return rfl H
  · replace H := H.2 hc
    refine w_aload rfl rfl ?_
    refine w_getR 3 20 rfl rfl rfl rfl p_a0 ?_
    refine w_iload rfl rfl ?_
    have o1 := H.1
    replace H := H.2
    have o2 := H.1
    replace H := H.2
    refine w_iaload rfl o1 o2 ?_
    refine w_if rfl (And.intro (fun hc => ?_) (fun hc => ?_))
    · replace H := H.1 hc
      have o3 := H.1
      replace H := H.2
      refine w_iinc rfl rfl rfl o3 ?_
      refine w_goto rfl ?_
      exact H
    · replace H := H.2 hc
      refine w_aload rfl rfl ?_
      refine w_aload rfl rfl ?_
      refine w_getI 0 rfl rfl rfl p_a0 ?_
      refine w_aload rfl rfl ?_
      refine w_getR 3 20 rfl rfl rfl rfl p_a0 ?_
      refine w_iload rfl rfl ?_
      refine w_iaload rfl o1 o2 ?_
      have o4 := H.1
      replace H := H.2
      refine w_imul rfl o4 ?_
      refine w_iload rfl rfl ?_
      refine w_callU rfl (fun _ => rfl) rfl (cU_mono H fun h5 H => ?_)
      have o6 := H.1
      replace H := H.2
      refine w_iinc rfl rfl rfl o6 ?_
      refine w_goto rfl ?_
      exact H
set_option maxHeartbeats 4000000 in
set_option maxRecDepth 100000 in
theorem r_Echelon_finish {d : Nat} {Q : cm_Q} {h : cm_H} {a0 : Nat} (p_a0 : 0 < a0) (H : (cm_i ((ch_I h a0 0) - 1) ∧ cw d cd_Echelon_finish Q 7 [some (vR 1 a0), some (vI ((ch_I h a0 0) - 1))] [] h)) : cm_call (d + 1) m_Echelon_finish [vR 1 a0] h Q := by
  refine cm_call_in (C := cd_Echelon_finish) (ls := [some (vR 1 a0), none]) rfl rfl p_a0 rfl ?_
  refine w_aload rfl rfl ?_
  refine w_getI 0 rfl rfl rfl p_a0 ?_
  refine w_iconst rfl ⟨by decide, by decide⟩ ?_
  have o1 := H.1
  replace H := H.2
  refine w_isub rfl o1 ?_
  refine w_istore rfl rfl ?_
  exact H
set_option maxHeartbeats 4000000 in
set_option maxRecDepth 100000 in
theorem r_Echelon_finishRow_4 {d : Nat} {Q : cm_Q} {h : cm_H} {a0 : Nat} {x1 : Int} {z2 : Option cm_V} {x3 : Int} {z4 : Option cm_V} (p_a0 : 0 < a0) (H : (((ch_I h a0 0) ≤ x3 → Q none h) ∧ (x3 < (ch_I h a0 0) → (cm_i (x1 + x3) ∧ (0 < ((ch_R h a0 2)) ∧ ((0:Int) ≤ (x1 + x3) ∧ (x1 + x3) < ch_L h (ch_R h a0 2)) ∧ (∀ h4 : cm_H, h4 = ch_u h (ch_R h a0 2) (x1 + x3) (Int.tmod (ch_I h (ch_R h a0 2) (x1 + x3)) 2521) → (((Int.tmod (ch_I h (ch_R h a0 2) (x1 + x3)) 2521) = 0 → (cm_i (x3 + 1) ∧ cw d cd_Echelon_finishRow Q 4 [some (vR 1 a0), some (vI x1), z2, some (vI (x3 + 1)), some (vI (Int.tmod (ch_I h (ch_R h a0 2) (x1 + x3)) 2521))] [] h4)) ∧ (¬ (Int.tmod (ch_I h (ch_R h a0 2) (x1 + x3)) 2521) = 0 → (0 < ((ch_R h4 a0 3)) ∧ ((0:Int) ≤ x3 ∧ x3 < ch_L h4 (ch_R h4 a0 3)) ∧ (((ch_I h4 (ch_R h4 a0 3) x3) < 0 → (cm_i (x3 + 1) ∧ cw d cd_Echelon_finishRow Q 4 [some (vR 1 a0), some (vI x1), z2, some (vI (x3 + 1)), some (vI (Int.tmod (ch_I h (ch_R h a0 2) (x1 + x3)) 2521))] [] h4)) ∧ (0 ≤ (ch_I h4 (ch_R h4 a0 3) x3) → (cm_i (2521 - (Int.tmod (ch_I h (ch_R h a0 2) (x1 + x3)) 2521)) ∧ (cU d m_Echelon_subtract [vR 1 a0, vI (ch_I h4 (ch_R h4 a0 3) x3), vI (2521 - (Int.tmod (ch_I h (ch_R h a0 2) (x1 + x3)) 2521)), vR 20 (ch_R h4 a0 2), vI x1, vI x3] h4 fun h10 => (cm_i (x3 + 1) ∧ cw d cd_Echelon_finishRow Q 4 [some (vR 1 a0), some (vI x1), z2, some (vI (x3 + 1)), some (vI (Int.tmod (ch_I h (ch_R h a0 2) (x1 + x3)) 2521))] [] h10)))))))))))))) : cw d cd_Echelon_finishRow Q 4 [some (vR 1 a0), some (vI x1), z2, some (vI x3), z4] [] h := by
  refine w_iload rfl rfl ?_
  refine w_aload rfl rfl ?_
  refine w_getI 0 rfl rfl rfl p_a0 ?_
  refine w_icmp rfl (And.intro (fun hc => ?_) (fun hc => ?_))
  · replace H := H.1 hc
    exact w_return rfl H
  · replace H := H.2 hc
    refine w_aload rfl rfl ?_
    refine w_getR 2 20 rfl rfl rfl rfl p_a0 ?_
    refine w_iload rfl rfl ?_
    refine w_iload rfl rfl ?_
    have o1 := H.1
    replace H := H.2
    refine w_iadd rfl o1 ?_
    have o2 := H.1
    replace H := H.2
    have o3 := H.1
    replace H := H.2
    refine w_iaload rfl o2 o3 ?_
    refine w_iconst rfl ⟨by decide, by decide⟩ ?_
    refine w_irem rfl (by decide) ?_
    refine w_istore rfl rfl ?_
    refine w_aload rfl rfl ?_
    refine w_getR 2 20 rfl rfl rfl rfl p_a0 ?_
    refine w_iload rfl rfl ?_
    refine w_iload rfl rfl ?_
    refine w_iadd rfl o1 ?_
    refine w_iload rfl rfl ?_
    refine w_iastore rfl o2 o3 (fun h4 eh4 => ?_)
    replace H := H h4 eh4
    refine w_iload rfl rfl ?_
    refine w_if rfl (And.intro (fun hc => ?_) (fun hc => ?_))
    · replace H := H.1 hc
      have o5 := H.1
      replace H := H.2
      refine w_iinc rfl rfl rfl o5 ?_
      refine w_goto rfl ?_
      exact H
    · replace H := H.2 hc
      refine w_aload rfl rfl ?_
      refine w_getR 3 20 rfl rfl rfl rfl p_a0 ?_
      refine w_iload rfl rfl ?_
      have o6 := H.1
      replace H := H.2
      have o7 := H.1
      replace H := H.2
      refine w_iaload rfl o6 o7 ?_
      refine w_if rfl (And.intro (fun hc => ?_) (fun hc => ?_))
      · replace H := H.1 hc
        have o8 := H.1
        replace H := H.2
        refine w_iinc rfl rfl rfl o8 ?_
        refine w_goto rfl ?_
        exact H
      · replace H := H.2 hc
        refine w_aload rfl rfl ?_
        refine w_aload rfl rfl ?_
        refine w_getR 3 20 rfl rfl rfl rfl p_a0 ?_
        refine w_iload rfl rfl ?_
        refine w_iaload rfl o6 o7 ?_
        refine w_iconst rfl ⟨by decide, by decide⟩ ?_
        refine w_iload rfl rfl ?_
        have o9 := H.1
        replace H := H.2
        refine w_isub rfl o9 ?_
        refine w_aload rfl rfl ?_
        refine w_getR 2 20 rfl rfl rfl rfl p_a0 ?_
        refine w_iload rfl rfl ?_
        refine w_iload rfl rfl ?_
        refine w_callU rfl (fun _ => rfl) rfl (cU_mono H fun h10 H => ?_)
        have o11 := H.1
        replace H := H.2
        refine w_iinc rfl rfl rfl o11 ?_
        refine w_goto rfl ?_
        exact H
set_option maxHeartbeats 4000000 in
set_option maxRecDepth 100000 in
theorem r_Echelon_finishRow {d : Nat} {Q : cm_Q} {h : cm_H} {a0 : Nat} {x1 : Int} {x2 : Int} (p_a0 : 0 < a0) (H : (cm_i (x2 + 1) ∧ cw d cd_Echelon_finishRow Q 4 [some (vR 1 a0), some (vI x1), some (vI x2), some (vI (x2 + 1)), none] [] h)) : cm_call (d + 1) m_Echelon_finishRow [vR 1 a0, vI x1, vI x2] h Q := by
  refine cm_call_in (C := cd_Echelon_finishRow) (ls := [some (vR 1 a0), some (vI x1), some (vI x2), none, none]) rfl rfl p_a0 rfl ?_
  refine w_iload rfl rfl ?_
  refine w_iconst rfl ⟨by decide, by decide⟩ ?_
  have o1 := H.1
  replace H := H.2
  refine w_iadd rfl o1 ?_
  refine w_istore rfl rfl ?_
  exact H
set_option maxHeartbeats 4000000 in
set_option maxRecDepth 100000 in
theorem r_Members_init {d : Nat} {Q : cm_Q} {h : cm_H} {a0 : Nat} (p_a0 : 0 < a0) (H : (∀ h1 : cm_H, h1 = ch_u h a0 0 2 → (∀ h2 : cm_H, h2 = ch_new h1 20 36 (Int.toNat 36) → (∀ h3 : cm_H, h3 = ch_r h2 a0 3 (ch_n h1) → (∀ h4 : cm_H, h4 = ch_new h3 20 432 (Int.toNat 432) → (∀ h5 : cm_H, h5 = ch_r h4 a0 4 (ch_n h3) → (∀ h6 : cm_H, h6 = ch_new h5 20 192 (Int.toNat 192) → (∀ h7 : cm_H, h7 = ch_r h6 a0 5 (ch_n h5) → (∀ h8 : cm_H, h8 = ch_new h7 20 2304 (Int.toNat 2304) → (∀ h9 : cm_H, h9 = ch_r h8 a0 6 (ch_n h7) → (∀ h10 : cm_H, h10 = ch_new h9 20 48 (Int.toNat 48) → (∀ h11 : cm_H, h11 = ch_r h10 a0 7 (ch_n h9) → (∀ h12 : cm_H, h12 = ch_new h11 20 48 (Int.toNat 48) → (∀ h13 : cm_H, h13 = ch_r h12 a0 8 (ch_n h11) → (∀ h14 : cm_H, h14 = ch_new h13 20 48 (Int.toNat 48) → (∀ h15 : cm_H, h15 = ch_r h14 a0 9 (ch_n h13) → (∀ h16 : cm_H, h16 = ch_new h15 20 48 (Int.toNat 48) → (∀ h17 : cm_H, h17 = ch_r h16 a0 10 (ch_n h15) → (∀ h18 : cm_H, h18 = ch_new h17 20 9 (Int.toNat 9) → (∀ h19 : cm_H, h19 = ch_r h18 a0 11 (ch_n h17) → Q none h19)))))))))))))))))))) : cm_call (d + 1) m_Members_init [vR 3 a0] h Q := by
  refine cm_call_in (C := cd_Members_init) (ls := [some (vR 3 a0)]) rfl rfl p_a0 rfl ?_
  refine w_aload rfl rfl ?_
  refine w_objInit rfl rfl p_a0 ?_
  refine w_aload rfl rfl ?_
  refine w_iconst rfl ⟨by decide, by decide⟩ ?_
  refine w_putI 0 rfl rfl rfl p_a0 (fun h1 eh1 => ?_)
  replace H := H h1 eh1
  refine w_aload rfl rfl ?_
  refine w_iconst rfl ⟨by decide, by decide⟩ ?_
  refine w_newI rfl (by decide) (fun h2 eh2 => ?_)
  replace H := H h2 eh2
  refine w_putR 3 rfl rfl rfl rfl p_a0 (fun h3 eh3 => ?_)
  replace H := H h3 eh3
  refine w_aload rfl rfl ?_
  refine w_iconst rfl ⟨by decide, by decide⟩ ?_
  refine w_newI rfl (by decide) (fun h4 eh4 => ?_)
  replace H := H h4 eh4
  refine w_putR 4 rfl rfl rfl rfl p_a0 (fun h5 eh5 => ?_)
  replace H := H h5 eh5
  refine w_aload rfl rfl ?_
  refine w_iconst rfl ⟨by decide, by decide⟩ ?_
  refine w_newI rfl (by decide) (fun h6 eh6 => ?_)
  replace H := H h6 eh6
  refine w_putR 5 rfl rfl rfl rfl p_a0 (fun h7 eh7 => ?_)
  replace H := H h7 eh7
  refine w_aload rfl rfl ?_
  refine w_iconst rfl ⟨by decide, by decide⟩ ?_
  refine w_newI rfl (by decide) (fun h8 eh8 => ?_)
  replace H := H h8 eh8
  refine w_putR 6 rfl rfl rfl rfl p_a0 (fun h9 eh9 => ?_)
  replace H := H h9 eh9
  refine w_aload rfl rfl ?_
  refine w_iconst rfl ⟨by decide, by decide⟩ ?_
  refine w_newI rfl (by decide) (fun h10 eh10 => ?_)
  replace H := H h10 eh10
  refine w_putR 7 rfl rfl rfl rfl p_a0 (fun h11 eh11 => ?_)
  replace H := H h11 eh11
  refine w_aload rfl rfl ?_
  refine w_iconst rfl ⟨by decide, by decide⟩ ?_
  refine w_newI rfl (by decide) (fun h12 eh12 => ?_)
  replace H := H h12 eh12
  refine w_putR 8 rfl rfl rfl rfl p_a0 (fun h13 eh13 => ?_)
  replace H := H h13 eh13
  refine w_aload rfl rfl ?_
  refine w_iconst rfl ⟨by decide, by decide⟩ ?_
  refine w_newI rfl (by decide) (fun h14 eh14 => ?_)
  replace H := H h14 eh14
  refine w_putR 9 rfl rfl rfl rfl p_a0 (fun h15 eh15 => ?_)
  replace H := H h15 eh15
  refine w_aload rfl rfl ?_
  refine w_iconst rfl ⟨by decide, by decide⟩ ?_
  refine w_newI rfl (by decide) (fun h16 eh16 => ?_)
  replace H := H h16 eh16
  refine w_putR 10 rfl rfl rfl rfl p_a0 (fun h17 eh17 => ?_)
  replace H := H h17 eh17
  refine w_aload rfl rfl ?_
  refine w_iconst rfl ⟨by decide, by decide⟩ ?_
  refine w_newI rfl (by decide) (fun h18 eh18 => ?_)
  replace H := H h18 eh18
  refine w_putR 11 rfl rfl rfl rfl p_a0 (fun h19 eh19 => ?_)
  replace H := H h19 eh19
  exact w_return rfl H
set_option maxHeartbeats 4000000 in
set_option maxRecDepth 100000 in
theorem r_Members_grow_13 {d : Nat} {Q : cm_Q} {h : cm_H} {a0 : Nat} {x1 : Int} {z2 : Option cm_V} {z3 : Option cm_V} (p_a0 : 0 < a0) (H : (((ch_I h a0 0) ≤ x1 → (∀ h1 : cm_H, h1 = ch_u h a0 2 1 → cw d cd_Members_grow Q 48 [some (vR 3 a0), some (vI 0), z2, z3] [] h1)) ∧ (x1 < (ch_I h a0 0) → (cm_i ((ch_I h a0 0) * x1) ∧ (cm_i (((ch_I h a0 0) * x1) + x1) ∧ (0 < ((ch_R h a0 4)) ∧ ((0:Int) ≤ (((ch_I h a0 0) * x1) + x1) ∧ (((ch_I h a0 0) * x1) + x1) < ch_L h (ch_R h a0 4)) ∧ (∀ h6 : cm_H, h6 = ch_u h (ch_R h a0 4) (((ch_I h a0 0) * x1) + x1) 1 → (cm_i (x1 + 1) ∧ cw d cd_Members_grow Q 13 [some (vR 3 a0), some (vI (x1 + 1)), z2, z3] [] h6)))))))) : cw d cd_Members_grow Q 13 [some (vR 3 a0), some (vI x1), z2, z3] [] h := by
  refine w_iload rfl rfl ?_
  refine w_aload rfl rfl ?_
  refine w_getI 0 rfl rfl rfl p_a0 ?_
  refine w_icmp rfl (And.intro (fun hc => ?_) (fun hc => ?_))
  · replace H := H.1 hc
    refine w_aload rfl rfl ?_
    refine w_iconst rfl ⟨by decide, by decide⟩ ?_
    refine w_putI 2 rfl rfl rfl p_a0 (fun h1 eh1 => ?_)
    replace H := H h1 eh1
    refine w_iconst rfl ⟨by decide, by decide⟩ ?_
    refine w_istore rfl rfl ?_
    exact H
  · replace H := H.2 hc
    refine w_aload rfl rfl ?_
    refine w_getR 4 20 rfl rfl rfl rfl p_a0 ?_
    refine w_aload rfl rfl ?_
    refine w_getI 0 rfl rfl rfl p_a0 ?_
    refine w_iload rfl rfl ?_
    have o2 := H.1
    replace H := H.2
    refine w_imul rfl o2 ?_
    refine w_iload rfl rfl ?_
    have o3 := H.1
    replace H := H.2
    refine w_iadd rfl o3 ?_
    refine w_iconst rfl ⟨by decide, by decide⟩ ?_
    have o4 := H.1
    replace H := H.2
    have o5 := H.1
    replace H := H.2
    refine w_iastore rfl o4 o5 (fun h6 eh6 => ?_)
    replace H := H h6 eh6
    have o7 := H.1
    replace H := H.2
    refine w_iinc rfl rfl rfl o7 ?_
    refine w_goto rfl ?_
    exact H
set_option maxHeartbeats 4000000 in
set_option maxRecDepth 100000 in
theorem r_Members_grow_48 {d : Nat} {Q : cm_Q} {h : cm_H} {a0 : Nat} {x1 : Int} {z2 : Option cm_V} {z3 : Option cm_V} (p_a0 : 0 < a0) (H : (((ch_I h a0 2) ≤ x1 → (cU d m_Members_fillProducts [vR 3 a0] h fun h1 => (cU d m_Members_fillOrders [vR 3 a0] h1 fun h2 => Q (some (vI 1)) h2))) ∧ (x1 < (ch_I h a0 2) → ((48 ≤ x1 → (cU d m_Members_fillProducts [vR 3 a0] h fun h3 => (cU d m_Members_fillOrders [vR 3 a0] h3 fun h4 => Q (some (vI 1)) h4))) ∧ (x1 < 48 → cw d cd_Members_grow Q 64 [some (vR 3 a0), some (vI x1), some (vI 0), z3] [] h))))) : cw d cd_Members_grow Q 48 [some (vR 3 a0), some (vI x1), z2, z3] [] h := by
  refine w_iload rfl rfl ?_
  refine w_aload rfl rfl ?_
  refine w_getI 2 rfl rfl rfl p_a0 ?_
  refine w_icmp rfl (And.intro (fun hc => ?_) (fun hc => ?_))
  · replace H := H.1 hc
    refine w_aload rfl rfl ?_
    refine w_callU rfl (fun _ => rfl) rfl (cU_mono H fun h1 H => ?_)
    refine w_aload rfl rfl ?_
    refine w_callU rfl (fun _ => rfl) rfl (cU_mono H fun h2 H => ?_)
    refine w_iconst rfl ⟨by decide, by decide⟩ ?_
    exact w_zreturn rfl (by decide) H
  · replace H := H.2 hc
    refine w_iload rfl rfl ?_
    refine w_iconst rfl ⟨by decide, by decide⟩ ?_
    refine w_icmp rfl (And.intro (fun hc => ?_) (fun hc => ?_))
    · replace H := H.1 hc
      refine w_aload rfl rfl ?_
      refine w_callU rfl (fun _ => rfl) rfl (cU_mono H fun h3 H => ?_)
      refine w_aload rfl rfl ?_
      refine w_callU rfl (fun _ => rfl) rfl (cU_mono H fun h4 H => ?_)
      refine w_iconst rfl ⟨by decide, by decide⟩ ?_
      exact w_zreturn rfl (by decide) H
    · replace H := H.2 hc
      refine w_iconst rfl ⟨by decide, by decide⟩ ?_
      refine w_istore rfl rfl ?_
      exact H
set_option maxHeartbeats 4000000 in
set_option maxRecDepth 100000 in
theorem r_Members_grow_64 {d : Nat} {Q : cm_Q} {h : cm_H} {a0 : Nat} {x1 : Int} {x2 : Int} {z3 : Option cm_V} (p_a0 : 0 < a0) (H : (((ch_I h a0 1) ≤ x2 → (cm_i (x1 + 1) ∧ cw d cd_Members_grow Q 48 [some (vR 3 a0), some (vI (x1 + 1)), some (vI x2), z3] [] h)) ∧ (x2 < (ch_I h a0 1) → (cU d m_Members_multiplyByTable [vR 3 a0, vI x1, vI x2] h fun h2 => (cI d m_Members_findCandidate [vR 3 a0] h2 fun v4 h3 => ((¬ v4 = (ch_I h3 a0 2) → cw d cd_Members_grow Q 153 [some (vR 3 a0), some (vI x1), some (vI x2), some (vI v4)] [] h3) ∧ (v4 = (ch_I h3 a0 2) → ((¬ (ch_I h3 a0 2) = 48 → (cm_i (9 * (ch_I h3 a0 2)) ∧ (0 < ((ch_R h3 a0 11)) ∧ 0 < ((ch_R h3 a0 4)) ∧ ((0:Int) ≤ 0 ∧ (0:Int) ≤ (9 * (ch_I h3 a0 2)) ∧ (0:Int) ≤ 9 ∧ 0 + 9 ≤ ch_L h3 (ch_R h3 a0 11) ∧ (9 * (ch_I h3 a0 2)) + 9 ≤ ch_L h3 (ch_R h3 a0 4)) ∧ (∀ h9 : cm_H, h9 = ch_cp h3 (ch_R h3 a0 11) 0 (ch_R h3 a0 4) (9 * (ch_I h3 a0 2)) 9 → (0 < ((ch_R h9 a0 9)) ∧ ((0:Int) ≤ (ch_I h9 a0 2) ∧ (ch_I h9 a0 2) < ch_L h9 (ch_R h9 a0 9)) ∧ (∀ h12 : cm_H, h12 = ch_u h9 (ch_R h9 a0 9) (ch_I h9 a0 2) x1 → (0 < ((ch_R h12 a0 10)) ∧ ((0:Int) ≤ (ch_I h12 a0 2) ∧ (ch_I h12 a0 2) < ch_L h12 (ch_R h12 a0 10)) ∧ (∀ h15 : cm_H, h15 = ch_u h12 (ch_R h12 a0 10) (ch_I h12 a0 2) x2 → (cm_i ((ch_I h15 a0 2) + 1) ∧ (∀ h17 : cm_H, h17 = ch_u h15 a0 2 ((ch_I h15 a0 2) + 1) → cw d cd_Members_grow Q 153 [some (vR 3 a0), some (vI x1), some (vI x2), some (vI v4)] [] h17)))))))))) ∧ ((ch_I h3 a0 2) = 48 → Q (some (vI 0)) h3))))))))) : cw d cd_Members_grow Q 64 [some (vR 3 a0), some (vI x1), some (vI x2), z3] [] h := by
  refine w_iload rfl rfl ?_
  refine w_aload rfl rfl ?_
  refine w_getI 1 rfl rfl rfl p_a0 ?_
  refine w_icmp rfl (And.intro (fun hc => ?_) (fun hc => ?_))
  · replace H := H.1 hc
    have o1 := H.1
    replace H := H.2
    refine w_iinc rfl rfl rfl o1 ?_
    refine w_goto rfl ?_
    exact H
  · replace H := H.2 hc
    refine w_aload rfl rfl ?_
    refine w_iload rfl rfl ?_
    refine w_iload rfl rfl ?_
    refine w_callU rfl (fun _ => rfl) rfl (cU_mono H fun h2 H => ?_)
    refine w_aload rfl rfl ?_
    refine w_callI rfl (fun _ => rfl) rfl (cI_mono H fun v4 h3 H => ?_)
    refine w_istore rfl rfl ?_
    refine w_iload rfl rfl ?_
    refine w_aload rfl rfl ?_
    refine w_getI 2 rfl rfl rfl p_a0 ?_
    refine w_icmp rfl (And.intro (fun hc => ?_) (fun hc => ?_))
    · replace H := H.1 hc
      exact H
    · replace H := H.2 hc
      refine w_aload rfl rfl ?_
      refine w_getI 2 rfl rfl rfl p_a0 ?_
      refine w_iconst rfl ⟨by decide, by decide⟩ ?_
      refine w_icmp rfl (And.intro (fun hc => ?_) (fun hc => ?_))
      · replace H := H.1 hc
        refine w_aload rfl rfl ?_
        refine w_getR 11 20 rfl rfl rfl rfl p_a0 ?_
        refine w_iconst rfl ⟨by decide, by decide⟩ ?_
        refine w_aload rfl rfl ?_
        refine w_getR 4 20 rfl rfl rfl rfl p_a0 ?_
        refine w_iconst rfl ⟨by decide, by decide⟩ ?_
        refine w_aload rfl rfl ?_
        refine w_getI 2 rfl rfl rfl p_a0 ?_
        have o5 := H.1
        replace H := H.2
        refine w_imul rfl o5 ?_
        refine w_iconst rfl ⟨by decide, by decide⟩ ?_
        have o6 := H.1
        replace H := H.2
        have o7 := H.1
        replace H := H.2
        have o8 := H.1
        replace H := H.2
        refine w_copy rfl rfl o6 o7 o8 (fun h9 eh9 => ?_)
        replace H := H h9 eh9
        refine w_aload rfl rfl ?_
        refine w_getR 9 20 rfl rfl rfl rfl p_a0 ?_
        refine w_aload rfl rfl ?_
        refine w_getI 2 rfl rfl rfl p_a0 ?_
        refine w_iload rfl rfl ?_
        have o10 := H.1
        replace H := H.2
        have o11 := H.1
        replace H := H.2
        refine w_iastore rfl o10 o11 (fun h12 eh12 => ?_)
        replace H := H h12 eh12
        refine w_aload rfl rfl ?_
        refine w_getR 10 20 rfl rfl rfl rfl p_a0 ?_
        refine w_aload rfl rfl ?_
        refine w_getI 2 rfl rfl rfl p_a0 ?_
        refine w_iload rfl rfl ?_
        have o13 := H.1
        replace H := H.2
        have o14 := H.1
        replace H := H.2
        refine w_iastore rfl o13 o14 (fun h15 eh15 => ?_)
        replace H := H h15 eh15
        refine w_aload rfl rfl ?_
        refine w_dup rfl rfl ?_
        refine w_getI 2 rfl rfl rfl p_a0 ?_
        refine w_iconst rfl ⟨by decide, by decide⟩ ?_
        have o16 := H.1
        replace H := H.2
        refine w_iadd rfl o16 ?_
        refine w_putI 2 rfl rfl rfl p_a0 (fun h17 eh17 => ?_)
        replace H := H h17 eh17
        exact H
      · replace H := H.2 hc
        refine w_iconst rfl ⟨by decide, by decide⟩ ?_
        exact w_zreturn rfl (by decide) H
set_option maxHeartbeats 4000000 in
set_option maxRecDepth 100000 in
theorem r_Members_grow_153 {d : Nat} {Q : cm_Q} {h : cm_H} {a0 : Nat} {x1 : Int} {x2 : Int} {x3 : Int} (p_a0 : 0 < a0) (H : (cm_i (4 * x1) ∧ (cm_i ((4 * x1) + x2) ∧ (0 < ((ch_R h a0 5)) ∧ ((0:Int) ≤ ((4 * x1) + x2) ∧ ((4 * x1) + x2) < ch_L h (ch_R h a0 5)) ∧ (∀ h5 : cm_H, h5 = ch_u h (ch_R h a0 5) ((4 * x1) + x2) x3 → (cm_i (x2 + 1) ∧ cw d cd_Members_grow Q 64 [some (vR 3 a0), some (vI x1), some (vI (x2 + 1)), some (vI x3)] [] h5)))))) : cw d cd_Members_grow Q 153 [some (vR 3 a0), some (vI x1), some (vI x2), some (vI x3)] [] h := by
  refine w_aload rfl rfl ?_
  refine w_getR 5 20 rfl rfl rfl rfl p_a0 ?_
  refine w_iconst rfl ⟨by decide, by decide⟩ ?_
  refine w_iload rfl rfl ?_
  have o1 := H.1
  replace H := H.2
  refine w_imul rfl o1 ?_
  refine w_iload rfl rfl ?_
  have o2 := H.1
  replace H := H.2
  refine w_iadd rfl o2 ?_
  refine w_iload rfl rfl ?_
  have o3 := H.1
  replace H := H.2
  have o4 := H.1
  replace H := H.2
  refine w_iastore rfl o3 o4 (fun h5 eh5 => ?_)
  replace H := H h5 eh5
  have o6 := H.1
  replace H := H.2
  refine w_iinc rfl rfl rfl o6 ?_
  refine w_goto rfl ?_
  exact H
set_option maxHeartbeats 4000000 in
set_option maxRecDepth 100000 in
theorem r_Members_grow {d : Nat} {Q : cm_Q} {h : cm_H} {a0 : Nat} (p_a0 : 0 < a0) (H : (cU d m_Arr_fill4 [vR 20 (ch_R h a0 4), vI 0, vI 9, vI 0] h fun h1 => cw d cd_Members_grow Q 13 [some (vR 3 a0), some (vI 0), none, none] [] h1)) : cm_call (d + 1) m_Members_grow [vR 3 a0] h Q := by
  refine cm_call_in (C := cd_Members_grow) (ls := [some (vR 3 a0), none, none, none]) rfl rfl p_a0 rfl ?_
  refine w_aload rfl rfl ?_
  refine w_getR 4 20 rfl rfl rfl rfl p_a0 ?_
  refine w_iconst rfl ⟨by decide, by decide⟩ ?_
  refine w_iconst rfl ⟨by decide, by decide⟩ ?_
  refine w_iconst rfl ⟨by decide, by decide⟩ ?_
  refine w_callU rfl (fun _ => rfl) rfl (cU_mono H fun h1 H => ?_)
  refine w_iconst rfl ⟨by decide, by decide⟩ ?_
  refine w_istore rfl rfl ?_
  exact H
set_option maxHeartbeats 4000000 in
set_option maxRecDepth 100000 in
theorem r_Members_multiplyByTable_2 {d : Nat} {Q : cm_Q} {h : cm_H} {a0 : Nat} {x1 : Int} {x2 : Int} {x3 : Int} {z4 : Option cm_V} {z5 : Option cm_V} {z6 : Option cm_V} {z7 : Option cm_V} (p_a0 : 0 < a0) (H : (((ch_I h a0 0) ≤ x3 → Q none h) ∧ (x3 < (ch_I h a0 0) → cw d cd_Members_multiplyByTable Q 13 [some (vR 3 a0), some (vI x1), some (vI x2), some (vI x3), some (vI 0), z5, z6, z7] [] h))) : cw d cd_Members_multiplyByTable Q 2 [some (vR 3 a0), some (vI x1), some (vI x2), some (vI x3), z4, z5, z6, z7] [] h := by
  refine w_iload rfl rfl ?_
  refine w_aload rfl rfl ?_
  refine w_getI 0 rfl rfl rfl p_a0 ?_
  refine w_icmp rfl (And.intro (fun hc => ?_) (fun hc => ?_))
  · replace H := H.1 hc
    exact w_return rfl H
  · replace H := H.2 hc
    refine w_iconst rfl ⟨by decide, by decide⟩ ?_
    refine w_istore rfl rfl ?_
    exact H
set_option maxHeartbeats 4000000 in
set_option maxRecDepth 100000 in
theorem r_Members_multiplyByTable_13 {d : Nat} {Q : cm_Q} {h : cm_H} {a0 : Nat} {x1 : Int} {x2 : Int} {x3 : Int} {x4 : Int} {z5 : Option cm_V} {z6 : Option cm_V} {z7 : Option cm_V} (p_a0 : 0 < a0) (H : (((ch_I h a0 0) ≤ x4 → (cm_i (x3 + 1) ∧ cw d cd_Members_multiplyByTable Q 2 [some (vR 3 a0), some (vI x1), some (vI x2), some (vI (x3 + 1)), some (vI x4), z5, z6, z7] [] h)) ∧ (x4 < (ch_I h a0 0) → cw d cd_Members_multiplyByTable Q 28 [some (vR 3 a0), some (vI x1), some (vI x2), some (vI x3), some (vI x4), some (vI 0), some (vI 0), z7] [] h))) : cw d cd_Members_multiplyByTable Q 13 [some (vR 3 a0), some (vI x1), some (vI x2), some (vI x3), some (vI x4), z5, z6, z7] [] h := by
  refine w_iload rfl rfl ?_
  refine w_aload rfl rfl ?_
  refine w_getI 0 rfl rfl rfl p_a0 ?_
  refine w_icmp rfl (And.intro (fun hc => ?_) (fun hc => ?_))
  · replace H := H.1 hc
    have o1 := H.1
    replace H := H.2
    refine w_iinc rfl rfl rfl o1 ?_
    refine w_goto rfl ?_
    exact H
  · replace H := H.2 hc
    refine w_iconst rfl ⟨by decide, by decide⟩ ?_
    refine w_istore rfl rfl ?_
    refine w_iconst rfl ⟨by decide, by decide⟩ ?_
    refine w_istore rfl rfl ?_
    exact H
set_option maxHeartbeats 4000000 in
set_option maxRecDepth 100000 in
theorem r_Members_multiplyByTable_28 {d : Nat} {Q : cm_Q} {h : cm_H} {a0 : Nat} {x1 : Int} {x2 : Int} {x3 : Int} {x4 : Int} {x5 : Int} {x6 : Int} {z7 : Option cm_V} (p_a0 : 0 < a0) (H : (((ch_I h a0 0) ≤ x6 → (cm_i ((ch_I h a0 0) * x3) ∧ (cm_i (((ch_I h a0 0) * x3) + x4) ∧ (0 < ((ch_R h a0 11)) ∧ ((0:Int) ≤ (((ch_I h a0 0) * x3) + x4) ∧ (((ch_I h a0 0) * x3) + x4) < ch_L h (ch_R h a0 11)) ∧ (∀ h5 : cm_H, h5 = ch_u h (ch_R h a0 11) (((ch_I h a0 0) * x3) + x4) (Int.tmod x5 2521) → (cm_i (x4 + 1) ∧ cw d cd_Members_multiplyByTable Q 13 [some (vR 3 a0), some (vI x1), some (vI x2), some (vI x3), some (vI (x4 + 1)), some (vI x5), some (vI x6), z7] [] h5)))))) ∧ (x6 < (ch_I h a0 0) → (cm_i (9 * x1) ∧ (cm_i ((ch_I h a0 0) * x3) ∧ (cm_i ((9 * x1) + ((ch_I h a0 0) * x3)) ∧ (cm_i (((9 * x1) + ((ch_I h a0 0) * x3)) + x6) ∧ (0 < ((ch_R h a0 4)) ∧ ((0:Int) ≤ (((9 * x1) + ((ch_I h a0 0) * x3)) + x6) ∧ (((9 * x1) + ((ch_I h a0 0) * x3)) + x6) < ch_L h (ch_R h a0 4)) ∧ (cm_i (9 * x2) ∧ (cm_i ((ch_I h a0 0) * x6) ∧ (cm_i ((9 * x2) + ((ch_I h a0 0) * x6)) ∧ (cm_i (((9 * x2) + ((ch_I h a0 0) * x6)) + x4) ∧ (0 < ((ch_R h a0 3)) ∧ ((0:Int) ≤ (((9 * x2) + ((ch_I h a0 0) * x6)) + x4) ∧ (((9 * x2) + ((ch_I h a0 0) * x6)) + x4) < ch_L h (ch_R h a0 3)) ∧ (cm_i ((ch_I h (ch_R h a0 4) (((9 * x1) + ((ch_I h a0 0) * x3)) + x6)) * (ch_I h (ch_R h a0 3) (((9 * x2) + ((ch_I h a0 0) * x6)) + x4))) ∧ (cm_i (x5 + ((ch_I h (ch_R h a0 4) (((9 * x1) + ((ch_I h a0 0) * x3)) + x6)) * (ch_I h (ch_R h a0 3) (((9 * x2) + ((ch_I h a0 0) * x6)) + x4)))) ∧ (cm_i (x6 + 1) ∧ cw d cd_Members_multiplyByTable Q 28 [some (vR 3 a0), some (vI x1), some (vI x2), some (vI x3), some (vI x4), some (vI (x5 + ((ch_I h (ch_R h a0 4) (((9 * x1) + ((ch_I h a0 0) * x3)) + x6)) * (ch_I h (ch_R h a0 3) (((9 * x2) + ((ch_I h a0 0) * x6)) + x4))))), some (vI (x6 + 1)), some (vI (ch_I h (ch_R h a0 4) (((9 * x1) + ((ch_I h a0 0) * x3)) + x6)))] [] h)))))))))))))))) : cw d cd_Members_multiplyByTable Q 28 [some (vR 3 a0), some (vI x1), some (vI x2), some (vI x3), some (vI x4), some (vI x5), some (vI x6), z7] [] h := by
  refine w_iload rfl rfl ?_
  refine w_aload rfl rfl ?_
  refine w_getI 0 rfl rfl rfl p_a0 ?_
  refine w_icmp rfl (And.intro (fun hc => ?_) (fun hc => ?_))
  · replace H := H.1 hc
    refine w_aload rfl rfl ?_
    refine w_getR 11 20 rfl rfl rfl rfl p_a0 ?_
    refine w_aload rfl rfl ?_
    refine w_getI 0 rfl rfl rfl p_a0 ?_
    refine w_iload rfl rfl ?_
    have o1 := H.1
    replace H := H.2
    refine w_imul rfl o1 ?_
    refine w_iload rfl rfl ?_
    have o2 := H.1
    replace H := H.2
    refine w_iadd rfl o2 ?_
    refine w_iload rfl rfl ?_
    refine w_iconst rfl ⟨by decide, by decide⟩ ?_
    refine w_irem rfl (by decide) ?_
    have o3 := H.1
    replace H := H.2
    have o4 := H.1
    replace H := H.2
    refine w_iastore rfl o3 o4 (fun h5 eh5 => ?_)
    replace H := H h5 eh5
    have o6 := H.1
    replace H := H.2
    refine w_iinc rfl rfl rfl o6 ?_
    refine w_goto rfl ?_
    exact H
  · replace H := H.2 hc
    refine w_aload rfl rfl ?_
    refine w_getR 4 20 rfl rfl rfl rfl p_a0 ?_
    refine w_iconst rfl ⟨by decide, by decide⟩ ?_
    refine w_iload rfl rfl ?_
    have o7 := H.1
    replace H := H.2
    refine w_imul rfl o7 ?_
    refine w_aload rfl rfl ?_
    refine w_getI 0 rfl rfl rfl p_a0 ?_
    refine w_iload rfl rfl ?_
    have o8 := H.1
    replace H := H.2
    refine w_imul rfl o8 ?_
    have o9 := H.1
    replace H := H.2
    refine w_iadd rfl o9 ?_
    refine w_iload rfl rfl ?_
    have o10 := H.1
    replace H := H.2
    refine w_iadd rfl o10 ?_
    have o11 := H.1
    replace H := H.2
    have o12 := H.1
    replace H := H.2
    refine w_iaload rfl o11 o12 ?_
    refine w_istore rfl rfl ?_
    refine w_iload rfl rfl ?_
    refine w_iload rfl rfl ?_
    refine w_aload rfl rfl ?_
    refine w_getR 3 20 rfl rfl rfl rfl p_a0 ?_
    refine w_iconst rfl ⟨by decide, by decide⟩ ?_
    refine w_iload rfl rfl ?_
    have o13 := H.1
    replace H := H.2
    refine w_imul rfl o13 ?_
    refine w_aload rfl rfl ?_
    refine w_getI 0 rfl rfl rfl p_a0 ?_
    refine w_iload rfl rfl ?_
    have o14 := H.1
    replace H := H.2
    refine w_imul rfl o14 ?_
    have o15 := H.1
    replace H := H.2
    refine w_iadd rfl o15 ?_
    refine w_iload rfl rfl ?_
    have o16 := H.1
    replace H := H.2
    refine w_iadd rfl o16 ?_
    have o17 := H.1
    replace H := H.2
    have o18 := H.1
    replace H := H.2
    refine w_iaload rfl o17 o18 ?_
    have o19 := H.1
    replace H := H.2
    refine w_imul rfl o19 ?_
    have o20 := H.1
    replace H := H.2
    refine w_iadd rfl o20 ?_
    refine w_istore rfl rfl ?_
    have o21 := H.1
    replace H := H.2
    refine w_iinc rfl rfl rfl o21 ?_
    refine w_goto rfl ?_
    exact H
set_option maxHeartbeats 4000000 in
set_option maxRecDepth 100000 in
theorem r_Members_multiplyByTable {d : Nat} {Q : cm_Q} {h : cm_H} {a0 : Nat} {x1 : Int} {x2 : Int} (p_a0 : 0 < a0) (H : cw d cd_Members_multiplyByTable Q 2 [some (vR 3 a0), some (vI x1), some (vI x2), some (vI 0), none, none, none, none] [] h) : cm_call (d + 1) m_Members_multiplyByTable [vR 3 a0, vI x1, vI x2] h Q := by
  refine cm_call_in (C := cd_Members_multiplyByTable) (ls := [some (vR 3 a0), some (vI x1), some (vI x2), none, none, none, none, none]) rfl rfl p_a0 rfl ?_
  refine w_iconst rfl ⟨by decide, by decide⟩ ?_
  refine w_istore rfl rfl ?_
  exact H
set_option maxHeartbeats 4000000 in
set_option maxRecDepth 100000 in
theorem r_Members_findCandidate_2 {d : Nat} {Q : cm_Q} {h : cm_H} {a0 : Nat} {x1 : Int} {z2 : Option cm_V} (p_a0 : 0 < a0) (H : (((ch_I h a0 2) ≤ x1 → Q (some (vI (ch_I h a0 2))) h) ∧ (x1 < (ch_I h a0 2) → cw d cd_Members_findCandidate Q 12 [some (vR 3 a0), some (vI x1), some (vI 0)] [] h))) : cw d cd_Members_findCandidate Q 2 [some (vR 3 a0), some (vI x1), z2] [] h := by
  refine w_iload rfl rfl ?_
  refine w_aload rfl rfl ?_
  refine w_getI 2 rfl rfl rfl p_a0 ?_
  refine w_icmp rfl (And.intro (fun hc => ?_) (fun hc => ?_))
  · replace H := H.1 hc
    refine w_aload rfl rfl ?_
    refine w_getI 2 rfl rfl rfl p_a0 ?_
    exact w_ireturn rfl H
  · replace H := H.2 hc
    refine w_iconst rfl ⟨by decide, by decide⟩ ?_
    refine w_istore rfl rfl ?_
    exact H
set_option maxHeartbeats 4000000 in
set_option maxRecDepth 100000 in
theorem r_Members_findCandidate_12 {d : Nat} {Q : cm_Q} {h : cm_H} {a0 : Nat} {x1 : Int} {x2 : Int} (p_a0 : 0 < a0) (H : (cm_i ((ch_I h a0 0) * (ch_I h a0 0)) ∧ ((((ch_I h a0 0) * (ch_I h a0 0)) ≤ x2 → cw d cd_Members_findCandidate Q 51 [some (vR 3 a0), some (vI x1), some (vI x2)] [] h) ∧ (x2 < ((ch_I h a0 0) * (ch_I h a0 0)) → (cm_i (9 * x1) ∧ (cm_i ((9 * x1) + x2) ∧ (0 < ((ch_R h a0 4)) ∧ ((0:Int) ≤ ((9 * x1) + x2) ∧ ((9 * x1) + x2) < ch_L h (ch_R h a0 4)) ∧ (0 < ((ch_R h a0 11)) ∧ ((0:Int) ≤ x2 ∧ x2 < ch_L h (ch_R h a0 11)) ∧ ((¬ (ch_I h (ch_R h a0 4) ((9 * x1) + x2)) = (ch_I h (ch_R h a0 11) x2) → cw d cd_Members_findCandidate Q 51 [some (vR 3 a0), some (vI x1), some (vI x2)] [] h) ∧ ((ch_I h (ch_R h a0 4) ((9 * x1) + x2)) = (ch_I h (ch_R h a0 11) x2) → (cm_i (x2 + 1) ∧ cw d cd_Members_findCandidate Q 12 [some (vR 3 a0), some (vI x1), some (vI (x2 + 1))] [] h))))))))))) : cw d cd_Members_findCandidate Q 12 [some (vR 3 a0), some (vI x1), some (vI x2)] [] h := by
  refine w_iload rfl rfl ?_
  refine w_aload rfl rfl ?_
  refine w_getI 0 rfl rfl rfl p_a0 ?_
  refine w_aload rfl rfl ?_
  refine w_getI 0 rfl rfl rfl p_a0 ?_
  have o1 := H.1
  replace H := H.2
  refine w_imul rfl o1 ?_
  refine w_icmp rfl (And.intro (fun hc => ?_) (fun hc => ?_))
  · replace H := H.1 hc
    exact H
  · replace H := H.2 hc
    refine w_aload rfl rfl ?_
    refine w_getR 4 20 rfl rfl rfl rfl p_a0 ?_
    refine w_iconst rfl ⟨by decide, by decide⟩ ?_
    refine w_iload rfl rfl ?_
    have o2 := H.1
    replace H := H.2
    refine w_imul rfl o2 ?_
    refine w_iload rfl rfl ?_
    have o3 := H.1
    replace H := H.2
    refine w_iadd rfl o3 ?_
    have o4 := H.1
    replace H := H.2
    have o5 := H.1
    replace H := H.2
    refine w_iaload rfl o4 o5 ?_
    refine w_aload rfl rfl ?_
    refine w_getR 11 20 rfl rfl rfl rfl p_a0 ?_
    refine w_iload rfl rfl ?_
    have o6 := H.1
    replace H := H.2
    have o7 := H.1
    replace H := H.2
    refine w_iaload rfl o6 o7 ?_
    refine w_icmp rfl (And.intro (fun hc => ?_) (fun hc => ?_))
    · replace H := H.1 hc
      exact H
    · replace H := H.2 hc
      have o8 := H.1
      replace H := H.2
      refine w_iinc rfl rfl rfl o8 ?_
      refine w_goto rfl ?_
      exact H
set_option maxHeartbeats 4000000 in
set_option maxRecDepth 100000 in
theorem r_Members_findCandidate_51 {d : Nat} {Q : cm_Q} {h : cm_H} {a0 : Nat} {x1 : Int} {x2 : Int} (p_a0 : 0 < a0) (H : (cm_i ((ch_I h a0 0) * (ch_I h a0 0)) ∧ ((¬ x2 = ((ch_I h a0 0) * (ch_I h a0 0)) → (cm_i (x1 + 1) ∧ cw d cd_Members_findCandidate Q 2 [some (vR 3 a0), some (vI (x1 + 1)), some (vI x2)] [] h)) ∧ (x2 = ((ch_I h a0 0) * (ch_I h a0 0)) → Q (some (vI x1)) h)))) : cw d cd_Members_findCandidate Q 51 [some (vR 3 a0), some (vI x1), some (vI x2)] [] h := by
  refine w_iload rfl rfl ?_
  refine w_aload rfl rfl ?_
  refine w_getI 0 rfl rfl rfl p_a0 ?_
  refine w_aload rfl rfl ?_
  refine w_getI 0 rfl rfl rfl p_a0 ?_
  have o1 := H.1
  replace H := H.2
  refine w_imul rfl o1 ?_
  refine w_icmp rfl (And.intro (fun hc => ?_) (fun hc => ?_))
  · replace H := H.1 hc
    have o2 := H.1
    replace H := H.2
    refine w_iinc rfl rfl rfl o2 ?_
    refine w_goto rfl ?_
    exact H
  · replace H := H.2 hc
    refine w_iload rfl rfl ?_
    exact w_ireturn rfl H
set_option maxHeartbeats 4000000 in
set_option maxRecDepth 100000 in
theorem r_Members_findCandidate {d : Nat} {Q : cm_Q} {h : cm_H} {a0 : Nat} (p_a0 : 0 < a0) (H : cw d cd_Members_findCandidate Q 2 [some (vR 3 a0), some (vI 0), none] [] h) : cm_call (d + 1) m_Members_findCandidate [vR 3 a0] h Q := by
  refine cm_call_in (C := cd_Members_findCandidate) (ls := [some (vR 3 a0), none, none]) rfl rfl p_a0 rfl ?_
  refine w_iconst rfl ⟨by decide, by decide⟩ ?_
  refine w_istore rfl rfl ?_
  exact H
set_option maxHeartbeats 4000000 in
set_option maxRecDepth 100000 in
theorem r_Members_fillProducts_2 {d : Nat} {Q : cm_Q} {h : cm_H} {a0 : Nat} {x1 : Int} {z2 : Option cm_V} {z3 : Option cm_V} (p_a0 : 0 < a0) (H : (((ch_I h a0 2) ≤ x1 → Q none h) ∧ (x1 < (ch_I h a0 2) → (cm_i (48 * x1) ∧ (0 < ((ch_R h a0 6)) ∧ ((0:Int) ≤ (48 * x1) ∧ (48 * x1) < ch_L h (ch_R h a0 6)) ∧ (∀ h4 : cm_H, h4 = ch_u h (ch_R h a0 6) (48 * x1) x1 → cw d cd_Members_fillProducts Q 24 [some (vR 3 a0), some (vI x1), some (vI (48 * x1)), some (vI 1)] [] h4)))))) : cw d cd_Members_fillProducts Q 2 [some (vR 3 a0), some (vI x1), z2, z3] [] h := by
  refine w_iload rfl rfl ?_
  refine w_aload rfl rfl ?_
  refine w_getI 2 rfl rfl rfl p_a0 ?_
  refine w_icmp rfl (And.intro (fun hc => ?_) (fun hc => ?_))
  · replace H := H.1 hc
    exact w_return rfl H
  · replace H := H.2 hc
    refine w_iconst rfl ⟨by decide, by decide⟩ ?_
    refine w_iload rfl rfl ?_
    have o1 := H.1
    replace H := H.2
    refine w_imul rfl o1 ?_
    refine w_istore rfl rfl ?_
    refine w_aload rfl rfl ?_
    refine w_getR 6 20 rfl rfl rfl rfl p_a0 ?_
    refine w_iload rfl rfl ?_
    refine w_iload rfl rfl ?_
    have o2 := H.1
    replace H := H.2
    have o3 := H.1
    replace H := H.2
    refine w_iastore rfl o2 o3 (fun h4 eh4 => ?_)
    replace H := H h4 eh4
    refine w_iconst rfl ⟨by decide, by decide⟩ ?_
    refine w_istore rfl rfl ?_
    exact H
set_option maxHeartbeats 4000000 in
set_option maxRecDepth 100000 in
theorem r_Members_fillProducts_24 {d : Nat} {Q : cm_Q} {h : cm_H} {a0 : Nat} {x1 : Int} {x2 : Int} {x3 : Int} (p_a0 : 0 < a0) (H : (((ch_I h a0 2) ≤ x3 → (cm_i (x1 + 1) ∧ cw d cd_Members_fillProducts Q 2 [some (vR 3 a0), some (vI (x1 + 1)), some (vI x2), some (vI x3)] [] h)) ∧ (x3 < (ch_I h a0 2) → (cm_i (x2 + x3) ∧ (0 < ((ch_R h a0 9)) ∧ ((0:Int) ≤ x3 ∧ x3 < ch_L h (ch_R h a0 9)) ∧ (cm_i (x2 + (ch_I h (ch_R h a0 9) x3)) ∧ (0 < ((ch_R h a0 6)) ∧ ((0:Int) ≤ (x2 + (ch_I h (ch_R h a0 9) x3)) ∧ (x2 + (ch_I h (ch_R h a0 9) x3)) < ch_L h (ch_R h a0 6)) ∧ (cm_i (4 * (ch_I h (ch_R h a0 6) (x2 + (ch_I h (ch_R h a0 9) x3)))) ∧ (0 < ((ch_R h a0 10)) ∧ ((0:Int) ≤ x3 ∧ x3 < ch_L h (ch_R h a0 10)) ∧ (cm_i ((4 * (ch_I h (ch_R h a0 6) (x2 + (ch_I h (ch_R h a0 9) x3)))) + (ch_I h (ch_R h a0 10) x3)) ∧ (0 < ((ch_R h a0 5)) ∧ ((0:Int) ≤ ((4 * (ch_I h (ch_R h a0 6) (x2 + (ch_I h (ch_R h a0 9) x3)))) + (ch_I h (ch_R h a0 10) x3)) ∧ ((4 * (ch_I h (ch_R h a0 6) (x2 + (ch_I h (ch_R h a0 9) x3)))) + (ch_I h (ch_R h a0 10) x3)) < ch_L h (ch_R h a0 5)) ∧ ((0:Int) ≤ (x2 + x3) ∧ (x2 + x3) < ch_L h (ch_R h a0 6)) ∧ (∀ h15 : cm_H, h15 = ch_u h (ch_R h a0 6) (x2 + x3) (ch_I h (ch_R h a0 5) ((4 * (ch_I h (ch_R h a0 6) (x2 + (ch_I h (ch_R h a0 9) x3)))) + (ch_I h (ch_R h a0 10) x3))) → (cm_i (x3 + 1) ∧ cw d cd_Members_fillProducts Q 24 [some (vR 3 a0), some (vI x1), some (vI x2), some (vI (x3 + 1))] [] h15))))))))))))) : cw d cd_Members_fillProducts Q 24 [some (vR 3 a0), some (vI x1), some (vI x2), some (vI x3)] [] h := by
  refine w_iload rfl rfl ?_
  refine w_aload rfl rfl ?_
  refine w_getI 2 rfl rfl rfl p_a0 ?_
  refine w_icmp rfl (And.intro (fun hc => ?_) (fun hc => ?_))
  · replace H := H.1 hc
    have o1 := H.1
    replace H := H.2
    refine w_iinc rfl rfl rfl o1 ?_
    refine w_goto rfl ?_
    exact H
  · replace H := H.2 hc
    refine w_aload rfl rfl ?_
    refine w_getR 6 20 rfl rfl rfl rfl p_a0 ?_
    refine w_iload rfl rfl ?_
    refine w_iload rfl rfl ?_
    have o2 := H.1
    replace H := H.2
    refine w_iadd rfl o2 ?_
    refine w_aload rfl rfl ?_
    refine w_getR 5 20 rfl rfl rfl rfl p_a0 ?_
    refine w_iconst rfl ⟨by decide, by decide⟩ ?_
    refine w_aload rfl rfl ?_
    refine w_getR 6 20 rfl rfl rfl rfl p_a0 ?_
    refine w_iload rfl rfl ?_
    refine w_aload rfl rfl ?_
    refine w_getR 9 20 rfl rfl rfl rfl p_a0 ?_
    refine w_iload rfl rfl ?_
    have o3 := H.1
    replace H := H.2
    have o4 := H.1
    replace H := H.2
    refine w_iaload rfl o3 o4 ?_
    have o5 := H.1
    replace H := H.2
    refine w_iadd rfl o5 ?_
    have o6 := H.1
    replace H := H.2
    have o7 := H.1
    replace H := H.2
    refine w_iaload rfl o6 o7 ?_
    have o8 := H.1
    replace H := H.2
    refine w_imul rfl o8 ?_
    refine w_aload rfl rfl ?_
    refine w_getR 10 20 rfl rfl rfl rfl p_a0 ?_
    refine w_iload rfl rfl ?_
    have o9 := H.1
    replace H := H.2
    have o10 := H.1
    replace H := H.2
    refine w_iaload rfl o9 o10 ?_
    have o11 := H.1
    replace H := H.2
    refine w_iadd rfl o11 ?_
    have o12 := H.1
    replace H := H.2
    have o13 := H.1
    replace H := H.2
    refine w_iaload rfl o12 o13 ?_
    have o14 := H.1
    replace H := H.2
    refine w_iastore rfl o6 o14 (fun h15 eh15 => ?_)
    replace H := H h15 eh15
    have o16 := H.1
    replace H := H.2
    refine w_iinc rfl rfl rfl o16 ?_
    refine w_goto rfl ?_
    exact H
set_option maxHeartbeats 4000000 in
set_option maxRecDepth 100000 in
theorem r_Members_fillProducts {d : Nat} {Q : cm_Q} {h : cm_H} {a0 : Nat} (p_a0 : 0 < a0) (H : cw d cd_Members_fillProducts Q 2 [some (vR 3 a0), some (vI 0), none, none] [] h) : cm_call (d + 1) m_Members_fillProducts [vR 3 a0] h Q := by
  refine cm_call_in (C := cd_Members_fillProducts) (ls := [some (vR 3 a0), none, none, none]) rfl rfl p_a0 rfl ?_
  refine w_iconst rfl ⟨by decide, by decide⟩ ?_
  refine w_istore rfl rfl ?_
  exact H
set_option maxHeartbeats 4000000 in
set_option maxRecDepth 100000 in
theorem r_Members_fillOrders_2 {d : Nat} {Q : cm_Q} {h : cm_H} {a0 : Nat} {x1 : Int} {z2 : Option cm_V} {z3 : Option cm_V} {z4 : Option cm_V} (p_a0 : 0 < a0) (H : (((ch_I h a0 2) ≤ x1 → Q none h) ∧ (x1 < (ch_I h a0 2) → cw d cd_Members_fillOrders Q 17 [some (vR 3 a0), some (vI x1), some (vI x1), some (vI 0), some (vI 1)] [] h))) : cw d cd_Members_fillOrders Q 2 [some (vR 3 a0), some (vI x1), z2, z3, z4] [] h := by
  refine w_iload rfl rfl ?_
  refine w_aload rfl rfl ?_
  refine w_getI 2 rfl rfl rfl p_a0 ?_
  refine w_icmp rfl (And.intro (fun hc => ?_) (fun hc => ?_))
  · replace H := H.1 hc
    exact w_return rfl H
  · replace H := H.2 hc
    refine w_iload rfl rfl ?_
    refine w_istore rfl rfl ?_
    refine w_iconst rfl ⟨by decide, by decide⟩ ?_
    refine w_istore rfl rfl ?_
    refine w_iconst rfl ⟨by decide, by decide⟩ ?_
    refine w_istore rfl rfl ?_
    exact H
set_option maxHeartbeats 4000000 in
set_option maxRecDepth 100000 in
theorem r_Members_fillOrders_17 {d : Nat} {Q : cm_Q} {h : cm_H} {a0 : Nat} {x1 : Int} {x2 : Int} {x3 : Int} {x4 : Int} (p_a0 : 0 < a0) (H : ((x2 = 0 → cw d cd_Members_fillOrders Q 50 [some (vR 3 a0), some (vI x1), some (vI x2), some (vI x3), some (vI x4)] [] h) ∧ (¬ x2 = 0 → (((ch_I h a0 2) ≤ x4 → cw d cd_Members_fillOrders Q 50 [some (vR 3 a0), some (vI x1), some (vI x2), some (vI x3), some (vI x4)] [] h) ∧ (x4 < (ch_I h a0 2) → (cm_i (48 * x2) ∧ (cm_i ((48 * x2) + x1) ∧ (0 < ((ch_R h a0 6)) ∧ ((0:Int) ≤ ((48 * x2) + x1) ∧ ((48 * x2) + x1) < ch_L h (ch_R h a0 6)) ∧ (cm_i (x4 + 1) ∧ cw d cd_Members_fillOrders Q 17 [some (vR 3 a0), some (vI x1), some (vI (ch_I h (ch_R h a0 6) ((48 * x2) + x1))), some (vI x2), some (vI (x4 + 1))] [] h))))))))) : cw d cd_Members_fillOrders Q 17 [some (vR 3 a0), some (vI x1), some (vI x2), some (vI x3), some (vI x4)] [] h := by
  refine w_iload rfl rfl ?_
  refine w_if rfl (And.intro (fun hc => ?_) (fun hc => ?_))
  · replace H := H.1 hc
    exact H
  · replace H := H.2 hc
    refine w_iload rfl rfl ?_
    refine w_aload rfl rfl ?_
    refine w_getI 2 rfl rfl rfl p_a0 ?_
    refine w_icmp rfl (And.intro (fun hc => ?_) (fun hc => ?_))
    · replace H := H.1 hc
      exact H
    · replace H := H.2 hc
      refine w_iload rfl rfl ?_
      refine w_istore rfl rfl ?_
      refine w_aload rfl rfl ?_
      refine w_getR 6 20 rfl rfl rfl rfl p_a0 ?_
      refine w_iconst rfl ⟨by decide, by decide⟩ ?_
      refine w_iload rfl rfl ?_
      have o1 := H.1
      replace H := H.2
      refine w_imul rfl o1 ?_
      refine w_iload rfl rfl ?_
      have o2 := H.1
      replace H := H.2
      refine w_iadd rfl o2 ?_
      have o3 := H.1
      replace H := H.2
      have o4 := H.1
      replace H := H.2
      refine w_iaload rfl o3 o4 ?_
      refine w_istore rfl rfl ?_
      have o5 := H.1
      replace H := H.2
      refine w_iinc rfl rfl rfl o5 ?_
      refine w_goto rfl ?_
      exact H
set_option maxHeartbeats 4000000 in
set_option maxRecDepth 100000 in
theorem r_Members_fillOrders_50 {d : Nat} {Q : cm_Q} {h : cm_H} {a0 : Nat} {x1 : Int} {z2 : Option cm_V} {x3 : Int} {x4 : Int} (p_a0 : 0 < a0) (H : (0 < ((ch_R h a0 8)) ∧ ((0:Int) ≤ x1 ∧ x1 < ch_L h (ch_R h a0 8)) ∧ (∀ h3 : cm_H, h3 = ch_u h (ch_R h a0 8) x1 x4 → (0 < ((ch_R h3 a0 7)) ∧ ((0:Int) ≤ x1 ∧ x1 < ch_L h3 (ch_R h3 a0 7)) ∧ (∀ h6 : cm_H, h6 = ch_u h3 (ch_R h3 a0 7) x1 x3 → (cm_i (x1 + 1) ∧ cw d cd_Members_fillOrders Q 2 [some (vR 3 a0), some (vI (x1 + 1)), z2, some (vI x3), some (vI x4)] [] h6)))))) : cw d cd_Members_fillOrders Q 50 [some (vR 3 a0), some (vI x1), z2, some (vI x3), some (vI x4)] [] h := by
  refine w_aload rfl rfl ?_
  refine w_getR 8 20 rfl rfl rfl rfl p_a0 ?_
  refine w_iload rfl rfl ?_
  refine w_iload rfl rfl ?_
  have o1 := H.1
  replace H := H.2
  have o2 := H.1
  replace H := H.2
  refine w_iastore rfl o1 o2 (fun h3 eh3 => ?_)
  replace H := H h3 eh3
  refine w_aload rfl rfl ?_
  refine w_getR 7 20 rfl rfl rfl rfl p_a0 ?_
  refine w_iload rfl rfl ?_
  refine w_iload rfl rfl ?_
  have o4 := H.1
  replace H := H.2
  have o5 := H.1
  replace H := H.2
  refine w_iastore rfl o4 o5 (fun h6 eh6 => ?_)
  replace H := H h6 eh6
  have o7 := H.1
  replace H := H.2
  refine w_iinc rfl rfl rfl o7 ?_
  refine w_goto rfl ?_
  exact H
set_option maxHeartbeats 4000000 in
set_option maxRecDepth 100000 in
theorem r_Members_fillOrders {d : Nat} {Q : cm_Q} {h : cm_H} {a0 : Nat} (p_a0 : 0 < a0) (H : cw d cd_Members_fillOrders Q 2 [some (vR 3 a0), some (vI 0), none, none, none] [] h) : cm_call (d + 1) m_Members_fillOrders [vR 3 a0] h Q := by
  refine cm_call_in (C := cd_Members_fillOrders) (ls := [some (vR 3 a0), none, none, none, none]) rfl rfl p_a0 rfl ?_
  refine w_iconst rfl ⟨by decide, by decide⟩ ?_
  refine w_istore rfl rfl ?_
  exact H
set_option maxHeartbeats 4000000 in
set_option maxRecDepth 100000 in
theorem r_Members_lots_4 {d : Nat} {Q : cm_Q} {h : cm_H} {a0 : Nat} {x1 : Int} {x2 : Int} (p_a0 : 0 < a0) (H : (((ch_I h a0 2) ≤ x2 → Q (some (vI x1)) h) ∧ (x2 < (ch_I h a0 2) → (cI d m_Members_isFirstOfLot [vR 3 a0, vI x2] h fun v2 h1 => ((v2 = 0 → (cm_i (x2 + 1) ∧ cw d cd_Members_lots Q 4 [some (vR 3 a0), some (vI x1), some (vI (x2 + 1))] [] h1)) ∧ (¬ v2 = 0 → (cm_i (x1 + 1) ∧ (cm_i (x2 + 1) ∧ cw d cd_Members_lots Q 4 [some (vR 3 a0), some (vI (x1 + 1)), some (vI (x2 + 1))] [] h1)))))))) : cw d cd_Members_lots Q 4 [some (vR 3 a0), some (vI x1), some (vI x2)] [] h := by
  refine w_iload rfl rfl ?_
  refine w_aload rfl rfl ?_
  refine w_getI 2 rfl rfl rfl p_a0 ?_
  refine w_icmp rfl (And.intro (fun hc => ?_) (fun hc => ?_))
  · replace H := H.1 hc
    refine w_iload rfl rfl ?_
    exact w_ireturn rfl H
  · replace H := H.2 hc
    refine w_aload rfl rfl ?_
    refine w_iload rfl rfl ?_
    refine w_callI rfl (fun _ => rfl) rfl (cI_mono H fun v2 h1 H => ?_)
    refine w_if rfl (And.intro (fun hc => ?_) (fun hc => ?_))
    · replace H := H.1 hc
      have o3 := H.1
      replace H := H.2
      refine w_iinc rfl rfl rfl o3 ?_
      refine w_goto rfl ?_
      exact H
    · replace H := H.2 hc
      have o4 := H.1
      replace H := H.2
      refine w_iinc rfl rfl rfl o4 ?_
      have o5 := H.1
      replace H := H.2
      refine w_iinc rfl rfl rfl o5 ?_
      refine w_goto rfl ?_
      exact H
set_option maxHeartbeats 4000000 in
set_option maxRecDepth 100000 in
theorem r_Members_lots {d : Nat} {Q : cm_Q} {h : cm_H} {a0 : Nat} (p_a0 : 0 < a0) (H : cw d cd_Members_lots Q 4 [some (vR 3 a0), some (vI 0), some (vI 0)] [] h) : cm_call (d + 1) m_Members_lots [vR 3 a0] h Q := by
  refine cm_call_in (C := cd_Members_lots) (ls := [some (vR 3 a0), none, none]) rfl rfl p_a0 rfl ?_
  refine w_iconst rfl ⟨by decide, by decide⟩ ?_
  refine w_istore rfl rfl ?_
  refine w_iconst rfl ⟨by decide, by decide⟩ ?_
  refine w_istore rfl rfl ?_
  exact H
set_option maxHeartbeats 4000000 in
set_option maxRecDepth 100000 in
theorem r_Members_isFirstOfLot_2 {d : Nat} {Q : cm_Q} {h : cm_H} {a0 : Nat} {x1 : Int} {x2 : Int} {z3 : Option cm_V} (p_a0 : 0 < a0) (H : (((ch_I h a0 2) ≤ x2 → Q (some (vI 1)) h) ∧ (x2 < (ch_I h a0 2) → (0 < ((ch_R h a0 7)) ∧ ((0:Int) ≤ x2 ∧ x2 < ch_L h (ch_R h a0 7)) ∧ (cm_i (48 * (ch_I h (ch_R h a0 7) x2)) ∧ (cm_i ((48 * (ch_I h (ch_R h a0 7) x2)) + x1) ∧ (0 < ((ch_R h a0 6)) ∧ ((0:Int) ≤ ((48 * (ch_I h (ch_R h a0 7) x2)) + x1) ∧ ((48 * (ch_I h (ch_R h a0 7) x2)) + x1) < ch_L h (ch_R h a0 6)) ∧ (cm_i (48 * (ch_I h (ch_R h a0 6) ((48 * (ch_I h (ch_R h a0 7) x2)) + x1))) ∧ (cm_i ((48 * (ch_I h (ch_R h a0 6) ((48 * (ch_I h (ch_R h a0 7) x2)) + x1))) + x2) ∧ ((0:Int) ≤ ((48 * (ch_I h (ch_R h a0 6) ((48 * (ch_I h (ch_R h a0 7) x2)) + x1))) + x2) ∧ ((48 * (ch_I h (ch_R h a0 6) ((48 * (ch_I h (ch_R h a0 7) x2)) + x1))) + x2) < ch_L h (ch_R h a0 6)) ∧ ((x1 ≤ (ch_I h (ch_R h a0 6) ((48 * (ch_I h (ch_R h a0 6) ((48 * (ch_I h (ch_R h a0 7) x2)) + x1))) + x2)) → (cm_i (x2 + 1) ∧ cw d cd_Members_isFirstOfLot Q 2 [some (vR 3 a0), some (vI x1), some (vI (x2 + 1)), some (vI (ch_I h (ch_R h a0 6) ((48 * (ch_I h (ch_R h a0 7) x2)) + x1)))] [] h)) ∧ ((ch_I h (ch_R h a0 6) ((48 * (ch_I h (ch_R h a0 6) ((48 * (ch_I h (ch_R h a0 7) x2)) + x1))) + x2)) < x1 → Q (some (vI 0)) h))))))))))) : cw d cd_Members_isFirstOfLot Q 2 [some (vR 3 a0), some (vI x1), some (vI x2), z3] [] h := by
  refine w_iload rfl rfl ?_
  refine w_aload rfl rfl ?_
  refine w_getI 2 rfl rfl rfl p_a0 ?_
  refine w_icmp rfl (And.intro (fun hc => ?_) (fun hc => ?_))
  · replace H := H.1 hc
    refine w_iconst rfl ⟨by decide, by decide⟩ ?_
    exact w_zreturn rfl (by decide) H
  · replace H := H.2 hc
    refine w_aload rfl rfl ?_
    refine w_getR 6 20 rfl rfl rfl rfl p_a0 ?_
    refine w_iconst rfl ⟨by decide, by decide⟩ ?_
    refine w_aload rfl rfl ?_
    refine w_getR 7 20 rfl rfl rfl rfl p_a0 ?_
    refine w_iload rfl rfl ?_
    have o1 := H.1
    replace H := H.2
    have o2 := H.1
    replace H := H.2
    refine w_iaload rfl o1 o2 ?_
    have o3 := H.1
    replace H := H.2
    refine w_imul rfl o3 ?_
    refine w_iload rfl rfl ?_
    have o4 := H.1
    replace H := H.2
    refine w_iadd rfl o4 ?_
    have o5 := H.1
    replace H := H.2
    have o6 := H.1
    replace H := H.2
    refine w_iaload rfl o5 o6 ?_
    refine w_istore rfl rfl ?_
    refine w_aload rfl rfl ?_
    refine w_getR 6 20 rfl rfl rfl rfl p_a0 ?_
    refine w_iconst rfl ⟨by decide, by decide⟩ ?_
    refine w_iload rfl rfl ?_
    have o7 := H.1
    replace H := H.2
    refine w_imul rfl o7 ?_
    refine w_iload rfl rfl ?_
    have o8 := H.1
    replace H := H.2
    refine w_iadd rfl o8 ?_
    have o9 := H.1
    replace H := H.2
    refine w_iaload rfl o5 o9 ?_
    refine w_iload rfl rfl ?_
    refine w_icmp rfl (And.intro (fun hc => ?_) (fun hc => ?_))
    · replace H := H.1 hc
      have o10 := H.1
      replace H := H.2
      refine w_iinc rfl rfl rfl o10 ?_
      refine w_goto rfl ?_
      exact H
    · replace H := H.2 hc
      refine w_iconst rfl ⟨by decide, by decide⟩ ?_
      exact w_zreturn rfl (by decide) H
set_option maxHeartbeats 4000000 in
set_option maxRecDepth 100000 in
theorem r_Members_isFirstOfLot {d : Nat} {Q : cm_Q} {h : cm_H} {a0 : Nat} {x1 : Int} (p_a0 : 0 < a0) (H : cw d cd_Members_isFirstOfLot Q 2 [some (vR 3 a0), some (vI x1), some (vI 0), none] [] h) : cm_call (d + 1) m_Members_isFirstOfLot [vR 3 a0, vI x1] h Q := by
  refine cm_call_in (C := cd_Members_isFirstOfLot) (ls := [some (vR 3 a0), some (vI x1), none, none]) rfl rfl p_a0 rfl ?_
  refine w_iconst rfl ⟨by decide, by decide⟩ ?_
  refine w_istore rfl rfl ?_
  exact H
set_option maxHeartbeats 4000000 in
set_option maxRecDepth 100000 in
theorem r_Members_commonPower_2 {d : Nat} {Q : cm_Q} {h : cm_H} {a0 : Nat} {x1 : Int} {z2 : Option cm_V} (p_a0 : 0 < a0) (H : (((ch_I h a0 2) ≤ x1 → Q (some (vI (ch_I h a0 2))) h) ∧ (x1 < (ch_I h a0 2) → cw d cd_Members_commonPower Q 12 [some (vR 3 a0), some (vI x1), some (vI 0)] [] h))) : cw d cd_Members_commonPower Q 2 [some (vR 3 a0), some (vI x1), z2] [] h := by
  refine w_iload rfl rfl ?_
  refine w_aload rfl rfl ?_
  refine w_getI 2 rfl rfl rfl p_a0 ?_
  refine w_icmp rfl (And.intro (fun hc => ?_) (fun hc => ?_))
  · replace H := H.1 hc
    refine w_aload rfl rfl ?_
    refine w_getI 2 rfl rfl rfl p_a0 ?_
    exact w_ireturn rfl H
  · replace H := H.2 hc
    refine w_iconst rfl ⟨by decide, by decide⟩ ?_
    refine w_istore rfl rfl ?_
    exact H
set_option maxHeartbeats 4000000 in
set_option maxRecDepth 100000 in
theorem r_Members_commonPower_12 {d : Nat} {Q : cm_Q} {h : cm_H} {a0 : Nat} {x1 : Int} {x2 : Int} (p_a0 : 0 < a0) (H : (((ch_I h a0 2) ≤ x2 → cw d cd_Members_commonPower Q 39 [some (vR 3 a0), some (vI x1), some (vI x2)] [] h) ∧ (x2 < (ch_I h a0 2) → (0 < ((ch_R h a0 8)) ∧ ((0:Int) ≤ x2 ∧ x2 < ch_L h (ch_R h a0 8)) ∧ (cI d m_Works_divides [vI (ch_I h (ch_R h a0 8) x2), vI x1] h fun v4 h3 => ((v4 = 0 → cw d cd_Members_commonPower Q 39 [some (vR 3 a0), some (vI x1), some (vI x2)] [] h3) ∧ (¬ v4 = 0 → (cm_i (x2 + 1) ∧ cw d cd_Members_commonPower Q 12 [some (vR 3 a0), some (vI x1), some (vI (x2 + 1))] [] h3)))))))) : cw d cd_Members_commonPower Q 12 [some (vR 3 a0), some (vI x1), some (vI x2)] [] h := by
  refine w_iload rfl rfl ?_
  refine w_aload rfl rfl ?_
  refine w_getI 2 rfl rfl rfl p_a0 ?_
  refine w_icmp rfl (And.intro (fun hc => ?_) (fun hc => ?_))
  · replace H := H.1 hc
    exact H
  · replace H := H.2 hc
    refine w_aload rfl rfl ?_
    refine w_getR 8 20 rfl rfl rfl rfl p_a0 ?_
    refine w_iload rfl rfl ?_
    have o1 := H.1
    replace H := H.2
    have o2 := H.1
    replace H := H.2
    refine w_iaload rfl o1 o2 ?_
    refine w_iload rfl rfl ?_
    refine w_callI rfl (fun _ => rfl) rfl (cI_mono H fun v4 h3 H => ?_)
    refine w_if rfl (And.intro (fun hc => ?_) (fun hc => ?_))
    · replace H := H.1 hc
      exact H
    · replace H := H.2 hc
      have o5 := H.1
      replace H := H.2
      refine w_iinc rfl rfl rfl o5 ?_
      refine w_goto rfl ?_
      exact H
set_option maxHeartbeats 4000000 in
set_option maxRecDepth 100000 in
theorem r_Members_commonPower_39 {d : Nat} {Q : cm_Q} {h : cm_H} {a0 : Nat} {x1 : Int} {x2 : Int} (p_a0 : 0 < a0) (H : ((¬ x2 = (ch_I h a0 2) → (cm_i (x1 + 1) ∧ cw d cd_Members_commonPower Q 2 [some (vR 3 a0), some (vI (x1 + 1)), some (vI x2)] [] h)) ∧ (x2 = (ch_I h a0 2) → Q (some (vI x1)) h))) : cw d cd_Members_commonPower Q 39 [some (vR 3 a0), some (vI x1), some (vI x2)] [] h := by
  refine w_iload rfl rfl ?_
  refine w_aload rfl rfl ?_
  refine w_getI 2 rfl rfl rfl p_a0 ?_
  refine w_icmp rfl (And.intro (fun hc => ?_) (fun hc => ?_))
  · replace H := H.1 hc
    have o1 := H.1
    replace H := H.2
    refine w_iinc rfl rfl rfl o1 ?_
    refine w_goto rfl ?_
    exact H
  · replace H := H.2 hc
    refine w_iload rfl rfl ?_
    exact w_ireturn rfl H
set_option maxHeartbeats 4000000 in
set_option maxRecDepth 100000 in
theorem r_Members_commonPower {d : Nat} {Q : cm_Q} {h : cm_H} {a0 : Nat} (p_a0 : 0 < a0) (H : cw d cd_Members_commonPower Q 2 [some (vR 3 a0), some (vI 1), none] [] h) : cm_call (d + 1) m_Members_commonPower [vR 3 a0] h Q := by
  refine cm_call_in (C := cd_Members_commonPower) (ls := [some (vR 3 a0), none, none]) rfl rfl p_a0 rfl ?_
  refine w_iconst rfl ⟨by decide, by decide⟩ ?_
  refine w_istore rfl rfl ?_
  exact H
set_option maxHeartbeats 4000000 in
set_option maxRecDepth 100000 in
theorem r_Members_isEitherOrder_2 {d : Nat} {Q : cm_Q} {h : cm_H} {a0 : Nat} {x1 : Int} {z2 : Option cm_V} (p_a0 : 0 < a0) (H : (((ch_I h a0 2) ≤ x1 → Q (some (vI 1)) h) ∧ (x1 < (ch_I h a0 2) → cw d cd_Members_isEitherOrder Q 12 [some (vR 3 a0), some (vI x1), some (vI 0)] [] h))) : cw d cd_Members_isEitherOrder Q 2 [some (vR 3 a0), some (vI x1), z2] [] h := by
  refine w_iload rfl rfl ?_
  refine w_aload rfl rfl ?_
  refine w_getI 2 rfl rfl rfl p_a0 ?_
  refine w_icmp rfl (And.intro (fun hc => ?_) (fun hc => ?_))
  · replace H := H.1 hc
    refine w_iconst rfl ⟨by decide, by decide⟩ ?_
    exact w_zreturn rfl (by decide) H
  · replace H := H.2 hc
    refine w_iconst rfl ⟨by decide, by decide⟩ ?_
    refine w_istore rfl rfl ?_
    exact H
set_option maxHeartbeats 4000000 in
set_option maxRecDepth 100000 in
theorem r_Members_isEitherOrder_12 {d : Nat} {Q : cm_Q} {h : cm_H} {a0 : Nat} {x1 : Int} {x2 : Int} (p_a0 : 0 < a0) (H : ((x1 ≤ x2 → (cm_i (x1 + 1) ∧ cw d cd_Members_isEitherOrder Q 2 [some (vR 3 a0), some (vI (x1 + 1)), some (vI x2)] [] h)) ∧ (x2 < x1 → (cm_i (48 * x1) ∧ (cm_i ((48 * x1) + x2) ∧ (0 < ((ch_R h a0 6)) ∧ ((0:Int) ≤ ((48 * x1) + x2) ∧ ((48 * x1) + x2) < ch_L h (ch_R h a0 6)) ∧ (cm_i (48 * x2) ∧ (cm_i ((48 * x2) + x1) ∧ ((0:Int) ≤ ((48 * x2) + x1) ∧ ((48 * x2) + x1) < ch_L h (ch_R h a0 6)) ∧ (((ch_I h (ch_R h a0 6) ((48 * x1) + x2)) = (ch_I h (ch_R h a0 6) ((48 * x2) + x1)) → (cm_i (x2 + 1) ∧ cw d cd_Members_isEitherOrder Q 12 [some (vR 3 a0), some (vI x1), some (vI (x2 + 1))] [] h)) ∧ (¬ (ch_I h (ch_R h a0 6) ((48 * x1) + x2)) = (ch_I h (ch_R h a0 6) ((48 * x2) + x1)) → Q (some (vI 0)) h)))))))))) : cw d cd_Members_isEitherOrder Q 12 [some (vR 3 a0), some (vI x1), some (vI x2)] [] h := by
  refine w_iload rfl rfl ?_
  refine w_iload rfl rfl ?_
  refine w_icmp rfl (And.intro (fun hc => ?_) (fun hc => ?_))
  · replace H := H.1 hc
    have o1 := H.1
    replace H := H.2
    refine w_iinc rfl rfl rfl o1 ?_
    refine w_goto rfl ?_
    exact H
  · replace H := H.2 hc
    refine w_aload rfl rfl ?_
    refine w_getR 6 20 rfl rfl rfl rfl p_a0 ?_
    refine w_iconst rfl ⟨by decide, by decide⟩ ?_
    refine w_iload rfl rfl ?_
    have o2 := H.1
    replace H := H.2
    refine w_imul rfl o2 ?_
    refine w_iload rfl rfl ?_
    have o3 := H.1
    replace H := H.2
    refine w_iadd rfl o3 ?_
    have o4 := H.1
    replace H := H.2
    have o5 := H.1
    replace H := H.2
    refine w_iaload rfl o4 o5 ?_
    refine w_aload rfl rfl ?_
    refine w_getR 6 20 rfl rfl rfl rfl p_a0 ?_
    refine w_iconst rfl ⟨by decide, by decide⟩ ?_
    refine w_iload rfl rfl ?_
    have o6 := H.1
    replace H := H.2
    refine w_imul rfl o6 ?_
    refine w_iload rfl rfl ?_
    have o7 := H.1
    replace H := H.2
    refine w_iadd rfl o7 ?_
    have o8 := H.1
    replace H := H.2
    refine w_iaload rfl o4 o8 ?_
    refine w_icmp rfl (And.intro (fun hc => ?_) (fun hc => ?_))
    · replace H := H.1 hc
      have o9 := H.1
      replace H := H.2
      refine w_iinc rfl rfl rfl o9 ?_
      refine w_goto rfl ?_
      exact H
    · replace H := H.2 hc
      refine w_iconst rfl ⟨by decide, by decide⟩ ?_
      exact w_zreturn rfl (by decide) H
set_option maxHeartbeats 4000000 in
set_option maxRecDepth 100000 in
theorem r_Members_isEitherOrder {d : Nat} {Q : cm_Q} {h : cm_H} {a0 : Nat} (p_a0 : 0 < a0) (H : cw d cd_Members_isEitherOrder Q 2 [some (vR 3 a0), some (vI 0), none] [] h) : cm_call (d + 1) m_Members_isEitherOrder [vR 3 a0] h Q := by
  refine cm_call_in (C := cd_Members_isEitherOrder) (ls := [some (vR 3 a0), none, none]) rfl rfl p_a0 rfl ?_
  refine w_iconst rfl ⟨by decide, by decide⟩ ?_
  refine w_istore rfl rfl ?_
  exact H
set_option maxHeartbeats 4000000 in
set_option maxRecDepth 100000 in
theorem r_Members_trace_4 {d : Nat} {Q : cm_Q} {h : cm_H} {a0 : Nat} {x1 : Int} {x2 : Int} {x3 : Int} (p_a0 : 0 < a0) (H : (((ch_I h a0 0) ≤ x3 → Q (some (vI (Int.tmod x2 2521))) h) ∧ (x3 < (ch_I h a0 0) → (cm_i (9 * x1) ∧ (cm_i ((ch_I h a0 0) * x3) ∧ (cm_i ((9 * x1) + ((ch_I h a0 0) * x3)) ∧ (cm_i (((9 * x1) + ((ch_I h a0 0) * x3)) + x3) ∧ (0 < ((ch_R h a0 4)) ∧ ((0:Int) ≤ (((9 * x1) + ((ch_I h a0 0) * x3)) + x3) ∧ (((9 * x1) + ((ch_I h a0 0) * x3)) + x3) < ch_L h (ch_R h a0 4)) ∧ (cm_i (x2 + (ch_I h (ch_R h a0 4) (((9 * x1) + ((ch_I h a0 0) * x3)) + x3))) ∧ (cm_i (x3 + 1) ∧ cw d cd_Members_trace Q 4 [some (vR 3 a0), some (vI x1), some (vI (x2 + (ch_I h (ch_R h a0 4) (((9 * x1) + ((ch_I h a0 0) * x3)) + x3)))), some (vI (x3 + 1))] [] h)))))))))) : cw d cd_Members_trace Q 4 [some (vR 3 a0), some (vI x1), some (vI x2), some (vI x3)] [] h := by
  refine w_iload rfl rfl ?_
  refine w_aload rfl rfl ?_
  refine w_getI 0 rfl rfl rfl p_a0 ?_
  refine w_icmp rfl (And.intro (fun hc => ?_) (fun hc => ?_))
  · replace H := H.1 hc
    refine w_iload rfl rfl ?_
    refine w_iconst rfl ⟨by decide, by decide⟩ ?_
    refine w_irem rfl (by decide) ?_
    exact w_ireturn rfl H
  · replace H := H.2 hc
    refine w_iload rfl rfl ?_
    refine w_aload rfl rfl ?_
    refine w_getR 4 20 rfl rfl rfl rfl p_a0 ?_
    refine w_iconst rfl ⟨by decide, by decide⟩ ?_
    refine w_iload rfl rfl ?_
    have o1 := H.1
    replace H := H.2
    refine w_imul rfl o1 ?_
    refine w_aload rfl rfl ?_
    refine w_getI 0 rfl rfl rfl p_a0 ?_
    refine w_iload rfl rfl ?_
    have o2 := H.1
    replace H := H.2
    refine w_imul rfl o2 ?_
    have o3 := H.1
    replace H := H.2
    refine w_iadd rfl o3 ?_
    refine w_iload rfl rfl ?_
    have o4 := H.1
    replace H := H.2
    refine w_iadd rfl o4 ?_
    have o5 := H.1
    replace H := H.2
    have o6 := H.1
    replace H := H.2
    refine w_iaload rfl o5 o6 ?_
    have o7 := H.1
    replace H := H.2
    refine w_iadd rfl o7 ?_
    refine w_istore rfl rfl ?_
    have o8 := H.1
    replace H := H.2
    refine w_iinc rfl rfl rfl o8 ?_
    refine w_goto rfl ?_
    exact H
set_option maxHeartbeats 4000000 in
set_option maxRecDepth 100000 in
theorem r_Members_trace {d : Nat} {Q : cm_Q} {h : cm_H} {a0 : Nat} {x1 : Int} (p_a0 : 0 < a0) (H : cw d cd_Members_trace Q 4 [some (vR 3 a0), some (vI x1), some (vI 0), some (vI 0)] [] h) : cm_call (d + 1) m_Members_trace [vR 3 a0, vI x1] h Q := by
  refine cm_call_in (C := cd_Members_trace) (ls := [some (vR 3 a0), some (vI x1), none, none]) rfl rfl p_a0 rfl ?_
  refine w_iconst rfl ⟨by decide, by decide⟩ ?_
  refine w_istore rfl rfl ?_
  refine w_iconst rfl ⟨by decide, by decide⟩ ?_
  refine w_istore rfl rfl ?_
  exact H
set_option maxHeartbeats 4000000 in
set_option maxRecDepth 100000 in
theorem r_Members_middle {d : Nat} {Q : cm_Q} {h : cm_H} {a0 : Nat} {x1 : Int} (p_a0 : 0 < a0) (H : (cm_i (9 * x1) ∧ (0 < ((ch_R h a0 4)) ∧ ((0:Int) ≤ (9 * x1) ∧ (9 * x1) < ch_L h (ch_R h a0 4)) ∧ (cm_i ((9 * x1) + 1) ∧ ((0:Int) ≤ ((9 * x1) + 1) ∧ ((9 * x1) + 1) < ch_L h (ch_R h a0 4)) ∧ (cm_i ((9 * x1) + (ch_I h a0 0)) ∧ ((0:Int) ≤ ((9 * x1) + (ch_I h a0 0)) ∧ ((9 * x1) + (ch_I h a0 0)) < ch_L h (ch_R h a0 4)) ∧ (cm_i (((9 * x1) + (ch_I h a0 0)) + 1) ∧ ((0:Int) ≤ (((9 * x1) + (ch_I h a0 0)) + 1) ∧ (((9 * x1) + (ch_I h a0 0)) + 1) < ch_L h (ch_R h a0 4)) ∧ (cI d m_Works_minor [vI (ch_I h (ch_R h a0 4) (9 * x1)), vI (ch_I h (ch_R h a0 4) ((9 * x1) + 1)), vI (ch_I h (ch_R h a0 4) ((9 * x1) + (ch_I h a0 0))), vI (ch_I h (ch_R h a0 4) (((9 * x1) + (ch_I h a0 0)) + 1))] h fun v11 h10 => ((¬ (ch_I h10 a0 0) = 3 → Q (some (vI (Int.tmod v11 2521))) h10) ∧ ((ch_I h10 a0 0) = 3 → (0 < ((ch_R h10 a0 4)) ∧ ((0:Int) ≤ (9 * x1) ∧ (9 * x1) < ch_L h10 (ch_R h10 a0 4)) ∧ (cm_i ((9 * x1) + 2) ∧ ((0:Int) ≤ ((9 * x1) + 2) ∧ ((9 * x1) + 2) < ch_L h10 (ch_R h10 a0 4)) ∧ (cm_i ((9 * x1) + 6) ∧ ((0:Int) ≤ ((9 * x1) + 6) ∧ ((9 * x1) + 6) < ch_L h10 (ch_R h10 a0 4)) ∧ (cm_i ((9 * x1) + 8) ∧ ((0:Int) ≤ ((9 * x1) + 8) ∧ ((9 * x1) + 8) < ch_L h10 (ch_R h10 a0 4)) ∧ (cI d m_Works_minor [vI (ch_I h10 (ch_R h10 a0 4) (9 * x1)), vI (ch_I h10 (ch_R h10 a0 4) ((9 * x1) + 2)), vI (ch_I h10 (ch_R h10 a0 4) ((9 * x1) + 6)), vI (ch_I h10 (ch_R h10 a0 4) ((9 * x1) + 8))] h10 fun v21 h20 => (cm_i (v11 + v21) ∧ (cm_i ((9 * x1) + 4) ∧ (0 < ((ch_R h20 a0 4)) ∧ ((0:Int) ≤ ((9 * x1) + 4) ∧ ((9 * x1) + 4) < ch_L h20 (ch_R h20 a0 4)) ∧ (cm_i ((9 * x1) + 5) ∧ ((0:Int) ≤ ((9 * x1) + 5) ∧ ((9 * x1) + 5) < ch_L h20 (ch_R h20 a0 4)) ∧ (cm_i ((9 * x1) + 7) ∧ ((0:Int) ≤ ((9 * x1) + 7) ∧ ((9 * x1) + 7) < ch_L h20 (ch_R h20 a0 4)) ∧ ((0:Int) ≤ ((9 * x1) + 8) ∧ ((9 * x1) + 8) < ch_L h20 (ch_R h20 a0 4)) ∧ (cI d m_Works_minor [vI (ch_I h20 (ch_R h20 a0 4) ((9 * x1) + 4)), vI (ch_I h20 (ch_R h20 a0 4) ((9 * x1) + 5)), vI (ch_I h20 (ch_R h20 a0 4) ((9 * x1) + 7)), vI (ch_I h20 (ch_R h20 a0 4) ((9 * x1) + 8))] h20 fun v32 h31 => (cm_i ((v11 + v21) + v32) ∧ Q (some (vI (Int.tmod ((v11 + v21) + v32) 2521))) h31))))))))))))))))))))) : cm_call (d + 1) m_Members_middle [vR 3 a0, vI x1] h Q := by
  refine cm_call_in (C := cd_Members_middle) (ls := [some (vR 3 a0), some (vI x1), none, none]) rfl rfl p_a0 rfl ?_
  refine w_iconst rfl ⟨by decide, by decide⟩ ?_
  refine w_iload rfl rfl ?_
  have o1 := H.1
  replace H := H.2
  refine w_imul rfl o1 ?_
  refine w_istore rfl rfl ?_
  refine w_aload rfl rfl ?_
  refine w_getR 4 20 rfl rfl rfl rfl p_a0 ?_
  refine w_iload rfl rfl ?_
  have o2 := H.1
  replace H := H.2
  have o3 := H.1
  replace H := H.2
  refine w_iaload rfl o2 o3 ?_
  refine w_aload rfl rfl ?_
  refine w_getR 4 20 rfl rfl rfl rfl p_a0 ?_
  refine w_iload rfl rfl ?_
  refine w_iconst rfl ⟨by decide, by decide⟩ ?_
  have o4 := H.1
  replace H := H.2
  refine w_iadd rfl o4 ?_
  have o5 := H.1
  replace H := H.2
  refine w_iaload rfl o2 o5 ?_
  refine w_aload rfl rfl ?_
  refine w_getR 4 20 rfl rfl rfl rfl p_a0 ?_
  refine w_iload rfl rfl ?_
  refine w_aload rfl rfl ?_
  refine w_getI 0 rfl rfl rfl p_a0 ?_
  have o6 := H.1
  replace H := H.2
  refine w_iadd rfl o6 ?_
  have o7 := H.1
  replace H := H.2
  refine w_iaload rfl o2 o7 ?_
  refine w_aload rfl rfl ?_
  refine w_getR 4 20 rfl rfl rfl rfl p_a0 ?_
  refine w_iload rfl rfl ?_
  refine w_aload rfl rfl ?_
  refine w_getI 0 rfl rfl rfl p_a0 ?_
  refine w_iadd rfl o6 ?_
  refine w_iconst rfl ⟨by decide, by decide⟩ ?_
  have o8 := H.1
  replace H := H.2
  refine w_iadd rfl o8 ?_
  have o9 := H.1
  replace H := H.2
  refine w_iaload rfl o2 o9 ?_
  refine w_callI rfl (fun _ => rfl) rfl (cI_mono H fun v11 h10 H => ?_)
  refine w_istore rfl rfl ?_
  refine w_aload rfl rfl ?_
  refine w_getI 0 rfl rfl rfl p_a0 ?_
  refine w_iconst rfl ⟨by decide, by decide⟩ ?_
  refine w_icmp rfl (And.intro (fun hc => ?_) (fun hc => ?_))
  · replace H := H.1 hc
    refine w_iload rfl rfl ?_
    refine w_iconst rfl ⟨by decide, by decide⟩ ?_
    refine w_irem rfl (by decide) ?_
    exact w_ireturn rfl H
  · replace H := H.2 hc
    refine w_iload rfl rfl ?_
    refine w_aload rfl rfl ?_
    refine w_getR 4 20 rfl rfl rfl rfl p_a0 ?_
    refine w_iload rfl rfl ?_
    have o12 := H.1
    replace H := H.2
    have o13 := H.1
    replace H := H.2
    refine w_iaload rfl o12 o13 ?_
    refine w_aload rfl rfl ?_
    refine w_getR 4 20 rfl rfl rfl rfl p_a0 ?_
    refine w_iload rfl rfl ?_
    refine w_iconst rfl ⟨by decide, by decide⟩ ?_
    have o14 := H.1
    replace H := H.2
    refine w_iadd rfl o14 ?_
    have o15 := H.1
    replace H := H.2
    refine w_iaload rfl o12 o15 ?_
    refine w_aload rfl rfl ?_
    refine w_getR 4 20 rfl rfl rfl rfl p_a0 ?_
    refine w_iload rfl rfl ?_
    refine w_iconst rfl ⟨by decide, by decide⟩ ?_
    have o16 := H.1
    replace H := H.2
    refine w_iadd rfl o16 ?_
    have o17 := H.1
    replace H := H.2
    refine w_iaload rfl o12 o17 ?_
    refine w_aload rfl rfl ?_
    refine w_getR 4 20 rfl rfl rfl rfl p_a0 ?_
    refine w_iload rfl rfl ?_
    refine w_iconst rfl ⟨by decide, by decide⟩ ?_
    have o18 := H.1
    replace H := H.2
    refine w_iadd rfl o18 ?_
    have o19 := H.1
    replace H := H.2
    refine w_iaload rfl o12 o19 ?_
    refine w_callI rfl (fun _ => rfl) rfl (cI_mono H fun v21 h20 H => ?_)
    have o22 := H.1
    replace H := H.2
    refine w_iadd rfl o22 ?_
    refine w_istore rfl rfl ?_
    refine w_iload rfl rfl ?_
    refine w_aload rfl rfl ?_
    refine w_getR 4 20 rfl rfl rfl rfl p_a0 ?_
    refine w_iload rfl rfl ?_
    refine w_iconst rfl ⟨by decide, by decide⟩ ?_
    have o23 := H.1
    replace H := H.2
    refine w_iadd rfl o23 ?_
    have o24 := H.1
    replace H := H.2
    have o25 := H.1
    replace H := H.2
    refine w_iaload rfl o24 o25 ?_
    refine w_aload rfl rfl ?_
    refine w_getR 4 20 rfl rfl rfl rfl p_a0 ?_
    refine w_iload rfl rfl ?_
    refine w_iconst rfl ⟨by decide, by decide⟩ ?_
    have o26 := H.1
    replace H := H.2
    refine w_iadd rfl o26 ?_
    have o27 := H.1
    replace H := H.2
    refine w_iaload rfl o24 o27 ?_
    refine w_aload rfl rfl ?_
    refine w_getR 4 20 rfl rfl rfl rfl p_a0 ?_
    refine w_iload rfl rfl ?_
    refine w_iconst rfl ⟨by decide, by decide⟩ ?_
    have o28 := H.1
    replace H := H.2
    refine w_iadd rfl o28 ?_
    have o29 := H.1
    replace H := H.2
    refine w_iaload rfl o24 o29 ?_
    refine w_aload rfl rfl ?_
    refine w_getR 4 20 rfl rfl rfl rfl p_a0 ?_
    refine w_iload rfl rfl ?_
    refine w_iconst rfl ⟨by decide, by decide⟩ ?_
    refine w_iadd rfl o18 ?_
    have o30 := H.1
    replace H := H.2
    refine w_iaload rfl o24 o30 ?_
    refine w_callI rfl (fun _ => rfl) rfl (cI_mono H fun v32 h31 H => ?_)
    have o33 := H.1
    replace H := H.2
    refine w_iadd rfl o33 ?_
    refine w_istore rfl rfl ?_
    refine w_iload rfl rfl ?_
    refine w_iconst rfl ⟨by decide, by decide⟩ ?_
    refine w_irem rfl (by decide) ?_
    exact w_ireturn rfl H
set_option maxHeartbeats 4000000 in
set_option maxRecDepth 100000 in
theorem r_Grade_init {d : Nat} {Q : cm_Q} {h : cm_H} {a0 : Nat} {x1 : Int} (p_a0 : 0 < a0) (H : (∀ h1 : cm_H, h1 = ch_new h 20 0 (Int.toNat 0) → (∀ h2 : cm_H, h2 = ch_r h1 a0 4 (ch_n h) → (∀ h3 : cm_H, h3 = ch_new h2 20 0 (Int.toNat 0) → (∀ h4 : cm_H, h4 = ch_r h3 a0 5 (ch_n h2) → (∀ h5 : cm_H, h5 = ch_new h4 20 0 (Int.toNat 0) → (∀ h6 : cm_H, h6 = ch_r h5 a0 7 (ch_n h4) → (∀ h7 : cm_H, h7 = ch_new h6 20 0 (Int.toNat 0) → (∀ h8 : cm_H, h8 = ch_r h7 a0 8 (ch_n h6) → (∀ h9 : cm_H, h9 = ch_new h8 20 0 (Int.toNat 0) → (∀ h10 : cm_H, h10 = ch_r h9 a0 9 (ch_n h8) → (∀ h11 : cm_H, h11 = ch_new h10 20 0 (Int.toNat 0) → (∀ h12 : cm_H, h12 = ch_r h11 a0 10 (ch_n h10) → (∀ h13 : cm_H, h13 = ch_u h12 a0 0 x1 → Q none h13)))))))))))))) : cm_call (d + 1) m_Grade_init [vR 2 a0, vI x1] h Q := by
  refine cm_call_in (C := cd_Grade_init) (ls := [some (vR 2 a0), some (vI x1)]) rfl rfl p_a0 rfl ?_
  refine w_aload rfl rfl ?_
  refine w_objInit rfl rfl p_a0 ?_
  refine w_aload rfl rfl ?_
  refine w_iconst rfl ⟨by decide, by decide⟩ ?_
  refine w_newI rfl (by decide) (fun h1 eh1 => ?_)
  replace H := H h1 eh1
  refine w_putR 4 rfl rfl rfl rfl p_a0 (fun h2 eh2 => ?_)
  replace H := H h2 eh2
  refine w_aload rfl rfl ?_
  refine w_iconst rfl ⟨by decide, by decide⟩ ?_
  refine w_newI rfl (by decide) (fun h3 eh3 => ?_)
  replace H := H h3 eh3
  refine w_putR 5 rfl rfl rfl rfl p_a0 (fun h4 eh4 => ?_)
  replace H := H h4 eh4
  refine w_aload rfl rfl ?_
  refine w_iconst rfl ⟨by decide, by decide⟩ ?_
  refine w_newI rfl (by decide) (fun h5 eh5 => ?_)
  replace H := H h5 eh5
  refine w_putR 7 rfl rfl rfl rfl p_a0 (fun h6 eh6 => ?_)
  replace H := H h6 eh6
  refine w_aload rfl rfl ?_
  refine w_iconst rfl ⟨by decide, by decide⟩ ?_
  refine w_newI rfl (by decide) (fun h7 eh7 => ?_)
  replace H := H h7 eh7
  refine w_putR 8 rfl rfl rfl rfl p_a0 (fun h8 eh8 => ?_)
  replace H := H h8 eh8
  refine w_aload rfl rfl ?_
  refine w_iconst rfl ⟨by decide, by decide⟩ ?_
  refine w_newI rfl (by decide) (fun h9 eh9 => ?_)
  replace H := H h9 eh9
  refine w_putR 9 rfl rfl rfl rfl p_a0 (fun h10 eh10 => ?_)
  replace H := H h10 eh10
  refine w_aload rfl rfl ?_
  refine w_iconst rfl ⟨by decide, by decide⟩ ?_
  refine w_newI rfl (by decide) (fun h11 eh11 => ?_)
  replace H := H h11 eh11
  refine w_putR 10 rfl rfl rfl rfl p_a0 (fun h12 eh12 => ?_)
  replace H := H h12 eh12
  refine w_aload rfl rfl ?_
  refine w_iload rfl rfl ?_
  refine w_putI 0 rfl rfl rfl p_a0 (fun h13 eh13 => ?_)
  replace H := H h13 eh13
  exact w_return rfl H
set_option maxHeartbeats 4000000 in
set_option maxRecDepth 100000 in
theorem r_Grade_beginBase {d : Nat} {Q : cm_Q} {h : cm_H} {a0 : Nat} {x1 : Int} {x2 : Int} (p_a0 : 0 < a0) (H : (∀ h1 : cm_H, h1 = ch_u h a0 2 x1 → (∀ h2 : cm_H, h2 = ch_u h1 a0 3 x2 → (cm_i ((ch_I h2 a0 2) * (ch_I h2 a0 3)) ∧ (cm_i ((ch_I h2 a0 2) * (ch_I h2 a0 2)) ∧ (cA d m_Works_withRoom [vR 20 (ch_R h2 a0 4), vI ((ch_I h2 a0 2) * (ch_I h2 a0 3)), vI ((ch_I h2 a0 2) * (ch_I h2 a0 2))] h2 20 fun v6 h5 => (∀ h7 : cm_H, h7 = ch_r h5 a0 4 v6 → (cA d m_Works_withRoom [vR 20 (ch_R h7 a0 5), vI (ch_I h7 a0 3), vI (ch_I h7 a0 2)] h7 20 fun v9 h8 => (∀ h10 : cm_H, h10 = ch_r h8 a0 5 v9 → Q none h10))))))))) : cm_call (d + 1) m_Grade_beginBase [vR 2 a0, vI x1, vI x2] h Q := by
  refine cm_call_in (C := cd_Grade_beginBase) (ls := [some (vR 2 a0), some (vI x1), some (vI x2)]) rfl rfl p_a0 rfl ?_
  refine w_aload rfl rfl ?_
  refine w_iload rfl rfl ?_
  refine w_putI 2 rfl rfl rfl p_a0 (fun h1 eh1 => ?_)
  replace H := H h1 eh1
  refine w_aload rfl rfl ?_
  refine w_iload rfl rfl ?_
  refine w_putI 3 rfl rfl rfl p_a0 (fun h2 eh2 => ?_)
  replace H := H h2 eh2
  refine w_aload rfl rfl ?_
  refine w_aload rfl rfl ?_
  refine w_getR 4 20 rfl rfl rfl rfl p_a0 ?_
  refine w_aload rfl rfl ?_
  refine w_getI 2 rfl rfl rfl p_a0 ?_
  refine w_aload rfl rfl ?_
  refine w_getI 3 rfl rfl rfl p_a0 ?_
  have o3 := H.1
  replace H := H.2
  refine w_imul rfl o3 ?_
  refine w_aload rfl rfl ?_
  refine w_getI 2 rfl rfl rfl p_a0 ?_
  refine w_aload rfl rfl ?_
  refine w_getI 2 rfl rfl rfl p_a0 ?_
  have o4 := H.1
  replace H := H.2
  refine w_imul rfl o4 ?_
  refine w_callA rfl (fun _ => rfl) rfl (cA_mono H fun v6 h5 H => ?_)
  refine w_putR 4 rfl rfl rfl rfl p_a0 (fun h7 eh7 => ?_)
  replace H := H h7 eh7
  refine w_aload rfl rfl ?_
  refine w_aload rfl rfl ?_
  refine w_getR 5 20 rfl rfl rfl rfl p_a0 ?_
  refine w_aload rfl rfl ?_
  refine w_getI 3 rfl rfl rfl p_a0 ?_
  refine w_aload rfl rfl ?_
  refine w_getI 2 rfl rfl rfl p_a0 ?_
  refine w_callA rfl (fun _ => rfl) rfl (cA_mono H fun v9 h8 H => ?_)
  refine w_putR 5 rfl rfl rfl rfl p_a0 (fun h10 eh10 => ?_)
  replace H := H h10 eh10
  exact w_return rfl H
set_option maxHeartbeats 4000000 in
set_option maxRecDepth 100000 in
theorem r_Grade_takeBase_4 {d : Nat} {Q : cm_Q} {h : cm_H} {a0 : Nat} {a1 : Nat} {x2 : Int} {x3 : Int} {z4 : Option cm_V} (p_a0 : 0 < a0) (p_a1 : 0 < a1) (H : (((ch_I h a0 2) ≤ x3 → Q none h) ∧ (x3 < (ch_I h a0 2) → (((ch_I h a0 3) ≤ x2 → Q none h) ∧ (x2 < (ch_I h a0 3) → (0 < ((ch_R h a1 3)) ∧ ((0:Int) ≤ x3 ∧ x3 < ch_L h (ch_R h a1 3)) ∧ (((ch_I h (ch_R h a1 3) x3) < 0 → (cm_i (x3 + 1) ∧ cw d cd_Grade_takeBase Q 4 [some (vR 2 a0), some (vR 1 a1), some (vI x2), some (vI (x3 + 1)), z4] [] h)) ∧ (0 ≤ (ch_I h (ch_R h a1 3) x3) → (cm_i ((ch_I h a0 2) * (ch_I h (ch_R h a1 3) x3)) ∧ (cm_i ((ch_I h a0 2) * x2) ∧ (0 < ((ch_R h a1 2)) ∧ 0 < ((ch_R h a0 4)) ∧ ((0:Int) ≤ ((ch_I h a0 2) * (ch_I h (ch_R h a1 3) x3)) ∧ (0:Int) ≤ ((ch_I h a0 2) * x2) ∧ (0:Int) ≤ (ch_I h a0 2) ∧ ((ch_I h a0 2) * (ch_I h (ch_R h a1 3) x3)) + (ch_I h a0 2) ≤ ch_L h (ch_R h a1 2) ∧ ((ch_I h a0 2) * x2) + (ch_I h a0 2) ≤ ch_L h (ch_R h a0 4)) ∧ (∀ h9 : cm_H, h9 = ch_cp h (ch_R h a1 2) ((ch_I h a0 2) * (ch_I h (ch_R h a1 3) x3)) (ch_R h a0 4) ((ch_I h a0 2) * x2) (ch_I h a0 2) → (0 < ((ch_R h9 a0 5)) ∧ ((0:Int) ≤ x2 ∧ x2 < ch_L h9 (ch_R h9 a0 5)) ∧ (∀ h12 : cm_H, h12 = ch_u h9 (ch_R h9 a0 5) x2 x3 → (cm_i (x2 + 1) ∧ (cm_i (x3 + 1) ∧ cw d cd_Grade_takeBase Q 4 [some (vR 2 a0), some (vR 1 a1), some (vI (x2 + 1)), some (vI (x3 + 1)), some (vI ((ch_I h a0 2) * (ch_I h (ch_R h a1 3) x3)))] [] h12)))))))))))))))) : cw d cd_Grade_takeBase Q 4 [some (vR 2 a0), some (vR 1 a1), some (vI x2), some (vI x3), z4] [] h := by
  refine w_iload rfl rfl ?_
  refine w_aload rfl rfl ?_
  refine w_getI 2 rfl rfl rfl p_a0 ?_
  refine w_icmp rfl (And.intro (fun hc => ?_) (fun hc => ?_))
  · replace H := H.1 hc
    exact w_return rfl H
  · replace H := H.2 hc
    refine w_iload rfl rfl ?_
    refine w_aload rfl rfl ?_
    refine w_getI 3 rfl rfl rfl p_a0 ?_
    refine w_icmp rfl (And.intro (fun hc => ?_) (fun hc => ?_))
    · replace H := H.1 hc
      exact w_return rfl H
    · replace H := H.2 hc
      refine w_aload rfl rfl ?_
      refine w_getR 3 20 rfl rfl rfl rfl p_a1 ?_
      refine w_iload rfl rfl ?_
      have o1 := H.1
      replace H := H.2
      have o2 := H.1
      replace H := H.2
      refine w_iaload rfl o1 o2 ?_
      refine w_if rfl (And.intro (fun hc => ?_) (fun hc => ?_))
      · replace H := H.1 hc
        have o3 := H.1
        replace H := H.2
        refine w_iinc rfl rfl rfl o3 ?_
        refine w_goto rfl ?_
        exact H
      · replace H := H.2 hc
        refine w_aload rfl rfl ?_
        refine w_getI 2 rfl rfl rfl p_a0 ?_
        refine w_aload rfl rfl ?_
        refine w_getR 3 20 rfl rfl rfl rfl p_a1 ?_
        refine w_iload rfl rfl ?_
        refine w_iaload rfl o1 o2 ?_
        have o4 := H.1
        replace H := H.2
        refine w_imul rfl o4 ?_
        refine w_istore rfl rfl ?_
        refine w_aload rfl rfl ?_
        refine w_getR 2 20 rfl rfl rfl rfl p_a1 ?_
        refine w_iload rfl rfl ?_
        refine w_aload rfl rfl ?_
        refine w_getR 4 20 rfl rfl rfl rfl p_a0 ?_
        refine w_aload rfl rfl ?_
        refine w_getI 2 rfl rfl rfl p_a0 ?_
        refine w_iload rfl rfl ?_
        have o5 := H.1
        replace H := H.2
        refine w_imul rfl o5 ?_
        refine w_aload rfl rfl ?_
        refine w_getI 2 rfl rfl rfl p_a0 ?_
        have o6 := H.1
        replace H := H.2
        have o7 := H.1
        replace H := H.2
        have o8 := H.1
        replace H := H.2
        refine w_copy rfl rfl o6 o7 o8 (fun h9 eh9 => ?_)
        replace H := H h9 eh9
        refine w_aload rfl rfl ?_
        refine w_getR 5 20 rfl rfl rfl rfl p_a0 ?_
        refine w_iload rfl rfl ?_
        refine w_iload rfl rfl ?_
        have o10 := H.1
        replace H := H.2
        have o11 := H.1
        replace H := H.2
        refine w_iastore rfl o10 o11 (fun h12 eh12 => ?_)
        replace H := H h12 eh12
        have o13 := H.1
        replace H := H.2
        refine w_iinc rfl rfl rfl o13 ?_
        have o14 := H.1
        replace H := H.2
        refine w_iinc rfl rfl rfl o14 ?_
        refine w_goto rfl ?_
        exact H
set_option maxHeartbeats 4000000 in
set_option maxRecDepth 100000 in
theorem r_Grade_takeBase {d : Nat} {Q : cm_Q} {h : cm_H} {a0 : Nat} {a1 : Nat} (p_a0 : 0 < a0) (H : cw d cd_Grade_takeBase Q 4 [some (vR 2 a0), some (vR 1 a1), some (vI 0), some (vI 0), none] [] h) : cm_call (d + 1) m_Grade_takeBase [vR 2 a0, vR 1 a1] h Q := by
  refine cm_call_in (C := cd_Grade_takeBase) (ls := [some (vR 2 a0), some (vR 1 a1), none, none, none]) rfl rfl p_a0 rfl ?_
  refine w_iconst rfl ⟨by decide, by decide⟩ ?_
  refine w_istore rfl rfl ?_
  refine w_iconst rfl ⟨by decide, by decide⟩ ?_
  refine w_istore rfl rfl ?_
  exact H
set_option maxHeartbeats 4000000 in
set_option maxRecDepth 100000 in
theorem r_Grade_beginProducts_107 {d : Nat} {Q : cm_Q} {h : cm_H} {a0 : Nat} {x1 : Int} (p_a0 : 0 < a0) (H : (((ch_I h a0 3) ≤ x1 → Q none h) ∧ (x1 < (ch_I h a0 3) → (0 < ((ch_R h a0 10)) ∧ ((0:Int) ≤ x1 ∧ x1 < ch_L h (ch_R h a0 10)) ∧ (∀ h3 : cm_H, h3 = ch_u h (ch_R h a0 10) x1 x1 → (cm_i (x1 + 1) ∧ cw d cd_Grade_beginProducts Q 107 [some (vR 2 a0), some (vI (x1 + 1))] [] h3)))))) : cw d cd_Grade_beginProducts Q 107 [some (vR 2 a0), some (vI x1)] [] h := by
  refine w_iload rfl rfl ?_
  refine w_aload rfl rfl ?_
  refine w_getI 3 rfl rfl rfl p_a0 ?_
  refine w_icmp rfl (And.intro (fun hc => ?_) (fun hc => ?_))
  · replace H := H.1 hc
    exact w_return rfl H
  · replace H := H.2 hc
    refine w_aload rfl rfl ?_
    refine w_getR 10 20 rfl rfl rfl rfl p_a0 ?_
    refine w_iload rfl rfl ?_
    refine w_iload rfl rfl ?_
    have o1 := H.1
    replace H := H.2
    have o2 := H.1
    replace H := H.2
    refine w_iastore rfl o1 o2 (fun h3 eh3 => ?_)
    replace H := H h3 eh3
    have o4 := H.1
    replace H := H.2
    refine w_iinc rfl rfl rfl o4 ?_
    refine w_goto rfl ?_
    exact H
set_option maxHeartbeats 4000000 in
set_option maxRecDepth 100000 in
theorem r_Grade_beginProducts {d : Nat} {Q : cm_Q} {h : cm_H} {a0 : Nat} (p_a0 : 0 < a0) (H : (∀ h1 : cm_H, h1 = ch_u h a0 6 0 → (cm_i ((ch_I h1 a0 2) * (ch_I h1 a0 3)) ∧ (cm_i ((ch_I h1 a0 2) * (ch_I h1 a0 2)) ∧ (cA d m_Works_withRoom [vR 20 (ch_R h1 a0 7), vI ((ch_I h1 a0 2) * (ch_I h1 a0 3)), vI ((ch_I h1 a0 2) * (ch_I h1 a0 2))] h1 20 fun v5 h4 => (∀ h6 : cm_H, h6 = ch_r h4 a0 7 v5 → (cm_i (4 * (ch_I h6 a0 3)) ∧ (cm_i (4 * (ch_I h6 a0 2)) ∧ (cA d m_Works_withRoom [vR 20 (ch_R h6 a0 8), vI (4 * (ch_I h6 a0 3)), vI (4 * (ch_I h6 a0 2))] h6 20 fun v10 h9 => (∀ h11 : cm_H, h11 = ch_r h9 a0 8 v10 → (cm_i ((ch_I h11 a0 3) * (ch_I h11 a0 3)) ∧ (cm_i ((ch_I h11 a0 2) * (ch_I h11 a0 2)) ∧ (cA d m_Works_withRoom [vR 20 (ch_R h11 a0 9), vI ((ch_I h11 a0 3) * (ch_I h11 a0 3)), vI ((ch_I h11 a0 2) * (ch_I h11 a0 2))] h11 20 fun v15 h14 => (∀ h16 : cm_H, h16 = ch_r h14 a0 9 v15 → (cA d m_Works_withRoom [vR 20 (ch_R h16 a0 10), vI (ch_I h16 a0 3), vI (ch_I h16 a0 2)] h16 20 fun v18 h17 => (∀ h19 : cm_H, h19 = ch_r h17 a0 10 v18 → cw d cd_Grade_beginProducts Q 107 [some (vR 2 a0), some (vI 0)] [] h19)))))))))))))))) : cm_call (d + 1) m_Grade_beginProducts [vR 2 a0] h Q := by
  refine cm_call_in (C := cd_Grade_beginProducts) (ls := [some (vR 2 a0), none]) rfl rfl p_a0 rfl ?_
  refine w_aload rfl rfl ?_
  refine w_iconst rfl ⟨by decide, by decide⟩ ?_
  refine w_putI 6 rfl rfl rfl p_a0 (fun h1 eh1 => ?_)
  replace H := H h1 eh1
  refine w_aload rfl rfl ?_
  refine w_aload rfl rfl ?_
  refine w_getR 7 20 rfl rfl rfl rfl p_a0 ?_
  refine w_aload rfl rfl ?_
  refine w_getI 2 rfl rfl rfl p_a0 ?_
  refine w_aload rfl rfl ?_
  refine w_getI 3 rfl rfl rfl p_a0 ?_
  have o2 := H.1
  replace H := H.2
  refine w_imul rfl o2 ?_
  refine w_aload rfl rfl ?_
  refine w_getI 2 rfl rfl rfl p_a0 ?_
  refine w_aload rfl rfl ?_
  refine w_getI 2 rfl rfl rfl p_a0 ?_
  have o3 := H.1
  replace H := H.2
  refine w_imul rfl o3 ?_
  refine w_callA rfl (fun _ => rfl) rfl (cA_mono H fun v5 h4 H => ?_)
  refine w_putR 7 rfl rfl rfl rfl p_a0 (fun h6 eh6 => ?_)
  replace H := H h6 eh6
  refine w_aload rfl rfl ?_
  refine w_aload rfl rfl ?_
  refine w_getR 8 20 rfl rfl rfl rfl p_a0 ?_
  refine w_iconst rfl ⟨by decide, by decide⟩ ?_
  refine w_aload rfl rfl ?_
  refine w_getI 3 rfl rfl rfl p_a0 ?_
  have o7 := H.1
  replace H := H.2
  refine w_imul rfl o7 ?_
  refine w_iconst rfl ⟨by decide, by decide⟩ ?_
  refine w_aload rfl rfl ?_
  refine w_getI 2 rfl rfl rfl p_a0 ?_
  have o8 := H.1
  replace H := H.2
  refine w_imul rfl o8 ?_
  refine w_callA rfl (fun _ => rfl) rfl (cA_mono H fun v10 h9 H => ?_)
  refine w_putR 8 rfl rfl rfl rfl p_a0 (fun h11 eh11 => ?_)
  replace H := H h11 eh11
  refine w_aload rfl rfl ?_
  refine w_aload rfl rfl ?_
  refine w_getR 9 20 rfl rfl rfl rfl p_a0 ?_
  refine w_aload rfl rfl ?_
  refine w_getI 3 rfl rfl rfl p_a0 ?_
  refine w_aload rfl rfl ?_
  refine w_getI 3 rfl rfl rfl p_a0 ?_
  have o12 := H.1
  replace H := H.2
  refine w_imul rfl o12 ?_
  refine w_aload rfl rfl ?_
  refine w_getI 2 rfl rfl rfl p_a0 ?_
  refine w_aload rfl rfl ?_
  refine w_getI 2 rfl rfl rfl p_a0 ?_
  have o13 := H.1
  replace H := H.2
  refine w_imul rfl o13 ?_
  refine w_callA rfl (fun _ => rfl) rfl (cA_mono H fun v15 h14 H => ?_)
  refine w_putR 9 rfl rfl rfl rfl p_a0 (fun h16 eh16 => ?_)
  replace H := H h16 eh16
  refine w_aload rfl rfl ?_
  refine w_aload rfl rfl ?_
  refine w_getR 10 20 rfl rfl rfl rfl p_a0 ?_
  refine w_aload rfl rfl ?_
  refine w_getI 3 rfl rfl rfl p_a0 ?_
  refine w_aload rfl rfl ?_
  refine w_getI 2 rfl rfl rfl p_a0 ?_
  refine w_callA rfl (fun _ => rfl) rfl (cA_mono H fun v18 h17 H => ?_)
  refine w_putR 10 rfl rfl rfl rfl p_a0 (fun h19 eh19 => ?_)
  replace H := H h19 eh19
  refine w_iconst rfl ⟨by decide, by decide⟩ ?_
  refine w_istore rfl rfl ?_
  exact H
set_option maxHeartbeats 4000000 in
set_option maxRecDepth 100000 in
theorem r_Grade_takeParts_3 {d : Nat} {Q : cm_Q} {h : cm_H} {a0 : Nat} {a1 : Nat} {x2 : Int} {a3 : Nat} {x4 : Int} (p_a0 : 0 < a0) (p_a1 : 0 < a1) (p_a3 : 0 < a3) (H : (((ch_I h a0 3) ≤ x4 → Q none h) ∧ (x4 < (ch_I h a0 3) → (0 < ((ch_R h a0 10)) ∧ ((0:Int) ≤ x4 ∧ x4 < ch_L h (ch_R h a0 10)) ∧ (0 < ((ch_R h a0 5)) ∧ ((0:Int) ≤ (ch_I h (ch_R h a0 10) x4) ∧ (ch_I h (ch_R h a0 10) x4) < ch_L h (ch_R h a0 5)) ∧ (cm_i (x2 + (ch_I h (ch_R h a0 5) (ch_I h (ch_R h a0 10) x4))) ∧ ((0:Int) ≤ (x2 + (ch_I h (ch_R h a0 5) (ch_I h (ch_R h a0 10) x4))) ∧ (x2 + (ch_I h (ch_R h a0 5) (ch_I h (ch_R h a0 10) x4))) < ch_L h a1) ∧ ((0:Int) ≤ x4 ∧ x4 < ch_L h a3) ∧ (∀ h8 : cm_H, h8 = ch_u h a3 x4 (ch_I h a1 (x2 + (ch_I h (ch_R h a0 5) (ch_I h (ch_R h a0 10) x4)))) → (cm_i (x4 + 1) ∧ cw d cd_Grade_takeParts Q 3 [some (vR 2 a0), some (vR 20 a1), some (vI x2), some (vR 20 a3), some (vI (x4 + 1))] [] h8)))))))) : cw d cd_Grade_takeParts Q 3 [some (vR 2 a0), some (vR 20 a1), some (vI x2), some (vR 20 a3), some (vI x4)] [] h := by
  refine w_iload rfl rfl ?_
  refine w_aload rfl rfl ?_
  refine w_getI 3 rfl rfl rfl p_a0 ?_
  refine w_icmp rfl (And.intro (fun hc => ?_) (fun hc => ?_))
  · replace H := H.1 hc
    exact w_return rfl H
  · replace H := H.2 hc
    refine w_aload rfl rfl ?_
    refine w_iload rfl rfl ?_
    refine w_aload rfl rfl ?_
    refine w_iload rfl rfl ?_
    refine w_aload rfl rfl ?_
    refine w_getR 5 20 rfl rfl rfl rfl p_a0 ?_
    refine w_aload rfl rfl ?_
    refine w_getR 10 20 rfl rfl rfl rfl p_a0 ?_
    refine w_iload rfl rfl ?_
    have o1 := H.1
    replace H := H.2
    have o2 := H.1
    replace H := H.2
    refine w_iaload rfl o1 o2 ?_
    have o3 := H.1
    replace H := H.2
    have o4 := H.1
    replace H := H.2
    refine w_iaload rfl o3 o4 ?_
    have o5 := H.1
    replace H := H.2
    refine w_iadd rfl o5 ?_
    have o6 := H.1
    replace H := H.2
    refine w_iaload rfl p_a1 o6 ?_
    have o7 := H.1
    replace H := H.2
    refine w_iastore rfl p_a3 o7 (fun h8 eh8 => ?_)
    replace H := H h8 eh8
    have o9 := H.1
    replace H := H.2
    refine w_iinc rfl rfl rfl o9 ?_
    refine w_goto rfl ?_
    exact H
set_option maxHeartbeats 4000000 in
set_option maxRecDepth 100000 in
theorem r_Grade_takeParts {d : Nat} {Q : cm_Q} {h : cm_H} {a0 : Nat} {a1 : Nat} {x2 : Int} {a3 : Nat} (p_a0 : 0 < a0) (H : cw d cd_Grade_takeParts Q 3 [some (vR 2 a0), some (vR 20 a1), some (vI x2), some (vR 20 a3), some (vI 0)] [] h) : cm_call (d + 1) m_Grade_takeParts [vR 2 a0, vR 20 a1, vI x2, vR 20 a3] h Q := by
  refine cm_call_in (C := cd_Grade_takeParts) (ls := [some (vR 2 a0), some (vR 20 a1), some (vI x2), some (vR 20 a3), none]) rfl rfl p_a0 rfl ?_
  refine w_iconst rfl ⟨by decide, by decide⟩ ?_
  refine w_istore rfl rfl ?_
  exact H
set_option maxHeartbeats 4000000 in
set_option maxRecDepth 100000 in
theorem r_Grade_insert_2 {d : Nat} {Q : cm_Q} {h : cm_H} {a0 : Nat} {a1 : Nat} {x2 : Int} {z3 : Option cm_V} {z4 : Option cm_V} {z5 : Option cm_V} {z6 : Option cm_V} (p_a0 : 0 < a0) (H : (((ch_I h a0 6) ≤ x2 → cw d cd_Grade_insert Q 27 [some (vR 2 a0), some (vR 20 a1), some (vI (ch_I h a0 6)), z3, z4, z5, z6] [] h) ∧ (x2 < (ch_I h a0 6) → (cU d m_Grade_clearBehind [vR 2 a0, vR 20 a1, vI x2] h fun h1 => (cm_i (x2 + 1) ∧ cw d cd_Grade_insert Q 2 [some (vR 2 a0), some (vR 20 a1), some (vI (x2 + 1)), z3, z4, z5, z6] [] h1))))) : cw d cd_Grade_insert Q 2 [some (vR 2 a0), some (vR 20 a1), some (vI x2), z3, z4, z5, z6] [] h := by
  refine w_iload rfl rfl ?_
  refine w_aload rfl rfl ?_
  refine w_getI 6 rfl rfl rfl p_a0 ?_
  refine w_icmp rfl (And.intro (fun hc => ?_) (fun hc => ?_))
  · replace H := H.1 hc
    refine w_aload rfl rfl ?_
    refine w_getI 6 rfl rfl rfl p_a0 ?_
    refine w_istore rfl rfl ?_
    exact H
  · replace H := H.2 hc
    refine w_aload rfl rfl ?_
    refine w_aload rfl rfl ?_
    refine w_iload rfl rfl ?_
    refine w_callU rfl (fun _ => rfl) rfl (cU_mono H fun h1 H => ?_)
    have o2 := H.1
    replace H := H.2
    refine w_iinc rfl rfl rfl o2 ?_
    refine w_goto rfl ?_
    exact H
set_option maxHeartbeats 4000000 in
set_option maxRecDepth 100000 in
theorem r_Grade_insert_27 {d : Nat} {Q : cm_Q} {h : cm_H} {a0 : Nat} {a1 : Nat} {x2 : Int} {z3 : Option cm_V} {z4 : Option cm_V} {z5 : Option cm_V} {z6 : Option cm_V} (p_a0 : 0 < a0) (p_a1 : 0 < a1) (H : (((ch_I h a0 3) ≤ x2 → cw d cd_Grade_insert Q 51 [some (vR 2 a0), some (vR 20 a1), some (vI x2), z3, z4, z5, z6] [] h) ∧ (x2 < (ch_I h a0 3) → ((0:Int) ≤ x2 ∧ x2 < ch_L h a1) ∧ ((¬ (Int.tmod (ch_I h a1 x2) 2521) = 0 → cw d cd_Grade_insert Q 51 [some (vR 2 a0), some (vR 20 a1), some (vI x2), z3, z4, z5, z6] [] h) ∧ ((Int.tmod (ch_I h a1 x2) 2521) = 0 → (cm_i (x2 + 1) ∧ cw d cd_Grade_insert Q 27 [some (vR 2 a0), some (vR 20 a1), some (vI (x2 + 1)), z3, z4, z5, z6] [] h)))))) : cw d cd_Grade_insert Q 27 [some (vR 2 a0), some (vR 20 a1), some (vI x2), z3, z4, z5, z6] [] h := by
  refine w_iload rfl rfl ?_
  refine w_aload rfl rfl ?_
  refine w_getI 3 rfl rfl rfl p_a0 ?_
  refine w_icmp rfl (And.intro (fun hc => ?_) (fun hc => ?_))
  · replace H := H.1 hc
    exact H
  · replace H := H.2 hc
    refine w_aload rfl rfl ?_
    refine w_iload rfl rfl ?_
    have o1 := H.1
    replace H := H.2
    refine w_iaload rfl p_a1 o1 ?_
    refine w_iconst rfl ⟨by decide, by decide⟩ ?_
    refine w_irem rfl (by decide) ?_
    refine w_if rfl (And.intro (fun hc => ?_) (fun hc => ?_))
    · replace H := H.1 hc
      exact H
    · replace H := H.2 hc
      have o2 := H.1
      replace H := H.2
      refine w_iinc rfl rfl rfl o2 ?_
      refine w_goto rfl ?_
      exact H
set_option maxHeartbeats 4000000 in
set_option maxRecDepth 100000 in
theorem r_Grade_insert_51 {d : Nat} {Q : cm_Q} {h : cm_H} {a0 : Nat} {a1 : Nat} {x2 : Int} {z3 : Option cm_V} {z4 : Option cm_V} {z5 : Option cm_V} {z6 : Option cm_V} (p_a0 : 0 < a0) (p_a1 : 0 < a1) (H : ((x2 < (ch_I h a0 3) → (cU d m_Grade_turn [vR 2 a0, vI (ch_I h a0 6), vI x2] h fun h1 => ((0:Int) ≤ x2 ∧ x2 < ch_L h1 a1) ∧ ((0:Int) ≤ (ch_I h1 a0 6) ∧ (ch_I h1 a0 6) < ch_L h1 a1) ∧ (∀ h4 : cm_H, h4 = ch_u h1 a1 x2 (ch_I h1 a1 (ch_I h1 a0 6)) → (cI d m_Works_raise [vI (Int.tmod (ch_I h1 a1 x2) 2521), vI 2519] h4 fun v6 h5 => (cm_i ((ch_I h5 a0 3) * (ch_I h5 a0 6)) ∧ cw d cd_Grade_insert Q 110 [some (vR 2 a0), some (vR 20 a1), some (vI x2), some (vI (Int.tmod (ch_I h1 a1 x2) 2521)), some (vI v6), some (vI ((ch_I h5 a0 3) * (ch_I h5 a0 6))), some (vI 0)] [] h5))))) ∧ ((ch_I h a0 3) ≤ x2 → Q (some (vI 0)) h))) : cw d cd_Grade_insert Q 51 [some (vR 2 a0), some (vR 20 a1), some (vI x2), z3, z4, z5, z6] [] h := by
  refine w_iload rfl rfl ?_
  refine w_aload rfl rfl ?_
  refine w_getI 3 rfl rfl rfl p_a0 ?_
  refine w_icmp rfl (And.intro (fun hc => ?_) (fun hc => ?_))
  · replace H := H.1 hc
    refine w_aload rfl rfl ?_
    refine w_aload rfl rfl ?_
    refine w_getI 6 rfl rfl rfl p_a0 ?_
    refine w_iload rfl rfl ?_
    refine w_callU rfl (fun _ => rfl) rfl (cU_mono H fun h1 H => ?_)
    refine w_aload rfl rfl ?_
    refine w_iload rfl rfl ?_
    have o2 := H.1
    replace H := H.2
    refine w_iaload rfl p_a1 o2 ?_
    refine w_iconst rfl ⟨by decide, by decide⟩ ?_
    refine w_irem rfl (by decide) ?_
    refine w_istore rfl rfl ?_
    refine w_aload rfl rfl ?_
    refine w_iload rfl rfl ?_
    refine w_aload rfl rfl ?_
    refine w_aload rfl rfl ?_
    refine w_getI 6 rfl rfl rfl p_a0 ?_
    have o3 := H.1
    replace H := H.2
    refine w_iaload rfl p_a1 o3 ?_
    refine w_iastore rfl p_a1 o2 (fun h4 eh4 => ?_)
    replace H := H h4 eh4
    refine w_iload rfl rfl ?_
    refine w_iconst rfl ⟨by decide, by decide⟩ ?_
    refine w_callI rfl (fun _ => rfl) rfl (cI_mono H fun v6 h5 H => ?_)
    refine w_istore rfl rfl ?_
    refine w_aload rfl rfl ?_
    refine w_getI 3 rfl rfl rfl p_a0 ?_
    refine w_aload rfl rfl ?_
    refine w_getI 6 rfl rfl rfl p_a0 ?_
    have o7 := H.1
    replace H := H.2
    refine w_imul rfl o7 ?_
    refine w_istore rfl rfl ?_
    refine w_iconst rfl ⟨by decide, by decide⟩ ?_
    refine w_istore rfl rfl ?_
    exact H
  · replace H := H.2 hc
    refine w_iconst rfl ⟨by decide, by decide⟩ ?_
    exact w_zreturn rfl (by decide) H
set_option maxHeartbeats 4000000 in
set_option maxRecDepth 100000 in
theorem r_Grade_insert_110 {d : Nat} {Q : cm_Q} {h : cm_H} {a0 : Nat} {a1 : Nat} {z2 : Option cm_V} {x3 : Int} {x4 : Int} {x5 : Int} {x6 : Int} (p_a0 : 0 < a0) (p_a1 : 0 < a1) (H : (((ch_I h a0 6) ≤ x6 → (cm_i (x5 + (ch_I h a0 6)) ∧ (0 < ((ch_R h a0 9)) ∧ ((0:Int) ≤ (x5 + (ch_I h a0 6)) ∧ (x5 + (ch_I h a0 6)) < ch_L h (ch_R h a0 9)) ∧ (∀ h4 : cm_H, h4 = ch_u h (ch_R h a0 9) (x5 + (ch_I h a0 6)) x3 → (cm_i ((ch_I h4 a0 6) + 1) ∧ cw d cd_Grade_insert Q 160 [some (vR 2 a0), some (vR 20 a1), z2, some (vI x3), some (vI x4), some (vI x5), some (vI ((ch_I h4 a0 6) + 1))] [] h4))))) ∧ (x6 < (ch_I h a0 6) → (cm_i (x5 + x6) ∧ ((0:Int) ≤ x6 ∧ x6 < ch_L h a1) ∧ (0 < ((ch_R h a0 9)) ∧ ((0:Int) ≤ (x5 + x6) ∧ (x5 + x6) < ch_L h (ch_R h a0 9)) ∧ (∀ h10 : cm_H, h10 = ch_u h (ch_R h a0 9) (x5 + x6) (ch_I h a1 x6) → (cm_i (x6 + 1) ∧ cw d cd_Grade_insert Q 110 [some (vR 2 a0), some (vR 20 a1), z2, some (vI x3), some (vI x4), some (vI x5), some (vI (x6 + 1))] [] h10))))))) : cw d cd_Grade_insert Q 110 [some (vR 2 a0), some (vR 20 a1), z2, some (vI x3), some (vI x4), some (vI x5), some (vI x6)] [] h := by
  refine w_iload rfl rfl ?_
  refine w_aload rfl rfl ?_
  refine w_getI 6 rfl rfl rfl p_a0 ?_
  refine w_icmp rfl (And.intro (fun hc => ?_) (fun hc => ?_))
  · replace H := H.1 hc
    refine w_aload rfl rfl ?_
    refine w_getR 9 20 rfl rfl rfl rfl p_a0 ?_
    refine w_iload rfl rfl ?_
    refine w_aload rfl rfl ?_
    refine w_getI 6 rfl rfl rfl p_a0 ?_
    have o1 := H.1
    replace H := H.2
    refine w_iadd rfl o1 ?_
    refine w_iload rfl rfl ?_
    have o2 := H.1
    replace H := H.2
    have o3 := H.1
    replace H := H.2
    refine w_iastore rfl o2 o3 (fun h4 eh4 => ?_)
    replace H := H h4 eh4
    refine w_aload rfl rfl ?_
    refine w_getI 6 rfl rfl rfl p_a0 ?_
    refine w_iconst rfl ⟨by decide, by decide⟩ ?_
    have o5 := H.1
    replace H := H.2
    refine w_iadd rfl o5 ?_
    refine w_istore rfl rfl ?_
    exact H
  · replace H := H.2 hc
    refine w_aload rfl rfl ?_
    refine w_getR 9 20 rfl rfl rfl rfl p_a0 ?_
    refine w_iload rfl rfl ?_
    refine w_iload rfl rfl ?_
    have o6 := H.1
    replace H := H.2
    refine w_iadd rfl o6 ?_
    refine w_aload rfl rfl ?_
    refine w_iload rfl rfl ?_
    have o7 := H.1
    replace H := H.2
    refine w_iaload rfl p_a1 o7 ?_
    have o8 := H.1
    replace H := H.2
    have o9 := H.1
    replace H := H.2
    refine w_iastore rfl o8 o9 (fun h10 eh10 => ?_)
    replace H := H h10 eh10
    have o11 := H.1
    replace H := H.2
    refine w_iinc rfl rfl rfl o11 ?_
    refine w_goto rfl ?_
    exact H
set_option maxHeartbeats 4000000 in
set_option maxRecDepth 100000 in
theorem r_Grade_insert_160 {d : Nat} {Q : cm_Q} {h : cm_H} {a0 : Nat} {a1 : Nat} {z2 : Option cm_V} {z3 : Option cm_V} {x4 : Int} {x5 : Int} {x6 : Int} (p_a0 : 0 < a0) (p_a1 : 0 < a1) (H : (((ch_I h a0 3) ≤ x6 → (cm_i ((ch_I h a0 6) + 1) ∧ (∀ h2 : cm_H, h2 = ch_u h a0 6 ((ch_I h a0 6) + 1) → Q (some (vI 1)) h2))) ∧ (x6 < (ch_I h a0 3) → (cm_i (x5 + x6) ∧ ((0:Int) ≤ x6 ∧ x6 < ch_L h a1) ∧ (cm_i ((Int.tmod (ch_I h a1 x6) 2521) * x4) ∧ (0 < ((ch_R h a0 9)) ∧ ((0:Int) ≤ (x5 + x6) ∧ (x5 + x6) < ch_L h (ch_R h a0 9)) ∧ (∀ h8 : cm_H, h8 = ch_u h (ch_R h a0 9) (x5 + x6) (Int.tmod ((Int.tmod (ch_I h a1 x6) 2521) * x4) 2521) → (cm_i (x6 + 1) ∧ cw d cd_Grade_insert Q 160 [some (vR 2 a0), some (vR 20 a1), z2, z3, some (vI x4), some (vI x5), some (vI (x6 + 1))] [] h8)))))))) : cw d cd_Grade_insert Q 160 [some (vR 2 a0), some (vR 20 a1), z2, z3, some (vI x4), some (vI x5), some (vI x6)] [] h := by
  refine w_iload rfl rfl ?_
  refine w_aload rfl rfl ?_
  refine w_getI 3 rfl rfl rfl p_a0 ?_
  refine w_icmp rfl (And.intro (fun hc => ?_) (fun hc => ?_))
  · replace H := H.1 hc
    refine w_aload rfl rfl ?_
    refine w_dup rfl rfl ?_
    refine w_getI 6 rfl rfl rfl p_a0 ?_
    refine w_iconst rfl ⟨by decide, by decide⟩ ?_
    have o1 := H.1
    replace H := H.2
    refine w_iadd rfl o1 ?_
    refine w_putI 6 rfl rfl rfl p_a0 (fun h2 eh2 => ?_)
    replace H := H h2 eh2
    refine w_iconst rfl ⟨by decide, by decide⟩ ?_
    exact w_zreturn rfl (by decide) H
  · replace H := H.2 hc
    refine w_aload rfl rfl ?_
    refine w_getR 9 20 rfl rfl rfl rfl p_a0 ?_
    refine w_iload rfl rfl ?_
    refine w_iload rfl rfl ?_
    have o3 := H.1
    replace H := H.2
    refine w_iadd rfl o3 ?_
    refine w_aload rfl rfl ?_
    refine w_iload rfl rfl ?_
    have o4 := H.1
    replace H := H.2
    refine w_iaload rfl p_a1 o4 ?_
    refine w_iconst rfl ⟨by decide, by decide⟩ ?_
    refine w_irem rfl (by decide) ?_
    refine w_iload rfl rfl ?_
    have o5 := H.1
    replace H := H.2
    refine w_imul rfl o5 ?_
    refine w_iconst rfl ⟨by decide, by decide⟩ ?_
    refine w_irem rfl (by decide) ?_
    have o6 := H.1
    replace H := H.2
    have o7 := H.1
    replace H := H.2
    refine w_iastore rfl o6 o7 (fun h8 eh8 => ?_)
    replace H := H h8 eh8
    have o9 := H.1
    replace H := H.2
    refine w_iinc rfl rfl rfl o9 ?_
    refine w_goto rfl ?_
    exact H
set_option maxHeartbeats 4000000 in
set_option maxRecDepth 100000 in
theorem r_Grade_insert {d : Nat} {Q : cm_Q} {h : cm_H} {a0 : Nat} {a1 : Nat} (p_a0 : 0 < a0) (H : cw d cd_Grade_insert Q 2 [some (vR 2 a0), some (vR 20 a1), some (vI 0), none, none, none, none] [] h) : cm_call (d + 1) m_Grade_insert [vR 2 a0, vR 20 a1] h Q := by
  refine cm_call_in (C := cd_Grade_insert) (ls := [some (vR 2 a0), some (vR 20 a1), none, none, none, none, none]) rfl rfl p_a0 rfl ?_
  refine w_iconst rfl ⟨by decide, by decide⟩ ?_
  refine w_istore rfl rfl ?_
  exact H
set_option maxHeartbeats 4000000 in
set_option maxRecDepth 100000 in
theorem r_Grade_clearBehind_29 {d : Nat} {Q : cm_Q} {h : cm_H} {a0 : Nat} {a1 : Nat} {z2 : Option cm_V} {x3 : Int} {x4 : Int} {x5 : Int} (p_a0 : 0 < a0) (p_a1 : 0 < a1) (H : (((ch_I h a0 3) ≤ x5 → Q none h) ∧ (x5 < (ch_I h a0 3) → ((0:Int) ≤ x5 ∧ x5 < ch_L h a1) ∧ (cm_i (2521 - x3) ∧ (cm_i (x4 + x5) ∧ (0 < ((ch_R h a0 9)) ∧ ((0:Int) ≤ (x4 + x5) ∧ (x4 + x5) < ch_L h (ch_R h a0 9)) ∧ (cm_i ((2521 - x3) * (ch_I h (ch_R h a0 9) (x4 + x5))) ∧ (cm_i ((ch_I h a1 x5) + ((2521 - x3) * (ch_I h (ch_R h a0 9) (x4 + x5)))) ∧ (∀ h8 : cm_H, h8 = ch_u h a1 x5 ((ch_I h a1 x5) + ((2521 - x3) * (ch_I h (ch_R h a0 9) (x4 + x5)))) → (cm_i (x5 + 1) ∧ cw d cd_Grade_clearBehind Q 29 [some (vR 2 a0), some (vR 20 a1), z2, some (vI x3), some (vI x4), some (vI (x5 + 1))] [] h8)))))))))) : cw d cd_Grade_clearBehind Q 29 [some (vR 2 a0), some (vR 20 a1), z2, some (vI x3), some (vI x4), some (vI x5)] [] h := by
  refine w_iload rfl rfl ?_
  refine w_aload rfl rfl ?_
  refine w_getI 3 rfl rfl rfl p_a0 ?_
  refine w_icmp rfl (And.intro (fun hc => ?_) (fun hc => ?_))
  · replace H := H.1 hc
    exact w_return rfl H
  · replace H := H.2 hc
    refine w_aload rfl rfl ?_
    refine w_iload rfl rfl ?_
    refine w_dup2 rfl rfl ?_
    have o1 := H.1
    replace H := H.2
    refine w_iaload rfl p_a1 o1 ?_
    refine w_iconst rfl ⟨by decide, by decide⟩ ?_
    refine w_iload rfl rfl ?_
    have o2 := H.1
    replace H := H.2
    refine w_isub rfl o2 ?_
    refine w_aload rfl rfl ?_
    refine w_getR 9 20 rfl rfl rfl rfl p_a0 ?_
    refine w_iload rfl rfl ?_
    refine w_iload rfl rfl ?_
    have o3 := H.1
    replace H := H.2
    refine w_iadd rfl o3 ?_
    have o4 := H.1
    replace H := H.2
    have o5 := H.1
    replace H := H.2
    refine w_iaload rfl o4 o5 ?_
    have o6 := H.1
    replace H := H.2
    refine w_imul rfl o6 ?_
    have o7 := H.1
    replace H := H.2
    refine w_iadd rfl o7 ?_
    refine w_iastore rfl p_a1 o1 (fun h8 eh8 => ?_)
    replace H := H h8 eh8
    have o9 := H.1
    replace H := H.2
    refine w_iinc rfl rfl rfl o9 ?_
    refine w_goto rfl ?_
    exact H
set_option maxHeartbeats 4000000 in
set_option maxRecDepth 100000 in
theorem r_Grade_clearBehind {d : Nat} {Q : cm_Q} {h : cm_H} {a0 : Nat} {a1 : Nat} {x2 : Int} (p_a0 : 0 < a0) (p_a1 : 0 < a1) (H : ((0:Int) ≤ x2 ∧ x2 < ch_L h a1) ∧ (∀ h2 : cm_H, h2 = ch_u h a1 x2 (Int.tmod (ch_I h a1 x2) 2521) → (((Int.tmod (ch_I h a1 x2) 2521) = 0 → Q none h2) ∧ (¬ (Int.tmod (ch_I h a1 x2) 2521) = 0 → (cm_i ((ch_I h2 a0 3) * x2) ∧ (cm_i (x2 + 1) ∧ cw d cd_Grade_clearBehind Q 29 [some (vR 2 a0), some (vR 20 a1), some (vI x2), some (vI (Int.tmod (ch_I h a1 x2) 2521)), some (vI ((ch_I h2 a0 3) * x2)), some (vI (x2 + 1))] [] h2)))))) : cm_call (d + 1) m_Grade_clearBehind [vR 2 a0, vR 20 a1, vI x2] h Q := by
  refine cm_call_in (C := cd_Grade_clearBehind) (ls := [some (vR 2 a0), some (vR 20 a1), some (vI x2), none, none, none]) rfl rfl p_a0 rfl ?_
  refine w_aload rfl rfl ?_
  refine w_iload rfl rfl ?_
  have o1 := H.1
  replace H := H.2
  refine w_iaload rfl p_a1 o1 ?_
  refine w_iconst rfl ⟨by decide, by decide⟩ ?_
  refine w_irem rfl (by decide) ?_
  refine w_istore rfl rfl ?_
  refine w_aload rfl rfl ?_
  refine w_iload rfl rfl ?_
  refine w_iload rfl rfl ?_
  refine w_iastore rfl p_a1 o1 (fun h2 eh2 => ?_)
  replace H := H h2 eh2
  refine w_iload rfl rfl ?_
  refine w_if rfl (And.intro (fun hc => ?_) (fun hc => ?_))
  · replace H := H.1 hc
    exact w_return rfl H
  · replace H := H.2 hc
    refine w_aload rfl rfl ?_
    refine w_getI 3 rfl rfl rfl p_a0 ?_
    refine w_iload rfl rfl ?_
    have o3 := H.1
    replace H := H.2
    refine w_imul rfl o3 ?_
    refine w_istore rfl rfl ?_
    refine w_iload rfl rfl ?_
    refine w_iconst rfl ⟨by decide, by decide⟩ ?_
    have o4 := H.1
    replace H := H.2
    refine w_iadd rfl o4 ?_
    refine w_istore rfl rfl ?_
    exact H
set_option maxHeartbeats 4000000 in
set_option maxRecDepth 100000 in
theorem r_Grade_turn_29 {d : Nat} {Q : cm_Q} {h : cm_H} {a0 : Nat} {x1 : Int} {x2 : Int} {z3 : Option cm_V} {x4 : Int} {z5 : Option cm_V} (p_a0 : 0 < a0) (H : (((ch_I h a0 6) ≤ x4 → Q none h) ∧ (x4 < (ch_I h a0 6) → (cm_i ((ch_I h a0 3) * x4) ∧ (cm_i (((ch_I h a0 3) * x4) + x1) ∧ (0 < ((ch_R h a0 9)) ∧ ((0:Int) ≤ (((ch_I h a0 3) * x4) + x1) ∧ (((ch_I h a0 3) * x4) + x1) < ch_L h (ch_R h a0 9)) ∧ (cm_i (((ch_I h a0 3) * x4) + x2) ∧ ((0:Int) ≤ (((ch_I h a0 3) * x4) + x2) ∧ (((ch_I h a0 3) * x4) + x2) < ch_L h (ch_R h a0 9)) ∧ (∀ h7 : cm_H, h7 = ch_u h (ch_R h a0 9) (((ch_I h a0 3) * x4) + x1) (ch_I h (ch_R h a0 9) (((ch_I h a0 3) * x4) + x2)) → (cm_i ((ch_I h7 a0 3) * x4) ∧ (cm_i (((ch_I h7 a0 3) * x4) + x2) ∧ (0 < ((ch_R h7 a0 9)) ∧ ((0:Int) ≤ (((ch_I h7 a0 3) * x4) + x2) ∧ (((ch_I h7 a0 3) * x4) + x2) < ch_L h7 (ch_R h7 a0 9)) ∧ (∀ h12 : cm_H, h12 = ch_u h7 (ch_R h7 a0 9) (((ch_I h7 a0 3) * x4) + x2) (ch_I h (ch_R h a0 9) (((ch_I h a0 3) * x4) + x1)) → (cm_i (x4 + 1) ∧ cw d cd_Grade_turn Q 29 [some (vR 2 a0), some (vI x1), some (vI x2), z3, some (vI (x4 + 1)), some (vI (ch_I h (ch_R h a0 9) (((ch_I h a0 3) * x4) + x1)))] [] h12))))))))))))) : cw d cd_Grade_turn Q 29 [some (vR 2 a0), some (vI x1), some (vI x2), z3, some (vI x4), z5] [] h := by
  refine w_iload rfl rfl ?_
  refine w_aload rfl rfl ?_
  refine w_getI 6 rfl rfl rfl p_a0 ?_
  refine w_icmp rfl (And.intro (fun hc => ?_) (fun hc => ?_))
  · replace H := H.1 hc
    exact w_return rfl H
  · replace H := H.2 hc
    refine w_aload rfl rfl ?_
    refine w_getR 9 20 rfl rfl rfl rfl p_a0 ?_
    refine w_aload rfl rfl ?_
    refine w_getI 3 rfl rfl rfl p_a0 ?_
    refine w_iload rfl rfl ?_
    have o1 := H.1
    replace H := H.2
    refine w_imul rfl o1 ?_
    refine w_iload rfl rfl ?_
    have o2 := H.1
    replace H := H.2
    refine w_iadd rfl o2 ?_
    have o3 := H.1
    replace H := H.2
    have o4 := H.1
    replace H := H.2
    refine w_iaload rfl o3 o4 ?_
    refine w_istore rfl rfl ?_
    refine w_aload rfl rfl ?_
    refine w_getR 9 20 rfl rfl rfl rfl p_a0 ?_
    refine w_aload rfl rfl ?_
    refine w_getI 3 rfl rfl rfl p_a0 ?_
    refine w_iload rfl rfl ?_
    refine w_imul rfl o1 ?_
    refine w_iload rfl rfl ?_
    refine w_iadd rfl o2 ?_
    refine w_aload rfl rfl ?_
    refine w_getR 9 20 rfl rfl rfl rfl p_a0 ?_
    refine w_aload rfl rfl ?_
    refine w_getI 3 rfl rfl rfl p_a0 ?_
    refine w_iload rfl rfl ?_
    refine w_imul rfl o1 ?_
    refine w_iload rfl rfl ?_
    have o5 := H.1
    replace H := H.2
    refine w_iadd rfl o5 ?_
    have o6 := H.1
    replace H := H.2
    refine w_iaload rfl o3 o6 ?_
    refine w_iastore rfl o3 o4 (fun h7 eh7 => ?_)
    replace H := H h7 eh7
    refine w_aload rfl rfl ?_
    refine w_getR 9 20 rfl rfl rfl rfl p_a0 ?_
    refine w_aload rfl rfl ?_
    refine w_getI 3 rfl rfl rfl p_a0 ?_
    refine w_iload rfl rfl ?_
    have o8 := H.1
    replace H := H.2
    refine w_imul rfl o8 ?_
    refine w_iload rfl rfl ?_
    have o9 := H.1
    replace H := H.2
    refine w_iadd rfl o9 ?_
    refine w_iload rfl rfl ?_
    have o10 := H.1
    replace H := H.2
    have o11 := H.1
    replace H := H.2
    refine w_iastore rfl o10 o11 (fun h12 eh12 => ?_)
    replace H := H h12 eh12
    have o13 := H.1
    replace H := H.2
    refine w_iinc rfl rfl rfl o13 ?_
    refine w_goto rfl ?_
    exact H
set_option maxHeartbeats 4000000 in
set_option maxRecDepth 100000 in
theorem r_Grade_turn {d : Nat} {Q : cm_Q} {h : cm_H} {a0 : Nat} {x1 : Int} {x2 : Int} (p_a0 : 0 < a0) (H : (0 < ((ch_R h a0 10)) ∧ ((0:Int) ≤ x1 ∧ x1 < ch_L h (ch_R h a0 10)) ∧ ((0:Int) ≤ x2 ∧ x2 < ch_L h (ch_R h a0 10)) ∧ (∀ h4 : cm_H, h4 = ch_u h (ch_R h a0 10) x1 (ch_I h (ch_R h a0 10) x2) → (0 < ((ch_R h4 a0 10)) ∧ ((0:Int) ≤ x2 ∧ x2 < ch_L h4 (ch_R h4 a0 10)) ∧ (∀ h7 : cm_H, h7 = ch_u h4 (ch_R h4 a0 10) x2 (ch_I h (ch_R h a0 10) x1) → cw d cd_Grade_turn Q 29 [some (vR 2 a0), some (vI x1), some (vI x2), some (vI (ch_I h (ch_R h a0 10) x1)), some (vI 0), none] [] h7))))) : cm_call (d + 1) m_Grade_turn [vR 2 a0, vI x1, vI x2] h Q := by
  refine cm_call_in (C := cd_Grade_turn) (ls := [some (vR 2 a0), some (vI x1), some (vI x2), none, none, none]) rfl rfl p_a0 rfl ?_
  refine w_aload rfl rfl ?_
  refine w_getR 10 20 rfl rfl rfl rfl p_a0 ?_
  refine w_iload rfl rfl ?_
  have o1 := H.1
  replace H := H.2
  have o2 := H.1
  replace H := H.2
  refine w_iaload rfl o1 o2 ?_
  refine w_istore rfl rfl ?_
  refine w_aload rfl rfl ?_
  refine w_getR 10 20 rfl rfl rfl rfl p_a0 ?_
  refine w_iload rfl rfl ?_
  refine w_aload rfl rfl ?_
  refine w_getR 10 20 rfl rfl rfl rfl p_a0 ?_
  refine w_iload rfl rfl ?_
  have o3 := H.1
  replace H := H.2
  refine w_iaload rfl o1 o3 ?_
  refine w_iastore rfl o1 o2 (fun h4 eh4 => ?_)
  replace H := H h4 eh4
  refine w_aload rfl rfl ?_
  refine w_getR 10 20 rfl rfl rfl rfl p_a0 ?_
  refine w_iload rfl rfl ?_
  refine w_iload rfl rfl ?_
  have o5 := H.1
  replace H := H.2
  have o6 := H.1
  replace H := H.2
  refine w_iastore rfl o5 o6 (fun h7 eh7 => ?_)
  replace H := H h7 eh7
  refine w_iconst rfl ⟨by decide, by decide⟩ ?_
  refine w_istore rfl rfl ?_
  exact H
set_option maxHeartbeats 4000000 in
set_option maxRecDepth 100000 in
theorem r_Grade_solve_2 {d : Nat} {Q : cm_Q} {h : cm_H} {a0 : Nat} {a1 : Nat} {x2 : Int} {z3 : Option cm_V} {z4 : Option cm_V} {z5 : Option cm_V} (p_a0 : 0 < a0) (H : (((ch_I h a0 6) ≤ x2 → (cm_i ((ch_I h a0 6) - 1) ∧ cw d cd_Grade_solve Q 29 [some (vR 2 a0), some (vR 20 a1), some (vI ((ch_I h a0 6) - 1)), z3, z4, z5] [] h)) ∧ (x2 < (ch_I h a0 6) → (cU d m_Grade_clearBehind [vR 2 a0, vR 20 a1, vI x2] h fun h2 => (cm_i (x2 + 1) ∧ cw d cd_Grade_solve Q 2 [some (vR 2 a0), some (vR 20 a1), some (vI (x2 + 1)), z3, z4, z5] [] h2))))) : cw d cd_Grade_solve Q 2 [some (vR 2 a0), some (vR 20 a1), some (vI x2), z3, z4, z5] [] h := by
  refine w_iload rfl rfl ?_
  refine w_aload rfl rfl ?_
  refine w_getI 6 rfl rfl rfl p_a0 ?_
  refine w_icmp rfl (And.intro (fun hc => ?_) (fun hc => ?_))
  · replace H := H.1 hc
    refine w_aload rfl rfl ?_
    refine w_getI 6 rfl rfl rfl p_a0 ?_
    refine w_iconst rfl ⟨by decide, by decide⟩ ?_
    have o1 := H.1
    replace H := H.2
    refine w_isub rfl o1 ?_
    refine w_istore rfl rfl ?_
    exact H
  · replace H := H.2 hc
    refine w_aload rfl rfl ?_
    refine w_aload rfl rfl ?_
    refine w_iload rfl rfl ?_
    refine w_callU rfl (fun _ => rfl) rfl (cU_mono H fun h2 H => ?_)
    have o3 := H.1
    replace H := H.2
    refine w_iinc rfl rfl rfl o3 ?_
    refine w_goto rfl ?_
    exact H
set_option maxHeartbeats 4000000 in
set_option maxRecDepth 100000 in
theorem r_Grade_solve_29 {d : Nat} {Q : cm_Q} {h : cm_H} {a0 : Nat} {a1 : Nat} {x2 : Int} {z3 : Option cm_V} {z4 : Option cm_V} {z5 : Option cm_V} (p_a0 : 0 < a0) (p_a1 : 0 < a1) (H : ((x2 < 0 → Q none h) ∧ (0 ≤ x2 → (cm_i ((ch_I h a0 3) * x2) ∧ ((0:Int) ≤ x2 ∧ x2 < ch_L h a1) ∧ (cm_i (((ch_I h a0 3) * x2) + x2) ∧ (0 < ((ch_R h a0 9)) ∧ ((0:Int) ≤ (((ch_I h a0 3) * x2) + x2) ∧ (((ch_I h a0 3) * x2) + x2) < ch_L h (ch_R h a0 9)) ∧ (cI d m_Works_raise [vI (ch_I h (ch_R h a0 9) (((ch_I h a0 3) * x2) + x2)), vI 2519] h fun v7 h6 => (cm_i ((Int.tmod (ch_I h a1 x2) 2521) * v7) ∧ ((0:Int) ≤ x2 ∧ x2 < ch_L h6 a1) ∧ (∀ h10 : cm_H, h10 = ch_u h6 a1 x2 (Int.tmod ((Int.tmod (ch_I h a1 x2) 2521) * v7) 2521) → cw d cd_Grade_solve Q 76 [some (vR 2 a0), some (vR 20 a1), some (vI x2), some (vI ((ch_I h a0 3) * x2)), some (vI (Int.tmod ((Int.tmod (ch_I h a1 x2) 2521) * v7) 2521)), some (vI 0)] [] h10))))))))) : cw d cd_Grade_solve Q 29 [some (vR 2 a0), some (vR 20 a1), some (vI x2), z3, z4, z5] [] h := by
  refine w_iload rfl rfl ?_
  refine w_if rfl (And.intro (fun hc => ?_) (fun hc => ?_))
  · replace H := H.1 hc
    exact w_return rfl H
  · replace H := H.2 hc
    refine w_aload rfl rfl ?_
    refine w_getI 3 rfl rfl rfl p_a0 ?_
    refine w_iload rfl rfl ?_
    have o1 := H.1
    replace H := H.2
    refine w_imul rfl o1 ?_
    refine w_istore rfl rfl ?_
    refine w_aload rfl rfl ?_
    refine w_iload rfl rfl ?_
    have o2 := H.1
    replace H := H.2
    refine w_iaload rfl p_a1 o2 ?_
    refine w_iconst rfl ⟨by decide, by decide⟩ ?_
    refine w_irem rfl (by decide) ?_
    refine w_aload rfl rfl ?_
    refine w_getR 9 20 rfl rfl rfl rfl p_a0 ?_
    refine w_iload rfl rfl ?_
    refine w_iload rfl rfl ?_
    have o3 := H.1
    replace H := H.2
    refine w_iadd rfl o3 ?_
    have o4 := H.1
    replace H := H.2
    have o5 := H.1
    replace H := H.2
    refine w_iaload rfl o4 o5 ?_
    refine w_iconst rfl ⟨by decide, by decide⟩ ?_
    refine w_callI rfl (fun _ => rfl) rfl (cI_mono H fun v7 h6 H => ?_)
    have o8 := H.1
    replace H := H.2
    refine w_imul rfl o8 ?_
    refine w_iconst rfl ⟨by decide, by decide⟩ ?_
    refine w_irem rfl (by decide) ?_
    refine w_istore rfl rfl ?_
    refine w_aload rfl rfl ?_
    refine w_iload rfl rfl ?_
    refine w_iload rfl rfl ?_
    have o9 := H.1
    replace H := H.2
    refine w_iastore rfl p_a1 o9 (fun h10 eh10 => ?_)
    replace H := H h10 eh10
    refine w_iconst rfl ⟨by decide, by decide⟩ ?_
    refine w_istore rfl rfl ?_
    exact H
set_option maxHeartbeats 4000000 in
set_option maxRecDepth 100000 in
theorem r_Grade_solve_76 {d : Nat} {Q : cm_Q} {h : cm_H} {a0 : Nat} {a1 : Nat} {x2 : Int} {x3 : Int} {x4 : Int} {x5 : Int} (p_a1 : 0 < a1) (p_a0 : 0 < a0) (H : ((x2 ≤ x5 → (cm_i (x2 + (-1)) ∧ cw d cd_Grade_solve Q 29 [some (vR 2 a0), some (vR 20 a1), some (vI (x2 + (-1))), some (vI x3), some (vI x4), some (vI x5)] [] h)) ∧ (x5 < x2 → ((0:Int) ≤ x5 ∧ x5 < ch_L h a1) ∧ (cm_i (2521 - x4) ∧ (cm_i (x3 + x5) ∧ (0 < ((ch_R h a0 9)) ∧ ((0:Int) ≤ (x3 + x5) ∧ (x3 + x5) < ch_L h (ch_R h a0 9)) ∧ (cm_i ((2521 - x4) * (ch_I h (ch_R h a0 9) (x3 + x5))) ∧ (cm_i ((ch_I h a1 x5) + ((2521 - x4) * (ch_I h (ch_R h a0 9) (x3 + x5)))) ∧ (∀ h9 : cm_H, h9 = ch_u h a1 x5 ((ch_I h a1 x5) + ((2521 - x4) * (ch_I h (ch_R h a0 9) (x3 + x5)))) → (cm_i (x5 + 1) ∧ cw d cd_Grade_solve Q 76 [some (vR 2 a0), some (vR 20 a1), some (vI x2), some (vI x3), some (vI x4), some (vI (x5 + 1))] [] h9)))))))))) : cw d cd_Grade_solve Q 76 [some (vR 2 a0), some (vR 20 a1), some (vI x2), some (vI x3), some (vI x4), some (vI x5)] [] h := by
  refine w_iload rfl rfl ?_
  refine w_iload rfl rfl ?_
  refine w_icmp rfl (And.intro (fun hc => ?_) (fun hc => ?_))
  · replace H := H.1 hc
    have o1 := H.1
    replace H := H.2
    refine w_iinc rfl rfl rfl o1 ?_
    refine w_goto rfl ?_
    exact H
  · replace H := H.2 hc
    refine w_aload rfl rfl ?_
    refine w_iload rfl rfl ?_
    refine w_dup2 rfl rfl ?_
    have o2 := H.1
    replace H := H.2
    refine w_iaload rfl p_a1 o2 ?_
    refine w_iconst rfl ⟨by decide, by decide⟩ ?_
    refine w_iload rfl rfl ?_
    have o3 := H.1
    replace H := H.2
    refine w_isub rfl o3 ?_
    refine w_aload rfl rfl ?_
    refine w_getR 9 20 rfl rfl rfl rfl p_a0 ?_
    refine w_iload rfl rfl ?_
    refine w_iload rfl rfl ?_
    have o4 := H.1
    replace H := H.2
    refine w_iadd rfl o4 ?_
    have o5 := H.1
    replace H := H.2
    have o6 := H.1
    replace H := H.2
    refine w_iaload rfl o5 o6 ?_
    have o7 := H.1
    replace H := H.2
    refine w_imul rfl o7 ?_
    have o8 := H.1
    replace H := H.2
    refine w_iadd rfl o8 ?_
    refine w_iastore rfl p_a1 o2 (fun h9 eh9 => ?_)
    replace H := H h9 eh9
    have o10 := H.1
    replace H := H.2
    refine w_iinc rfl rfl rfl o10 ?_
    refine w_goto rfl ?_
    exact H
set_option maxHeartbeats 4000000 in
set_option maxRecDepth 100000 in
theorem r_Grade_solve {d : Nat} {Q : cm_Q} {h : cm_H} {a0 : Nat} {a1 : Nat} (p_a0 : 0 < a0) (H : cw d cd_Grade_solve Q 2 [some (vR 2 a0), some (vR 20 a1), some (vI 0), none, none, none] [] h) : cm_call (d + 1) m_Grade_solve [vR 2 a0, vR 20 a1] h Q := by
  refine cm_call_in (C := cd_Grade_solve) (ls := [some (vR 2 a0), some (vR 20 a1), none, none, none, none]) rfl rfl p_a0 rfl ?_
  refine w_iconst rfl ⟨by decide, by decide⟩ ?_
  refine w_istore rfl rfl ?_
  exact H
set_option maxHeartbeats 4000000 in
set_option maxRecDepth 100000 in
theorem r_Grade_label {d : Nat} {Q : cm_Q} {h : cm_H} {a0 : Nat} {x1 : Int} {x2 : Int} {x3 : Int} {x4 : Int} {x5 : Int} (p_a0 : 0 < a0) (H : (cm_i (4 * x1) ∧ (0 < ((ch_R h a0 8)) ∧ ((0:Int) ≤ (4 * x1) ∧ (4 * x1) < ch_L h (ch_R h a0 8)) ∧ (∀ h4 : cm_H, h4 = ch_u h (ch_R h a0 8) (4 * x1) x2 → (cm_i ((4 * x1) + 1) ∧ (0 < ((ch_R h4 a0 8)) ∧ ((0:Int) ≤ ((4 * x1) + 1) ∧ ((4 * x1) + 1) < ch_L h4 (ch_R h4 a0 8)) ∧ (∀ h8 : cm_H, h8 = ch_u h4 (ch_R h4 a0 8) ((4 * x1) + 1) x3 → (cm_i ((4 * x1) + 2) ∧ (0 < ((ch_R h8 a0 8)) ∧ ((0:Int) ≤ ((4 * x1) + 2) ∧ ((4 * x1) + 2) < ch_L h8 (ch_R h8 a0 8)) ∧ (∀ h12 : cm_H, h12 = ch_u h8 (ch_R h8 a0 8) ((4 * x1) + 2) x4 → (cm_i ((4 * x1) + 3) ∧ (0 < ((ch_R h12 a0 8)) ∧ ((0:Int) ≤ ((4 * x1) + 3) ∧ ((4 * x1) + 3) < ch_L h12 (ch_R h12 a0 8)) ∧ (∀ h16 : cm_H, h16 = ch_u h12 (ch_R h12 a0 8) ((4 * x1) + 3) x5 → Q none h16))))))))))))) : cm_call (d + 1) m_Grade_label [vR 2 a0, vI x1, vI x2, vI x3, vI x4, vI x5] h Q := by
  refine cm_call_in (C := cd_Grade_label) (ls := [some (vR 2 a0), some (vI x1), some (vI x2), some (vI x3), some (vI x4), some (vI x5)]) rfl rfl p_a0 rfl ?_
  refine w_aload rfl rfl ?_
  refine w_getR 8 20 rfl rfl rfl rfl p_a0 ?_
  refine w_iconst rfl ⟨by decide, by decide⟩ ?_
  refine w_iload rfl rfl ?_
  have o1 := H.1
  replace H := H.2
  refine w_imul rfl o1 ?_
  refine w_iload rfl rfl ?_
  have o2 := H.1
  replace H := H.2
  have o3 := H.1
  replace H := H.2
  refine w_iastore rfl o2 o3 (fun h4 eh4 => ?_)
  replace H := H h4 eh4
  refine w_aload rfl rfl ?_
  refine w_getR 8 20 rfl rfl rfl rfl p_a0 ?_
  refine w_iconst rfl ⟨by decide, by decide⟩ ?_
  refine w_iload rfl rfl ?_
  refine w_imul rfl o1 ?_
  refine w_iconst rfl ⟨by decide, by decide⟩ ?_
  have o5 := H.1
  replace H := H.2
  refine w_iadd rfl o5 ?_
  refine w_iload rfl rfl ?_
  have o6 := H.1
  replace H := H.2
  have o7 := H.1
  replace H := H.2
  refine w_iastore rfl o6 o7 (fun h8 eh8 => ?_)
  replace H := H h8 eh8
  refine w_aload rfl rfl ?_
  refine w_getR 8 20 rfl rfl rfl rfl p_a0 ?_
  refine w_iconst rfl ⟨by decide, by decide⟩ ?_
  refine w_iload rfl rfl ?_
  refine w_imul rfl o1 ?_
  refine w_iconst rfl ⟨by decide, by decide⟩ ?_
  have o9 := H.1
  replace H := H.2
  refine w_iadd rfl o9 ?_
  refine w_iload rfl rfl ?_
  have o10 := H.1
  replace H := H.2
  have o11 := H.1
  replace H := H.2
  refine w_iastore rfl o10 o11 (fun h12 eh12 => ?_)
  replace H := H h12 eh12
  refine w_aload rfl rfl ?_
  refine w_getR 8 20 rfl rfl rfl rfl p_a0 ?_
  refine w_iconst rfl ⟨by decide, by decide⟩ ?_
  refine w_iload rfl rfl ?_
  refine w_imul rfl o1 ?_
  refine w_iconst rfl ⟨by decide, by decide⟩ ?_
  have o13 := H.1
  replace H := H.2
  refine w_iadd rfl o13 ?_
  refine w_iload rfl rfl ?_
  have o14 := H.1
  replace H := H.2
  have o15 := H.1
  replace H := H.2
  refine w_iastore rfl o14 o15 (fun h16 eh16 => ?_)
  replace H := H h16 eh16
  exact w_return rfl H
set_option maxHeartbeats 4000000 in
set_option maxRecDepth 100000 in
theorem r_Grade_productOf_3 {d : Nat} {Q : cm_Q} {h : cm_H} {a0 : Nat} {x1 : Int} {x2 : Int} {x3 : Int} {x4 : Int} {x5 : Int} {z6 : Option cm_V} (p_a0 : 0 < a0) (H : (((ch_I h a0 6) ≤ x5 → Q (some (vI (-1))) h) ∧ (x5 < (ch_I h a0 6) → (cm_i (4 * x5) ∧ (0 < ((ch_R h a0 8)) ∧ ((0:Int) ≤ (4 * x5) ∧ (4 * x5) < ch_L h (ch_R h a0 8)) ∧ ((¬ (ch_I h (ch_R h a0 8) (4 * x5)) = x1 → (cm_i (x5 + 1) ∧ cw d cd_Grade_productOf Q 3 [some (vR 2 a0), some (vI x1), some (vI x2), some (vI x3), some (vI x4), some (vI (x5 + 1)), some (vI (4 * x5))] [] h)) ∧ ((ch_I h (ch_R h a0 8) (4 * x5)) = x1 → (cm_i ((4 * x5) + 1) ∧ ((0:Int) ≤ ((4 * x5) + 1) ∧ ((4 * x5) + 1) < ch_L h (ch_R h a0 8)) ∧ ((¬ (ch_I h (ch_R h a0 8) ((4 * x5) + 1)) = x2 → (cm_i (x5 + 1) ∧ cw d cd_Grade_productOf Q 3 [some (vR 2 a0), some (vI x1), some (vI x2), some (vI x3), some (vI x4), some (vI (x5 + 1)), some (vI (4 * x5))] [] h)) ∧ ((ch_I h (ch_R h a0 8) ((4 * x5) + 1)) = x2 → (cm_i ((4 * x5) + 2) ∧ ((0:Int) ≤ ((4 * x5) + 2) ∧ ((4 * x5) + 2) < ch_L h (ch_R h a0 8)) ∧ ((¬ (ch_I h (ch_R h a0 8) ((4 * x5) + 2)) = x3 → (cm_i (x5 + 1) ∧ cw d cd_Grade_productOf Q 3 [some (vR 2 a0), some (vI x1), some (vI x2), some (vI x3), some (vI x4), some (vI (x5 + 1)), some (vI (4 * x5))] [] h)) ∧ ((ch_I h (ch_R h a0 8) ((4 * x5) + 2)) = x3 → (cm_i ((4 * x5) + 3) ∧ ((0:Int) ≤ ((4 * x5) + 3) ∧ ((4 * x5) + 3) < ch_L h (ch_R h a0 8)) ∧ ((¬ (ch_I h (ch_R h a0 8) ((4 * x5) + 3)) = x4 → (cm_i (x5 + 1) ∧ cw d cd_Grade_productOf Q 3 [some (vR 2 a0), some (vI x1), some (vI x2), some (vI x3), some (vI x4), some (vI (x5 + 1)), some (vI (4 * x5))] [] h)) ∧ ((ch_I h (ch_R h a0 8) ((4 * x5) + 3)) = x4 → Q (some (vI x5)) h)))))))))))))))) : cw d cd_Grade_productOf Q 3 [some (vR 2 a0), some (vI x1), some (vI x2), some (vI x3), some (vI x4), some (vI x5), z6] [] h := by
  refine w_iload rfl rfl ?_
  refine w_aload rfl rfl ?_
  refine w_getI 6 rfl rfl rfl p_a0 ?_
  refine w_icmp rfl (And.intro (fun hc => ?_) (fun hc => ?_))
  · replace H := H.1 hc
    refine w_iconst rfl ⟨by decide, by decide⟩ ?_
    exact w_ireturn rfl H
  · replace H := H.2 hc
    refine w_iconst rfl ⟨by decide, by decide⟩ ?_
    refine w_iload rfl rfl ?_
    have o1 := H.1
    replace H := H.2
    refine w_imul rfl o1 ?_
    refine w_istore rfl rfl ?_
    refine w_aload rfl rfl ?_
    refine w_getR 8 20 rfl rfl rfl rfl p_a0 ?_
    refine w_iload rfl rfl ?_
    have o2 := H.1
    replace H := H.2
    have o3 := H.1
    replace H := H.2
    refine w_iaload rfl o2 o3 ?_
    refine w_iload rfl rfl ?_
    refine w_icmp rfl (And.intro (fun hc => ?_) (fun hc => ?_))
    · replace H := H.1 hc
      have o4 := H.1
      replace H := H.2
      refine w_iinc rfl rfl rfl o4 ?_
      refine w_goto rfl ?_
      exact H
    · replace H := H.2 hc
      refine w_aload rfl rfl ?_
      refine w_getR 8 20 rfl rfl rfl rfl p_a0 ?_
      refine w_iload rfl rfl ?_
      refine w_iconst rfl ⟨by decide, by decide⟩ ?_
      have o5 := H.1
      replace H := H.2
      refine w_iadd rfl o5 ?_
      have o6 := H.1
      replace H := H.2
      refine w_iaload rfl o2 o6 ?_
      refine w_iload rfl rfl ?_
      refine w_icmp rfl (And.intro (fun hc => ?_) (fun hc => ?_))
      · replace H := H.1 hc
        have o7 := H.1
        replace H := H.2
        refine w_iinc rfl rfl rfl o7 ?_
        refine w_goto rfl ?_
        exact H
      · replace H := H.2 hc
        refine w_aload rfl rfl ?_
        refine w_getR 8 20 rfl rfl rfl rfl p_a0 ?_
        refine w_iload rfl rfl ?_
        refine w_iconst rfl ⟨by decide, by decide⟩ ?_
        have o8 := H.1
        replace H := H.2
        refine w_iadd rfl o8 ?_
        have o9 := H.1
        replace H := H.2
        refine w_iaload rfl o2 o9 ?_
        refine w_iload rfl rfl ?_
        refine w_icmp rfl (And.intro (fun hc => ?_) (fun hc => ?_))
        · replace H := H.1 hc
          have o10 := H.1
          replace H := H.2
          refine w_iinc rfl rfl rfl o10 ?_
          refine w_goto rfl ?_
          exact H
        · replace H := H.2 hc
          refine w_aload rfl rfl ?_
          refine w_getR 8 20 rfl rfl rfl rfl p_a0 ?_
          refine w_iload rfl rfl ?_
          refine w_iconst rfl ⟨by decide, by decide⟩ ?_
          have o11 := H.1
          replace H := H.2
          refine w_iadd rfl o11 ?_
          have o12 := H.1
          replace H := H.2
          refine w_iaload rfl o2 o12 ?_
          refine w_iload rfl rfl ?_
          refine w_icmp rfl (And.intro (fun hc => ?_) (fun hc => ?_))
          · replace H := H.1 hc
            have o13 := H.1
            replace H := H.2
            refine w_iinc rfl rfl rfl o13 ?_
            refine w_goto rfl ?_
            exact H
          · replace H := H.2 hc
            refine w_iload rfl rfl ?_
            exact w_ireturn rfl H
set_option maxHeartbeats 4000000 in
set_option maxRecDepth 100000 in
theorem r_Grade_productOf {d : Nat} {Q : cm_Q} {h : cm_H} {a0 : Nat} {x1 : Int} {x2 : Int} {x3 : Int} {x4 : Int} (p_a0 : 0 < a0) (H : cw d cd_Grade_productOf Q 3 [some (vR 2 a0), some (vI x1), some (vI x2), some (vI x3), some (vI x4), some (vI 0), none] [] h) : cm_call (d + 1) m_Grade_productOf [vR 2 a0, vI x1, vI x2, vI x3, vI x4] h Q := by
  refine cm_call_in (C := cd_Grade_productOf) (ls := [some (vR 2 a0), some (vI x1), some (vI x2), some (vI x3), some (vI x4), none, none]) rfl rfl p_a0 rfl ?_
  refine w_iconst rfl ⟨by decide, by decide⟩ ?_
  refine w_istore rfl rfl ?_
  exact H
