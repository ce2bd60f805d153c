/-! THE CLASS's members: what the group's table of products tells -/
section WG
variable {d : Nat} {z : cm_Z} {I : cm_I} {mb n : Nat} {op : Nat → Nat → Nat}
/-- products, inverses, orders as they stand -/
def mbP (op : Nat → Nat → Nat) (n mb : Nat) (I : cm_I) : Prop := isGrp n op ∧ n ≤ 48 ∧ I mb 2 = (n : Int) ∧ (∀ g h : Nat, g < n → h < n → I (mb + 4) (48 * (g : Int) + h) = (op g h : Int)) ∧ (∀ g : Nat, g < n → I (mb + 5) (g : Int) = (giv op n g : Int)) ∧ ∀ g : Nat, g < n → I (mb + 6) (g : Int) = (gord op n g : Int)
theorem t_isFirst (hz : wz z) (pm : isMb mb) (h : mbP op n mb I) {g : Nat} (hg : g < n) : mI (d + 1) m_Members_isFirstOfLot [vR 3 mb, vI (g : Int)] z I fun r I1 => I1 = I ∧ r = if gFirst op n g = true then 1 else 0 := by
  obtain ⟨G, n48, en, ep, ei, eo⟩ := h
  have key : ∀ (c k : Nat) (z3 : Option cm_V), k + c = n → (∀ k', k' < k → g ≤ op (op (giv op n k') g) k') → cw d cd_Members_isFirstOfLot (qI z fun r I1 => I1 = I ∧ r = if gFirst op n g = true then 1 else 0) 2 [some (vR 3 mb), some (vI (g : Int)), some (vI (k : Int)), z3] [] (I, z) := by
    intro c
    induction c with
    | zero =>
      intro k z3 e hk
      refine wr_Members_isFirstOfLot_2 hz pm ?_
      rw [en]
      refine ⟨fun _ => qI_mk ⟨rfl, ?_⟩, fun q => by omega⟩
      rw [if_pos (show gFirst op n g = true from allB_iff.mpr fun k' hk' => decide_eq_true (hk k' (by omega)))]
    | succ c ih =>
      intro k z3 e hk
      have hkn : k < n := by omega
      have i1 := (giv_lt G hkn).1
      have o1 := G.2.1 _ _ i1 hg
      have o2 := G.2.1 _ _ o1 hkn
      refine wr_Members_isFirstOfLot_2 hz pm ?_
      rw [en]
      refine ⟨fun q => by omega, fun _ => ?_⟩
      rw [ei k hkn, ep _ _ i1 hg, ep _ _ o1 hkn]
      refine ⟨⟨by omega, by omega⟩, ⟨by omega, by omega⟩, ⟨by omega, by omega⟩, ⟨by omega, by omega⟩, ⟨by omega, by omega⟩, ⟨by omega, by omega⟩, ⟨by omega, by omega⟩, fun q => ⟨⟨by omega, by omega⟩, ih (k + 1) _ (by omega) fun k' hk' => ?_⟩, fun q => qI_mk ⟨rfl, ?_⟩⟩
      · by_cases w : k' = k
        · rw [w]; omega
        · exact hk k' (by omega)
      · rw [if_neg]
        intro w
        have := of_decide_eq_true (allB_iff.mp w k hkn)
        omega
  refine wr_Members_isFirstOfLot hz pm ?_
  exact key n 0 none (by omega) fun k' hk' => absurd hk' (Nat.not_lt_zero k')
theorem t_lots (hz : wz z) (pm : isMb mb) (h : mbP op n mb I) : mI (d + 2) m_Members_lots [vR 3 mb] z I fun r I1 => I1 = I ∧ r = gLots op n n := by
  have en := h.2.2.1
  have n48 := h.2.1
  have bd : ∀ m : Nat, 0 ≤ gLots op n m ∧ gLots op n m ≤ m := by
    intro m
    refine ⟨sg_nonneg fun i _ => by split <;> omega, ?_⟩
    have := sg_le (n := m) (B := 1) (f := fun h => if gFirst op n h = true then 1 else 0) fun i _ => by split <;> omega
    unfold gLots
    omega
  have key : ∀ (c g : Nat), g + c = n → cw (d + 1) cd_Members_lots (qI z fun r I1 => I1 = I ∧ r = gLots op n n) 4 [some (vR 3 mb), some (vI (gLots op n g)), some (vI (g : Int))] [] (I, z) := by
    intro c
    induction c with
    | zero =>
      intro g e
      refine wr_Members_lots_4 hz pm ?_
      rw [en]
      refine ⟨fun _ => qI_mk ⟨rfl, ?_⟩, fun q => by omega⟩
      rw [show g = n by omega]
    | succ c ih =>
      intro g e
      have b := bd g
      have nx := ih (g + 1) (by omega)
      have es : gLots op n (g + 1) = gLots op n g + (if gFirst op n g = true then 1 else 0) := rfl
      rw [es, show ((g + 1 : Nat) : Int) = (g : Int) + 1 by omega] at nx
      refine wr_Members_lots_4 hz pm ?_
      rw [en]
      refine ⟨fun q => by omega, fun _ => mI_mono (t_isFirst hz pm h (show g < n by omega)) fun v J ⟨e1, e2⟩ => ?_⟩
      subst e1
      refine ⟨fun q => ⟨⟨by omega, by omega⟩, ?_⟩, fun q => ⟨⟨by omega, by omega⟩, ⟨by omega, by omega⟩, ?_⟩⟩
      · by_cases w : gFirst op n g = true
        · rw [e2, if_pos w] at q; exact absurd q (by decide)
        · rw [if_neg w, Int.add_zero] at nx; exact nx
      · by_cases w : gFirst op n g = true
        · rw [if_pos w] at nx; exact nx
        · rw [e2, if_neg w] at q; exact absurd rfl q
  refine wr_Members_lots hz pm ?_
  exact key n 0 (by omega)
theorem t_isEither (hz : wz z) (pm : isMb mb) (h : mbP op n mb I) : mI (d + 1) m_Members_isEitherOrder [vR 3 mb] z I fun r I1 => I1 = I ∧ r = if gEither op n = true then 1 else 0 := by
  obtain ⟨G, n48, en, ep, ei, eo⟩ := h
  have key : ∀ (c g : Nat) (z2 : Option cm_V), g + c = n → (∀ g', g' < g → allB g' (fun h => op g' h == op h g') = true) → cw d cd_Members_isEitherOrder (qI z fun r I1 => I1 = I ∧ r = if gEither op n = true then 1 else 0) 2 [some (vR 3 mb), some (vI (g : Int)), z2] [] (I, z) := by
    intro c
    induction c with
    | zero =>
      intro g z2 e hk
      refine wr_Members_isEitherOrder_2 hz pm ?_
      rw [en]
      refine ⟨fun _ => qI_mk ⟨rfl, ?_⟩, fun q => by omega⟩
      rw [if_pos (show gEither op n = true from allB_iff.mpr fun g' hg' => hk g' (by omega))]
    | succ c ih =>
      intro g z2 e hk
      have inner : ∀ (u k : Nat), k + u = g → (∀ k', k' < k → (op g k' == op k' g) = true) → cw d cd_Members_isEitherOrder (qI z fun r I1 => I1 = I ∧ r = if gEither op n = true then 1 else 0) 12 [some (vR 3 mb), some (vI (g : Int)), some (vI (k : Int))] [] (I, z) := by
        intro u
        induction u with
        | zero =>
          intro k ek al
          refine wr_Members_isEitherOrder_12 hz pm ⟨fun _ => ⟨⟨by omega, by omega⟩, ih (g + 1) _ (by omega) fun g' hg' => ?_⟩, fun q => by omega⟩
          by_cases w : g' = g
          · rw [w]; exact allB_iff.mpr fun k' hk' => al k' (by omega)
          · exact hk g' (by omega)
        | succ u ihu =>
          intro k ek al
          refine wr_Members_isEitherOrder_12 hz pm ⟨fun q => by omega, fun _ => ?_⟩
          rw [ep g k (by omega) (by omega), ep k g (by omega) (by omega)]
          refine ⟨⟨by omega, by omega⟩, ⟨by omega, by omega⟩, ⟨by omega, by omega⟩, ⟨by omega, by omega⟩, ⟨by omega, by omega⟩, ⟨by omega, by omega⟩, fun eq => ⟨⟨by omega, by omega⟩, ihu (k + 1) (by omega) fun k' hk' => ?_⟩, fun ne => qI_mk ⟨rfl, ?_⟩⟩
          · by_cases w : k' = k
            · rw [w]
              exact beq_iff_eq.mpr (by omega)
            · exact al k' (by omega)
          · rw [if_neg]
            intro w
            have := beq_iff_eq.mp (allB_iff.mp (allB_iff.mp w g (by omega)) k (by omega))
            omega
      refine wr_Members_isEitherOrder_2 hz pm ?_
      rw [en]
      exact ⟨fun q => by omega, fun _ => inner g 0 (by omega) fun k' hk' => absurd hk' (Nat.not_lt_zero k')⟩
  refine wr_Members_isEitherOrder hz pm ?_
  exact key n 0 none (by omega) fun g' hg' => absurd hg' (Nat.not_lt_zero g')
end WG
