/-! SPECS of the class: filling, powers, determinants -/
theorem fillF_0 (f : Int → Int) (lo v : Int) : fillF f lo 0 v = f := by
  funext j
  unfold fillF
  rw [if_neg (by omega)]
theorem fillF_st (f : Int → Int) (lo v : Int) {n : Int} (n0 : 0 ≤ n) : (fun j => if j = lo + n then v else fillF f lo n v j) = fillF f lo (n + 1) v := by
  funext j
  unfold fillF
  by_cases e : j = lo + n
  · rw [if_pos e, if_pos (by omega)]
  · rw [if_neg e]
    by_cases q : lo ≤ j ∧ j < lo + n
    · rw [if_pos q, if_pos (by omega)]
    · rw [if_neg q, if_neg (by omega)]
theorem det_w3 {R : Type} [Lean.Grind.CommRing R] (a b c d e f g h k : R) : a * (e * k - f * h) - b * (d * k - f * g) + c * (d * h - e * g) = a * (e * k - f * h) + b * (f * g - d * k) + c * (d * h - e * g) := by grind
section WB
variable {d : Nat} {z : cm_Z} {I : cm_I}
theorem t_range (hz : wz z) {n lo hi : Int} (h0 : 0 ≤ lo) (h1 : lo ≤ hi) (h2 : hi ≤ n) : mU (d + 1) m_Arr_range [vI n, vI lo, vI hi] z I fun I1 => I1 = I :=
  wr_Arr_range hz ⟨fun _ => ⟨fun _ => ⟨fun _ => qU_mk rfl, fun q => by omega⟩, fun q => by omega⟩, fun q => by omega⟩
theorem t_fill (hz : wz z) {a : Nat} (ha : 0 < a) {len v : Int} (hl : z.2.1 a = len) (l0 : 0 ≤ len) (l1 : len ≤ 1000000) : mU (d + 1) m_Arr_fill [vR 20 a, vI v] z I fun I1 => I1 = iw I a (fillF (I a) 0 len v) := by
  have key : ∀ (n : Nat) (k : Int) (J : cm_I), 0 ≤ k → k + n = len → J = iw I a (fillF (I a) 0 k v) → cw d cd_Arr_fill (qU z fun I1 => I1 = iw I a (fillF (I a) 0 len v)) 5 [some (vR 20 a), some (vI v), some (vI k), some (vI len)] [] (J, z) := by
    intro n
    induction n with
    | zero =>
      intro k J k0 e h
      refine wr_Arr_fill_5 hz ha ⟨fun _ => qU_mk ?_, fun q => by omega⟩
      rw [h, show k = len by omega]
    | succ n ih =>
      intro k J k0 e h
      refine wr_Arr_fill_5 hz ha ⟨fun q => by omega, fun _ => ?_⟩
      rw [hl]
      refine ⟨⟨by omega, by omega⟩, fun J2 e2 => ⟨⟨by omega, by omega⟩, ih (k + 1) J2 (by omega) (by omega) ?_⟩⟩
      rw [e2, h, iu_iw]
      congr 1
      have := fillF_st (I a) 0 v k0
      rw [Int.zero_add] at this
      exact this
  refine wr_Arr_fill hz ha ?_
  rw [hl]
  exact key len.toNat 0 I (by omega) (by omega) (by rw [fillF_0, iw_self])
theorem t_fill4 (hz : wz z) {a : Nat} (ha : 0 < a) {lo hi v : Int} (h0 : 0 ≤ lo) (h1 : lo ≤ hi) (h2 : hi ≤ z.2.1 a) (l1 : hi ≤ 1000000) : mU (d + 2) m_Arr_fill4 [vR 20 a, vI lo, vI hi, vI v] z I fun I1 => I1 = iw I a (fillF (I a) lo (hi - lo) v) := by
  have key : ∀ (n : Nat) (k : Int) (J : cm_I), 0 ≤ k → k + n = hi - lo → J = iw I a (fillF (I a) lo k v) → cw (d + 1) cd_Arr_fill4 (qU z fun I1 => I1 = iw I a (fillF (I a) lo (hi - lo) v)) 10 [some (vR 20 a), some (vI lo), some (vI hi), some (vI v), some (vI (lo + k))] [] (J, z) := by
    intro n
    induction n with
    | zero =>
      intro k J k0 e h
      refine wr_Arr_fill4_10 hz ha ⟨fun _ => qU_mk ?_, fun q => by omega⟩
      rw [h, show k = hi - lo by omega]
    | succ n ih =>
      intro k J k0 e h
      refine wr_Arr_fill4_10 hz ha ⟨fun q => by omega, fun _ => ⟨⟨by omega, by omega⟩, fun J2 e2 => ⟨⟨by omega, by omega⟩, ?_⟩⟩⟩
      have := ih (k + 1) J2 (by omega) (by omega) (by
        rw [e2, h, iu_iw]
        congr 1
        exact fillF_st (I a) lo v k0)
      rw [show lo + (k + 1) = lo + k + 1 by omega] at this
      exact this
  refine wr_Arr_fill4 hz ha (mU_mono (t_range hz h0 h1 h2) fun I1 e1 => ?_)
  subst e1
  have := key (hi - lo).toNat 0 I1 (by omega) (by omega) (by rw [fillF_0, iw_self])
  rw [Int.add_zero] at this
  exact this
theorem t_raise (hz : wz z) {x e : Int} (x0 : 0 ≤ x) (x1 : x < 2521) (e0 : 0 ≤ e) (e1 : e < 4096) : mI (d + 1) m_Works_raise [vI x, vI e] z I fun r I1 => I1 = I ∧ r = fi (fPow (toF x) e.toNat) := by
  have key : ∀ (n : Nat) (P : Int → cm_I → Prop) (e : Nat) (r b : Int) (z0 z1 : Option cm_V), e < 2 ^ n → 0 ≤ r → r < 2521 → 0 ≤ b → b < 2521 → P (fi (sqPow n e (toF r) (toF b))) I → cw d cd_Works_raise (qI z P) 7 [z0, z1, some (vI r), some (vI b), some (vI (e : Int))] [] (I, z) := by
    intro n P
    induction n with
    | zero =>
      intro e r b z0 z1 he r0 r1 b0 b1 h
      have : e = 0 := by
        have : e < 1 := he
        omega
      subst this
      refine wr_Works_raise_7 hz ⟨fun _ => qI_mk ?_, fun q => by omega⟩
      have h' : P (fi (toF r)) I := h
      rw [fi_toF, Int.emod_eq_of_lt r0 r1] at h'
      exact h'
    | succ n ih =>
      intro e r b z0 z1 he r0 r1 b0 b1 h
      have hp : 2 ^ (n + 1) = 2 * 2 ^ n := by rw [Nat.pow_succ]; omega
      have mrb := mul_bd (x := r) (y := b) (X := 2520) (Y := 2520) r0 (by omega) b0 (by omega)
      have mbb := mul_bd (x := b) (y := b) (X := 2520) (Y := 2520) b0 (by omega) b0 (by omega)
      by_cases ze : e = 0
      · subst ze
        refine wr_Works_raise_7 hz ⟨fun _ => qI_mk ?_, fun q => by omega⟩
        unfold sqPow at h
        rw [if_pos rfl, fi_toF, Int.emod_eq_of_lt r0 r1] at h
        exact h
      · unfold sqPow at h
        rw [if_neg ze] at h
        have nx : ∀ r' : Int, 0 ≤ r' → r' < 2521 → toF r' = (if e % 2 = 1 then toF r * toF b else toF r) → cw d cd_Works_raise (qI z P) 28 [z0, z1, some (vI r'), some (vI b), some (vI (e : Int))] [] (I, z) := by
          intro r' r0' r1' er
          refine wr_Works_raise_28 hz ⟨⟨by omega, by omega⟩, ?_⟩
          rw [tmod_pos mbb.1]
          have e2 : (e : Int) / 2 ^ (Int.toNat 1) = ((e / 2 : Nat) : Int) := by
            show (e : Int) / 2 ^ 1 = _
            omega
          rw [e2]
          refine ih (e / 2) r' (b * b % 2521) z0 z1 (by omega) r0' r1' (by omega) (by omega) ?_
          rw [er, toF_mod, toF_mul]
          exact h
        refine wr_Works_raise_7 hz ⟨fun q => by omega, fun _ => ⟨fun q => nx r r0 r1 ?_, fun q => ⟨⟨by omega, by omega⟩, ?_⟩⟩⟩
        · rw [if_neg (by omega)]
        · rw [tmod_pos mrb.1]
          refine nx _ (by omega) (by omega) ?_
          rw [toF_mod, toF_mul, if_pos (by omega)]
  refine wr_Works_raise hz ?_
  have := key 12 (fun r I1 => I1 = I ∧ r = fi (fPow (toF x) e.toNat)) e.toNat 1 x (some (vI x)) (some (vI e)) (by show e.toNat < 4096; omega) (by omega) (by omega) x0 x1 ⟨rfl, by rw [sqPow_spec _ _ _ _ (by show e.toNat < 4096; omega), toF_one, gs_z2]⟩
  rw [show ((e.toNat : Nat) : Int) = e by omega] at this
  exact this
theorem t_inv (hz : wz z) {x : Int} (x0 : 0 ≤ x) (x1 : x < 2521) : mI (d + 1) m_Works_raise [vI x, vI 2519] z I fun r I1 => I1 = I ∧ r = fi (fInv (toF x)) := by
  refine mI_mono (t_raise hz x0 x1 (by omega) (by omega)) fun r I1 ⟨e1, e2⟩ => ⟨e1, ?_⟩
  rw [e2]
  unfold fInv
  rw [sqPow_spec _ _ _ _ (by decide), gs_z2]
  rfl
theorem t_minor (hz : wz z) {a b c e : Int} (a0 : 0 ≤ a ∧ a < 2521) (b0 : 0 ≤ b ∧ b < 2521) (c0 : 0 ≤ c ∧ c < 2521) (e0 : 0 ≤ e ∧ e < 2521) : mI (d + 1) m_Works_minor [vI a, vI b, vI c, vI e] z I fun r I1 => I1 = I ∧ r = (a * e - b * c) % 2521 := by
  have m1 := mul_bd (x := a) (y := e) (X := 2520) (Y := 2520) (by omega) (by omega) (by omega) (by omega)
  have m2 := mul_bd (x := b) (y := c) (X := 2520) (Y := 2520) (by omega) (by omega) (by omega) (by omega)
  exact wr_Works_minor hz ⟨⟨by omega, by omega⟩, ⟨by omega, by omega⟩, ⟨by omega, by omega⟩, qI_mk ⟨rfl, rfl⟩⟩
/-- the class's tables: as wide as there are variables -/
def wmat (D : Int) (f : Int → Int) (g : Int) : cMat := fun i j => if (i : Int) < D ∧ (j : Int) < D then toF (f (9 * g + D * i + j)) else if i = j ∧ i < 3 then 1 else 0
theorem t_determinant (hz : wz z) {a : Nat} (ha : 0 < a) {g : Int} (g0 : 0 ≤ g) (g1 : g ≤ 1000) (gl : 9 * g + 9 ≤ z.2.1 a) (ok : okR (I a)) {D : Int} (hD : D = 2 ∨ D = 3) : mI (d + 2) m_Works_determinant [vR 20 a, vI (9 * g), vI D] z I fun r I1 => I1 = I ∧ r = fi (mDet (wmat D (I a) g)) := by
  have o := fun k => ok k
  refine wr_Works_determinant hz ha ⟨fun q => ?_, fun q => ?_⟩
  · have e3 : D = 3 := by omega
    subst e3
    refine ⟨⟨by omega, by omega⟩, ⟨by omega, by omega⟩, ⟨by omega, by omega⟩, ⟨by omega, by omega⟩, ⟨by omega, by omega⟩, ⟨by omega, by omega⟩, ⟨by omega, by omega⟩, ⟨by omega, by omega⟩, ⟨by omega, by omega⟩, mI_mono (t_minor hz (o _) (o _) (o _) (o _)) fun v1 J1 ⟨e1, w1⟩ => ?_⟩
    subst e1
    have b1 := mul_bd (x := J1 a (9 * g)) (y := v1) (X := 2520) (Y := 2520) (o _).1 (by have := (o (9 * g)).2; omega) (by omega) (by omega)
    refine ⟨⟨by omega, by omega⟩, ⟨by omega, by omega⟩, ⟨by omega, by omega⟩, ⟨by omega, by omega⟩, ⟨by omega, by omega⟩, ⟨by omega, by omega⟩, ⟨by omega, by omega⟩, mI_mono (t_minor hz (o _) (o _) (o _) (o _)) fun v2 J2 ⟨e2, w2⟩ => ?_⟩
    subst e2
    have b2 := mul_bd (x := J2 a (9 * g + 1)) (y := v2) (X := 2520) (Y := 2520) (o _).1 (by have := (o (9 * g + 1)).2; omega) (by omega) (by omega)
    refine ⟨⟨by omega, by omega⟩, ⟨by omega, by omega⟩, ⟨by omega, by omega⟩, mI_mono (t_minor hz (o _) (o _) (o _) (o _)) fun v3 J3 ⟨e3, w3⟩ => ?_⟩
    subst e3
    have b3 := mul_bd (x := J3 a (9 * g + 2)) (y := v3) (X := 2520) (Y := 2520) (o _).1 (by have := (o (9 * g + 2)).2; omega) (by omega) (by omega)
    refine ⟨⟨by omega, by omega⟩, ⟨by omega, by omega⟩, ⟨by omega, by omega⟩, qI_mk ⟨rfl, ?_⟩⟩
    rw [← fi_toF]
    congr 1
    rw [toF_add, toF_sub, toF_mul, toF_mul, toF_mul, w1, w2, w3, toF_mod, toF_mod, toF_mod, toF_sub, toF_sub, toF_sub]
    rw [toF_mul, toF_mul, toF_mul, toF_mul, toF_mul, toF_mul]
    unfold mDet wmat
    simp only [show ((0 : Nat) : Int) = 0 from rfl, show ((1 : Nat) : Int) = 1 from rfl, show ((2 : Nat) : Int) = 2 from rfl]
    rw [if_pos ⟨by decide, by decide⟩, if_pos ⟨by decide, by decide⟩, if_pos ⟨by decide, by decide⟩, if_pos ⟨by decide, by decide⟩, if_pos ⟨by decide, by decide⟩, if_pos ⟨by decide, by decide⟩, if_pos ⟨by decide, by decide⟩, if_pos ⟨by decide, by decide⟩, if_pos ⟨by decide, by decide⟩]
    rw [show 9 * g + 3 * (0 : Int) + 0 = 9 * g by omega, show 9 * g + 3 * (0 : Int) + 1 = 9 * g + 1 by omega, show 9 * g + 3 * (0 : Int) + 2 = 9 * g + 2 by omega, show 9 * g + 3 * (1 : Int) + 0 = 9 * g + 3 by omega, show 9 * g + 3 * (1 : Int) + 1 = 9 * g + 4 by omega, show 9 * g + 3 * (1 : Int) + 2 = 9 * g + 5 by omega, show 9 * g + 3 * (2 : Int) + 0 = 9 * g + 6 by omega, show 9 * g + 3 * (2 : Int) + 1 = 9 * g + 7 by omega, show 9 * g + 3 * (2 : Int) + 2 = 9 * g + 8 by omega]
    exact det_w3 _ _ _ _ _ _ _ _ _
  · subst q
    refine ⟨⟨by omega, by omega⟩, ⟨by omega, by omega⟩, ⟨by omega, by omega⟩, ⟨by omega, by omega⟩, ⟨by omega, by omega⟩, ⟨by omega, by omega⟩, ⟨by omega, by omega⟩, mI_mono (t_minor hz (o _) (o _) (o _) (o _)) fun v1 J1 ⟨e1, w1⟩ => qI_mk ⟨e1, ?_⟩⟩
    subst e1
    rw [w1, ← fi_toF]
    congr 1
    rw [toF_sub, toF_mul, toF_mul]
    unfold mDet wmat
    simp only [show ((0 : Nat) : Int) = 0 from rfl, show ((1 : Nat) : Int) = 1 from rfl, show ((2 : Nat) : Int) = 2 from rfl]
    rw [show 9 * g + 2 * (0 : Int) + 0 = 9 * g by omega, show 9 * g + 2 * (0 : Int) + 1 = 9 * g + 1 by omega, show 9 * g + 2 * (1 : Int) + 0 = 9 * g + 2 by omega, show 9 * g + 2 * (1 : Int) + 1 = 9 * g + 3 by omega]
    exact det_gen2 _ _ _ _
theorem t_isKept (hz : wz z) (k : Int) : mI (d + 1) m_Works_isKept [vI k] z I fun r I1 => I1 = I ∧ r = if kFit k then 1 else 0 := by
  refine wr_Works_isKept hz ⟨fun q => qI_mk ⟨rfl, ?_⟩, fun q => ⟨fun q2 => qI_mk ⟨rfl, ?_⟩, fun q2 => qI_mk ⟨rfl, ?_⟩⟩⟩
  · rw [if_neg (by omega)]
  · rw [if_neg (by omega)]
  · rw [if_pos (by omega)]
theorem t_isPower (hz : wz z) (k : Int) : mI (d + 1) m_Works_isPower [vI k] z I fun r I1 => I1 = I ∧ r = if 0 ≤ k ∧ k ≤ 15 then 1 else 0 := by
  refine wr_Works_isPower hz ⟨fun q => qI_mk ⟨rfl, ?_⟩, fun q => ⟨fun q2 => qI_mk ⟨rfl, ?_⟩, fun q2 => qI_mk ⟨rfl, ?_⟩⟩⟩
  · rw [if_neg (by omega)]
  · rw [if_neg (by omega)]
  · rw [if_pos (by omega)]
theorem t_divides (hz : wz z) {x y : Int} (x0 : 0 < x) : mI (d + 1) m_Works_divides [vI x, vI y] z I fun r I1 => I1 = I ∧ ((r = 0 ∧ ¬ Int.tmod y x = 0) ∨ (r = 1 ∧ Int.tmod y x = 0)) := by
  exact wr_Works_divides hz ⟨fun w => by omega, fun _ => ⟨x0, fun w => qI_mk ⟨rfl, Or.inl ⟨rfl, w⟩⟩, fun w => qI_mk ⟨rfl, Or.inr ⟨rfl, w⟩⟩⟩⟩
end WB
