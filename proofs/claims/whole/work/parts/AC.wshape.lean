/-! SPECS of the class: where monomials stand; degrees, terms -/
/-- where block s starts within a degree -/
def fF (D s : Int) : Int := mMany D (s - 1)
def shOk (D : Int) (sh : Nat) (I : cm_I) : Prop := ((D = 2 ∧ sh = 11) ∨ (D = 3 ∧ sh = 20)) ∧ I sh 0 = D ∧ I sh 1 = mFrom D 16 ∧ (∀ s, 0 ≤ s → s ≤ 18 → I (sh + 1) s = fF D s) ∧ (∀ t, 0 ≤ t → t ≤ 16 → I (sh + 2) t = mFrom D t) ∧ ∀ s p, 0 ≤ s → s ≤ 15 → fF D s ≤ p → p < fF D (s + 1) → I (sh + 7) p = s ∧ I (sh + 8) p = fF D (s + 1) - fF D s
theorem shOk_sh {D : Int} {sh : Nat} {I : cm_I} (h : shOk D sh I) : isSh sh := by
  rcases h.1 with e | e
  · exact Or.inl e.2
  · exact Or.inr e.2
theorem shOk_D {D : Int} {sh : Nat} {I : cm_I} (h : shOk D sh I) : D = 2 ∨ D = 3 := by
  rcases h.1 with e | e
  · exact Or.inl e.1
  · exact Or.inr e.1
/-- the class's row of all degrees -/
def wRow (D : Int) (f v : Int → Int) : Prop := ∀ k, 0 ≤ k → k < mFrom D 16 → f k = v k
section WS
variable {d : Nat} {z : cm_Z} {I : cm_I} {D : Int} {sh a : Nat}
theorem t_isZero (hz : wz z) (hS : shOk D sh I) (ha : 0 < a) (hl : mFrom D 16 ≤ z.2.1 a) {t : Int} (t0 : 0 ≤ t) (t1 : t ≤ 15) : mI (d + 1) m_Shape_isZero [vR 9 sh, vR 20 a, vI t] z I fun r I1 => I1 = I ∧ (r = 0 ∨ r = 1) ∧ (r = 1 ↔ ∀ k, mFrom D t ≤ k → k < mFrom D (t + 1) → I a k = 0) := by
  have hD := shOk_D hS
  have fb := from_bds hD t0 t1
  have f16 : mFrom D (t + 1) ≤ mFrom D 16 := mFrom_mono D (by omega) (by omega)
  have st := hS.2.2.2.2.1
  refine wr_Shape_isZero hz (shOk_sh hS) ⟨⟨by omega, by omega⟩, ?_⟩
  rw [st t t0 (by omega)]
  have key : ∀ (n : Nat) (k : Int), mFrom D t ≤ k → k + n = mFrom D (t + 1) → (∀ k', mFrom D t ≤ k' → k' < k → I a k' = 0) → cw d cd_Shape_isZero (qI z fun r I1 => I1 = I ∧ (r = 0 ∨ r = 1) ∧ (r = 1 ↔ ∀ k, mFrom D t ≤ k → k < mFrom D (t + 1) → I a k = 0)) 7 [some (vR 9 sh), some (vR 20 a), some (vI t), some (vI k)] [] (I, z) := by
    intro n
    induction n with
    | zero =>
      intro k k0 e h
      refine wr_Shape_isZero_7 hz (shOk_sh hS) ha ?_
      rw [st (t + 1) (by omega) (by omega)]
      exact ⟨⟨by omega, by omega⟩, ⟨by omega, by omega⟩, fun _ => qI_mk ⟨rfl, Or.inr rfl, ⟨fun _ k' a b => h k' a (by omega), fun _ => rfl⟩⟩, fun q => by omega⟩
    | succ n ih =>
      intro k k0 e h
      refine wr_Shape_isZero_7 hz (shOk_sh hS) ha ?_
      rw [st (t + 1) (by omega) (by omega)]
      refine ⟨⟨by omega, by omega⟩, ⟨by omega, by omega⟩, fun q => by omega, fun _ => ⟨⟨by omega, by omega⟩, fun z0 => ⟨⟨by omega, by omega⟩, ih (k + 1) (by omega) (by omega) fun k' a b => ?_⟩, fun nz => qI_mk ⟨rfl, Or.inl rfl, ⟨fun x => absurd x (by decide), fun x => absurd (x k k0 (by omega)) nz⟩⟩⟩⟩
      by_cases q : k' = k
      · rw [q]; exact z0
      · exact h k' a (by omega)
  exact key (mFrom D (t + 1) - mFrom D t).toNat (mFrom D t) (by omega) (by omega) fun k' a b => by omega
theorem lastNZ_top {f : Int → Int} {x : Int} {m : Nat} : ∀ n : Nat, m ≤ n → (∀ k : Nat, m ≤ k → k < n → f (x + k) = 0) → lastNZ f x n = lastNZ f x m := by
  intro n
  induction n with
  | zero => intro h _; rw [show m = 0 by omega]
  | succ n ih =>
    intro h hz
    by_cases e : m = n + 1
    · rw [e]
    · show (if f (x + n) ≠ 0 then n else lastNZ f x n) = _
      rw [if_neg (by simp [hz n (by omega) (by omega)])]
      exact ih (by omega) fun k a b => hz k a (by omega)
theorem t_degreeOf (hz : wz z) (hS : shOk D sh I) (ha : 0 < a) (hl : mFrom D 16 ≤ z.2.1 a) {v : Int → Int} (hv : wRow D (I a) v) (ov : vOk D v) : mI (d + 1) m_Shape_degreeOf [vR 9 sh, vR 20 a] z I fun r I1 => I1 = I ∧ r = mDeg D v 0 := by
  have hD := shOk_D hS
  obtain ⟨s1, s2, s3⟩ := m16_bd hD
  have p16 : 1 ≤ mFrom D 16 := by rcases hD with e | e <;> rw [e] <;> decide
  have st := hS.2.2.2.2.1
  -- the last number's place
  have top : lastNZ v 0 (mSz D).toNat = lastNZ v 0 (mFrom D 16).toNat := lastNZ_top _ (by omega) fun k a b => by
    rw [Int.zero_add]
    exact vOk_16 hD ov (by omega)
  have low : ∀ (n : Nat) (l : Int), 0 ≤ l → l < mFrom D 16 → mDg D l ≤ (n : Int) → (n : Int) ≤ 15 → ∀ z1 : Option cm_V, mDg D l = mDeg D v 0 → cw d cd_Shape_degreeOf (qI z fun r I1 => I1 = I ∧ r = mDeg D v 0) 26 [some (vR 9 sh), z1, some (vI l), some (vI (n : Int))] [] (I, z) := by
    intro n
    induction n with
    | zero =>
      intro l l0 l1 le n1 z1 e
      have := (mDg_from hD l0 (by omega)).1
      exact wr_Shape_degreeOf_26 hz (shOk_sh hS) ⟨fun _ => qI_mk ⟨rfl, by omega⟩, fun q => absurd q (by omega)⟩
    | succ n ih =>
      intro l l0 l1 le n1 z1 e
      have ge := mDg_ge hD (k := l) (t := ((n + 1 : Nat) : Int)) l0 (by omega) (by omega)
      refine wr_Shape_degreeOf_26 hz (shOk_sh hS) ⟨fun q => by omega, fun _ => ⟨⟨by omega, by omega⟩, ?_⟩⟩
      rw [st ((n + 1 : Nat) : Int) (by omega) (by omega)]
      refine ⟨fun q => qI_mk ⟨rfl, ?_⟩, fun q => ⟨⟨by omega, by omega⟩, ?_⟩⟩
      · have := ge.mp q
        omega
      · have lt : mDg D l ≤ (n : Int) := by
          apply Classical.byContradiction
          intro w
          have := ge.mpr (by omega)
          omega
        have := ih l l0 l1 lt (by omega) z1 e
        rw [show ((n + 1 : Nat) : Int) + -1 = (n : Int) by omega]
        exact this
  have scan : ∀ (n : Nat) (z3 : Option cm_V), (n : Int) < mFrom D 16 → lastNZ v 0 (n + 1) = lastNZ v 0 (mFrom D 16).toNat → cw d cd_Shape_degreeOf (qI z fun r I1 => I1 = I ∧ r = mDeg D v 0) 7 [some (vR 9 sh), some (vR 20 a), some (vI (n : Int)), z3] [] (I, z) := by
    intro n
    have go : ∀ n : Nat, (n : Int) < mFrom D 16 → lastNZ v 0 (mFrom D 16).toNat = n → ∀ z1 : Option cm_V, cw d cd_Shape_degreeOf (qI z fun r I1 => I1 = I ∧ r = mDeg D v 0) 26 [some (vR 9 sh), z1, some (vI (n : Int)), some (vI 15)] [] (I, z) := by
      intro n hn e z1
      have dg : mDeg D v 0 = mDg D (n : Int) := by unfold mDeg; rw [top, e]
      have := low 15 (n : Int) (by omega) hn (by rw [← dg]; exact ov.2.2) (by omega) z1 dg.symm
      exact this
    induction n with
    | zero =>
      intro z3 hn e
      refine wr_Shape_degreeOf_7 hz ha ⟨fun _ => go 0 hn ?_ _, fun q => absurd q (by omega)⟩
      rw [← e]
      show (if v (0 + 0) ≠ 0 then 0 else 0) = 0
      exact ite_self _
    | succ n ih =>
      intro z3 hn e
      have hvn : I a ((n + 1 : Nat) : Int) = v ((n + 1 : Nat) : Int) := hv _ (by omega) (by omega)
      refine wr_Shape_degreeOf_7 hz ha ⟨fun q => by omega, fun _ => ?_⟩
      rw [hvn]
      refine ⟨⟨by omega, by omega⟩, fun nz => go (n + 1) hn ?_ _, fun z0 => ⟨⟨by omega, by omega⟩, ?_⟩⟩
      · rw [← e]
        show (if v (0 + ((n + 1 : Nat) : Int)) ≠ 0 then n + 1 else _) = n + 1
        rw [Int.zero_add, if_pos nz]
      · have := ih z3 (by omega) (by
          rw [← e]
          show _ = (if v (0 + ((n + 1 : Nat) : Int)) ≠ 0 then n + 1 else lastNZ v 0 (n + 1))
          rw [Int.zero_add, if_neg (fun w => w z0)])
        rw [show ((n + 1 : Nat) : Int) + -1 = (n : Int) by omega]
        exact this
  refine wr_Shape_degreeOf hz (shOk_sh hS) ?_
  rw [hS.2.2.1]
  refine ⟨⟨by omega, by omega⟩, ?_⟩
  have := scan (mFrom D 16 - 1).toNat none (by omega) (by rw [show (mFrom D 16 - 1).toNat + 1 = (mFrom D 16).toNat by omega])
  rw [show (((mFrom D 16 - 1).toNat : Nat) : Int) = mFrom D 16 - 1 by omega] at this
  exact this
theorem cntNZ_top {v : Int → Int} {m n : Nat} (h : m ≤ n) (hz : ∀ k : Nat, m ≤ k → k < n → v (0 + k) = 0) : cntNZ v 0 n = cntNZ v 0 m := sg_ext h fun k a b => if_pos (hz k a b)
theorem t_termsOf (hz : wz z) (hS : shOk D sh I) (ha : 0 < a) (hl : mFrom D 16 ≤ z.2.1 a) {v : Int → Int} (hv : wRow D (I a) v) (ov : vOk D v) : mI (d + 1) m_Shape_termsOf [vR 9 sh, vR 20 a] z I fun r I1 => I1 = I ∧ r = vTerms v := by
  have hD := shOk_D hS
  obtain ⟨s1, s2, s3⟩ := m16_bd hD
  have top : vTerms v = cntNZ v 0 (mFrom D 16).toNat := cntNZ_top (by omega) fun k a b => by
    rw [Int.zero_add]
    exact vOk_16 hD ov (by omega)
  have key : ∀ (n k : Nat), (k : Int) + n = mFrom D 16 → cw d cd_Shape_termsOf (qI z fun r I1 => I1 = I ∧ r = vTerms v) 4 [some (vR 9 sh), some (vR 20 a), some (vI (cntNZ v 0 k)), some (vI (k : Int))] [] (I, z) := by
    intro n
    induction n with
    | zero =>
      intro k e
      refine wr_Shape_termsOf_4 hz (shOk_sh hS) ha ?_
      rw [hS.2.2.1]
      refine ⟨fun _ => qI_mk ⟨rfl, ?_⟩, fun q => by omega⟩
      rw [top, show (mFrom D 16).toNat = k by omega]
    | succ n ih =>
      intro k e
      have b := cntNZ_bd v 0 k
      have hvk : I a (k : Int) = v (k : Int) := hv _ (by omega) (by omega)
      have nx := ih (k + 1) (by omega)
      have e1 : cntNZ v 0 (k + 1) = cntNZ v 0 k + (if v (k : Int) = 0 then 0 else 1) := by
        show sg k _ + (if v (0 + (k : Int)) = 0 then 0 else 1) = _
        rw [Int.zero_add]
        rfl
      rw [show ((k + 1 : Nat) : Int) = (k : Int) + 1 by omega] at nx
      refine wr_Shape_termsOf_4 hz (shOk_sh hS) ha ?_
      rw [hS.2.2.1, hvk]
      refine ⟨fun q => by omega, fun _ => ⟨⟨by omega, by omega⟩, fun z0 => ⟨⟨by omega, by omega⟩, ?_⟩, fun nz => ⟨⟨by omega, by omega⟩, ⟨by omega, by omega⟩, ?_⟩⟩⟩
      · rw [e1, if_pos z0, Int.add_zero] at nx
        exact nx
      · rw [e1, if_neg nz] at nx
        exact nx
  refine wr_Shape_termsOf hz (shOk_sh hS) ?_
  exact key (mFrom D 16).toNat 0 (by omega)
end WS
