/-! THE REFERENCE rewrites one degree: columns, and what is found -/
def fdSt (a : Nat) (F : List (tup4 × Int)) (I : cm_I) : Prop := ∀ (i : Nat) (y : tup4 × Int), F[i]? = some y → I a (5 * (i : Int)) = y.1.1 ∧ I a (5 * (i : Int) + 1) = y.1.2.1 ∧ I a (5 * (i : Int) + 2) = y.1.2.2.1 ∧ I a (5 * (i : Int) + 3) = y.1.2.2.2 ∧ I a (5 * (i : Int) + 4) = y.2
def rwL (q : tup4 → cF) : List tup4 → List (tup4 × Int)
  | [] => []
  | x :: X => if q x = 0 then rwL q X else (x, fi (q x)) :: rwL q X
theorem rwL_ap (q : tup4 → cF) (A B : List tup4) : rwL q (A ++ B) = rwL q A ++ rwL q B := by
  induction A with
  | nil => rfl
  | cons x A ih =>
    show (if q x = 0 then rwL q (A ++ B) else (x, fi (q x)) :: rwL q (A ++ B)) = (if q x = 0 then rwL q A else (x, fi (q x)) :: rwL q A) ++ rwL q B
    rw [ih]
    by_cases h : q x = 0
    · rw [if_pos h, if_pos h]
    · rw [if_neg h, if_neg h]; rfl
theorem rwL_len (q : tup4 → cF) (A : List tup4) : (rwL q A).length ≤ A.length := by
  induction A with
  | nil => exact Nat.le_refl _
  | cons x A ih =>
    show (if q x = 0 then rwL q A else (x, fi (q x)) :: rwL q A).length ≤ A.length + 1
    by_cases h : q x = 0
    · rw [if_pos h]; omega
    · rw [if_neg h]; show (rwL q A).length + 1 ≤ _; omega
theorem take_at4 {X : List tup4} {i : Nat} (h : i < X.length) : X.take (i + 1) = X.take i ++ [sx_at4 X i] := by
  rw [List.take_add_one, (sx_at4_mem h).2]
  rfl
theorem fdSt_add {a : Nat} {F : List (tup4 × Int)} {y : tup4 × Int} {I I1 : cm_I} (h : fdSt a F I) (hl : ∀ x, x < 5 * (F.length : Int) → I1 a x = I a x) (h0 : I1 a (5 * (F.length : Int)) = y.1.1) (h1 : I1 a (5 * (F.length : Int) + 1) = y.1.2.1) (h2 : I1 a (5 * (F.length : Int) + 2) = y.1.2.2.1) (h3 : I1 a (5 * (F.length : Int) + 3) = y.1.2.2.2) (h4 : I1 a (5 * (F.length : Int) + 4) = y.2) : fdSt a (F ++ [y]) I1 := by
  intro i w hw
  by_cases q : i < F.length
  · rw [List.getElem?_append_left q] at hw
    obtain ⟨a0, a1, a2, a3, a4⟩ := h i w hw
    rw [hl _ (by omega), hl _ (by omega), hl _ (by omega), hl _ (by omega), hl _ (by omega)]
    exact ⟨a0, a1, a2, a3, a4⟩
  · have lt : i < (F ++ [y]).length := by
      apply Classical.byContradiction
      intro r
      rw [List.getElem?_eq_none (by omega)] at hw
      cases hw
    rw [List.length_append] at lt
    have : [y].length = 1 := rfl
    have em : i = F.length := by omega
    subst em
    rw [List.getElem?_append_right (Nat.le_refl _), Nat.sub_self] at hw
    have ey : y = w := Option.some.inj hw
    subst ey
    exact ⟨h0, h1, h2, h3, h4⟩
theorem fdSt_fr {a : Nat} {F : List (tup4 × Int)} {I I1 : cm_I} (h : fdSt a F I) (e : I1 a = I a) : fdSt a F I1 := by
  unfold fdSt at h ⊢
  rw [e]
  exact h
section SD
variable {d : Nat} {z : cm_Z} {Q : cm_Q} {a : Nat} {at_ t : Int} {n m : Nat}
/-- products into columns -/
theorem s_sd15 (hz : mz z) (hn : n ≤ 136) (hm : m ≤ 136) {I : cm_I} (h53 : I 209 53 = (m : Int)) (H : ∀ (J : cm_I) (z6 z7 z8 z9 : Option cm_V), fr [247] I J → (∀ p k : Nat, p < m → k < n → J 247 ((n : Int) * p + k) = I 226 (160 * (p : Int) + k)) → cw d cd_Model_solvesDegree Q 76 [some (vR 12 209), some (vR 20 a), some (vI at_), some (vI t), some (vI (n : Int)), some (vI 0), z6, z7, z8, z9] [] (J, z)) : ∀ (z6 z7 z8 z9 : Option cm_V), cw d cd_Model_solvesDegree Q 15 [some (vR 12 209), some (vR 20 a), some (vI at_), some (vI t), some (vI (n : Int)), some (vI 0), z6, z7, z8, z9] [] (I, z) := by
  have key : ∀ (c p : Nat) (J : cm_I) (z6 z7 z8 z9 : Option cm_V), p + c = m → fr [247] I J → (∀ p' k : Nat, p' < p → k < n → J 247 ((n : Int) * p' + k) = I 226 (160 * (p' : Int) + k)) → cw d cd_Model_solvesDegree Q 15 [some (vR 12 209), some (vR 20 a), some (vI at_), some (vI t), some (vI (n : Int)), some (vI (p : Int)), z6, z7, z8, z9] [] (J, z) := by
    intro c
    induction c with
    | zero =>
      intro p J z6 z7 z8 z9 e f g
      refine mr_solvesDegree_15 hz ⟨fun _ => ?_, fun q => ?_⟩
      · exact H J z6 z7 z8 z9 f fun p' k hp hk => g p' k (by omega) hk
      · rw [f 209 (by decide), h53] at q; omega
    | succ c ih =>
      intro p J z6 z7 z8 z9 e f g
      have np := mul_bd (x := (n : Int)) (y := (p : Int)) (X := 136) (Y := 135) (by omega) (by omega) (by omega) (by omega)
      have inner : ∀ (u k : Nat) (J : cm_I), k + u = n → fr [247] I J → (∀ p' k : Nat, p' < p → k < n → J 247 ((n : Int) * p' + k) = I 226 (160 * (p' : Int) + k)) → (∀ k' : Nat, k' < k → J 247 ((n : Int) * p + k') = I 226 (160 * (p : Int) + k')) → cw d cd_Model_solvesDegree Q 27 [some (vR 12 209), some (vR 20 a), some (vI at_), some (vI t), some (vI (n : Int)), some (vI (p : Int)), some (vI (k : Int)), z7, z8, z9] [] (J, z) := by
        intro u
        induction u with
        | zero =>
          intro k J e2 f g g2
          refine mr_solvesDegree_27 hz ⟨fun _ => ⟨⟨by omega, by omega⟩, ?_⟩, fun q => by omega⟩
          refine ih (p + 1) J _ z7 z8 z9 (by omega) f fun p' k' hp hk => ?_
          by_cases e3 : p' = p
          · rw [e3]; exact g2 k' (by omega)
          · exact g p' k' (by omega) hk
        | succ u ihu =>
          intro k J e2 f g g2
          refine mr_solvesDegree_27 hz ⟨fun q => by omega, fun _ => ⟨⟨by omega, by omega⟩, ⟨by omega, by omega⟩, ⟨by omega, by omega⟩, ⟨by omega, by omega⟩, ⟨by omega, by omega⟩, ⟨by omega, by omega⟩, fun J2 e4 => ⟨⟨by omega, by omega⟩, ?_⟩⟩⟩
          obtain ⟨f2, h2⟩ := fr_eq_iu e4
          refine ihu (k + 1) J2 (by omega) (fr_trans f f2) (fun p' k' hp hk => ?_) fun k' hk => ?_
          · rw [h2]
            show (if _ then _ else _) = _
            have := nf_lt n hp
            rw [if_neg (by omega)]
            exact g p' k' hp hk
          · rw [h2]
            show (if _ then _ else _) = _
            by_cases e5 : k' = k
            · rw [if_pos (by rw [e5]), e5, f 226 (by decide)]
            · rw [if_neg (by omega)]
              exact g2 k' (by omega)
      refine mr_solvesDegree_15 hz ⟨fun q => ?_, fun _ => inner n 0 J (by omega) f g fun k' hk => absurd hk (Nat.not_lt_zero k')⟩
      rw [f 209 (by decide), h53] at q; omega
  intro z6 z7 z8 z9
  exact key m 0 I z6 z7 z8 z9 (by omega) (fr_refl _ _) fun p' k hp => absurd hp (Nat.not_lt_zero p')
end SD
