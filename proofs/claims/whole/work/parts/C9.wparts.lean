/-! Grade.takeParts, label, productOf -/
def lab (f : Int → Int) (i : Nat) : tup4 := (f (4 * (i : Int)), f (4 * (i : Int) + 1), f (4 * (i : Int) + 2), f (4 * (i : Int) + 3))
section WTK
variable {d : Nat} {z : cm_Z} {I : cm_I}
theorem t_takeParts (hz : wz z) {a a1 a3 q5 q10 s : Nat} {x : Int} (a0 : 0 < a) (p1 : 0 < a1) (p3 : 0 < a3) (p5 : 0 < q5) (p10 : 0 < q10) (y5 : z.1 a 5 = q5) (y10 : z.1 a 10 = q10) (na : a ≠ a3) (n1 : a1 ≠ a3) (n5 : q5 ≠ a3) (n10 : q10 ≠ a3) (v3 : I a 3 = (s : Int)) (s136 : s ≤ 136) (x0 : 0 ≤ x) (xb : x ≤ 1000000) (l3 : (s : Int) ≤ z.2.1 a3) (l5 : (s : Int) ≤ z.2.1 q5) (l10 : (s : Int) ≤ z.2.1 q10) (o10 : ∀ c : Nat, c < s → 0 ≤ I q10 (c : Int) ∧ I q10 (c : Int) < s) (o5 : ∀ r : Nat, r < s → 0 ≤ I q5 (r : Int) ∧ I q5 (r : Int) < 1000 ∧ x + I q5 (r : Int) < z.2.1 a1) : mU (d + 1) m_Grade_takeParts [vR 2 a, vR 20 a1, vI x, vR 20 a3] z I fun I1 => fr [a3] I I1 ∧ ∀ c : Nat, c < s → I1 a3 (c : Int) = I a1 (x + I q5 (I q10 (c : Int))) := by
  have nb : ∀ c, c ≠ a3 → c ∉ [a3] := fun c hc => by simpa using hc
  have Lp : ∀ (u i : Nat) (J : cm_I), i + u = s → fr [a3] I J → (∀ c : Nat, c < i → J a3 (c : Int) = I a1 (x + I q5 (I q10 (c : Int)))) → cw d cd_Grade_takeParts (qU z fun I1 => fr [a3] I I1 ∧ ∀ c : Nat, c < s → I1 a3 (c : Int) = I a1 (x + I q5 (I q10 (c : Int)))) 3 [some (vR 2 a), some (vR 20 a1), some (vI x), some (vR 20 a3), some (vI (i : Int))] [] (J, z) := by
    intro u
    induction u with
    | zero =>
      intro i J ei hf hv
      refine wr_Grade_takeParts_3 hz a0 y5 y10 p10 p5 p1 p3 ?_
      rw [hf a (nb a na), v3]
      exact ⟨fun _ => qU_mk ⟨hf, fun c hc => hv c (by omega)⟩, fun w => by omega⟩
    | succ u ih =>
      intro i J ei hf hv
      have b10 := o10 i (by omega)
      have b5 := o5 (I q10 (i : Int)).toNat (by omega)
      rw [show (((I q10 (i : Int)).toNat : Nat) : Int) = I q10 (i : Int) by omega] at b5
      refine wr_Grade_takeParts_3 hz a0 y5 y10 p10 p5 p1 p3 ?_
      rw [hf a (nb a na), v3, hf q10 (nb q10 n10), hf q5 (nb q5 n5), hf a1 (nb a1 n1)]
      refine ⟨fun w => by omega, fun _ => ⟨⟨by omega, by omega⟩, ⟨by omega, by omega⟩, by unfold cm_i; omega, ⟨by omega, by omega⟩, ⟨by omega, by omega⟩, fun I6 e6 => ⟨by unfold cm_i; omega, ?_⟩⟩⟩
      obtain ⟨f6, g6⟩ := fr_eq_iu e6
      have := ih (i + 1) I6 (by omega) (fr_trans hf f6) fun c hc => ?_
      · exact this
      · rw [g6]
        show (if (c : Int) = (i : Int) then _ else J a3 (c : Int)) = _
        by_cases w : c = i
        · rw [if_pos (by omega), w]
        · rw [if_neg (by omega)]
          exact hv c (by omega)
  exact wr_Grade_takeParts hz a0 (Lp s 0 I (by omega) (fr_refl _ _) fun c hc => by omega)
theorem t_label (hz : wz z) {a q8 w : Nat} {j x y c : Int} (a0 : 0 < a) (p8 : 0 < q8) (y8 : z.1 a 8 = q8) (w136 : w < 136) (l8 : 4 * (w : Int) + 4 ≤ z.2.1 q8) : mU (d + 1) m_Grade_label [vR 2 a, vI (w : Int), vI j, vI x, vI y, vI c] z I fun I1 => fr [q8] I I1 ∧ ∀ i, lab (I1 q8) i = if i = w then (j, x, y, c) else lab (I q8) i := by
  refine wr_Grade_label hz a0 y8 p8 ⟨by unfold cm_i; omega, ⟨by omega, by omega⟩, fun I3 e3 => ⟨by unfold cm_i; omega, ⟨by omega, by omega⟩, fun I6 e6 => ⟨by unfold cm_i; omega, ⟨by omega, by omega⟩, fun I9 e9 => ⟨by unfold cm_i; omega, ⟨by omega, by omega⟩, fun I12 e12 => qU_mk ?_⟩⟩⟩⟩
  obtain ⟨f3, g3⟩ := fr_eq_iu e3
  obtain ⟨f6, g6⟩ := fr_eq_iu e6
  obtain ⟨f9, g9⟩ := fr_eq_iu e9
  obtain ⟨f12, g12⟩ := fr_eq_iu e12
  have val : ∀ v, I12 q8 v = if v = 4 * (w : Int) + 3 then c else if v = 4 * (w : Int) + 2 then y else if v = 4 * (w : Int) + 1 then x else if v = 4 * (w : Int) then j else I q8 v := by
    intro v
    rw [g12]
    show (if v = 4 * (w : Int) + 3 then c else I9 q8 v) = _
    rw [g9]
    show (if v = 4 * (w : Int) + 3 then c else if v = 4 * (w : Int) + 2 then y else I6 q8 v) = _
    rw [g6]
    show (if v = 4 * (w : Int) + 3 then c else if v = 4 * (w : Int) + 2 then y else if v = 4 * (w : Int) + 1 then x else I3 q8 v) = _
    rw [g3]
  refine ⟨fr_trans (fr_trans (fr_trans f3 f6) f9) f12, fun i => ?_⟩
  unfold lab
  rw [val, val, val, val]
  by_cases e : i = w
  · rw [if_pos e, e, if_neg (by omega), if_neg (by omega), if_neg (by omega), if_pos rfl, if_neg (by omega), if_neg (by omega), if_pos rfl, if_neg (by omega), if_pos rfl, if_pos rfl]
  · rw [if_neg e]
    repeat rw [if_neg (by omega)]
theorem t_productOf (hz : wz z) {a q8 m : Nat} {j x y c : Int} (a0 : 0 < a) (p8 : 0 < q8) (y8 : z.1 a 8 = q8) (v6 : I a 6 = (m : Int)) (m136 : m ≤ 136) (l8 : 4 * (m : Int) ≤ z.2.1 q8) : mI (d + 1) m_Grade_productOf [vR 2 a, vI j, vI x, vI y, vI c] z I fun r I1 => I1 = I ∧ ((r = -1 ∧ ∀ i, i < m → lab (I q8) i ≠ (j, x, y, c)) ∨ ∃ i : Nat, i < m ∧ r = (i : Int) ∧ lab (I q8) i = (j, x, y, c)) := by
  have Lp : ∀ (u i : Nat) (z6 : Option cm_V), i + u = m → (∀ k, k < i → lab (I q8) k ≠ (j, x, y, c)) → cw d cd_Grade_productOf (qI z fun r I1 => I1 = I ∧ ((r = -1 ∧ ∀ i, i < m → lab (I q8) i ≠ (j, x, y, c)) ∨ ∃ i : Nat, i < m ∧ r = (i : Int) ∧ lab (I q8) i = (j, x, y, c))) 3 [some (vR 2 a), some (vI j), some (vI x), some (vI y), some (vI c), some (vI (i : Int)), z6] [] (I, z) := by
    intro u
    induction u with
    | zero =>
      intro i z6 ei hn
      refine wr_Grade_productOf_3 hz a0 y8 p8 ?_
      rw [v6]
      exact ⟨fun _ => qI_mk ⟨rfl, Or.inl ⟨rfl, fun k hk => hn k (by omega)⟩⟩, fun w => by omega⟩
    | succ u ih =>
      intro i z6 ei hn
      have nx : lab (I q8) i ≠ (j, x, y, c) → cw d cd_Grade_productOf (qI z fun r I1 => I1 = I ∧ ((r = -1 ∧ ∀ i, i < m → lab (I q8) i ≠ (j, x, y, c)) ∨ ∃ i : Nat, i < m ∧ r = (i : Int) ∧ lab (I q8) i = (j, x, y, c))) 3 [some (vR 2 a), some (vI j), some (vI x), some (vI y), some (vI c), some (vI ((i : Int) + 1)), some (vI (4 * (i : Int)))] [] (I, z) := by
        intro ne
        have := ih (i + 1) (some (vI (4 * (i : Int)))) (by omega) fun k hk => ?_
        · rw [show ((i + 1 : Nat) : Int) = (i : Int) + 1 by omega] at this
          exact this
        · by_cases e : k = i
          · rw [e]; exact ne
          · exact hn k (by omega)
      refine wr_Grade_productOf_3 hz a0 y8 p8 ?_
      rw [v6]
      refine ⟨fun w => by omega, fun _ => ⟨by unfold cm_i; omega, ⟨by omega, by omega⟩, fun w => ⟨by unfold cm_i; omega, nx fun e => w ?_⟩, fun w1 => ⟨by unfold cm_i; omega, ⟨by omega, by omega⟩, fun w => ⟨by unfold cm_i; omega, nx fun e => w ?_⟩, fun w2 => ⟨by unfold cm_i; omega, ⟨by omega, by omega⟩, fun w => ⟨by unfold cm_i; omega, nx fun e => w ?_⟩, fun w3 => ⟨by unfold cm_i; omega, ⟨by omega, by omega⟩, fun w => ⟨by unfold cm_i; omega, nx fun e => w ?_⟩, fun w4 => qI_mk ⟨rfl, Or.inr ⟨i, by omega, rfl, ?_⟩⟩⟩⟩⟩⟩⟩
      · exact congrArg (fun t : tup4 => t.1) e
      · exact congrArg (fun t : tup4 => t.2.1) e
      · exact congrArg (fun t : tup4 => t.2.2.1) e
      · exact congrArg (fun t : tup4 => t.2.2.2) e
      · unfold lab
        rw [w1, w2, w3, w4]
  exact wr_Grade_productOf hz a0 (Lp m 0 none (by omega) fun k hk => by omega)
end WTK
