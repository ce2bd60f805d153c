/-! Grade.turn, and how columns are cleared -/
def luA (s : Nat) (f : Int → Int) (k c : Nat) : cF := toF (f ((s : Int) * k + c))
def luI (s m q9 q10 : Nat) (C : Nat → Nat → cF) (J : cm_I) : Prop := okR (J q9) ∧ (∀ c : Nat, c < s → 0 ≤ J q10 (c : Int) ∧ J q10 (c : Int) < s) ∧ luOk s m (luA s (J q9)) (fun c => (J q10 (c : Int)).toNat) C
theorem cbF_neg (v : Int) : toF (cbF v) = - toF v := by
  rw [← toF_neg, toF_eq]
  unfold cbF
  split <;> omega
theorem cbF_bd (v : Int) : 0 ≤ cbF v ∧ cbF v ≤ 2521 := by
  unfold cbF
  split <;> omega
theorem cl_g1 {R : Type} [Lean.Grind.CommRing R] (a b c : R) : a + - b * c = a - b * c := by grind
section WTU
variable {d : Nat} {z : cm_Z} {I : cm_I}
theorem t_turn (hz : wz z) {a q9 q10 s m e : Nat} (a0 : 0 < a) (q9p : 0 < q9) (q10p : 0 < q10) (y9 : z.1 a 9 = q9) (y10 : z.1 a 10 = q10) (n1 : a ≠ q9) (n2 : a ≠ q10) (n3 : q9 ≠ q10) (v3 : I a 3 = (s : Int)) (v6 : I a 6 = (m : Int)) (s136 : s ≤ 136) (ms : m < s) (me : m ≤ e) (es : e < s) (l9 : (s : Int) * s ≤ z.2.1 q9) (l10 : (s : Int) ≤ z.2.1 q10) : mU (d + 1) m_Grade_turn [vR 2 a, vI (m : Int), vI (e : Int)] z I fun I1 => fr [q9, q10] I I1 ∧ (∀ c : Nat, c < s → I1 q10 (c : Int) = I q10 ((swc m e c : Nat) : Int)) ∧ (∀ k c : Nat, k < m → c < s → I1 q9 ((s : Int) * k + c) = I q9 ((s : Int) * k + (swc m e c : Nat))) ∧ ∀ y, ∃ y', I1 q9 y = I q9 y' := by
  have q09 : q9 ∉ [q10] := by simpa using n3
  have na : a ∉ [q9, q10] := by simp; exact ⟨n1, n2⟩
  refine wr_Grade_turn hz a0 y10 q10p ⟨⟨by omega, by omega⟩, ⟨by omega, by omega⟩, fun I3 e3 I4 e4 => ?_⟩
  obtain ⟨f3, g3⟩ := fr_eq_iu e3
  obtain ⟨f4, g4⟩ := fr_eq_iu e4
  have o4 : ∀ c : Nat, c < s → I4 q10 (c : Int) = I q10 ((swc m e c : Nat) : Int) := by
    intro c hc
    rw [g4]
    show (if (c : Int) = (e : Int) then I q10 (m : Int) else I3 q10 (c : Int)) = _
    rw [g3]
    show (if (c : Int) = (e : Int) then I q10 (m : Int) else if (c : Int) = (m : Int) then I q10 (e : Int) else I q10 (c : Int)) = _
    unfold swc
    by_cases w1 : c = m
    · rw [if_pos w1]
      by_cases w2 : c = e
      · rw [if_pos (by omega)]
        rw [show m = e by omega]
      · rw [if_neg (by omega), if_pos (by omega)]
    · rw [if_neg w1]
      by_cases w2 : c = e
      · rw [if_pos w2, if_pos (by omega)]
      · rw [if_neg w2, if_neg (by omega), if_neg (by omega)]
  have f04 : fr [q9, q10] I I4 := fr_trans (fr_mono f3 (by simp)) (fr_mono f4 (by simp))
  have e49 : I4 q9 = I q9 := by rw [f4 q9 q09, f3 q9 q09]
  have Lp : ∀ (u k : Nat) (J : cm_I) (x3 x5 : Option cm_V), k + u = m → fr [q9] I4 J → (∀ k' c : Nat, k' < k → c < s → J q9 ((s : Int) * k' + c) = I q9 ((s : Int) * k' + (swc m e c : Nat))) → (∀ y, (s : Int) * k ≤ y → J q9 y = I q9 y) → (∀ y, ∃ y', J q9 y = I q9 y') → cw d cd_Grade_turn (qU z fun I1 => fr [q9, q10] I I1 ∧ (∀ c : Nat, c < s → I1 q10 (c : Int) = I q10 ((swc m e c : Nat) : Int)) ∧ (∀ k c : Nat, k < m → c < s → I1 q9 ((s : Int) * k + c) = I q9 ((s : Int) * k + (swc m e c : Nat))) ∧ ∀ y, ∃ y', I1 q9 y = I q9 y') 29 [some (vR 2 a), some (vI (m : Int)), some (vI (e : Int)), x3, some (vI (k : Int)), x5] [] (J, z) := by
    intro u
    induction u with
    | zero =>
      intro k J x3 x5 ek hf hr ho hx
      have ja : J a = I a := by rw [hf a (by simpa using n1)]; exact f04 a na
      refine wr_Grade_turn_29 hz a0 y9 q9p ?_
      rw [ja, v6, v3]
      refine ⟨fun _ => qU_mk ⟨fr_trans f04 (fr_mono hf (by simp)), fun c hc => by rw [hf q10 (by simpa using Ne.symm n3)]; exact o4 c hc, fun k' c hk hc => hr k' c (by omega) hc, hx⟩, fun w => by omega⟩
    | succ u ih =>
      intro k J x3 x5 ek hf hr ho hx
      have ja : J a = I a := by rw [hf a (by simpa using n1)]; exact f04 a na
      obtain ⟨c1, c2, c3⟩ := nn_bd (n := s) (i := k) (by omega) (by omega)
      refine wr_Grade_turn_29 hz a0 y9 q9p ?_
      rw [ja, v6, v3]
      refine ⟨fun w => by omega, fun _ => ⟨by unfold cm_i; omega, by unfold cm_i; omega, ⟨by omega, by omega⟩, by unfold cm_i; omega, ⟨by omega, by omega⟩, fun I6 e6 => ?_⟩⟩
      obtain ⟨f6, g6⟩ := fr_eq_iu e6
      rw [f6 a (by simpa using n1), ja, v3]
      refine ⟨by unfold cm_i; omega, by unfold cm_i; omega, ⟨by omega, by omega⟩, fun I10 e10 => ⟨by unfold cm_i; omega, ?_⟩⟩
      obtain ⟨f10, g10⟩ := fr_eq_iu e10
      have hm1 := ho ((s : Int) * k + m) (by omega)
      have he1 := ho ((s : Int) * k + e) (by omega)
      rw [hm1] at g10 ⊢
      rw [he1] at g6
      have val : ∀ y, I10 q9 y = if y = (s : Int) * k + e then I q9 ((s : Int) * k + m) else if y = (s : Int) * k + m then I q9 ((s : Int) * k + e) else J q9 y := by
        intro y
        rw [g10]
        show (if y = (s : Int) * k + e then _ else I6 q9 y) = _
        rw [g6]
      have := ih (k + 1) I10 x3 (some (vI (I q9 ((s : Int) * k + m)))) (by omega) (fr_trans hf (fr_trans f6 f10)) (fun k' c hk hc => ?_) (fun y hy => ?_) (fun y => ?_)
      · rw [show ((k + 1 : Nat) : Int) = (k : Int) + 1 by omega] at this
        exact this
      · rw [val]
        by_cases w : k' = k
        · rw [w]
          unfold swc
          by_cases w1 : c = m
          · rw [if_pos w1]
            by_cases w2 : c = e
            · rw [if_pos (by omega), show m = e by omega]
            · rw [if_neg (by omega), if_pos (by omega)]
          · rw [if_neg w1]
            by_cases w2 : c = e
            · rw [if_pos w2, if_pos (by omega)]
            · rw [if_neg w2, if_neg (by omega), if_neg (by omega)]
              exact ho _ (by omega)
        · have dis := nn_dis (n := s) w
          rw [if_neg (by omega), if_neg (by omega)]
          exact hr k' c (by omega) hc
      · have e1 : (s : Int) * ((k + 1 : Nat) : Int) = (s : Int) * k + s := by rw [show ((k + 1 : Nat) : Int) = (k : Int) + 1 by omega, Int.mul_add, Int.mul_one]
        rw [val, if_neg (by omega), if_neg (by omega)]
        exact ho y (by omega)
      · rw [val]
        split
        · exact ⟨_, rfl⟩
        · split
          · exact ⟨_, rfl⟩
          · exact hx y
  have := Lp m 0 I4 (some (vI (I q10 (m : Int)))) none (by omega) (fr_refl _ _) (fun k' c hk => by omega) (fun y _ => by rw [e49]) (fun y => ⟨y, by rw [e49]⟩)
  exact this
/-- the first k columns of what stands in b are cleared -/
def clI (s k q9 q10 b : Nat) (p : Nat → cF) (I J : cm_I) : Prop := fr [b] I J ∧ (∀ x : Int, 0 ≤ x → x < s → 0 ≤ J b x ∧ J b x ≤ 2521 + k * 6355441) ∧ (∀ x : Nat, x < k → J b (x : Int) < 2521) ∧ clS s k (luA s (I q9)) (fun c => (I q10 (c : Int)).toNat) p (fun c => toF (J b (c : Int)))
theorem cl_next (hz : wz z) {a b q9 q10 s k : Nat} {J : cm_I} {p : Nat → cF} (a0 : 0 < a) (b0 : 0 < b) (q9p : 0 < q9) (y9 : z.1 a 9 = q9) (ab : a ≠ b) (qb : q9 ≠ b) (v3 : I a 3 = (s : Int)) (s136 : s ≤ 136) (hk : k < s) (lb : (s : Int) ≤ z.2.1 b) (l9 : (s : Int) * s ≤ z.2.1 q9) (o9 : okR (I q9)) (h : clI s k q9 q10 b p I J) : mU (d + 1) m_Grade_clearBehind [vR 2 a, vR 20 b, vI (k : Int)] z J (clI s (k + 1) q9 q10 b p I) := by
  obtain ⟨h1, h2, h3, h4⟩ := h
  obtain ⟨c1, c2, c3⟩ := nn_bd (n := s) (i := k) (by omega) hk
  have j9 : J q9 = I q9 := h1 q9 (by simpa using qb)
  refine mU_mono (t_clearBehind (d := d) hz (I := J) a0 b0 q9p y9 ab qb (by rw [h1 a (by simpa using ab)]; exact v3) s136 hk lb (by omega) (by rw [j9]; exact o9) (B := 2521 + k * 6355441) (by omega) h2) fun I1 ⟨k1, k2⟩ => ⟨fr_trans h1 k1, fun x x0 x1 => ?_, fun x hx => ?_, clS_step h4 (fun c hc => ?_) fun c hc hs => ?_⟩
  · rw [k2]
    have bk := h2 k (by omega) (by omega)
    have bx := h2 x x0 x1
    by_cases w : x = (k : Int)
    · rw [if_pos w]; omega
    · rw [if_neg w]
      by_cases w2 : (k : Int) < x ∧ x < s
      · rw [if_pos w2, j9]
        have oo := o9 ((s : Int) * k + x)
        have cb := cbF_bd (J b (k : Int))
        have pr := mul_bd (x := cbF (J b (k : Int))) (y := I q9 ((s : Int) * k + x)) (X := 2521) (Y := 2521) (by omega) (by omega) (by omega) (by omega)
        rw [show ((k + 1 : Nat) : Int) = (k : Int) + 1 by omega]
        omega
      · rw [if_neg w2]; omega
  · rw [k2]
    by_cases w : (x : Int) = (k : Int)
    · rw [if_pos w]; omega
    · rw [if_neg w, if_neg (by omega)]
      exact h3 x (by omega)
  · rw [k2]
    by_cases w : (c : Int) = (k : Int)
    · rw [if_pos w, w, toF_mod]
    · rw [if_neg w, if_neg (by omega)]
  · rw [k2, if_neg (by omega), if_pos (by omega), j9, toF_add, toF_mul, cbF_neg]
    exact cl_g1 _ _ _
end WTU
