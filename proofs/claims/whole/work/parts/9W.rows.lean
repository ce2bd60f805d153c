/-! THE REFERENCE rewrites one degree: the rows to solve -/
section SD
variable {d : Nat} {z : cm_Z} {Q : cm_Q} {a : Nat} {at_ t : Int} {n m : Nat}
def sdRow (a : Nat) (at_ t : Int) (n m : Nat) (I J : cm_I) (k : Nat) : Prop := (∀ p : Nat, p < m → J 226 (160 * (k : Int) + p) = I 247 ((n : Int) * p + k)) ∧ J 226 (160 * (k : Int) + m) = I a (at_ + mFrom (I 209 1) t + k)
theorem s_sd76 (hz : mz z) (ha : mA a) (a6 : a ≠ 226) (hn : n ≤ 136) (hm : m ≤ 136) {I : cm_I} (h53 : I 209 53 = (m : Int)) (t0 : 0 ≤ t) (t1 : t ≤ 15) (at0 : 0 ≤ at_) (at1 : at_ ≤ 1000000) (fr0 : 0 ≤ mFrom (I 209 1) t) (fr1 : at_ + mFrom (I 209 1) t + n ≤ mLen a) (fr2 : mFrom (I 209 1) t ≤ 1000) (ok6 : okR (I 226)) (oka : okR (I a)) (ok7 : ∀ p k : Nat, p < m → k < n → 0 ≤ I 247 ((n : Int) * p + k) ∧ I 247 ((n : Int) * p + k) < 2521) (H : ∀ (J : cm_I) (z6 z7 z8 z9 : Option cm_V), fr [226] I J → okR (J 226) → (∀ k : Nat, k < n → sdRow a at_ t n m I J k) → cw (d + 1) cd_Model_solvesDegree Q 76 [some (vR 12 209), some (vR 20 a), some (vI at_), some (vI t), some (vI (n : Int)), some (vI (n : Int)), z6, z7, z8, z9] [] (J, z)) : ∀ (z6 z7 z8 z9 : Option cm_V), cw (d + 1) cd_Model_solvesDegree Q 76 [some (vR 12 209), some (vR 20 a), some (vI at_), some (vI t), some (vI (n : Int)), some (vI 0), z6, z7, z8, z9] [] (I, z) := by
  have key : ∀ (c k : Nat) (J : cm_I) (z6 z7 z8 z9 : Option cm_V), k + c = n → fr [226] I J → okR (J 226) → (∀ k' : Nat, k' < k → sdRow a at_ t n m I J k') → cw (d + 1) cd_Model_solvesDegree Q 76 [some (vR 12 209), some (vR 20 a), some (vI at_), some (vI t), some (vI (n : Int)), some (vI (k : Int)), z6, z7, z8, z9] [] (J, z) := by
    intro c
    induction c with
    | zero =>
      intro k J z6 z7 z8 z9 e f o g
      have : k = n := by omega
      subst this
      exact H J z6 z7 z8 z9 f o g
    | succ c ih =>
      intro k J z6 z7 z8 z9 e f o g
      have inner : ∀ (u p : Nat) (J : cm_I), p + u = m → fr [226] I J → okR (J 226) → (∀ k' : Nat, k' < k → sdRow a at_ t n m I J k') → (∀ p' : Nat, p' < p → J 226 (160 * (k : Int) + p') = I 247 ((n : Int) * p' + k)) → cw (d + 1) cd_Model_solvesDegree Q 92 [some (vR 12 209), some (vR 20 a), some (vI at_), some (vI t), some (vI (n : Int)), some (vI (k : Int)), some (vI (p : Int)), z7, z8, z9] [] (J, z) := by
        intro u
        induction u with
        | zero =>
          intro p J e2 f o g g2
          have pm : p = m := by omega
          subst pm
          have e53 : J 209 53 = (p : Int) := by rw [f 209 (by decide)]; exact h53
          refine mr_solvesDegree_92 hz ha ⟨fun _ => ?_, fun q => by omega⟩
          rw [e53]
          refine ⟨⟨by omega, by omega⟩, ⟨by omega, by omega⟩, mI_mono (s_from hz t0 (by omega)) fun v4 J3 ⟨e3, e4⟩ => ?_⟩
          subst e3
          rw [f 209 (by decide)] at e4
          subst e4
          refine ⟨⟨by omega, by omega⟩, ⟨by omega, by omega⟩, ⟨by omega, by omega⟩, ⟨by omega, by omega⟩, fun J4 e5 => ⟨⟨by omega, by omega⟩, ?_⟩⟩
          obtain ⟨f4, h4⟩ := fr_eq_iu e5
          have fa : J3 a = I a := f a (by simp [a6])
          rw [fa] at h4
          refine ih (k + 1) J4 _ z7 z8 z9 (by omega) (fr_trans f f4) ?_ fun k' hk' => ?_
          · rw [h4]
            exact okR_st o (oka _).1 (oka _).2
          · by_cases e6 : k' = k
            · subst e6
              refine ⟨fun p' hp' => ?_, ?_⟩
              · rw [h4]
                show (if _ then _ else _) = _
                rw [if_neg (by omega)]
                exact g2 p' hp'
              · rw [h4]
                exact if_pos rfl
            · obtain ⟨r1, r2⟩ := g k' (by omega)
              refine ⟨fun p' hp' => ?_, ?_⟩
              · rw [h4]
                show (if _ then _ else _) = _
                rw [if_neg (by omega)]
                exact r1 p' hp'
              · rw [h4]
                show (if _ then _ else _) = _
                rw [if_neg (by omega)]
                exact r2
        | succ u ihu =>
          intro p J e2 f o g g2
          have e53 : J 209 53 = (m : Int) := by rw [f 209 (by decide)]; exact h53
          have np := mul_bd (x := (n : Int)) (y := (p : Int)) (X := 136) (Y := 135) (by omega) (by omega) (by omega) (by omega)
          refine mr_solvesDegree_92 hz ha ⟨fun q => by omega, fun _ => ⟨⟨by omega, by omega⟩, ⟨by omega, by omega⟩, ⟨by omega, by omega⟩, ⟨by omega, by omega⟩, ⟨by omega, by omega⟩, ⟨by omega, by omega⟩, fun J4 e5 => ⟨⟨by omega, by omega⟩, ?_⟩⟩⟩
          obtain ⟨f4, h4⟩ := fr_eq_iu e5
          rw [f 247 (by decide)] at h4
          have o7 := ok7 p k (by omega) (by omega)
          refine ihu (p + 1) J4 (by omega) (fr_trans f f4) ?_ (fun k' hk' => ?_) fun p' hp' => ?_
          · rw [h4]
            exact okR_st o o7.1 o7.2
          · obtain ⟨r1, r2⟩ := g k' hk'
            refine ⟨fun p' hp' => ?_, ?_⟩
            · rw [h4]
              show (if _ then _ else _) = _
              rw [if_neg (by omega)]
              exact r1 p' hp'
            · rw [h4]
              show (if _ then _ else _) = _
              rw [if_neg (by omega)]
              exact r2
          · rw [h4]
            show (if _ then _ else _) = _
            by_cases e6 : p' = p
            · rw [if_pos (by rw [e6]), e6]
            · rw [if_neg (by omega)]
              exact g2 p' (by omega)
      refine mr_solvesDegree_76 hz ⟨fun q => by omega, fun _ => mU_mono (s_clearsRow hz (by omega) (by omega) o) fun J1 h1 => ?_⟩
      obtain ⟨f1, c1, o1⟩ := h1
      refine inner m 0 J1 (by omega) (fr_trans f f1) o1 (fun k' hk' => ?_) fun p' hp' => absurd hp' (Nat.not_lt_zero p')
      obtain ⟨r1, r2⟩ := g k' hk'
      refine ⟨fun p' hp' => ?_, ?_⟩
      · rw [c1]
        unfold fillF
        rw [if_neg (by omega)]
        exact r1 p' hp'
      · rw [c1]
        unfold fillF
        rw [if_neg (by omega)]
        exact r2
  intro z6 z7 z8 z9
  exact key n 0 I z6 z7 z8 z9 (by omega) (fr_refl _ _) ok6 fun k' hk' => absurd hk' (Nat.not_lt_zero k')
/-- what is found is noted -/
theorem s_sd183 (hz : mz z) {q : tup4 → cF} {X : List tup4} {F : List (tup4 × Int)} {I : cm_I} (hX : X.length ≤ 136) (h53 : I 209 53 = (X.length : Int)) (bd : F.length + X.length ≤ 816) (h27 : ∀ i : Nat, i < X.length → I 227 (i : Int) = (i : Int)) (hv : ∀ i : Nat, i < X.length → I 226 (160 * (i : Int) + X.length) = fi (q (sx_at4 X i))) (hp : ∀ i : Nat, i < X.length → I 241 (i : Int) = (sx_at4 X i).1 ∧ I 242 (i : Int) = (sx_at4 X i).2.1 ∧ I 243 (i : Int) = (sx_at4 X i).2.2.1 ∧ I 244 (i : Int) = (sx_at4 X i).2.2.2) (H : ∀ J : cm_I, fr [209, 246] I J → (∀ s, s ≠ 60 → J 209 s = I 209 s) → fdSt 246 (F ++ rwL q X) J → J 209 60 = ((F ++ rwL q X).length : Int) → Q none (J, z)) : ∀ (c r : Nat) (J : cm_I) (z1 z2 z3 z4 z7 z8 z9 : Option cm_V), r + c = X.length → fr [209, 246] I J → (∀ s, s ≠ 60 → J 209 s = I 209 s) → fdSt 246 (F ++ rwL q (X.take r)) J → J 209 60 = ((F ++ rwL q (X.take r)).length : Int) → cw d cd_Model_solvesDegree Q 183 [some (vR 12 209), z1, z2, z3, z4, some (vI (X.length : Int)), some (vI (r : Int)), z7, z8, z9] [] (J, z) := by
  intro c
  induction c with
  | zero =>
    intro r J z1 z2 z3 z4 z7 z8 z9 e f s hf h60
    refine mr_solvesDegree_183 hz ⟨fun _ => H J f s ?_ ?_, fun w => by omega⟩
    · rw [show r = X.length by omega, List.take_length] at hf; exact hf
    · rw [show r = X.length by omega, List.take_length] at h60; exact h60
  | succ c ih =>
    intro r J z1 z2 z3 z4 z7 z8 z9 e f s hf h60
    have hr : r < X.length := by omega
    have e53 : J 209 53 = (X.length : Int) := by rw [s 53 (by decide)]; exact h53
    have tk : rwL q (X.take (r + 1)) = rwL q (X.take r) ++ (if q (sx_at4 X r) = 0 then [] else [(sx_at4 X r, fi (q (sx_at4 X r)))]) := by
      rw [take_at4 hr, rwL_ap]
      congr 1
    have l1 := rwL_len q (X.take r)
    rw [List.length_take] at l1
    have l2 : ((F ++ rwL q (X.take r)).length : Int) ≤ 815 := by rw [List.length_append]; omega
    refine mr_solvesDegree_183 hz ⟨fun w => by omega, fun _ => ?_⟩
    rw [e53, f 226 (by decide), hv r hr, f 227 (by decide), h27 r hr, h60]
    refine ⟨⟨by omega, by omega⟩, ⟨by omega, by omega⟩, ⟨by omega, by omega⟩, fun z0 => ⟨⟨by omega, by omega⟩, ?_⟩, fun nz => ?_⟩
    · have z0' : q (sx_at4 X r) = 0 := fi_zero.mp z0
      rw [if_pos z0', List.append_nil] at tk
      exact ih (r + 1) J z1 z2 z3 z4 _ z8 z9 (by omega) f s (by rw [tk]; exact hf) (by rw [tk]; exact h60)
    · have nz' : ¬ q (sx_at4 X r) = 0 := fun w => nz (fi_zero.mpr w)
      rw [if_neg nz'] at tk
      obtain ⟨p1, p2, p3, p4⟩ := hp r hr
      refine ⟨⟨by omega, by omega⟩, ⟨by omega, by omega⟩, ⟨by omega, by omega⟩, ⟨by omega, by omega⟩, fun J1 e1 => ?_⟩
      obtain ⟨f1, g1⟩ := fr_eq_iu e1
      refine ⟨⟨by omega, by omega⟩, ⟨by omega, by omega⟩, fun J2 e2 => ?_⟩
      obtain ⟨f2, g2⟩ := fr_eq_iu e2
      refine ⟨⟨by omega, by omega⟩, ⟨by omega, by omega⟩, fun J3 e3 => ?_⟩
      obtain ⟨f3, g3⟩ := fr_eq_iu e3
      refine ⟨⟨by omega, by omega⟩, ⟨by omega, by omega⟩, fun J4 e4 => ?_⟩
      obtain ⟨f4, g4⟩ := fr_eq_iu e4
      refine ⟨⟨by omega, by omega⟩, ⟨by omega, by omega⟩, fun J5 e5 => ?_⟩
      obtain ⟨f5, g5⟩ := fr_eq_iu e5
      have f15 : fr [246] J J5 := fr_trans f1 (fr_trans f2 (fr_trans f3 (fr_trans f4 f5)))
      rw [f15 209 (by decide), h60]
      refine ⟨⟨by omega, by omega⟩, fun J6 e6 => ⟨⟨by omega, by omega⟩, ?_⟩⟩
      obtain ⟨f6, g6⟩ := fr_eq_iu e6
      have f16 : fr [209, 246] J J6 := fr_trans (fr_mono f15 (by decide)) (fr_mono f6 (by decide))
      have v246 : J6 246 = J5 246 := f6 246 (by decide)
      rw [f 241 (by decide), p1] at g1
      rw [f1 242 (by decide), f 242 (by decide), p2] at g2
      rw [f2 243 (by decide), f1 243 (by decide), f 243 (by decide), p3] at g3
      rw [f3 244 (by decide), f2 244 (by decide), f1 244 (by decide), f 244 (by decide), p4] at g4
      generalize hlen : ((F ++ rwL q (X.take r)).length : Int) = N at *
      have at5 : ∀ x, J6 246 x = if x = 5 * N + 4 then fi (q (sx_at4 X r)) else if x = 5 * N + 3 then (sx_at4 X r).2.2.2 else if x = 5 * N + 2 then (sx_at4 X r).2.2.1 else if x = 5 * N + 1 then (sx_at4 X r).2.1 else if x = 5 * N then (sx_at4 X r).1 else J 246 x := by
        intro x
        rw [v246, g5, g4, g3, g2, g1]
      refine ih (r + 1) J6 z1 z2 z3 z4 _ _ _ (by omega) (fr_trans f f16) (fun s' hs' => ?_) ?_ ?_
      · rw [g6]
        show (if _ then _ else _) = _
        rw [if_neg hs', f15 209 (by decide)]
        exact s s' hs'
      · rw [tk, ← List.append_assoc]
        refine fdSt_add hf (fun x hx => ?_) ?_ ?_ ?_ ?_ ?_
        · rw [hlen] at hx
          rw [at5, if_neg (by omega), if_neg (by omega), if_neg (by omega), if_neg (by omega), if_neg (by omega)]
        · rw [hlen, at5, if_neg (by omega), if_neg (by omega), if_neg (by omega), if_neg (by omega), if_pos rfl]
        · rw [hlen, at5, if_neg (by omega), if_neg (by omega), if_neg (by omega), if_pos rfl]
        · rw [hlen, at5, if_neg (by omega), if_neg (by omega), if_pos rfl]
        · rw [hlen, at5, if_neg (by omega), if_pos rfl]
        · rw [hlen, at5, if_pos rfl]
      · rw [tk, ← List.append_assoc, List.length_append, g6]
        show (if _ then _ else _) = _
        rw [if_pos rfl, ← hlen]
        rfl
end SD
