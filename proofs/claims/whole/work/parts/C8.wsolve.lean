/-! Grade.solve: from parts to factors -/
section WSO
variable {d : Nat} {z : cm_Z} {I : cm_I}
theorem t_gSolve (hz : wz z) {a b q9 q10 s : Nat} {C : Nat → Nat → cF} {p : Nat → cF} (a0 : 0 < a) (b0 : 0 < b) (q9p : 0 < q9) (y9 : z.1 a 9 = q9) (ab : a ≠ b) (n9b : q9 ≠ b) (n10b : q10 ≠ b) (v3 : I a 3 = (s : Int)) (v6 : I a 6 = (s : Int)) (s136 : s ≤ 136) (l9 : (s : Int) * s ≤ z.2.1 q9) (lb : (s : Int) ≤ z.2.1 b) (h : luI s s q9 q10 C I) (hp : ∀ c : Nat, c < s → (0 ≤ I b (c : Int) ∧ I b (c : Int) < 2521) ∧ toF (I b (c : Int)) = p (I q10 (c : Int)).toNat) : mU (d + 2) m_Grade_solve [vR 2 a, vR 20 b] z I fun I1 => fr [b] I I1 ∧ ∃ f : Nat → cF, (∀ r, r < s → p r = lc s f C r) ∧ ∀ c : Nat, c < s → I1 b (c : Int) = fi (f c) := by
  obtain ⟨o9, o10, hlu⟩ := id h
  obtain ⟨Q, hQ⟩ : ∃ Q : cm_Q, Q = qU z fun I1 => fr [b] I I1 ∧ ∃ f : Nat → cF, (∀ r, r < s → p r = lc s f C r) ∧ ∀ c : Nat, c < s → I1 b (c : Int) = fi (f c) := ⟨_, rfl⟩
  have nb : ∀ c, c ≠ b → c ∉ [b] := fun c hc => by simpa using hc
  -- back from the last one
  have L29 : ∀ (t : Nat) (w : Nat → cF) (K : cm_I) (x3 x4 x5 : Option cm_V), t ≤ s → clS s s (luA s (I q9)) (fun c => (I q10 (c : Int)).toNat) p w → fr [b] I K → (∀ x : Nat, x < s → 0 ≤ K b (x : Int) ∧ (t ≤ x → K b (x : Int) < 2521) ∧ K b (x : Int) ≤ 2521 + ((s : Int) - t) * 6355441) → bkS s t (luA s (I q9)) w (fun c => toF (K b (c : Int))) → cw (d + 1) cd_Grade_solve Q 29 [some (vR 2 a), some (vR 20 b), some (vI ((t : Int) - 1)), x3, x4, x5] [] (K, z) := by
    intro t
    induction t with
    | zero =>
      intro w K x3 x4 x5 ts hw hf hb hg
      refine wr_Grade_solve_29 hz a0 b0 y9 q9p ⟨fun _ => ?_, fun q => by omega⟩
      rw [hQ]
      refine qU_mk ⟨hf, fun c => toF (K b (c : Int)), lu_span hlu hw (fun c h1 h2 => by omega) hg, fun c hc => ?_⟩
      have := hb c hc
      rw [fi_toF]
      have := this.2.1 (by omega)
      omega
    | succ t ih =>
      intro w K x3 x4 x5 ts hw hf hb hg
      have ka : K a = I a := hf a (nb a ab)
      have k9 : K q9 = I q9 := hf q9 (nb q9 n9b)
      obtain ⟨c1, c2, c3⟩ := nn_bd (n := s) (i := t) (by omega) (by omega)
      have bt := hb t (by omega)
      have ot := o9 ((s : Int) * t + t)
      have et : ((t + 1 : Nat) : Int) - 1 = (t : Int) := by omega
      rw [et]
      refine wr_Grade_solve_29 hz a0 b0 y9 q9p ?_
      rw [ka, v3, k9, Int.tmod_eq_emod_of_nonneg bt.1]
      refine ⟨fun q => by omega, fun _ => ⟨by unfold cm_i; omega, ⟨by omega, by omega⟩, by unfold cm_i; omega, ⟨by omega, by omega⟩, ?_⟩⟩
      refine mI_mono (t_inv (d := d) hz (I := K) (x := I q9 ((s : Int) * t + t)) ot.1 ot.2) fun r I5 ⟨e5, er⟩ => ?_
      rw [e5]
      have rb := fi_bd (fInv (toF (I q9 ((s : Int) * t + t))))
      rw [← er] at rb
      have pr := mul_bd (x := K b (t : Int) % 2521) (y := r) (X := 2521) (Y := 2521) (by omega) (by omega) (by omega) (by omega)
      rw [Int.tmod_eq_emod_of_nonneg pr.1]
      refine ⟨by unfold cm_i; omega, fun I8 e8 => ?_⟩
      obtain ⟨f8, g8⟩ := fr_eq_iu e8
      obtain ⟨fc, hfc⟩ : ∃ fc, fc = K b (t : Int) % 2521 * r % 2521 := ⟨_, rfl⟩
      rw [← hfc] at g8 ⊢
      have L76 : ∀ (u x : Nat) (M : cm_I), x + u = t → fr [b] I M → (∀ y : Int, M b y = if y = (t : Int) then fc else if 0 ≤ y ∧ y < x then K b y + (2521 - fc) * I q9 ((s : Int) * t + y) else K b y) → cw (d + 1) cd_Grade_solve Q 76 [some (vR 2 a), some (vR 20 b), some (vI (t : Int)), some (vI ((s : Int) * t)), some (vI fc), some (vI (x : Int))] [] (M, z) := by
        intro u
        induction u with
        | zero =>
          intro x M ex hM hv
          have xt : x = t := by omega
          refine wr_Grade_solve_76 hz b0 a0 y9 q9p ⟨fun _ => ⟨by unfold cm_i; omega, ?_⟩, fun q => by omega⟩
          rw [show (t : Int) + (-1) = (t : Int) - 1 by omega]
          rw [xt] at hv
          have dg := hlu.2.2.2.1 t (by omega)
          refine ih w M _ _ _ (by omega) hw hM (fun y hy => ?_) (bkS_step (g := fun c => toF (K b (c : Int))) (by omega) hg ?_ (fun j hj => ?_) fun i hi => ?_)
          · rw [hv]
            have by_ := hb y hy
            have ey : ((s : Int) - ((t + 1 : Nat) : Int)) * 6355441 + 6355441 = ((s : Int) - (t : Int)) * 6355441 := by omega
            by_cases w1 : (y : Int) = (t : Int)
            · rw [if_pos w1]
              refine ⟨by omega, fun _ => by omega, ?_⟩
              omega
            · rw [if_neg w1]
              by_cases w2 : 0 ≤ (y : Int) ∧ (y : Int) < t
              · rw [if_pos w2]
                have oo := o9 ((s : Int) * t + y)
                have pr2 := mul_bd (x := 2521 - fc) (y := I q9 ((s : Int) * t + y)) (X := 2521) (Y := 2521) (by omega) (by omega) (by omega) (by omega)
                exact ⟨by omega, fun q => by omega, by omega⟩
              · rw [if_neg w2]
                exact ⟨by omega, fun q => by_.2.1 (by omega), by omega⟩
          · show toF (M b (t : Int)) * toF (I q9 ((s : Int) * t + t)) = toF (K b (t : Int))
            rw [hv, if_pos rfl, hfc, toF_mod, toF_mul, toF_mod, er, toF_fi]
            have inv : toF (I q9 ((s : Int) * t + t)) * fInv (toF (I q9 ((s : Int) * t + t))) = 1 := fInv_mul dg
            generalize toF (I q9 ((s : Int) * t + t)) = x at inv ⊢
            generalize fInv x = y at inv ⊢
            generalize toF (K b (t : Int)) = v
            have gen : ∀ {R : Type} [Lean.Grind.CommRing R] (v x y : R), x * y = 1 → v * y * x = v := by intro R _ v x y h; grind
            exact gen v x y inv
          · show toF (M b (j : Int)) = toF (K b (j : Int)) - toF (M b (t : Int)) * toF (I q9 ((s : Int) * t + j))
            rw [hv, if_neg (by omega), if_pos (by omega), hv, if_pos rfl, toF_add, toF_mul, toF_sub, show toF 2521 = 0 from toF_eq.mpr rfl]
            generalize toF (K b (j : Int)) = x
            generalize toF fc = y
            generalize toF (I q9 ((s : Int) * t + j)) = v
            have gen : ∀ {R : Type} [Lean.Grind.CommRing R] (x y v : R), x + (0 - y) * v = x - y * v := by intro R _ x y v; grind
            exact gen x y v
          · show toF (M b (i : Int)) = toF (K b (i : Int))
            rw [hv, if_neg (by omega), if_neg (by omega)]
        | succ u ihu =>
          intro x M ex hM hv
          have k9' : M q9 = I q9 := hM q9 (nb q9 n9b)
          have bx := hb x (by omega)
          have oo := o9 ((s : Int) * t + x)
          have fcb : 0 ≤ fc ∧ fc < 2521 := by omega
          have pr2 := mul_bd (x := 2521 - fc) (y := I q9 ((s : Int) * t + x)) (X := 2521) (Y := 2521) (by omega) (by omega) (by omega) (by omega)
          have mx : M b (x : Int) = K b (x : Int) := by rw [hv, if_neg (by omega), if_neg (by omega)]
          refine wr_Grade_solve_76 hz b0 a0 y9 q9p ?_
          rw [k9', mx]
          refine ⟨fun q => by omega, fun _ => ⟨⟨by omega, by omega⟩, by unfold cm_i; omega, by unfold cm_i; omega, ⟨by omega, by omega⟩, by unfold cm_i; omega, by unfold cm_i; omega, fun I9 e9 => ⟨by unfold cm_i; omega, ?_⟩⟩⟩
          obtain ⟨f9, g9⟩ := fr_eq_iu e9
          have := ihu (x + 1) I9 (by omega) (fr_trans hM f9) fun y => ?_
          · exact this
          · rw [g9]
            show (if y = (x : Int) then _ else M b y) = _
            by_cases w0 : y = (x : Int)
            · rw [if_pos w0, if_neg (by omega), if_pos (by omega), w0]
            · rw [if_neg w0, hv]
              by_cases w1 : y = (t : Int)
              · rw [if_pos w1, if_pos w1]
              · rw [if_neg w1, if_neg w1]
                by_cases w2 : 0 ≤ y ∧ y < x
                · rw [if_pos w2, if_pos (by omega)]
                · rw [if_neg w2, if_neg (by omega)]
      refine L76 t 0 I8 (by omega) (fr_trans hf f8) fun y => ?_
      rw [g8]
      show (if y = (t : Int) then fc else K b y) = _
      by_cases w1 : y = (t : Int)
      · rw [if_pos w1, if_pos w1]
      · rw [if_neg w1, if_neg w1, if_neg (by omega)]
  have L2 : ∀ (u k : Nat) (J : cm_I) (x3 x4 x5 : Option cm_V), k + u = s → clI s k q9 q10 b p I J → cw (d + 1) cd_Grade_solve Q 2 [some (vR 2 a), some (vR 20 b), some (vI (k : Int)), x3, x4, x5] [] (J, z) := by
    intro u
    induction u with
    | zero =>
      intro k J x3 x4 x5 ek hJ
      have ja : J a = I a := hJ.1 a (nb a ab)
      have km : k = s := by omega
      rw [km] at hJ
      refine wr_Grade_solve_2 hz a0 ?_
      rw [ja, v6]
      refine ⟨fun _ => ⟨by unfold cm_i; omega, ?_⟩, fun w => by omega⟩
      refine L29 s (fun c => toF (J b (c : Int))) J x3 x4 x5 (Nat.le_refl _) hJ.2.2.2 hJ.1 (fun x hx => ?_) bkS_0
      have h2 := hJ.2.1 x (by omega) (by omega)
      have h3 := hJ.2.2.1 x hx
      exact ⟨h2.1, fun _ => h3, by omega⟩
    | succ u ih =>
      intro k J x3 x4 x5 ek hJ
      have ja : J a = I a := hJ.1 a (nb a ab)
      refine wr_Grade_solve_2 hz a0 ?_
      rw [ja, v6]
      refine ⟨fun w => by omega, fun _ => mU_mono (cl_next (d := d) hz a0 b0 q9p y9 ab n9b v3 s136 (by omega) lb l9 o9 hJ) fun J1 hJ1 => ⟨by unfold cm_i; omega, ?_⟩⟩
      exact ih (k + 1) J1 x3 x4 x5 (by omega) hJ1
  show cm_call (d + 2) m_Grade_solve _ (I, z) (qU z fun I1 => fr [b] I I1 ∧ ∃ f : Nat → cF, (∀ r, r < s → p r = lc s f C r) ∧ ∀ c : Nat, c < s → I1 b (c : Int) = fi (f c))
  rw [← hQ]
  refine wr_Grade_solve hz a0 (L2 s 0 I none none none (by omega) ⟨fr_refl _ _, fun x x0 x1 => ?_, fun x hx => by omega, clS_0 fun c hc => (hp c hc).2⟩)
  have := (hp x.toNat (by omega)).1
  rw [show ((x.toNat : Nat) : Int) = x by omega] at this
  omega
end WSO
