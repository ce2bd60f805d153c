/-! Grade.insert: parts are taken as one product more, if they are no sum of those there are -/
section WIN
variable {d : Nat} {z : cm_Z} {I : cm_I}
def inR (s m a b q9 q10 : Nat) (C : Nat → Nat → cF) (p : Nat → cF) (I : cm_I) (r : Int) (I1 : cm_I) : Prop := (r = 0 ∧ fr [b] I I1 ∧ inS s m C p) ∨ (r = 1 ∧ fr [a, b, q9, q10] I I1 ∧ m < s ∧ (I1 a = fun j => if j = 6 then ((m + 1 : Nat) : Int) else I a j) ∧ luI s (m + 1) q9 q10 (fun i => if i = m then p else C i) I1)
theorem t_gInsert (hz : wz z) {a b q9 q10 s m : Nat} {C : Nat → Nat → cF} {p : Nat → cF} (a0 : 0 < a) (b0 : 0 < b) (q9p : 0 < q9) (q10p : 0 < q10) (y9 : z.1 a 9 = q9) (y10 : z.1 a 10 = q10) (n1 : a ≠ q9) (n2 : a ≠ q10) (n3 : q9 ≠ q10) (ab : a ≠ b) (n9b : q9 ≠ b) (n10b : q10 ≠ b) (v3 : I a 3 = (s : Int)) (v6 : I a 6 = (m : Int)) (s136 : s ≤ 136) (l9 : (s : Int) * s ≤ z.2.1 q9) (l10 : (s : Int) ≤ z.2.1 q10) (lb : (s : Int) ≤ z.2.1 b) (h : luI s m q9 q10 C I) (hp : ∀ c : Nat, c < s → (0 ≤ I b (c : Int) ∧ I b (c : Int) < 2521) ∧ toF (I b (c : Int)) = p (I q10 (c : Int)).toNat) : mI (d + 2) m_Grade_insert [vR 2 a, vR 20 b] z I (inR s m a b q9 q10 C p I) := by
  obtain ⟨o9, o10, hlu⟩ := id h
  have ms := hlu.1
  obtain ⟨Q, hQ⟩ : ∃ Q : cm_Q, Q = qI z (inR s m a b q9 q10 C p I) := ⟨_, rfl⟩
  have nb : ∀ c, c ≠ b → c ∉ [b] := fun c hc => by simpa using hc
  -- the first one that is left
  have L27 : ∀ (u e : Nat) (J : cm_I) (x3 x4 x5 x6 : Option cm_V), e + u = s → m ≤ e → clI s m q9 q10 b p I J → (∀ c : Nat, m ≤ c → c < e → toF (J b (c : Int)) = 0) → cw (d + 1) cd_Grade_insert Q 27 [some (vR 2 a), some (vR 20 b), some (vI (e : Int)), x3, x4, x5, x6] [] (J, z) := by
    intro u
    have go51 : ∀ (e : Nat) (J : cm_I) (x3 x4 x5 x6 : Option cm_V), m ≤ e → e < s → clI s m q9 q10 b p I J → ¬ J b (e : Int) % 2521 = 0 → cw (d + 1) cd_Grade_insert Q 51 [some (vR 2 a), some (vR 20 b), some (vI (e : Int)), x3, x4, x5, x6] [] (J, z) := by
      intro e J x3 x4 x5 x6 me es hJ nz
      obtain ⟨j1, j2, j3, j4⟩ := id hJ
      have ja : J a = I a := j1 a (nb a ab)
      have j9 : J q9 = I q9 := j1 q9 (nb q9 n9b)
      have j10 : J q10 = I q10 := j1 q10 (nb q10 n10b)
      have m136 : m < s := by omega
      obtain ⟨c1, c2, c3⟩ := nn_bd (n := s) (i := m) (by omega) m136
      refine wr_Grade_insert_51 hz a0 b0 ?_
      rw [ja, v3, v6]
      refine ⟨fun _ => ?_, fun w => by omega⟩
      refine mU_mono (t_turn (d := d) hz (I := J) (s := s) (m := m) (e := e) a0 q9p q10p y9 y10 n1 n2 n3 (by rw [ja]; exact v3) (by rw [ja]; exact v6) s136 m136 me es l9 l10) fun I1 ⟨t1, t2, t3, t4⟩ => ?_
      have t1' : ∀ c, c ≠ q9 → c ≠ q10 → I1 c = J c := fun c h1 h2 => t1 c (by simp; exact ⟨h1, h2⟩)
      have ia : I1 a = I a := by rw [t1' a n1 n2]; exact ja
      have ib : I1 b = J b := t1' b (Ne.symm n9b) (Ne.symm n10b)
      rw [ia, v6, ib]
      have be := j2 e (by omega) (by omega)
      have bm := j2 m (by omega) (by omega)
      refine ⟨⟨by omega, by omega⟩, ⟨by omega, by omega⟩, fun I4 e4 => ?_⟩
      obtain ⟨f4, g4⟩ := fr_eq_iu e4
      rw [Int.tmod_eq_emod_of_nonneg be.1]
      obtain ⟨pv, hpv⟩ : ∃ pv, pv = J b (e : Int) % 2521 := ⟨_, rfl⟩
      rw [← hpv] at nz ⊢
      refine mI_mono (t_inv (d := d) hz (I := I4) (x := pv) (by omega) (by omega)) fun r I5 ⟨e5, er⟩ => ?_
      rw [e5]
      have ia4 : I4 a = I a := by rw [f4 a (nb a ab)]; exact ia
      have i49 : I4 q9 = I1 q9 := f4 q9 (nb q9 n9b)
      have i410 : I4 q10 = I1 q10 := f4 q10 (nb q10 n10b)
      have b4 : ∀ c : Nat, c < s → c ≠ m → I4 b (c : Int) = J b ((swc m e c : Nat) : Int) := by
        intro c hc hcm
        rw [g4]
        show (if (c : Int) = (e : Int) then J b (m : Int) else I1 b (c : Int)) = _
        rw [ib]
        unfold swc
        rw [if_neg hcm]
        by_cases w : c = e
        · rw [if_pos w, if_pos (by omega)]
        · rw [if_neg w, if_neg (by omega)]
      have bb : ∀ x : Int, 0 ≤ x → x < s → 0 ≤ I4 b x ∧ I4 b x ≤ 1000000000 := by
        intro x x0 x1
        rw [g4]
        show 0 ≤ (if x = (e : Int) then J b (m : Int) else I1 b x) ∧ (if x = (e : Int) then J b (m : Int) else I1 b x) ≤ _
        rw [ib]
        have := j2 x x0 x1
        by_cases w : x = (e : Int)
        · rw [if_pos w]; omega
        · rw [if_neg w]; omega
      have blo_ : ∀ c : Nat, c < m → I4 b (c : Int) < 2521 ∧ toF (I4 b (c : Int)) = toF (J b (c : Int)) := by
        intro c hc
        have e1 : swc m e c = c := by unfold swc; rw [if_neg (by omega), if_neg (by omega)]
        rw [b4 c (by omega) (by omega), e1]
        exact ⟨j3 c hc, rfl⟩
      rw [ia4, v3, v6]
      refine ⟨by unfold cm_i; omega, ?_⟩
      have rb := fi_bd (fInv (toF pv))
      rw [← er] at rb
      -- the row behind the corner
      have L160 : ∀ (u x : Nat) (K : cm_I) (x2 x3 : Option cm_V), x + u = s → m < x → fr [q9] I4 K → (∀ y : Int, K q9 y = if (s : Int) * m ≤ y ∧ y < (s : Int) * m + m then I4 b (y - (s : Int) * m) else if y = (s : Int) * m + m then pv else if (s : Int) * m + m < y ∧ y < (s : Int) * m + x then I4 b (y - (s : Int) * m) % 2521 * r % 2521 else I4 q9 y) → cw (d + 1) cd_Grade_insert Q 160 [some (vR 2 a), some (vR 20 b), x2, x3, some (vI r), some (vI ((s : Int) * m)), some (vI (x : Int))] [] (K, z) := by
        intro u
        induction u with
        | zero =>
          intro x K x2 x3 ex mx hf hv
          have xs : x = s := by omega
          have ka : K a = I a := by rw [hf a (by simpa using n1)]; exact ia4
          have k10 : K q10 = I1 q10 := by rw [hf q10 (by simpa using Ne.symm n3)]; exact i410
          refine wr_Grade_insert_160 hz a0 y9 b0 q9p ?_
          rw [ka, v3, v6]
          refine ⟨fun _ => ⟨by unfold cm_i; omega, fun I9 e9 => ?_⟩, fun w => by omega⟩
          obtain ⟨f9, g9⟩ := fr_eq_iu e9
          rw [hQ]
          refine qI_mk (Or.inr ⟨rfl, ?_, m136, ?_, ?_, ?_, ?_⟩)
          · intro c hc
            simp at hc
            rw [f9 c (by simpa using hc.1), hf c (by simpa using hc.2.2.1), f4 c (by simpa using hc.2.1), t1' c hc.2.2.1 hc.2.2.2, j1 c (by simpa using hc.2.1)]
          · rw [g9, ka]
            funext j
            show (if j = 6 then (m : Int) + 1 else I a j) = if j = 6 then ((m + 1 : Nat) : Int) else I a j
            rw [show ((m + 1 : Nat) : Int) = (m : Int) + 1 by omega]
          · -- small numbers
            rw [f9 q9 (by simpa using Ne.symm n1)]
            intro y
            rw [hv]
            split
            · rename_i w
              have := (blo_ (y - (s : Int) * m).toNat (by omega)).1
              rw [show (((y - (s : Int) * m).toNat : Nat) : Int) = y - (s : Int) * m by omega] at this
              have := bb (y - (s : Int) * m) (by omega) (by omega)
              omega
            · split
              · omega
              · split
                · have : 0 ≤ I4 b (y - (s : Int) * m) % 2521 * r := Int.mul_nonneg (by omega) (by omega)
                  omega
                · rw [i49]
                  obtain ⟨y', hy'⟩ := t4 y
                  rw [hy', j9]
                  exact o9 y'
          · rw [f9 q10 (by simpa using Ne.symm n2), k10]
            intro c hc
            rw [t2 c hc, j10]
            refine o10 _ ?_
            unfold swc
            split
            · exact es
            · split <;> omega
          · rw [f9 q9 (by simpa using Ne.symm n1), f9 q10 (by simpa using Ne.symm n2), k10]
            have row : ∀ c : Nat, K q9 ((s : Int) * m + c) = if c < m then I4 b (c : Int) else if c = m then pv else if c < s then I4 b (c : Int) % 2521 * r % 2521 else I4 q9 ((s : Int) * m + c) := by
              intro c
              rw [hv, show (s : Int) * m + c - (s : Int) * m = (c : Int) by omega]
              by_cases w1 : c < m
              · rw [if_pos (by omega), if_pos w1]
              · rw [if_neg (by omega), if_neg w1]
                by_cases w2 : c = m
                · rw [if_pos (by omega), if_pos w2]
                · rw [if_neg (by omega), if_neg w2]
                  by_cases w3 : c < s
                  · rw [if_pos (by omega), if_pos w3]
                  · rw [if_neg (by omega), if_neg w3]
            have pve : toF pv = toF (J b (e : Int)) := by rw [hpv, toF_mod]
            refine lu_ins (w := fun c => toF (J b (c : Int))) (e := e) hlu j4 me es ?_ (fun c hc => ?_) (fun k c hk hc => ?_) (fun c hc => ?_) ?_ fun c hc hs => ?_
            · rw [← pve]
              intro w0
              exact nz ((toF_eq_zero (by omega) (by omega)).mp w0)
            · show (I1 q10 (c : Int)).toNat = _
              rw [t2 c hc, j10]
            · show toF (K q9 ((s : Int) * k + c)) = toF (I q9 ((s : Int) * k + (swc m e c : Nat)))
              have dis := nn_dis (n := s) (i := k) (j := m) (by omega)
              have bk := nn_bd (n := s) (i := k) (by omega) (by omega)
              have km : (s : Int) * k + s ≤ (s : Int) * m := by
                rcases dis with w | w
                · exact w
                · have := Int.mul_le_mul_of_nonneg_left (show (k : Int) ≤ m by omega) (show (0 : Int) ≤ s by omega)
                  omega
              rw [hv, if_neg (by omega), if_neg (by omega), if_neg (by omega), i49, t3 k c hk hc, j9]
            · show toF (K q9 ((s : Int) * m + c)) = _
              rw [row, if_pos hc]
              exact (blo_ c hc).2
            · show toF (K q9 ((s : Int) * m + m)) = _
              rw [row, if_neg (by omega), if_pos rfl]
              exact pve
            · show toF (K q9 ((s : Int) * m + c)) = toF (J b ((swc m e c : Nat) : Int)) * fInv (toF (J b (e : Int)))
              rw [row, if_neg (by omega), if_neg (by omega), if_pos hs, toF_mod, toF_mul, toF_mod, b4 c hs (by omega), er, toF_fi, pve]
        | succ u ih =>
          intro x K x2 x3 ex mx hf hv
          have ka : K a = I a := by rw [hf a (by simpa using n1)]; exact ia4
          have kb : K b = I4 b := hf b (by simpa using Ne.symm n9b)
          have bx := bb x (by omega) (by omega)
          have pr := mul_bd (x := I4 b (x : Int) % 2521) (y := r) (X := 2521) (Y := 2521) (by omega) (by omega) (by omega) (by omega)
          refine wr_Grade_insert_160 hz a0 y9 b0 q9p ?_
          rw [ka, v3, v6, kb, Int.tmod_eq_emod_of_nonneg bx.1, Int.tmod_eq_emod_of_nonneg pr.1]
          refine ⟨fun w => by omega, fun _ => ⟨by unfold cm_i; omega, ⟨by omega, by omega⟩, by unfold cm_i; omega, ⟨by omega, by omega⟩, fun I7 e7 => ⟨by unfold cm_i; omega, ?_⟩⟩⟩
          obtain ⟨f7, g7⟩ := fr_eq_iu e7
          have := ih (x + 1) I7 x2 x3 (by omega) (by omega) (fr_trans hf f7) fun y => ?_
          · exact this
          · rw [g7]
            show (if y = (s : Int) * m + x then _ else K q9 y) = _
            by_cases w : y = (s : Int) * m + x
            · rw [if_pos w, if_neg (by omega), if_neg (by omega), if_pos (by omega), w, show (s : Int) * m + x - (s : Int) * m = (x : Int) by omega]
            · rw [if_neg w, hv]
              by_cases w1 : (s : Int) * m ≤ y ∧ y < (s : Int) * m + m
              · rw [if_pos w1, if_pos w1]
              · rw [if_neg w1, if_neg w1]
                by_cases w2 : y = (s : Int) * m + m
                · rw [if_pos w2, if_pos w2]
                · rw [if_neg w2, if_neg w2]
                  by_cases w3 : (s : Int) * m + m < y ∧ y < (s : Int) * m + x
                  · rw [if_pos w3, if_pos (by omega)]
                  · rw [if_neg w3, if_neg (by omega)]
      -- the row before the corner
      have L110 : ∀ (u x : Nat) (K : cm_I) (x2 : Option cm_V), x + u = m → fr [q9] I4 K → (∀ y : Int, K q9 y = if (s : Int) * m ≤ y ∧ y < (s : Int) * m + x then I4 b (y - (s : Int) * m) else I4 q9 y) → cw (d + 1) cd_Grade_insert Q 110 [some (vR 2 a), some (vR 20 b), x2, some (vI pv), some (vI r), some (vI ((s : Int) * m)), some (vI (x : Int))] [] (K, z) := by
        intro u
        induction u with
        | zero =>
          intro x K x2 ex hf hv
          have xm : x = m := by omega
          have ka : K a = I a := by rw [hf a (by simpa using n1)]; exact ia4
          refine wr_Grade_insert_110 hz a0 y9 q9p b0 ?_
          rw [ka, v6]
          refine ⟨fun _ => ⟨by unfold cm_i; omega, ⟨by omega, by omega⟩, fun I3 e3 => ?_⟩, fun w => by omega⟩
          obtain ⟨f3, g3⟩ := fr_eq_iu e3
          rw [f3 a (by simpa using n1), ka, v6]
          refine ⟨by unfold cm_i; omega, ?_⟩
          have := L160 (s - (m + 1)) (m + 1) I3 x2 (some (vI pv)) (by omega) (by omega) (fr_trans hf f3) fun y => ?_
          · exact this
          · rw [g3]
            show (if y = (s : Int) * m + m then _ else K q9 y) = _
            by_cases w : y = (s : Int) * m + m
            · rw [if_pos w, if_neg (by omega), if_pos w]
            · rw [if_neg w, hv, xm]
              by_cases w1 : (s : Int) * m ≤ y ∧ y < (s : Int) * m + m
              · rw [if_pos w1, if_pos w1]
              · rw [if_neg w1, if_neg w1, if_neg w, if_neg (by omega)]
        | succ u ih =>
          intro x K x2 ex hf hv
          have ka : K a = I a := by rw [hf a (by simpa using n1)]; exact ia4
          have kb : K b = I4 b := hf b (by simpa using Ne.symm n9b)
          refine wr_Grade_insert_110 hz a0 y9 q9p b0 ?_
          rw [ka, v6, kb]
          refine ⟨fun w => by omega, fun _ => ⟨by unfold cm_i; omega, ⟨by omega, by omega⟩, ⟨by omega, by omega⟩, fun I8 e8 => ⟨by unfold cm_i; omega, ?_⟩⟩⟩
          obtain ⟨f8, g8⟩ := fr_eq_iu e8
          have := ih (x + 1) I8 x2 (by omega) (fr_trans hf f8) fun y => ?_
          · exact this
          · rw [g8]
            show (if y = (s : Int) * m + x then _ else K q9 y) = _
            by_cases w : y = (s : Int) * m + x
            · rw [if_pos w, if_pos (by omega), w, show (s : Int) * m + x - (s : Int) * m = (x : Int) by omega]
            · rw [if_neg w, hv]
              by_cases w1 : (s : Int) * m ≤ y ∧ y < (s : Int) * m + x
              · rw [if_pos w1, if_pos (by omega)]
              · rw [if_neg w1, if_neg (by omega)]
      exact L110 m 0 I4 (some (vI (e : Int))) (by omega) (fr_refl _ _) fun y => by rw [if_neg (by omega)]
    induction u with
    | zero =>
      intro e J x3 x4 x5 x6 eu me hJ hz0
      have ja : J a = I a := hJ.1 a (nb a ab)
      refine wr_Grade_insert_27 hz a0 b0 ?_
      rw [ja, v3]
      refine ⟨fun _ => wr_Grade_insert_51 hz a0 b0 ?_, fun w => by omega⟩
      rw [ja, v3]
      refine ⟨fun w => by omega, fun _ => ?_⟩
      rw [hQ]
      obtain ⟨f, hf⟩ := bk_ex hlu.2.2.2.1 (fun c => toF (J b (c : Int))) m 0 (by omega)
      exact qI_mk (Or.inl ⟨rfl, hJ.1, f, lu_span hlu hJ.2.2.2 (fun c h1 h2 => hz0 c h1 (by omega)) hf⟩)
    | succ u ih =>
      intro e J x3 x4 x5 x6 eu me hJ hz0
      have ja : J a = I a := hJ.1 a (nb a ab)
      have be := hJ.2.1 e (by omega) (by omega)
      refine wr_Grade_insert_27 hz a0 b0 ?_
      rw [ja, v3, Int.tmod_eq_emod_of_nonneg be.1]
      refine ⟨fun w => by omega, fun _ => ⟨⟨by omega, by omega⟩, fun w => go51 e J x3 x4 x5 x6 me (by omega) hJ w, fun w => ⟨by unfold cm_i; omega, ?_⟩⟩⟩
      have := ih (e + 1) J x3 x4 x5 x6 (by omega) (by omega) hJ fun c h1 h2 => ?_
      · exact this
      · by_cases q : c = e
        · rw [q, toF_eq.mpr (show J b (e : Int) % 2521 = 0 % 2521 by omega)]
          exact toF_zero
        · exact hz0 c h1 (by omega)
  have L2 : ∀ (u k : Nat) (J : cm_I) (x3 x4 x5 x6 : Option cm_V), k + u = m → clI s k q9 q10 b p I J → cw (d + 1) cd_Grade_insert Q 2 [some (vR 2 a), some (vR 20 b), some (vI (k : Int)), x3, x4, x5, x6] [] (J, z) := by
    intro u
    induction u with
    | zero =>
      intro k J x3 x4 x5 x6 ek hJ
      have ja : J a = I a := hJ.1 a (nb a ab)
      have km : k = m := by omega
      rw [km] at hJ
      refine wr_Grade_insert_2 hz a0 ?_
      rw [ja, v6]
      exact ⟨fun _ => L27 (s - m) m J x3 x4 x5 x6 (by omega) (by omega) hJ fun c h1 h2 => by omega, fun w => by omega⟩
    | succ u ih =>
      intro k J x3 x4 x5 x6 ek hJ
      have ja : J a = I a := hJ.1 a (nb a ab)
      refine wr_Grade_insert_2 hz a0 ?_
      rw [ja, v6]
      refine ⟨fun w => by omega, fun _ => mU_mono (cl_next (d := d) hz a0 b0 q9p y9 ab n9b v3 s136 (by omega) lb l9 o9 hJ) fun J1 hJ1 => ⟨by unfold cm_i; omega, ?_⟩⟩
      exact ih (k + 1) J1 x3 x4 x5 x6 (by omega) hJ1
  show cm_call (d + 2) m_Grade_insert _ (I, z) (qI z (inR s m a b q9 q10 C p I))
  rw [← hQ]
  refine wr_Grade_insert hz a0 (L2 m 0 I none none none none (by omega) ⟨fr_refl _ _, fun x x0 x1 => ?_, fun x hx => by omega, clS_0 fun c hc => (hp c hc).2⟩)
  have := (hp x.toNat (by omega)).1
  rw [show ((x.toNat : Nat) : Int) = x by omega] at this
  omega
end WIN
