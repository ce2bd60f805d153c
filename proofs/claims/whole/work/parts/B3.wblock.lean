/-! THE CLASS: a block of monomials is moved -/
def blP (D : Int) (A : cMat) (F : Int → Int) (s : Int) : cP := cSm (fF D (s + 1) - fF D s).toNat fun c => cS (toF (F (fF D s + (c : Int)))) (mono A 0 (s.toNat - c) c)
def blN (D : Int) (A : cMat) (F : Int → Int) (s : Int) (le n : Nat) : cP := cSm n fun c => cS (toF (F (fF D s + (c : Int)))) (lpow (A 1) (n - 1 - c) (lpow (A (D - 1).toNat) (le + c) cOne))
theorem blN_lm (D : Int) (A : cMat) (F : Int → Int) (s : Int) (le n : Nat) : blN D A F s le (n + 1) = cAdd (lm (A 1) (blN D A F s le n)) (cS (toF (F (fF D s + (n : Int)))) (lpow (A (D - 1).toNat) (le + n) cOne)) := by
  unfold blN
  rw [cSm_succ, lm_Sm]
  congr 1
  · refine cSm_congr fun c hc => ?_
    rw [lm_S, show n + 1 - 1 - c = (n - 1 - c) + 1 by omega]
    rfl
  · rw [show n + 1 - 1 - n = 0 by omega]
    rfl
theorem blN_zero {D : Int} {A : cMat} {F : Int → Int} {s : Int} {le n : Nat} (h : ∀ c : Nat, c < n → F (fF D s + (c : Int)) = 0) : blN D A F s le n = c0 := cSm_zero fun c hc => by rw [h c hc, toF_zero, cS_0]
theorem lm_c0 (l : Nat → cF) : lm l c0 = c0 := by
  have := lm_S l 0 c0
  rw [cS_0, cS_0] at this
  exact this
section WMB
variable {d : Nat} {z : cm_Z} {I : cm_I} {D : Int} {sh : Nat} {A : cMat} {T : Int}
theorem mvS_fr {J : cm_I} (h : mvS D A T I) (e53 : J 53 = I 53) (e54 : J 54 = I 54) (e60 : J 60 = I 60) (o58 : okR (J 58)) (o59 : okR (J 59)) : mvS D A T J := by
  unfold mvS
  rw [e53, e54, e60]
  exact ⟨h.1, o58, o59, h.2.2.2⟩
theorem t_moveBlock (hz : wz z) (hS : shOk D sh I) (y0 : z.1 53 0 = sh) (hM : mvS D A T I) {a1 q : Nat} (h1 : 0 < a1) (n1 : a1 ≠ 59) (y1 : z.1 a1 0 = q) (q0 : 0 < q) (nq : q ≠ 59) {xf t s : Int} (ef : I a1 1 = xf) (t1 : t ≤ 15) (s0 : 0 ≤ s) (st : s ≤ t) (xf0 : 0 ≤ xf ∧ xf ≤ 1000000) (xfl : xf + fF D (t + 1) ≤ z.2.1 q) (of : ∀ p, 0 ≤ p → p < fF D (t + 1) → 0 ≤ I q (xf + p) ∧ I q (xf + p) < 2521) (hT : ∀ p, 0 ≤ p → p < fF D (t + 1) → I q (xf + p) ≠ 0 → lv D p ≤ T) : mI (d + 4) m_Mover_moveBlock [vR 4 53, vR 5 a1, vI s] z I fun r I1 => fr [59] I I1 ∧ okR (I1 59) ∧ ((r = 0 ∧ ∀ p, fF D s ≤ p → p < fF D (s + 1) → I q (xf + p) = 0) ∨ (r = 1 ∧ lcP D s (I1 59) = blP D A (fun p => I q (xf + p)) s)) := by
  have hD := shOk_D hS
  have hs := sh_lt hS
  have fi := hS.2.2.2.1
  have stt := hS.2.2.2.2.1
  have fs := fF_bd hD (s := s) s0 (by omega)
  have fs1 := fF_succ hD (s := s) s0 (by omega)
  have fst := fF_mono hD (s := s + 1) (t := t + 1) (by omega) (by omega) (by omega)
  have f16 := fF_mono hD (s := t + 1) (t := 16) (by omega) (by omega) (by omega)
  obtain ⟨m1, m2, m3, m4, m5, m6, m7, m8, m9, m10⟩ := id hM
  have l59 : z.2.1 59 = 136 := wz_L hz 59 136 rfl (by decide)
  have v16 : fF D 16 ≤ 136 := by rcases hD with e | e <;> rw [e] <;> decide
  generalize hF : (fun p => I q (xf + p)) = F at *
  have eF : ∀ p, I q (xf + p) = F p := fun p => by rw [← hF]
  simp only [eF] at of hT ⊢
  -- where the powers begin, and how many there are
  obtain ⟨le, N, hN, hle⟩ : ∃ le N : Nat, ((N : Int) = fF D (s + 1) - fF D s ∧ (le : Int) + N = s + 1 ∧ ((D = 3 ∧ le = 0) ∨ (D = 2 ∧ N = 1))) ∧ (le : Int) = if D = 3 then 0 else s := by
    rcases hD with e | e
    · rw [if_pos e] at fs1
      exact ⟨s.toNat, 1, ⟨by omega, by omega, Or.inr ⟨e, rfl⟩⟩, by rw [if_neg (by omega)]; omega⟩
    · rw [if_neg (by omega)] at fs1
      exact ⟨0, (s + 1).toNat, ⟨by omega, by omega, Or.inl ⟨e, rfl⟩⟩, by rw [if_pos e]; rfl⟩
  obtain ⟨N1, N2, N3⟩ := hN
  have lvp : ∀ n : Nat, n < N → lv D (fF D s + n) = le + n := by
    intro n hn
    obtain ⟨e1, e2⟩ := blk_of hD (s := s) (c := (n : Int)) s0 (by omega) (by omega) (by omega)
    unfold lv
    rcases N3 with ⟨e, w⟩ | ⟨e, w⟩
    · rw [if_pos e, e2, w]; omega
    · rw [if_neg (by omega), e1]; omega
  have fin : blN D A F s le N = blP D A F s := by
    unfold blN blP
    rw [show (fF D (s + 1) - fF D s).toNat = N by omega]
    refine cSm_congr fun c hc => ?_
    congr 1
    rcases N3 with ⟨e, w⟩ | ⟨e, w⟩
    · rw [e, w, show N - 1 - c = s.toNat - c by omega, Nat.zero_add]
      rfl
    · rw [e, show c = 0 by omega, show N - 1 - 0 = 0 by omega, show le + 0 = s.toNat by omega, Nat.sub_zero]
      rfl
  have Inv : ∀ (J : cm_I), fr [59] I J → shOk D sh J := fun J h => shOk_fr hS (h _ (by simp; omega)) (h _ (by simp; omega)) (h _ (by simp; omega)) (h _ (by simp; omega)) (h _ (by simp; omega))
  have L23 : ∀ (c n : Nat) (any : Int) (J : cm_I) (z6 z7 z8 : Option cm_V), n + c = N → fr [59] I J → okR (J 59) → ((any = 0 ∧ ∀ c' : Nat, c' < n → F (fF D s + (c' : Int)) = 0) ∨ (any = 1 ∧ 1 ≤ n ∧ lcP D ((le : Int) + n - 1) (J 59) = blN D A F s le n)) → cw (d + 3) cd_Mover_moveBlock (qI z fun r I1 => fr [59] I I1 ∧ okR (I1 59) ∧ ((r = 0 ∧ ∀ p, fF D s ≤ p → p < fF D (s + 1) → F p = 0) ∨ (r = 1 ∧ lcP D s (I1 59) = blP D A F s))) 23 [some (vR 4 53), some (vR 5 a1), some (vI s), some (vI (le : Int)), some (vI any), some (vI ((le : Int) + n)), z6, z7, z8] [] (J, z) := by
    intro c
    induction c with
    | zero =>
      intro n any J z6 z7 z8 en hf oJ hany
      refine wr_Mover_moveBlock_23 hz ⟨fun _ => ⟨by omega, qI_mk ⟨hf, oJ, ?_⟩⟩, fun w => by omega⟩
      rcases hany with ⟨w1, w2⟩ | ⟨w1, w2, w3⟩
      · refine Or.inl ⟨w1, fun p p0 p1 => ?_⟩
        have := w2 (p - fF D s).toNat (by omega)
        rw [show fF D s + (((p - fF D s).toNat : Nat) : Int) = p by omega] at this
        exact this
      · refine Or.inr ⟨w1, ?_⟩
        rw [show (le : Int) + n - 1 = s by omega, show n = N by omega, fin] at w3
        exact w3
    | succ c ih =>
      intro n any J z6 z7 z8 en hf oJ hany
      have hn : n < N := by omega
      have fpow := fF_bd hD (s := (le : Int) + n + 1) (by omega) (by omega)
      have fpow16 := fF_mono hD (s := (le : Int) + n + 1) (t := 16) (by omega) (by omega) (by omega)
      have ofn := of (fF D s + (n : Int)) (by omega) (by omega)
      -- behind the form
      have at48 : ∀ (J2 : cm_I) (z6 z7 z8 : Option cm_V), fr [59] I J2 → okR (J2 59) → ((any = 0 ∧ ∀ c' : Nat, c' < n → F (fF D s + (c' : Int)) = 0) ∨ (any = 1 ∧ lcP D ((le : Int) + n) (J2 59) = lm (A 1) (blN D A F s le n))) → cw (d + 3) cd_Mover_moveBlock (qI z fun r I1 => fr [59] I I1 ∧ okR (I1 59) ∧ ((r = 0 ∧ ∀ p, fF D s ≤ p → p < fF D (s + 1) → F p = 0) ∨ (r = 1 ∧ lcP D s (I1 59) = blP D A F s))) 48 [some (vR 4 53), some (vR 5 a1), some (vI s), some (vI (le : Int)), some (vI any), some (vI ((le : Int) + n)), z6, z7, z8] [] (J2, z) := by
        intro J2 z6 z7 z8 hf2 o2 hany2
        -- the sum
        have L113 : ∀ (u : Nat) (k : Int) (J3 : cm_I) (G : Int → Int), F (fF D s + (n : Int)) ≠ 0 → 0 ≤ k → k + u = fF D ((le : Int) + n + 1) → fr [59] I J3 → okR G → cAdd (lcP D ((le : Int) + n) G) (cS (toF (F (fF D s + (n : Int)))) (lpow (A (D - 1).toNat) (le + n) cOne)) = blN D A F s le (n + 1) → (∀ j, 0 ≤ j → j < k → J3 59 j = (G j + F (fF D s + (n : Int)) * I 60 (mFrom D ((le : Int) + n) + j)) % 2521) → (∀ j, ¬ (0 ≤ j ∧ j < k) → J3 59 j = G j) → cw (d + 3) cd_Mover_moveBlock (qI z fun r I1 => fr [59] I I1 ∧ okR (I1 59) ∧ ((r = 0 ∧ ∀ p, fF D s ≤ p → p < fF D (s + 1) → F p = 0) ∨ (r = 1 ∧ lcP D s (I1 59) = blP D A F s))) 113 [some (vR 4 53), some (vR 5 a1), some (vI s), some (vI (le : Int)), some (vI 1), some (vI ((le : Int) + n)), some (vI (F (fF D s + (n : Int)))), some (vI (mFrom D ((le : Int) + n))), some (vI k)] [] (J3, z) := by
          intro u
          induction u with
          | zero =>
            intro k J3 G nz k0 ek hf3 oG hG lo hi
            refine wr_Mover_moveBlock_113 hz y0 (shOk_sh hS) ?_
            rw [hf3 (sh + 1) (by simp; omega), fi ((le : Int) + n + 1) (by omega) (by omega)]
            refine ⟨⟨by omega, by omega⟩, ⟨by omega, by omega⟩, fun _ => ?_, fun w => by omega⟩
            have o3 : okR (J3 59) := fun j => by
              by_cases w : 0 ≤ j ∧ j < k
              · rw [lo j w.1 w.2]; omega
              · rw [hi j w]; exact oG j
            have := ih (n + 1) 1 J3 (some (vI (F (fF D s + (n : Int))))) (some (vI (mFrom D ((le : Int) + n)))) (some (vI k)) (by omega) hf3 o3 (Or.inr ⟨rfl, by omega, ?_⟩)
            · rw [show (le : Int) + ((n + 1 : Nat) : Int) = (le : Int) + n + 1 by omega] at this
              exact this
            · rw [show (le : Int) + ((n + 1 : Nat) : Int) - 1 = (le : Int) + n by omega, ← hG]
              have pw := m10 (le + n) (by
                have := hT (fF D s + (n : Int)) (by omega) (by omega) nz
                rw [lvp n hn] at this
                omega)
              rw [show ((le + n : Nat) : Int) = (le : Int) + n by omega] at pw
              rw [← pw]
              refine lcP_add hD (by omega) (by omega) fun p p0 p1 => ?_
              rw [lo p p0 (by omega), toF_mod, toF_add, toF_mul]
          | succ u ihu =>
            intro k J3 G nz k0 ek hf3 oG hG lo hi
            have fmk := from_bds hD (t := (le : Int) + n) (by omega) (by omega)
            have mnk := fF_many D ((le : Int) + n)
            have oL := m4 (mFrom D ((le : Int) + n) + k)
            have pr := mul_bd (x := F (fF D s + (n : Int))) (y := I 60 (mFrom D ((le : Int) + n) + k)) (X := 2520) (Y := 2520) (by omega) (by omega) (by omega) (by omega)
            have og := oG k
            refine wr_Mover_moveBlock_113 hz y0 (shOk_sh hS) ?_
            rw [hf3 (sh + 1) (by simp; omega), fi ((le : Int) + n + 1) (by omega) (by omega), hf3 60 (by simp), hi k (by omega), tmod_pos (by omega)]
            refine ⟨⟨by omega, by omega⟩, ⟨by omega, by omega⟩, fun w => by omega, fun _ => ⟨⟨by omega, by omega⟩, ⟨by omega, by omega⟩, ⟨by omega, by omega⟩, ⟨by omega, by omega⟩, ⟨by omega, by omega⟩, fun J8 e8 => ⟨⟨by omega, by omega⟩, ?_⟩⟩⟩
            obtain ⟨f8, g8⟩ := fr_eq_iu e8
            refine ihu (k + 1) J8 G nz (by omega) (by omega) (fr_trans hf3 f8) oG hG (fun j j0 j1 => ?_) fun j hj => ?_
            · rw [g8]
              show (if j = k then _ else _) = _
              by_cases w : j = k
              · rw [if_pos w, w]
              · rw [if_neg w]; exact lo j j0 (by omega)
            · rw [g8]
              show (if j = k then _ else _) = _
              rw [if_neg (by omega)]; exact hi j (by omega)
        refine wr_Mover_moveBlock_48 hz h1 y1 y0 (shOk_sh hS) q0 ?_
        have fq : I q (xf + (fF D s + (n : Int))) = F (fF D s + (n : Int)) := eF _
        rw [hf2 a1 (by simp; exact n1), ef, hf2 (sh + 1) (by simp; omega), fi s s0 (by omega), hf2 q (by simp; exact nq), show xf + fF D s + ((le : Int) + n) - le = xf + (fF D s + (n : Int)) by omega, fq, hf2 (sh + 2) (by simp; omega), stt ((le : Int) + n) (by omega) (by omega)]
        refine ⟨⟨by omega, by omega⟩, ⟨by omega, by omega⟩, ⟨by omega, by omega⟩, ⟨by omega, by omega⟩, ⟨by omega, by omega⟩, fun nz => ⟨fun na => ⟨⟨by omega, by omega⟩, ?_⟩, fun ea => mU_mono (t_fill (d := d + 2) hz (by decide) l59 (by decide) (by decide)) fun J7 e7 => ⟨⟨by omega, by omega⟩, ?_⟩⟩, fun ez => ⟨⟨by omega, by omega⟩, ?_⟩⟩
        · rcases hany2 with ⟨w1, w2⟩ | ⟨w1, w2⟩
          · exact absurd w1 na
          · rw [w1]
            exact L113 (fF D ((le : Int) + n + 1)).toNat 0 J2 (J2 59) nz (Int.le_refl 0) (by omega) hf2 o2 (by rw [w2, blN_lm]) (fun j j0 j1 => by omega) fun j _ => rfl
        · obtain ⟨f7, g7⟩ := fr_eq_iw e7
          have ff7 := fr_trans hf2 f7
          rw [ff7 (sh + 2) (by simp; omega), stt ((le : Int) + n) (by omega) (by omega)]
          refine L113 (fF D ((le : Int) + n + 1)).toNat 0 J7 (J7 59) nz (Int.le_refl 0) (by omega) ff7 (by rw [g7]; exact okR_fillF o2 _ _ (by decide) (by decide)) ?_ (fun j j0 j1 => by omega) fun j _ => rfl
          rcases hany2 with ⟨w1, w2⟩ | ⟨w1, w2⟩
          · rw [blN_lm, blN_zero w2, lm_c0]
            congr 1
            rw [← lcP_0 D ((le : Int) + n)]
            refine lcP_congr hD (by omega) (by omega) fun p p0 p1 => ?_
            rw [g7]
            unfold fillF
            rw [if_pos (by omega)]
          · omega
        · have := ih (n + 1) any J2 (some (vI (F (fF D s + (n : Int))))) z7 z8 (by omega) hf2 o2 ?_
          · rw [show (le : Int) + ((n + 1 : Nat) : Int) = (le : Int) + n + 1 by omega] at this
            exact this
          · rcases hany2 with ⟨w1, w2⟩ | ⟨w1, w2⟩
            · refine Or.inl ⟨w1, fun c' hc' => ?_⟩
              by_cases w : c' = n
              · rw [w]; exact ez
              · exact w2 c' (by omega)
            · refine Or.inr ⟨w1, by omega, ?_⟩
              rw [show (le : Int) + ((n + 1 : Nat) : Int) - 1 = (le : Int) + n by omega, w2, blN_lm, ez, toF_zero, cS_0, cAdd_0r]
      refine wr_Mover_moveBlock_23 hz ⟨fun w => by omega, fun _ => ⟨fun ea => at48 J _ _ _ hf oJ ?_, fun na => ⟨⟨by omega, by omega⟩, ?_⟩⟩⟩
      · rcases hany with ⟨w1, w2⟩ | ⟨w1, w2, w3⟩
        · exact Or.inl ⟨w1, w2⟩
        · omega
      · rcases hany with ⟨w1, w2⟩ | ⟨w1, w2, w3⟩
        · exact absurd w1 na
        · have f54 : J 54 = I 54 := hf 54 (by simp)
          refine mU_mono (t_timesForm (d := d) hz (Inv J hf) y0 (a := 59) (by decide) (by simp; omega) (x := 0) (t := (le : Int) + n - 1) (row := 1) (by decide) (by decide) (by omega) (by omega) (by decide) (by decide) (by rw [l59, show (le : Int) + n - 1 + 2 = (le : Int) + n + 1 by omega]; omega) (by rw [f54]; exact m1) (fun e => by rw [f54]; exact mvS_2 hM (i := 1) (by decide) e) oJ) fun I2 ⟨x1, x2, x3, x4⟩ => ?_
          refine at48 I2 _ _ _ (fr_trans hf x1) x2 (Or.inr ⟨w1, ?_⟩)
          have e0 : (fun p : Int => I2 59 (0 + p)) = I2 59 := by funext p; rw [Int.zero_add]
          have e1 : (fun p : Int => J 59 (0 + p)) = J 59 := by funext p; rw [Int.zero_add]
          have e3 := mvS_form hM (i := 1) (by decide) (lcP D ((le : Int) + n - 1) (J 59))
          rw [e0, e1, f54, show (le : Int) + n - 1 + 1 = (le : Int) + n by omega] at x4
          rw [x4, ← w3]
          exact e3
  refine wr_Mover_moveBlock hz y0 (shOk_sh hS) ?_
  rw [hS.2.1]
  have go := L23 N 0 0 I none none none (by omega) (fr_refl _ _) m3 (Or.inl ⟨rfl, fun c' h => absurd h (Nat.not_lt_zero c')⟩)
  rw [show (le : Int) + ((0 : Nat) : Int) = le by omega] at go
  refine ⟨fun n3 => ?_, fun e3 => ?_⟩
  · rw [hle, if_neg n3] at go; exact go
  · rw [hle, if_pos e3] at go; exact go
end WMB
