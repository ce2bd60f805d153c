/-! THE CLASS: a piece is moved, the general way -/
def ouN (A : cMat) (D : Int) (F : Int → Int) (s n : Nat) : cP := cSm n fun i => cS (toF (F (i : Int))) (lpow (A 0) (s - (blk D i).toNat) (mono A 0 (blk D i - lst D i).toNat (lst D i).toNat))
/-- the moved piece, place by place -/
def mvL (D : Int) (A : cMat) (t : Int) (F : Int → Int) (o : Int) : cF := gs (fF D (t + 1)).toNat fun i => toF (F (i : Int)) * atE D (monoE D A (mFrom D t + i)) (mFrom D t + o)
section WMV
variable {D : Int} {A : cMat} {F : Int → Int}
theorem ouN_lm (hD : D = 2 ∨ D = 3) {s n : Nat} (s15 : s ≤ 15) (hn : (n : Int) ≤ fF D ((s : Int) + 1)) : ouN A D F (s + 1) n = lm (A 0) (ouN A D F s n) := by
  unfold ouN
  rw [lm_Sm]
  refine cSm_congr fun i hi => ?_
  have b := (blk_lt hD (p := (i : Int)) (t := (s : Int)) (by omega) (by omega) (by omega) (by omega)).1
  rw [lm_S, show s + 1 - (blk D i).toNat = (s - (blk D i).toNat) + 1 by omega]
  rfl
theorem ouN_blk (hD : D = 2 ∨ D = 3) {s : Nat} (s15 : s ≤ 15) : ouN A D F s (fF D ((s : Int) + 1)).toNat = cAdd (ouN A D F s (fF D (s : Int)).toNat) (blP D A F s) := by
  have f0 := fF_bd hD (s := (s : Int)) (by omega) (by omega)
  have m := fF_mono hD (s := (s : Int)) (t := (s : Int) + 1) (by omega) (by omega) (by omega)
  unfold ouN blP
  rw [show (fF D ((s : Int) + 1)).toNat = (fF D (s : Int)).toNat + (fF D ((s : Int) + 1) - fF D (s : Int)).toNat by omega, cSm_split]
  congr 1
  refine cSm_congr fun c hc => ?_
  rw [show (((fF D (s : Int)).toNat + c : Nat) : Int) = fF D (s : Int) + (c : Int) by omega]
  obtain ⟨e1, e2⟩ := blk_of hD (s := (s : Int)) (c := (c : Int)) (by omega) (by omega) (by omega) (by omega)
  rw [e1, e2, show s - ((s : Int)).toNat = 0 by omega, show ((s : Int) - (c : Int)).toNat = ((s : Int)).toNat - c by omega, show ((c : Int)).toNat = c by omega]
  rfl
theorem ouN_zero {s n : Nat} (h : ∀ i : Nat, i < n → F (i : Int) = 0) : ouN A D F s n = c0 := cSm_zero fun i hi => by rw [h i hi, toF_zero, cS_0]
theorem ouN_end (hD : D = 2 ∨ D = 3) {t : Nat} (t15 : t ≤ 15) {G : Int → Int} (h : lcP D t G = ouN A D F t (fF D ((t : Int) + 1)).toNat) {o : Int} (o0 : 0 ≤ o) (o1 : o < fF D ((t : Int) + 1)) : toF (G o) = mvL D A t F o := by
  rw [← lcP_at hD (t := (t : Int)) (by omega) (by omega) G o0 o1, h]
  unfold mvL atE ouN
  refine gs_congr fun i hi => ?_
  have f0 := fF_bd hD (s := (t : Int) + 1) (by omega) (by omega)
  obtain ⟨m1, m2, m3⟩ := mE_loc hD (p := (i : Int)) (t := (t : Int)) (by omega) (by omega) (by omega) (by omega)
  have b := blk_lt hD (p := (i : Int)) (t := (t : Int)) (by omega) (by omega) (by omega) (by omega)
  obtain ⟨b1, b2, b3, b4, b5, b6, b7, b8⟩ := blk_ok hD (p := (i : Int)) (by omega) b.2
  unfold mEa at m1
  unfold mEb at m2
  unfold mEc at m3
  show toF (F (i : Int)) * _ = _
  unfold monoE
  rw [show (mE D (mFrom D (t : Int) + i)).1 = t - (blk D i).toNat by omega, show (mE D (mFrom D (t : Int) + i)).2.1 = (blk D i - lst D i).toNat by omega, show (mE D (mFrom D (t : Int) + i)).2.2 = (lst D i).toNat by omega]
  rfl
end WMV
section WMG
variable {d : Nat} {z : cm_Z} {I : cm_I} {D : Int} {sh : Nat} {A : cMat} {T : Int}
/-- a piece has been moved and added -/
def amP (D : Int) (A : cMat) (a2 : Nat) (x t : Int) (F : Int → Int) (I I1 : cm_I) : Prop := fr [53, 57, 58, 59, 60, a2] I I1 ∧ (∀ j, j ≠ 10 → I1 53 j = I 53 j) ∧ (∃ T', mvS D A T' I1) ∧ (∀ o, 0 ≤ o → o < fF D (t + 1) → I1 a2 (x + o) = I a2 (x + o) + fi (mvL D A t F o)) ∧ ∀ k, ¬ (x ≤ k ∧ k < x + fF D (t + 1)) → I1 a2 k = I a2 k
theorem nin_sub {a : Nat} {l l' : List Nat} (h : a ∉ l) (s : ∀ x, x ∈ l' → x ∈ l) : a ∉ l' := fun m => h (s a m)
theorem nin_1 {a b : Nat} {l : List Nat} (h : a ∉ l) (m : b ∈ l) : b ∉ [a] := fun q => h (by rw [List.mem_singleton] at q; rw [← q]; exact m)
theorem t_addGen (hz : wz z) (hS : shOk D sh I) (y0 : z.1 53 0 = sh) (hM : mvS D A T I) {a1 a2 q : Nat} (h1 : 0 < a1) (n1 : a1 ∉ [53, 57, 58, 59, 60, a2]) (y1 : z.1 a1 0 = q) (q0 : 0 < q) (nq : q ∉ [53, 58, 59, 60, a2]) (h2 : 0 < a2) (n2 : a2 ∉ [sh, sh + 1, sh + 2, sh + 7, sh + 8, 53, 54, 57, 58, 59, 60]) {xf x t : Int} (ef : I a1 1 = xf) (et : I a1 2 = t) (t0 : 0 ≤ t) (t1 : t ≤ 15) (xf0 : 0 ≤ xf ∧ xf ≤ 1000000) (xfl : xf + fF D (t + 1) ≤ z.2.1 q) (of : ∀ p, 0 ≤ p → p < fF D (t + 1) → 0 ≤ I q (xf + p) ∧ I q (xf + p) < 2521) (x0 : 0 ≤ x ∧ x ≤ 1000000) (xl : x + fF D (t + 1) ≤ z.2.1 a2) (ob : ∀ k, x ≤ k → k < x + fF D (t + 1) → 0 ≤ I a2 k ∧ I a2 k ≤ 1000000000) (es : I 53 3 = 0) : mU (d + 6) m_Mover_addMoved [vR 4 53, vR 5 a1, vR 20 a2, vI x] z I (amP D A a2 x t (fun p => I q (xf + p)) I) := by
  have hD := shOk_D hS
  have hs := sh_lt hS
  have fi_ := hS.2.2.2.1
  have ft := fF_bd hD (s := t + 1) (by omega) (by omega)
  have f16 := fF_mono hD (s := t + 1) (t := 16) (by omega) (by omega) (by omega)
  have v16 : fF D 16 ≤ 136 := by rcases hD with e | e <;> rw [e] <;> decide
  have l58 : z.2.1 58 = 136 := wz_L hz 58 136 rfl (by decide)
  have n11 : a1 ∉ [53, 60] := nin_sub n1 (by simp)
  have n12 : a1 ∉ [58, 59] := nin_sub n1 (by simp)
  have nq1 : q ∉ [53, 60] := nin_sub nq (by simp)
  have nq2 : q ∉ [58, 59] := nin_sub nq (by simp)
  have n59 : a1 ≠ 59 := fun e => n1 (by rw [e]; simp)
  have q59 : q ≠ 59 := fun e => nq (by rw [e]; simp)
  have n53 : a1 ≠ 53 ∧ a1 ≠ 60 := ⟨fun e => n1 (by rw [e]; simp), fun e => n1 (by rw [e]; simp)⟩
  have q53 : q ≠ 53 ∧ q ≠ 60 := ⟨fun e => nq (by rw [e]; simp), fun e => nq (by rw [e]; simp)⟩
  have n21 : a2 ∉ [53, 60] := nin_sub n2 (by simp)
  have n22 : a2 ∉ [58, 59] := nin_sub n2 (by simp)
  have shL : sh + 1 ∉ [53, 57, 58, 59, 60, a2] := fun m => by
    simp only [List.mem_cons, List.not_mem_nil, or_false] at m
    rcases m with w | w | w | w | w | w <;> first | omega | exact n2 (by rw [← w]; simp)
  have x53 : (53 : Nat) ∉ [a2] := nin_1 n2 (by simp)
  have x54 : (54 : Nat) ∉ [a2] := nin_1 n2 (by simp)
  have x58 : (58 : Nat) ∉ [a2] := nin_1 n2 (by simp)
  have x59 : (59 : Nat) ∉ [a2] := nin_1 n2 (by simp)
  have x60 : (60 : Nat) ∉ [a2] := nin_1 n2 (by simp)
  obtain ⟨tn, etn⟩ : ∃ tn : Nat, (tn : Int) = t := ⟨t.toNat, by omega⟩
  refine wr_Mover_addMoved hz ⟨fun _ => ?_, fun w => absurd es w⟩
  refine mU_mono (t_growLast (d := d + 1) hz hS y0 hM h1 n53 y1 q0 q53 ef et t0 t1 xf0 xfl) fun I1 ⟨g1, g2, T', hM1, g4⟩ => ?_
  generalize hF : (fun p => I q (xf + p)) = F at *
  have eF : ∀ p, I q (xf + p) = F p := fun p => by rw [← hF]
  simp only [eF] at of g4
  obtain ⟨m1, m2, m3, m4, m5, m6, m7, m8, m9, m10⟩ := id hM1
  -- all cells but the mover's stay
  have Sh : ∀ {J : cm_I}, fr [58, 59] I1 J → shOk D sh J := fun h => shOk_fr hS (by rw [h _ (by simp; omega), g1 _ (by simp; omega)]) (by rw [h _ (by simp; omega), g1 _ (by simp; omega)]) (by rw [h _ (by simp; omega), g1 _ (by simp; omega)]) (by rw [h _ (by simp; omega), g1 _ (by simp; omega)]) (by rw [h _ (by simp; omega), g1 _ (by simp; omega)])
  have Mv : ∀ {J : cm_I}, fr [58, 59] I1 J → okR (J 58) → okR (J 59) → mvS D A T' J := fun h a b => mvS_fr hM1 (h 53 (by simp)) (h 54 (by simp)) (h 60 (by simp)) a b
  have A1 : ∀ {J : cm_I}, fr [58, 59] I1 J → J a1 = I a1 := fun h => by rw [h a1 n12, g1 a1 n11]
  have Q1 : ∀ {J : cm_I}, fr [58, 59] I1 J → J q = I q := fun h => by rw [h q nq2, g1 q nq1]
  -- the end: the moved piece is added
  have L149 : ∀ (u : Nat) (k : Int) (J : cm_I) (z4 z6 : Option cm_V), 0 ≤ k → k + u = fF D (t + 1) → fr [53, 57, 58, 59, 60, a2] I J → (∀ j, j ≠ 10 → J 53 j = I 53 j) → (∃ T', mvS D A T' J) → (∀ o, 0 ≤ o → o < fF D (t + 1) → J 58 o = fi (mvL D A t F o)) → (∀ o, 0 ≤ o → o < k → J a2 (x + o) = I a2 (x + o) + fi (mvL D A t F o)) → (∀ j, ¬ (x ≤ j ∧ j < x + k) → J a2 j = I a2 j) → cw (d + 5) cd_Mover_addMoved (qU z (amP D A a2 x t F I)) 149 [some (vR 4 53), some (vR 5 a1), some (vR 20 a2), some (vI x), z4, some (vI k), z6] [] (J, z) := by
    intro u
    induction u with
    | zero =>
      intro k J z4 z6 k0 ek hf h53 hMJ h58 lo hi
      refine wr_Mover_addMoved_149 hz y0 (shOk_sh hS) h1 h2 ?_
      rw [hf a1 n1, et, hf (sh + 1) shL, fi_ (t + 1) (by omega) (by omega)]
      exact ⟨⟨by omega, by omega⟩, ⟨by omega, by omega⟩, fun _ => qU_mk ⟨hf, h53, hMJ, fun o o0 o1 => lo o o0 (by omega), fun j hj => hi j (by omega)⟩, fun w => by omega⟩
    | succ u ih =>
      intro k J z4 z6 k0 ek hf h53 hMJ h58 lo hi
      have b58 := fi_bd (mvL D A t F k)
      have oo := ob (x + k) (by omega) (by omega)
      refine wr_Mover_addMoved_149 hz y0 (shOk_sh hS) h1 h2 ?_
      rw [hf a1 n1, et, hf (sh + 1) shL, fi_ (t + 1) (by omega) (by omega), h58 k k0 (by omega), hi (x + k) (by omega)]
      refine ⟨⟨by omega, by omega⟩, ⟨by omega, by omega⟩, fun w => by omega, fun _ => ⟨⟨by omega, by omega⟩, ⟨by omega, by omega⟩, ⟨by omega, by omega⟩, ⟨by omega, by omega⟩, fun J7 e7 => ⟨⟨by omega, by omega⟩, ?_⟩⟩⟩
      obtain ⟨f7, g7⟩ := fr_eq_iu e7
      obtain ⟨T2, hT2⟩ := hMJ
      refine ih (k + 1) J7 _ _ (by omega) (by omega) (fr_trans hf (fr_mono f7 (by simp))) (fun j hj => by rw [f7 53 x53]; exact h53 j hj) ⟨T2, mvS_fr hT2 (f7 53 x53) (f7 54 x54) (f7 60 x60) (by rw [f7 58 x58]; exact hT2.2.1) (by rw [f7 59 x59]; exact hT2.2.2.1)⟩ (fun o o0 o1 => by rw [f7 58 x58]; exact h58 o o0 o1) (fun o o0 o1 => ?_) fun j hj => ?_
      · rw [g7]
        show (if x + o = x + k then _ else _) = _
        by_cases w : o = k
        · rw [w, if_pos rfl]
        · rw [if_neg (by omega)]; exact lo o o0 (by omega)
      · rw [g7]
        show (if j = x + k then _ else _) = _
        rw [if_neg (by omega)]; exact hi j (by omega)
  have L26 : ∀ (c s : Nat) (any : Int) (J : cm_I) (z6 : Option cm_V), s + c = tn + 1 → fr [58, 59] I1 J → okR (J 58) → okR (J 59) → ((any = 0 ∧ ∀ p, 0 ≤ p → p < fF D (s : Int) → F p = 0) ∨ (any = 1 ∧ 1 ≤ s ∧ lcP D ((s : Int) - 1) (J 58) = ouN A D F (s - 1) (fF D (s : Int)).toNat)) → cw (d + 5) cd_Mover_addMoved (qU z (amP D A a2 x t F I)) 26 [some (vR 4 53), some (vR 5 a1), some (vR 20 a2), some (vI x), some (vI any), some (vI (s : Int)), z6] [] (J, z) := by
    intro c
    induction c with
    | zero =>
      intro s any J z6 es' hf o58 o59 hany
      have fr0 : fr [53, 57, 58, 59, 60, a2] I J := fr_trans (fr_mono g1 (by simp)) (fr_mono hf (by simp))
      have c53 : ∀ j, j ≠ 10 → J 53 j = I 53 j := fun j hj => by rw [hf 53 (by simp)]; exact g2 j hj
      have ca2 : J a2 = I a2 := by rw [hf a2 n22, g1 a2 n21]
      refine wr_Mover_addMoved_26 hz h1 ?_
      rw [A1 hf, et]
      refine ⟨fun _ => ⟨fun ea => qU_mk ⟨fr0, c53, ⟨T', Mv hf o58 o59⟩, fun o o0 o1 => ?_, fun j _ => by rw [ca2]⟩, fun na => ?_⟩, fun w => by omega⟩
      · rcases hany with ⟨w1, w2⟩ | ⟨w1, w2, w3⟩
        · have z0 : mvL D A t F o = 0 := gs_zero fun i hi => by rw [w2 (i : Int) (by omega) (by rw [show (s : Int) = t + 1 by omega]; omega), toF_zero, gs_z1]
          rw [z0, ca2]
          show _ = _ + 0
          omega
        · omega
      · rcases hany with ⟨w1, w2⟩ | ⟨w1, w2, w3⟩
        · exact absurd w1 na
        · refine L149 (fF D (t + 1)).toNat 0 J _ _ (Int.le_refl 0) (by omega) fr0 c53 ⟨T', Mv hf o58 o59⟩ (fun o o0 o1 => ?_) (fun o o0 o1 => by omega) fun j _ => by rw [ca2]
          rw [show (s : Int) - 1 = (tn : Int) by omega, show s - 1 = tn by omega, show (s : Int) = (tn : Int) + 1 by omega] at w3
          have e := ouN_end hD (by omega) w3 o0 (by rw [etn]; exact o1)
          rw [etn] at e
          have ob58 := o58 o
          rw [← e, fi_toF]
          omega
    | succ c ih =>
      intro s any J z6 es' hf o58 o59 hany
      have fs1 := fF_bd hD (s := (s : Int) + 1) (by omega) (by omega)
      have fs16 := fF_mono hD (s := (s : Int) + 1) (t := 16) (by omega) (by omega) (by omega)
      have fs0 := fF_bd hD (s := (s : Int)) (by omega) (by omega)
      have fst := fF_mono hD (s := (s : Int) + 1) (t := t + 1) (by omega) (by omega) (by omega)
      have at54 : ∀ (J2 : cm_I) (z6 : Option cm_V), fr [58, 59] I1 J2 → okR (J2 58) → okR (J2 59) → ((any = 0 ∧ ∀ p, 0 ≤ p → p < fF D (s : Int) → F p = 0) ∨ (any = 1 ∧ lcP D (s : Int) (J2 58) = ouN A D F s (fF D (s : Int)).toNat)) → cw (d + 5) cd_Mover_addMoved (qU z (amP D A a2 x t F I)) 54 [some (vR 4 53), some (vR 5 a1), some (vR 20 a2), some (vI x), some (vI any), some (vI (s : Int)), z6] [] (J2, z) := by
        intro J2 z6 hf2 o2 o29 hany2
        have L86 : ∀ (u : Nat) (k : Int) (J3 : cm_I) (G H : Int → Int), 0 ≤ k → k + u = fF D ((s : Int) + 1) → fr [58, 59] I1 J3 → okR G → okR H → J3 59 = H → cAdd (lcP D (s : Int) G) (lcP D (s : Int) H) = ouN A D F s (fF D ((s : Int) + 1)).toNat → (∀ j, 0 ≤ j → j < k → J3 58 j = (G j + H j) % 2521) → (∀ j, ¬ (0 ≤ j ∧ j < k) → J3 58 j = G j) → cw (d + 5) cd_Mover_addMoved (qU z (amP D A a2 x t F I)) 86 [some (vR 4 53), some (vR 5 a1), some (vR 20 a2), some (vI x), some (vI 1), some (vI (s : Int)), some (vI k)] [] (J3, z) := by
          intro u
          induction u with
          | zero =>
            intro k J3 G H k0 ek hf3 oG oH e59 hG lo hi
            refine wr_Mover_addMoved_86 hz y0 (shOk_sh hS) ?_
            rw [(Sh hf3).2.2.2.1 ((s : Int) + 1) (by omega) (by omega)]
            refine ⟨⟨by omega, by omega⟩, ⟨by omega, by omega⟩, fun _ => ?_, fun w => by omega⟩
            have o3 : okR (J3 58) := fun j => by
              by_cases w : 0 ≤ j ∧ j < k
              · rw [lo j w.1 w.2]; omega
              · rw [hi j w]; exact oG j
            refine ih (s + 1) 1 J3 _ (by omega) hf3 o3 (by rw [e59]; exact oH) (Or.inr ⟨rfl, by omega, ?_⟩)
            rw [show ((s + 1 : Nat) : Int) - 1 = (s : Int) by omega, show s + 1 - 1 = s by omega, show ((s + 1 : Nat) : Int) = (s : Int) + 1 by omega, ← hG]
            have e1 := lcP_add hD (t := (s : Int)) (by omega) (by omega) (f := G) (g := H) (h := J3 58) (k := 1) fun p p0 p1 => by
              rw [lo p p0 (by omega), toF_mod, toF_add, toF_one, gs_z2]
            rw [e1]
            congr 1
            funext a b c
            exact gs_z2 _
          | succ u ihu =>
            intro k J3 G H k0 ek hf3 oG oH e59 hG lo hi
            have og := oG k
            have oh := oH k
            refine wr_Mover_addMoved_86 hz y0 (shOk_sh hS) ?_
            rw [(Sh hf3).2.2.2.1 ((s : Int) + 1) (by omega) (by omega), e59, hi k (by omega), tmod_pos (by omega)]
            refine ⟨⟨by omega, by omega⟩, ⟨by omega, by omega⟩, fun w => by omega, fun _ => ⟨⟨by omega, by omega⟩, ⟨by omega, by omega⟩, fun J5 e5 => ⟨⟨by omega, by omega⟩, ?_⟩⟩⟩
            obtain ⟨f5, g5⟩ := fr_eq_iu e5
            refine ihu (k + 1) J5 G H (by omega) (by omega) (fr_trans hf3 (fr_mono f5 (by simp))) oG oH (by rw [f5 59 (by simp)]; exact e59) hG (fun j j0 j1 => ?_) fun j hj => ?_
            · rw [g5]
              show (if j = k then _ else _) = _
              by_cases w : j = k
              · rw [if_pos w, w]
              · rw [if_neg w]; exact lo j j0 (by omega)
            · rw [g5]
              show (if j = k then _ else _) = _
              rw [if_neg (by omega)]; exact hi j (by omega)
        have q2 := Q1 hf2
        refine wr_Mover_addMoved_54 hz (mI_mono (t_moveBlock (d := d + 1) (t := t) (s := (s : Int)) (q := q) (xf := xf) hz (Sh hf2) y0 (Mv hf2 o2 o29) h1 n59 y1 q0 q59 (by rw [A1 hf2]; exact ef) t1 (by omega) (by omega) xf0 xfl (fun p p0 p1 => by rw [q2, eF]; exact of p p0 p1) (fun p p0 p1 nz => by rw [q2, eF] at nz; exact g4 p p0 p1 nz)) fun v2 I3 ⟨c1, c2, c3⟩ => ?_)
        have c1' : fr [58, 59] I1 I3 := fr_trans hf2 (fr_mono c1 (by simp))
        have c58 : I3 58 = J2 58 := c1 58 (by simp)
        rw [q2, hF] at c3
        rcases c3 with ⟨v0, w0⟩ | ⟨v1, w1⟩
        · refine ⟨fun w => absurd v0 w, fun _ => ⟨⟨by omega, by omega⟩, ?_⟩⟩
          have zb : ∀ p, fF D (s : Int) ≤ p → p < fF D ((s : Int) + 1) → F p = 0 := fun p p0 p1 => by rw [← eF]; exact w0 p p0 p1
          refine ih (s + 1) any I3 _ (by omega) c1' (by rw [c58]; exact o2) c2 ?_
          rcases hany2 with ⟨a1', a2'⟩ | ⟨a1', a2'⟩
          · refine Or.inl ⟨a1', fun p p0 p1 => ?_⟩
            rw [show ((s + 1 : Nat) : Int) = (s : Int) + 1 by omega] at p1
            by_cases w : p < fF D (s : Int)
            · exact a2' p p0 w
            · exact zb p (by omega) p1
          · refine Or.inr ⟨a1', by omega, ?_⟩
            rw [show ((s + 1 : Nat) : Int) - 1 = (s : Int) by omega, show s + 1 - 1 = s by omega, show ((s + 1 : Nat) : Int) = (s : Int) + 1 by omega, c58, a2', ouN_blk hD (by omega)]
            have : blP D A F (s : Int) = c0 := cSm_zero fun c hc => by rw [zb _ (by omega) (by omega), toF_zero, cS_0]
            rw [this, cAdd_0r]
        · refine ⟨fun _ => ⟨fun na => ?_, fun ea => mU_mono (t_fill (d := d + 4) hz (by decide) l58 (by decide) (by decide)) fun I4 e4 => ?_⟩, fun w => by omega⟩
          · rcases hany2 with ⟨a1', a2'⟩ | ⟨a1', a2'⟩
            · exact absurd a1' na
            · rw [a1']
              exact L86 (fF D ((s : Int) + 1)).toNat 0 I3 (I3 58) (I3 59) (Int.le_refl 0) (by omega) c1' (by rw [c58]; exact o2) c2 rfl (by rw [w1, c58, a2', ← ouN_blk hD (by omega)]) (fun j j0 j1 => by omega) fun j _ => rfl
          · obtain ⟨f4, g4'⟩ := fr_eq_iw e4
            refine L86 (fF D ((s : Int) + 1)).toNat 0 I4 (I4 58) (I4 59) (Int.le_refl 0) (by omega) (fr_trans c1' (fr_mono f4 (by simp))) (by rw [g4', c58]; exact okR_fillF o2 _ _ (by decide) (by decide)) (by rw [f4 59 (by simp)]; exact c2) rfl ?_ (fun j j0 j1 => by omega) fun j _ => rfl
            rcases hany2 with ⟨a1', a2'⟩ | ⟨a1', a2'⟩
            · rw [f4 59 (by simp), w1, ouN_blk hD (by omega), ouN_zero (n := (fF D (s : Int)).toNat) fun i hi => a2' (i : Int) (by omega) (by omega)]
              congr 1
              rw [← lcP_0 D (s : Int)]
              refine lcP_congr hD (by omega) (by omega) fun p p0 p1 => ?_
              rw [g4']
              unfold fillF
              rw [if_pos (by omega)]
            · omega
      refine wr_Mover_addMoved_26 hz h1 ?_
      rw [A1 hf, et]
      refine ⟨fun w => by omega, fun _ => ⟨fun ea => at54 J _ hf o58 o59 ?_, fun na => ⟨⟨by omega, by omega⟩, ?_⟩⟩⟩
      · rcases hany with ⟨w1, w2⟩ | ⟨w1, w2, w3⟩
        · exact Or.inl ⟨w1, w2⟩
        · omega
      · rcases hany with ⟨w1, w2⟩ | ⟨w1, w2, w3⟩
        · exact absurd w1 na
        · have f54 : J 54 = I1 54 := hf 54 (by simp)
          refine mU_mono (t_timesForm (d := d + 2) hz (Sh hf) y0 (a := 58) (by decide) (by simp; omega) (x := 0) (t := (s : Int) - 1) (row := 0) (by decide) (by decide) (by omega) (by omega) (by decide) (by decide) (by rw [l58, show (s : Int) - 1 + 2 = (s : Int) + 1 by omega]; omega) (by rw [f54]; exact m1) (fun e => by rw [f54]; exact mvS_2 hM1 (i := 0) (by decide) e) o58) fun I2 ⟨x1, x2, x3, x4⟩ => ?_
          refine at54 I2 _ (fr_trans hf (fr_mono x1 (by simp))) x2 (by rw [x1 59 (by simp)]; exact o59) (Or.inr ⟨w1, ?_⟩)
          have e0 : (fun p : Int => I2 58 (0 + p)) = I2 58 := by funext p; rw [Int.zero_add]
          have e1 : (fun p : Int => J 58 (0 + p)) = J 58 := by funext p; rw [Int.zero_add]
          have e3 := mvS_form hM1 (i := 0) (by decide) (lcP D ((s : Int) - 1) (J 58))
          rw [e0, e1, f54, show (s : Int) - 1 + 1 = (s : Int) by omega] at x4
          rw [x4]
          refine e3.trans ?_
          rw [w3]
          have e5 := ouN_lm (A := A) (F := F) (s := s - 1) (n := (fF D (s : Int)).toNat) hD (by omega) (by rw [show ((s - 1 : Nat) : Int) + 1 = (s : Int) by omega]; omega)
          rw [show s - 1 + 1 = s by omega] at e5
          exact e5.symm
  refine L26 (tn + 1) 0 0 I1 _ (by omega) (fr_refl _ _) m2 m3 (Or.inl ⟨rfl, fun p p0 p1 => ?_⟩)
  have : fF D ((0 : Nat) : Int) = 0 := by rcases hD with e | e <;> rw [e] <;> decide
  omega
end WMG
