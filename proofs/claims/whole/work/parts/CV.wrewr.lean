/-! the calls rewrite, rewritten, relation of the class -/
section WC6
variable {d : Nat} {z z1 : cm_Z} {I I1 : cm_I} {D : Int} {sh mb : Nat} {T : Nat → cMat} {nt n : Nat} {L : Nat → cMat} {K K' : Int → Int → Int} {B : Int → Int} {tp : Int} {rf : Option (Int → Int)}
/-- the rewriter's own rows were written -/
theorem wI_rw (h : wI D T nt n L K B tp rf sh mb z I) {q : Nat × Nat × Nat} (hq : pmRes D T nt n = some q) (f4 : I 185 4 = 1) {k : Nat} (R1 : rwE D sh mb T nt n L (pmV D T nt q) (pmD D T nt q) k z1 I1) (hz : zf [205, 207] z z1) (hf : fr [198, 201, 202, 203, 204, 205, 207] I I1) (full : seAll D T nt (pmV D T nt q) (pmD D T nt q) k = pmL D T nt q) {rf' : Option (Int → Int)} (td : tdZ D T nt q k rf' z1 I1) (rl : rlZ D T nt q k z1 I1) : wI D T nt n L K B tp rf' sh mb z1 I1 ∧ usW z z1 := by
  obtain ⟨⟨hB, y2, e3, alt⟩, y, hT, hZ, hK, hw0, hR⟩ := h
  have hg := hB.2.1
  have w6 : 248 ≤ zN z := hB.1.1.2.2.2.2.2
  have fx : ∀ x, x < 198 → I1 x = I x := fun x hx => hf x (by simp; omega)
  have z51 : z1.1 51 = z.1 51 := hz.1 51 (by decide)
  have W : wF [198, 201, 202, 203, 204, 205, 207] [] z I z1 I1 := ⟨zg_mono (zg_zf hz) (by simp), us_zf hz gO_57, fun k hk => Or.inl (gR_zf hz (gO_57 k hk)), fun c _ hn _ => hf c hn⟩
  have V1 := smV_fr hw0.2.2.2.2.2.1 hg W z51 w6 (by decide)
  refine ⟨⟨⟨R1.1, by rw [hz.1 185 (by decide)]; exact y2, by rw [fx 185 (by decide)]; exact e3, ?_⟩, R1.2.1, R1.2.2.2.1, hZ, fun i i0 i1 => by rw [fx (4 + i.toNat) (by omega)]; exact hK i i0 i1, wB_fr hw0 V1 (by rw [hz.1 1 (by decide)]) fun x h1 h2 => fx x (by omega), Or.inr ⟨q, k, hq, by rw [fx 185 (by decide)]; exact f4, R1, full, td, rl⟩⟩, us_usW W.2.1 W.1.2.1 z51 hw0.2.2.2.2.2.1⟩
  unfold pmK at alt ⊢
  rw [fx 185 (by decide), fx 190 (by decide), fx 191 (by decide)]
  rcases alt with w | ⟨w1, w2⟩
  · exact Or.inl w
  · refine Or.inr ⟨w1, ?_⟩
    rcases w2 with w2 | ⟨q', q1, q2, q3, q4, q5⟩
    · exact Or.inl w2
    · exact Or.inr ⟨q', q1, q2, q3, q4, fun t h1 h2 => by rw [fx _ (by omega)]; exact q5 t h1 h2⟩
theorem c_isSec {len : Nat} (hz : wz z) (e3 : I 198 3 = (len : Int)) (j : Int) : mI (d + 1) m_Works_isSecondary [vR 11 1, vI j] z I fun r I1 => I1 = I ∧ r = if 0 ≤ j ∧ j < (len : Int) then 1 else 0 := by
  refine wr_Works_isSecondary hz ?_
  rw [e3]
  exact ⟨fun w => qI_mk ⟨rfl, by rw [if_neg (by omega)]⟩, fun w => ⟨fun w2 => qI_mk ⟨rfl, by rw [if_neg (by omega)]⟩, fun w2 => qI_mk ⟨rfl, by rw [if_pos (by omega)]⟩⟩⟩
theorem c_isProduct {len : Nat} (hz : wz z) (y6 : z.1 1 6 = sh) (hS : shOk D sh I) (e3 : I 198 3 = (len : Int)) (j a b c : Int) : mI (d + 2) m_Works_isProduct [vR 11 1, vI j, vI a, vI b, vI c] z I fun r I1 => I1 = I ∧ (r = 0 ∨ r = 1) ∧ (r = 1 ↔ isPws D len j a b c) := by
  unfold isPws
  refine wr_Works_isProduct hz y6 (shOk_sh hS) (mI_mono (c_isSec (d := d) hz e3 j) fun r I1 ⟨e1, b1⟩ => ?_)
  rw [e1, hS.2.1]
  have no : ¬ ((0 ≤ j ∧ j < (len : Int)) ∧ 0 ≤ a ∧ 0 ≤ b ∧ 0 ≤ c ∧ (D = 3 ∨ c = 0)) → qI z (fun r I1 => I1 = I ∧ (r = 0 ∨ r = 1) ∧ (r = 1 ↔ (0 ≤ j ∧ j < (len : Int)) ∧ 0 ≤ a ∧ 0 ≤ b ∧ 0 ≤ c ∧ (D = 3 ∨ c = 0))) (some (vI 0)) (I, z) := fun q => qI_mk ⟨rfl, Or.inl rfl, fun e => absurd e (by decide), fun x => absurd x q⟩
  refine ⟨fun w => no fun q => by rw [if_pos q.1] at b1; omega, fun w => ?_⟩
  have hj : 0 ≤ j ∧ j < (len : Int) := Classical.byContradiction fun x => w (by rw [b1, if_neg x])
  refine ⟨fun w1 => no fun q => by omega, fun w1 => ⟨fun w2 => no fun q => by omega, fun w2 => ⟨fun w3 => ⟨fun w4 => qI_mk ⟨rfl, Or.inr rfl, fun _ => ⟨hj, w1, w2, w3, Or.inr w4⟩, fun _ => rfl⟩, fun w4 => ⟨fun w5 => no fun q => by rcases q.2.2.2.2 with e | e; exact w5 e; exact w4 e, fun w5 => qI_mk ⟨rfl, Or.inr rfl, fun _ => ⟨hj, w1, w2, w3, Or.inl w5⟩, fun _ => rfl⟩⟩⟩, fun w3 => no fun q => by omega⟩⟩⟩
theorem c_rewrite (h : wI D T nt n L K B tp rf sh mb z I) (k : Int) : zcI (d + 11) m_Works_rewrite [vR 11 1, vI k] z I fun r I1 z1 => wI D T nt n L K B tp (rfRewrite D T nt n K k rf) sh mb z1 I1 ∧ usW z z1 ∧ r = aRewrite D T nt n K k := by
  obtain ⟨hD, hz, hg, hs, pm, y6, y7, hS, hM, hE⟩ := wI_get h
  obtain ⟨m0, m1⟩ := m816 hD
  refine wr_Works_rewrite (sh := sh) hz (mI_mono (t_isKept (d := d + 9) hz k) fun r0 I0 ⟨e0, b0⟩ => ?_)
  rw [e0]
  refine ⟨fun w => kI_mk ⟨?_, usW_refl z, ?_⟩, fun w => zcI_mono (c_findSec (d := d) h) fun r I3 Z4 ⟨W3, U3, alt⟩ => ?_⟩
  · have nk : ¬ kFit k := fun q => by rw [if_pos q] at b0; omega
    unfold rfRewrite
    split
    · exact h
    · rw [if_neg nk]; exact h
  · have nk : ¬ kFit k := fun q => by rw [if_pos q] at b0; omega
    unfold aRewrite
    split
    · rfl
    · rw [if_neg nk]
  have hk : kFit k := Classical.byContradiction fun x => w (by rw [b0, if_neg x])
  have hk' : 0 ≤ k ∧ k ≤ 5 := hk
  rcases alt with ⟨r0', w'⟩ | ⟨r1, f4, q, q1, q2⟩
  · have er : rfRewrite D T nt n K k rf = rf := by unfold rfRewrite; rw [w']
    have ea : aRewrite D T nt n K k = -1 := by unfold aRewrite; rw [w']
    rw [er, ea]
    exact ⟨fun x => absurd r0' x, fun _ => kI_mk ⟨W3, U3, rfl⟩⟩
  have e1 : rfRewrite D T nt n K k rf = @ite (Option (Int → Int)) (isInv D T nt (K k)) (Classical.propDecidable _) (some (K k)) rf := by
    unfold rfRewrite
    rw [q1]
    show (if kFit k then _ else rf) = _
    rw [if_pos hk]
  have e2 : aRewrite D T nt n K k = @ite Int (isInv D T nt (K k)) (Classical.propDecidable _) ((pmF D T nt q (K k)).length : Int) (-2) := by
    unfold aRewrite
    rw [q1]
    show (if kFit k then _ else _) = _
    rw [if_pos hk]
  rw [e1, e2]
  obtain ⟨_, hz3, hg3, _, _, y63, _, hS3, _, hE3⟩ := wI_get W3
  refine ⟨fun _ => ⟨hz3, ⟨hk'.1, by omega⟩, ?_⟩, fun x => by omega⟩
  obtain ⟨kr, kv⟩ := W3.2.2.2.2.1 k hk'.1 (by omega)
  have l816 : mFrom D 16 ≤ Z4.2.1 (4 + k.toNat) := by rw [kept_len hz3 hk'.1 (by omega)]; exact m1
  refine zcI_mono (t_isLeftAlone (d := d + 1) hE3 (f := 4 + k.toNat) (by omega) (nk_mvl hk'.1 (by omega)) l816 kr kv) fun r10 I8 Z9 ⟨v1, v2, v3, v4, v5⟩ => ?_
  obtain ⟨W8, U8⟩ := wI_mv W3 v1 v2 v3
  have f48 : I8 185 4 = 1 := by rw [v2 185 (by decide)]; exact f4
  have q28 : I8 198 3 = ((pmL D T nt q).length : Int) := by rw [v2 198 (by decide)]; exact q2
  obtain ⟨_, hz8, hg8, _, _, y68, _, hS8, _, _⟩ := wI_get W8
  refine And.symm ⟨fun w10 => kI_mk ⟨?_, usW_trans U3 U8, ?_⟩, fun w10 => ⟨hz8, y68, ?_⟩⟩
  · rw [if_neg fun x => by have := v5.mpr x; omega]; exact W8
  · rw [if_neg fun x => by have := v5.mpr x; omega]
  have iv : isInv D T nt (K k) := v5.mp (by omega)
  rw [if_pos iv, if_pos iv]
  obtain ⟨kr8, kv8⟩ := W8.2.2.2.2.1 k hk'.1 (by omega)
  refine mI_mono (t_degreeOf (d := d + 9) hz8 hS8 (by omega) (by rw [kept_len hz8 hk'.1 (by omega)]; exact m1) kr8 kv8) fun r14 I13 ⟨e13, b13⟩ => ?_
  rw [e13, b13]
  obtain ⟨k0, R0, full, td, rl⟩ := sec_get W8 q1 f48 q28
  have S : sx_S D T nt n L (pmV D T nt q) (pmD D T nt q) := by
    rcases wI_q W8 f48 with ⟨x, _⟩ | ⟨q', x1, _, x3, _⟩
    · rw [q1] at x; exact absurd x (by simp)
    · rw [q1] at x1
      rw [Option.some.inj x1]; exact x3
  refine zcU_mono (t_extend (d := d + 1) S kv8.2.2 R0) fun I15 Z16 ⟨k1, kk, dk, R15, hx, hl⟩ => ?_
  have w6 : 248 ≤ zN Z9 := hz8.2.2.2.2.2
  have fx : ∀ x, x < 248 → 185 ≤ x → x ∉ exM → I15 x = I8 x := fun x h1 h2 h3 => hx.1.2.2.2 x (by omega) h3 fun k hk _ => gw_fix hg8 h1 (by omega) (Or.inr h2) hk
  -- all the secondary ones are there already
  have full1 : seAll D T nt (pmV D T nt q) (pmD D T nt q) k1 = pmL D T nt q := by
    obtain ⟨l1, a1, _⟩ := seAll_pre (D := D) (T := T) (nt := nt) (v := pmV D T nt q) (dg := pmD D T nt q) (t := k0) (t' := k1) kk R15.2.2.2.2.1
    obtain ⟨l2, a2, _⟩ := seAll_pre (D := D) (T := T) (nt := nt) (v := pmV D T nt q) (dg := pmD D T nt q) (t := k1) (t' := 16) R15.2.2.2.2.1 (Nat.le_refl _)
    have a3 : pmL D T nt q = seAll D T nt (pmV D T nt q) (pmD D T nt q) k1 ++ l2 := a2
    have len : (pmL D T nt q).length = (pmL D T nt q).length + l1.length + l2.length := by
      have x := congrArg List.length a3
      rw [a1, full, List.length_append, List.length_append] at x
      omega
    have z2 : l2 = [] := List.length_eq_zero_iff.mp (by omega)
    rw [a3, z2, List.append_nil]
  have td1 := tdZ_ext td kk R15.2.2.2.2.1 R15.2.2.2.2.2.2.2 hl (fx 201 (by decide) (by decide) (by decide)) (hx.2.1 7 (by decide) (by decide))
  have rl1 := rlZ_ext rl kk hl (fx 202 (by decide) (by decide) (by decide)) (hx.2.1 9 (by decide) (by decide)) (hx.2.1 10 (by decide) (by decide))
  obtain ⟨W15, U15⟩ := wI_ex W8 q1 f48 R15 hx full1 td1 rl1
  have f415 : I15 185 4 = 1 := by rw [fx 185 (by decide) (by decide) (by decide)]; exact f48
  obtain ⟨kr15, kv15⟩ := W15.2.2.2.2.1 k hk'.1 (by omega)
  refine ⟨(wI_get W15).2.1, mU_mono (t_tell (d := d + 7) S (a := 4 + k.toNat) R15 (by omega) (by omega) kr15 kv15 iv dk) fun I18 ⟨t1, t2, t3, t4, t5⟩ => kI_mk ?_⟩
  obtain ⟨R18, lb⟩ := rwE_fr R15 (I1 := I18) (fr_mono t1 (by simp)) (zf_refl _ Z16) (t2 3 (by decide)) (t2 4 (by decide))
  have k16 := R15.2.2.2.2.1
  obtain ⟨W18, U18⟩ := wI_rw W15 q1 f415 R18 (zf_refl _ Z16) (fr_mono t1 (by simp)) full1 (rf' := some (K k)) (Or.inr ⟨K k, rfl, kv15, iv, t3, ⟨fun t ht i hi => by
    rw [t4.1 t ht i hi]
    show (if i < bsRows D T nt t then fi (rwQ D T nt _ _ (K k) (lab (I15 (gG Z16 t 3)) i)) else 0) = if i < bsRows D T nt t then fi (rwQ D T nt _ _ (K k) (lab (I18 (gG Z16 t 3)) i)) else 0
    rw [(lb t (by omega)).2], t4.2⟩, t5⟩) (by
    rcases rl1 with x | ⟨i, h', g1, g2, g3, g4, g5, g6⟩
    · exact Or.inl (by rw [t2 9 (by decide)]; exact x)
    · refine Or.inr ⟨i, h', by rw [t2 9 (by decide)]; exact g1, by rw [t2 10 (by decide)]; exact g2, g3, g4, g5, fun c hc => ?_⟩
      rw [t1 202 (by decide), g6 c hc, (lb _ (by
        have : sx_d (pmL D T nt q) i + sx_d (pmL D T nt q) h' < 16 := by omega
        exact this)).2])
  exact ⟨W18, usW_trans U3 (usW_trans U8 (usW_trans U15 U18)), t3⟩
theorem c_rewritten (h : wI D T nt n L K B tp rf sh mb z I) (j a b c : Int) (ha : a ≤ 2147483647) (hb : b ≤ 2147483647) (hc : c ≤ 2147483647) : mI (d + 3) m_Works_rewritten [vR 11 1, vI j, vI a, vI b, vI c] z I fun r I1 => I1 = I ∧ r = aRewritten D T nt n rf j a b c := by
  obtain ⟨hD, hz, hg, hs, pm, y6, y7, hS, hM, hE⟩ := wI_get h
  obtain ⟨m0, m1⟩ := m816 hD
  obtain ⟨t1, t2⟩ := told_eq h
  refine wr_Works_rewritten hz ⟨fun w => qI_mk ⟨rfl, by rw [t2.mpr w]; rfl⟩, fun w => ?_⟩
  rcases h.2.2.2.2.2.2 with ⟨a1, _⟩ | ⟨q, k, q1, f4, R, full, td, rl⟩
  · have := t2.mp a1; omega
  rcases td with ⟨x, _⟩ | ⟨f, f1, f2, f3, f4', f5, f6⟩
  · have := t2.mp x; omega
  have S : sx_S D T nt n L (pmV D T nt q) (pmD D T nt q) := by
    rcases wI_q h f4 with ⟨x, _⟩ | ⟨q', x1, _, x3, _⟩
    · rw [q1] at x; exact absurd x (by simp)
    · rw [q1] at x1
      rw [Option.some.inj x1]; exact x3
  have e3 : I 198 3 = ((pmL D T nt q).length : Int) := by
    have := R.2.2.2.2.2.2.1.1
    rw [full] at this
    exact this
  have ea : aRewritten D T nt n rf j a b c = @ite Int (isPws D (pmL D T nt q).length j a b c) (Classical.propDecidable _) (fi (pmX D T nt q f (j, a, b, c))) (-1) := by
    unfold aRewritten
    rw [f1]
    show (match pmRes D T nt n with | none => -1 | some q => _) = _
    rw [q1]
  rw [ea]
  refine mI_mono (c_isProduct (d := d) hz y6 hS e3 j a b c) fun r2 I1 ⟨e1, b1, b2⟩ => ?_
  rw [e1]
  refine ⟨fun w2 => ?_, fun w2 => qI_mk ⟨rfl, by rw [if_neg fun x => by have := b2.mpr x; omega]⟩⟩
  have pw : isPws D (pmL D T nt q).length j a b c := b2.mp (by omega)
  rw [if_pos pw]
  obtain ⟨p1, p2, p3, p4, p5⟩ := id pw
  have k16 := R.2.2.2.2.1
  refine mI_mono (t_placeOf (d := d) S R full p1 ⟨p2, ha⟩ ⟨p3, hb⟩ ⟨p4, hc⟩ p5) fun r4 I3 ⟨e3', alt⟩ => ?_
  rw [e3']
  rcases alt with ⟨r4e, no⟩ | ⟨t, i, tk, hi, hx, hl, r4e⟩
  · refine ⟨fun x => by omega, fun _ => qI_mk ⟨rfl, ?_⟩⟩
    have z0 : pmX D T nt q f (j, a, b, c) = 0 := by
      by_cases ex : ∃ t : Nat, t ≤ 15 ∧ (j, a, b, c) ∈ sx_X D (pmD D T nt q) (pxL D T nt (pmV D T nt q) (pmD D T nt q)) t
      · obtain ⟨t, t15, hx⟩ := ex
        by_cases tk : t < k
        · exact absurd hx (no t tk)
        · exact f6 t (by omega) (by omega) _ hx
      · exact (rwQ_ok S f2 f3).2 _ ex
    rw [z0]
    exact (fi_zero.mpr rfl).symm
  · have fb := from_bds hD (t := (t : Int)) (by omega) (by omega)
    have ga := gd_get h.1.1 (t := t) (by omega) (grC_en (R.2.2.2.2.2.2.2 t tk)).1
    have sN := ga.2.2.2.1
    refine ⟨fun _ => ⟨⟨by omega, by omega⟩, qI_mk ⟨rfl, ?_⟩⟩, fun x => by omega⟩
    rw [r4e, f5.1 t tk i (by omega), if_pos hi]
    show fi (rwQ D T nt _ _ f (lab (I (gG z t 3)) i)) = _
    rw [hl]
    rfl
theorem c_relation (h : wI D T nt n L K B tp rf sh mb z I) (i g j a b c : Int) (ha : a ≤ 2147483647) (hb : b ≤ 2147483647) (hc : c ≤ 2147483647) : zcI (d + 11) m_Works_relation [vR 11 1, vI i, vI g, vI j, vI a, vI b, vI c] z I fun r I1 z1 => wI D T nt n L K B tp rf sh mb z1 I1 ∧ usW z z1 ∧ r = aRelation D T nt n i g j a b c := by
  obtain ⟨hD, hz, hg, hs, pm, y6, y7, hS, hM, hE⟩ := wI_get h
  obtain ⟨m0, m1⟩ := m816 hD
  refine wr_Works_relation (sh := sh) hz hs (zcI_mono (c_findSec (d := d) h) fun r I1 Z2 ⟨W1, U1, alt⟩ => ?_)
  unfold aRelation
  rcases alt with ⟨r0', w'⟩ | ⟨r1, f4, q, q1, q2⟩
  · rw [w']
    exact ⟨fun _ => kI_mk ⟨W1, U1, rfl⟩, fun x => absurd r0' x⟩
  rw [q1]
  refine ⟨fun x => by omega, fun _ => ?_⟩
  obtain ⟨_, hz1, hg1, _, _, y61, _, hS1, _, _⟩ := wI_get W1
  obtain ⟨cond, hcond⟩ : ∃ cond : Prop, cond = (((0 ≤ i ∧ i < ((pmL D T nt q).length : Int)) ∧ (0 ≤ g ∧ g < ((pmL D T nt q).length : Int))) ∧ isPws D (pmL D T nt q).length j a b c) := ⟨_, rfl⟩
  show mI (d + 10) m_Works_isSecondary [vR 11 1, vI i] Z2 I1 _
  have no : ∀ J : cm_I, J = I1 → ¬ (((0 ≤ i ∧ i < ((pmL D T nt q).length : Int)) ∧ (0 ≤ g ∧ g < ((pmL D T nt q).length : Int))) ∧ isPws D (pmL D T nt q).length j a b c) → kI (fun r I1 z1 => wI D T nt n L K B tp rf sh mb z1 I1 ∧ usW z z1 ∧ r = @ite Int (((0 ≤ i ∧ i < ((pmL D T nt q).length : Int)) ∧ (0 ≤ g ∧ g < ((pmL D T nt q).length : Int))) ∧ isPws D (pmL D T nt q).length j a b c) (Classical.propDecidable _) (if (sx_x (pmL D T nt q) i.toNat).1 + (sx_x (pmL D T nt q) g.toNat).1 ≤ 15 then fi (pmX D T nt q (vMul D (sx_b D T nt (sx_x (pmL D T nt q) i.toNat)) (sx_b D T nt (sx_x (pmL D T nt q) g.toNat))) (j, a, b, c)) else -2) (-1)) (some (vI (-1))) (J, Z2) := fun J e x => kI_mk ⟨by rw [e]; exact W1, U1, by rw [if_neg x]⟩
  refine mI_mono (c_isSec (d := d + 9) hz1 q2 i) fun r4 I4 ⟨e4, b4⟩ => ?_
  rw [e4]
  refine ⟨fun w => no I1 rfl fun x => by rw [if_pos x.1.1] at b4; omega, fun w => mI_mono (c_isSec (d := d + 9) hz1 q2 g) fun r6 I6 ⟨e6, b6⟩ => ?_⟩
  have hi : 0 ≤ i ∧ i < ((pmL D T nt q).length : Int) := Classical.byContradiction fun x => w (by rw [b4, if_neg x])
  rw [e6]
  refine ⟨fun w => no I1 rfl fun x => by rw [if_pos x.1.2] at b6; omega, fun w => mI_mono (c_isProduct (d := d + 8) hz1 y61 hS1 q2 j a b c) fun r8 I8 ⟨e8, b8, c8⟩ => ?_⟩
  have hh : 0 ≤ g ∧ g < ((pmL D T nt q).length : Int) := Classical.byContradiction fun x => w (by rw [b6, if_neg x])
  rw [e8]
  refine ⟨fun w => ?_, fun w => no I1 rfl fun x => by have := c8.mpr x.2; omega⟩
  have pw : isPws D (pmL D T nt q).length j a b c := c8.mp (by omega)
  obtain ⟨p1, p2, p3, p4, p5⟩ := id pw
  obtain ⟨iN, hiN⟩ : ∃ iN : Nat, (iN : Int) = i := ⟨i.toNat, by omega⟩
  obtain ⟨hN, hhN⟩ : ∃ hN : Nat, (hN : Int) = g := ⟨g.toNat, by omega⟩
  have ti : i.toNat = iN := by omega
  have tg : g.toNat = hN := by omega
  obtain ⟨l216, rows⟩ := sec_rows W1 q1 f4 q2
  have S : sx_S D T nt n L (pmV D T nt q) (pmD D T nt q) := by
    rcases wI_q W1 f4 with ⟨x, _⟩ | ⟨q', x1, _, x3, _⟩
    · rw [q1] at x; exact absurd x (by simp)
    · rw [q1] at x1
      rw [Option.some.inj x1]; exact x3
  have hi' : iN < (pxL D T nt (pmV D T nt q) (pmD D T nt q)).length := by show iN < (pmL D T nt q).length; omega
  have hh' : hN < (pxL D T nt (pmV D T nt q) (pmD D T nt q)).length := by show hN < (pmL D T nt q).length; omega
  obtain ⟨si1, si2, si3⟩ := sx_in S hi'
  obtain ⟨sh1, sh2, sh3⟩ := sx_in S hh'
  have r199 : ∀ jj : Nat, jj < (pmL D T nt q).length → I1 199 (jj : Int) = (sx_x (pmL D T nt q) jj).1 := fun jj hjj => (rows jj hjj).1
  have ei : I1 199 i = (sx_d (pmL D T nt q) iN : Int) := by rw [← hiN, r199 iN (by omega)]; exact si1
  have eh : I1 199 g = (sx_d (pmL D T nt q) hN : Int) := by rw [← hhN, r199 hN (by omega)]; exact sh1
  have fin : ∀ (r : Int) (J : cm_I) (z' : cm_Z), wI D T nt n L K B tp rf sh mb z' J → usW z z' → (r = if sx_d (pmL D T nt q) iN + sx_d (pmL D T nt q) hN ≤ 15 then fi (rwQ D T nt (pmV D T nt q) (pmD D T nt q) (rlP D T nt (pmV D T nt q) (pmD D T nt q) iN hN) (j, a, b, c)) else -2) → kI (fun r I1 z1 => wI D T nt n L K B tp rf sh mb z1 I1 ∧ usW z z1 ∧ r = @ite Int (((0 ≤ i ∧ i < ((pmL D T nt q).length : Int)) ∧ (0 ≤ g ∧ g < ((pmL D T nt q).length : Int))) ∧ isPws D (pmL D T nt q).length j a b c) (Classical.propDecidable _) (if (sx_x (pmL D T nt q) i.toNat).1 + (sx_x (pmL D T nt q) g.toNat).1 ≤ 15 then fi (pmX D T nt q (vMul D (sx_b D T nt (sx_x (pmL D T nt q) i.toNat)) (sx_b D T nt (sx_x (pmL D T nt q) g.toNat))) (j, a, b, c)) else -2) (-1)) (some (vI r)) (J, z') := by
    intro r J z' W U e
    refine kI_mk ⟨W, U, ?_⟩
    rw [if_pos ⟨⟨hi, hh⟩, pw⟩, ti, tg, e]
    have x1 : (sx_x (pmL D T nt q) iN).1 = (sx_d (pmL D T nt q) iN : Int) := si1
    have x2 : (sx_x (pmL D T nt q) hN).1 = (sx_d (pmL D T nt q) hN : Int) := sh1
    rw [x1, x2]
    by_cases w : sx_d (pmL D T nt q) iN + sx_d (pmL D T nt q) hN ≤ 15
    · rw [if_pos w, if_pos (by omega)]
      rfl
    · rw [if_neg w, if_neg (by omega)]
  rw [ei, eh]
  have x15i : sx_d (pmL D T nt q) iN ≤ 15 := si2
  have x15h : sx_d (pmL D T nt q) hN ≤ 15 := sh2
  refine ⟨hz1, ⟨hi.1, by omega⟩, ⟨hh.1, by omega⟩, by unfold cm_i; omega, fun le => ?_, fun gt => fin _ _ _ W1 U1 (by rw [if_neg (by omega)])⟩
  obtain ⟨k0, R0, full, td, rl⟩ := sec_get W1 q1 f4 q2
  refine zcU_mono (t_extend (d := d + 1) S le R0) fun I14 Z15 ⟨k1, kk, dk, R14, hx, hl⟩ => ?_
  have w6 : 248 ≤ zN Z2 := hz1.2.2.2.2.2
  have fx : ∀ x, x < 248 → 185 ≤ x → x ∉ exM → I14 x = I1 x := fun x h1 h2 h3 => hx.1.2.2.2 x (by omega) h3 fun k hk _ => gw_fix hg1 h1 (by omega) (Or.inr h2) hk
  have full1 : seAll D T nt (pmV D T nt q) (pmD D T nt q) k1 = pmL D T nt q := by
    obtain ⟨l1, a1, _⟩ := seAll_pre (D := D) (T := T) (nt := nt) (v := pmV D T nt q) (dg := pmD D T nt q) (t := k0) (t' := k1) kk R14.2.2.2.2.1
    obtain ⟨l2, a2, _⟩ := seAll_pre (D := D) (T := T) (nt := nt) (v := pmV D T nt q) (dg := pmD D T nt q) (t := k1) (t' := 16) R14.2.2.2.2.1 (Nat.le_refl _)
    have a3 : pmL D T nt q = seAll D T nt (pmV D T nt q) (pmD D T nt q) k1 ++ l2 := a2
    have len : (pmL D T nt q).length = (pmL D T nt q).length + l1.length + l2.length := by
      have x := congrArg List.length a3
      rw [a1, full, List.length_append, List.length_append] at x
      omega
    have z2 : l2 = [] := List.length_eq_zero_iff.mp (by omega)
    rw [a3, z2, List.append_nil]
  have td1 := tdZ_ext td kk R14.2.2.2.2.1 R14.2.2.2.2.2.2.2 hl (fx 201 (by decide) (by decide) (by decide)) (hx.2.1 7 (by decide) (by decide))
  have rl1 := rlZ_ext rl kk hl (fx 202 (by decide) (by decide) (by decide)) (hx.2.1 9 (by decide) (by decide)) (hx.2.1 10 (by decide) (by decide))
  obtain ⟨W14, U14⟩ := wI_ex W1 q1 f4 R14 hx full1 td1 rl1
  have f414 : I14 185 4 = 1 := by rw [fx 185 (by decide) (by decide) (by decide)]; exact f4
  have dk' : sx_d (pxL D T nt (pmV D T nt q) (pmD D T nt q)) iN + sx_d (pxL D T nt (pmV D T nt q) (pmD D T nt q)) hN < k1 := by
    show sx_d (pmL D T nt q) iN + sx_d (pmL D T nt q) hN < k1
    omega
  have k16 := R14.2.2.2.2.1
  have hC : I14 198 9 = (iN : Int) → I14 198 10 = (hN : Int) → rlF D T nt (pmV D T nt q) (pmD D T nt q) iN hN Z15 I14 := by
    intro x9 x10
    rcases rl1 with x | ⟨i', h', g1, g2, g3, g4, g5, g6⟩
    · rw [x] at x9; omega
    · have : i' = iN := by omega
      have : h' = hN := by omega
      subst i'
      subst h'
      exact g6
  have rel := t_relate (d := d + 6) S (i := iN) (h := hN) R14 full1 hi' hh' dk' hC
  rw [hiN, hhN] at rel
  refine ⟨(wI_get W14).2.1, zcU_mono rel fun I17 Z18 ⟨t1, t2, t3, t4, t5, t6⟩ => ?_⟩
  obtain ⟨R17, lb⟩ := rwE_fr R14 (I1 := I17) (fr_mono t2 (by simp)) t1 (t3 3 (by decide) (by decide)) (t3 4 (by decide) (by decide))
  have td17 : tdZ D T nt q k1 rf Z18 I17 := by
    rcases td1 with ⟨x1, x2⟩ | ⟨f, f1, f2, f3, f4', f5, f6⟩
    · exact Or.inl ⟨x1, by rw [t3 7 (by decide) (by decide)]; exact x2⟩
    · refine Or.inr ⟨f, f1, f2, f3, by rw [t3 7 (by decide) (by decide)]; exact f4', ⟨fun t ht ii hii => ?_, fun t ht h16 => by rw [t2 201 (by decide)]; exact f5.2 t ht h16⟩, f6⟩
      rw [t2 201 (by decide), f5.1 t ht ii hii]
      show (if ii < bsRows D T nt t then fi (rwQ D T nt _ _ f (lab (I14 (gG Z15 t 3)) ii)) else 0) = if ii < bsRows D T nt t then fi (rwQ D T nt _ _ f (lab (I17 (gG Z18 t 3)) ii)) else 0
      rw [(lb t (by omega)).1, (lb t (by omega)).2]
  obtain ⟨W17, U17⟩ := wI_rw W14 q1 f414 R17 t1 (fr_mono t2 (by simp)) full1 td17 (Or.inr ⟨iN, hN, by rw [t4]; exact hiN.symm, by rw [t5]; exact hhN.symm, hi', hh', dk', t6⟩)
  obtain ⟨_, hz17, _, _, _, y617, _, hS17, _, _⟩ := wI_get W17
  refine ⟨hz17, mI_mono (t_placeOf (d := d + 8) S R17 full1 p1 ⟨p2, ha⟩ ⟨p3, hb⟩ ⟨p4, hc⟩ p5) fun r21 I20 ⟨e20, alt⟩ => ?_⟩
  have UU := usW_trans U1 (usW_trans U14 U17)
  obtain ⟨t, ht⟩ : ∃ t, t = sx_d (pmL D T nt q) iN + sx_d (pmL D T nt q) hN := ⟨_, rfl⟩
  have et : (sx_d (pmL D T nt q) iN : Int) + (sx_d (pmL D T nt q) hN : Int) = (t : Int) := by omega
  have t15 : t ≤ 15 := by omega
  have s2 : I17 (sh + 2) (t : Int) = mFrom D t := hS17.2.2.2.2.1 _ (by omega) (by omega)
  have s1 : I17 (sh + 1) ((t : Int) + 1) = mMany D t := by rw [hS17.2.2.2.1 _ (by omega) (by omega), fF_many]
  rw [e20, et, s2, s1]
  have fb := from_bds hD (t := (t : Int)) (by omega) (by omega)
  have zero : (∀ t' : Nat, t' < k1 → pxX D T nt (pmV D T nt q) (pmD D T nt q) t' (j, a, b, c) → t' ≠ t) → 0 = (if sx_d (pmL D T nt q) iN + sx_d (pmL D T nt q) hN ≤ 15 then fi (rwQ D T nt (pmV D T nt q) (pmD D T nt q) (rlP D T nt (pmV D T nt q) (pmD D T nt q) iN hN) (j, a, b, c)) else -2) := by
    intro hne
    rw [if_pos (by omega)]
    obtain ⟨vm, im, _, _⟩ := rlP_ok S hi' hh' (by exact (show sx_d (pmL D T nt q) iN + sx_d (pmL D T nt q) hN ≤ 15 by omega))
    have z0 : rwQ D T nt (pmV D T nt q) (pmD D T nt q) (rlP D T nt (pmV D T nt q) (pmD D T nt q) iN hN) (j, a, b, c) = 0 := by
      by_cases ex : ∃ t' : Nat, t' ≤ 15 ∧ (j, a, b, c) ∈ sx_X D (pmD D T nt q) (pxL D T nt (pmV D T nt q) (pmD D T nt q)) t'
      · obtain ⟨t', t15', hx'⟩ := ex
        have ne : t' ≠ t := by
          by_cases tk : t' < k1
          · exact hne t' tk hx'
          · intro e
            have : t < k1 := by rw [ht]; exact dk'
            omega
        exact rl_zero S hi' hh' (by exact (show sx_d (pmL D T nt q) iN + sx_d (pmL D T nt q) hN ≤ 15 by omega)) t15' (by rw [ht] at ne; exact ne) _ hx'
      · exact (rwQ_ok S vm im).2 _ ex
    rw [z0]
    exact (fi_zero.mpr rfl).symm
  rcases alt with ⟨r21e, nox⟩ | ⟨t', ii, tk, hii, hx', hlab, r21e⟩
  · exact ⟨y617, ⟨by omega, by omega⟩, by unfold cm_i; omega, fun _ => fin _ _ _ W17 UU (zero fun t' tk hx' => absurd hx' (nox t' tk)), fun x => by omega⟩
  · have ga := gd_get W17.1.1 (t := t') (by omega) (grC_en (R17.2.2.2.2.2.2.2 t' tk)).1
    have sN := ga.2.2.2.1
    have fb' := from_bds hD (t := (t' : Int)) (by omega) (by omega)
    by_cases e : t' = t
    · subst e
      have mm : mMany D (t' : Int) ≤ 136 := fb.2.2.2.2.2
      refine ⟨y617, ⟨by omega, by omega⟩, by unfold cm_i; omega, fun x => by omega, fun _ => ⟨by unfold cm_i; omega, ⟨by omega, by omega⟩, fun _ => ⟨⟨by omega, by omega⟩, fin _ _ _ W17 UU ?_⟩, fun x => by omega⟩⟩
      rw [r21e, show mFrom D (t' : Int) + (ii : Int) - mFrom D (t' : Int) = (ii : Int) by omega, if_pos (by omega)]
      have := t6 ii (by omega)
      have et' : sx_d (pxL D T nt (pmV D T nt q) (pmD D T nt q)) iN + sx_d (pxL D T nt (pmV D T nt q) (pmD D T nt q)) hN = t' := ht.symm
      rw [et'] at this
      rw [this, if_pos hii, hlab]
    · have dis : mFrom D (t' : Int) + (ii : Int) < mFrom D (t : Int) ∨ mFrom D ((t : Int) + 1) ≤ mFrom D (t' : Int) + (ii : Int) := by
        rcases Nat.lt_or_gt_of_ne e with w | w
        · left
          have := mFrom_mono D (s := (t' : Int) + 1) (t := (t : Int)) (by omega) (by omega)
          omega
        · right
          have := mFrom_mono D (s := (t : Int) + 1) (t := (t' : Int)) (by omega) (by omega)
          omega
      have hne : ∀ t'' : Nat, t'' < k1 → pxX D T nt (pmV D T nt q) (pmD D T nt q) t'' (j, a, b, c) → t'' ≠ t := fun t'' tk'' hx'' e' => by
        have := sx_Xdeg S px_L hx'' hx'
        omega
      exact ⟨y617, ⟨by omega, by omega⟩, by unfold cm_i; omega, fun _ => fin _ _ _ W17 UU (zero hne), fun _ => ⟨by unfold cm_i; omega, ⟨by omega, by omega⟩, fun x => by omega, fun _ => fin _ _ _ W17 UU (zero hne)⟩⟩
end WC6
