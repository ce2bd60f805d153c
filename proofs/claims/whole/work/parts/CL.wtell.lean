/-! Rewriter.tell -/
section WTL
variable {d : Nat} {z z1 : cm_Z} {I I1 : cm_I} {D : Int} {sh mb : Nat} {T : Nat → cMat} {nt n : Nat} {L : Nat → cMat} {v : Nat → Int → Int} {dg : Nat → Int}
theorem grC_en {t : Nat} (h : grC D T nt v dg t z I) : I (73 + 7 * t) 1 = 1 ∧ grQ D T nt v dg t (bsRows D T nt t) (fun i => lab (I (gG z t 3)) i) z I ∧ enX D T nt v dg t fun i => lab (I (gG z t 3)) i := by
  obtain ⟨h1, X, ⟨q1, q2, q3, q4, q5, q6, q7⟩, h3⟩ := h
  have e : ∀ i, i < bsRows D T nt t → lab (I (gG z t 3)) i = X i := fun i hi => (q4 i hi).1
  refine ⟨h1, ⟨q1, q2, q3, fun i hi => ⟨rfl, ?_⟩, fun i j hi hj w => ?_, fun i k hi hk => ?_, luI_congr q7 rfl rfl fun i r hi hr => ?_⟩, fun i hi => ?_, fun i j hi hj w => ?_, fun x hx => ?_⟩
  · show pxX D T nt v dg t (lab (I (gG z t 3)) i)
    rw [e i hi]; exact (q4 i hi).2
  · have w' : lab (I (gG z t 3)) i = lab (I (gG z t 3)) j := w
    rw [e i hi, e j hj] at w'
    exact q5 i j hi hj w'
  · show _ = fi (pxV D T nt v dg t (lab (I (gG z t 3)) i) k)
    rw [e i hi]; exact q6 i k hi hk
  · show pxV D T nt v dg t (lab (I (gG z t 3)) i) _ = _
    rw [e i hi]
  · show pxX D T nt v dg t (lab (I (gG z t 3)) i)
    rw [e i hi]; exact (q4 i hi).2
  · have w' : lab (I (gG z t 3)) i = lab (I (gG z t 3)) j := w
    rw [e i hi, e j hj] at w'
    exact q5 i j hi hj w'
  · obtain ⟨i, hi, w⟩ := h3 x hx
    exact ⟨i, hi, by show lab (I (gG z t 3)) i = x; rw [e i hi]; exact w⟩
/-- the parts are solved by all products -/
theorem gr_sol (hE : bsE D sh mb T nt n L z I) (S : sx_S D T nt n L v dg) {t : Nat} (t15 : t < 16) (b1 : I (73 + 7 * t) 1 = 1) {X : Nat → tup4} (hQ : grQ D T nt v dg t (bsRows D T nt t) X z I) {W : Nat → cF} (iW : iV D T nt t W) (hW : ∀ c : Nat, c < bsRows D T nt t → I 203 (c : Int) = fi (W (I (gG z t 1) (I (gG z t 5) (c : Int))).toNat)) : mU (d + 2) m_Grade_solve [vR 2 (73 + 7 * t), vR 20 203] z I fun I1 => fr [203] I I1 ∧ ∃ f : Nat → cF, (∀ k, k < (mMany D t).toNat → W k = lc (bsRows D T nt t) f (fun i => pxV D T nt v dg t (X i)) k) ∧ ∀ c : Nat, c < bsRows D T nt t → I1 203 (c : Int) = fi (f c) := by
  have hz := hE.1.1
  have hg := hE.2.1
  have hD := shOk_D hE.1.2.1
  have mN := mMany_136 hD (t := t) (by omega)
  obtain ⟨g1, g2, g3, g4, g5, g6, g7, g8, hd, hRB, g9⟩ := gd_get hE t15 b1
  obtain ⟨q1, q2, q3, q4, q5, q6, q7⟩ := hQ
  have k9 : 1 + 6 * t + 4 < 97 := by omega
  have k10 : 1 + 6 * t + 5 < 97 := by omega
  have l203 : z.2.1 203 = 136 := wz_L hz 203 136 (by decide) (by decide)
  have hh : ∀ r : Nat, r < bsRows D T nt t → (I (gG z t 1) (r : Int)).toNat = hd r := fun r hr => by rw [g9 r hr]; omega
  refine mU_mono (t_gSolve (d := d) hz (a := 73 + 7 * t) (b := 203) (q9 := gG z t 4) (q10 := gG z t 5) (s := bsRows D T nt t) (C := fun i r => pxV D T nt v dg t (X i) (I (gG z t 1) (r : Int)).toNat) (p := fun r => W (I (gG z t 1) (r : Int)).toNat) (by omega) (by decide) (gw_pos hg k9) (by rw [gG_at t15 (j := 4) (s := 9) (by decide) rfl]; rfl) (by omega) (Ne.symm (gw_fix hg (by decide) (by decide) (by decide) k9)) (Ne.symm (gw_fix hg (by decide) (by decide) (by decide) k10)) g3 q2 (by omega) q3.2.2.1 (by omega) q7 fun c hc => ?_) fun I1 ⟨f1, f, hf, hv⟩ => ⟨f1, f, px_co hRB iW (fun i hi => px_iV S (by omega) (q4 i hi).2) fun r hr => ?_, hv⟩
  · rw [hW c hc]
    refine ⟨fi_bd _, ?_⟩
    have o := q7.2.1 c hc
    rw [toF_fi, show (((I (gG z t 5) (c : Int)).toNat : Nat) : Int) = I (gG z t 5) (c : Int) by omega]
  · have q : W (I (gG z t 1) (r : Int)).toNat = gs (bsRows D T nt t) fun i => f i * pxV D T nt v dg t (X i) (I (gG z t 1) (r : Int)).toNat := hf r hr
    rw [hh r hr] at q
    exact q
/-- a part of what can be rewritten is left alone -/
theorem rw_iV (S : sx_S D T nt n L v dg) {t : Nat} (t1 : t ≤ 15) {X : Nat → tup4} (hX : enX D T nt v dg t X) {f : Int → Int} {q : tup4 → cF} (hq : rwK D T nt v dg (pxL D T nt v dg) f q) : iV D T nt t fun k => toF (f (mFrom D t + k)) := by
  refine iV_cong (iV_lc (r := bsRows D T nt t) (c := fun i => q (X i)) (M := fun i => pxV D T nt v dg t (X i)) fun i hi => px_iV S t1 (hX.1 i hi)) fun k hk => ?_
  rw [hq.1 t t1 k hk]
  exact en_sum S t1 hX fun x => q x * sv_c D t (sx_t D T nt v (pxL D T nt v dg) x) k
noncomputable def rwQ (D : Int) (T : Nat → cMat) (nt : Nat) (v : Nat → Int → Int) (dg : Nat → Int) (f : Int → Int) : tup4 → cF := rwX D T nt v dg (pxL D T nt v dg) f
theorem rwQ_ok (S : sx_S D T nt n L v dg) {f : Int → Int} (hf : vOk D f) (hi : isInv D T nt f) : rwK D T nt v dg (pxL D T nt v dg) f (rwQ D T nt v dg f) := rw_ok S hf hi
/-- only the rewriter's own rows change -/
theorem rwE_fr {k : Nat} (hR : rwE D sh mb T nt n L v dg k z I) (hf : fr [198, 201, 202, 203, 204, 205, 207] I I1) (hz1 : zf [205, 207] z z1) (e3 : I1 198 3 = I 198 3) (e4 : I1 198 4 = I 198 4) : rwE D sh mb T nt n L v dg k z1 I1 ∧ ∀ t, t < 16 → gG z1 t 3 = gG z t 3 ∧ I1 (gG z t 3) = I (gG z t 3) := by
  obtain ⟨hE, y, hP, hT, r1, r2, r3, r4⟩ := hR
  have hg := hE.2.1
  have nn : ∀ k, k < 97 → gR z k ∉ [198, 201, 202, 203, 204, 205, 207] := fun k hk => by
    have q := fun c (h1 : c < 248) (h2 : 185 ≤ c) => gw_fix hg h1 (by omega) (Or.inr h2) hk
    simp
    exact ⟨fun e => q 198 (by decide) (by decide) e.symm, fun e => q 201 (by decide) (by decide) e.symm, fun e => q 202 (by decide) (by decide) e.symm, fun e => q 203 (by decide) (by decide) e.symm, fun e => q 204 (by decide) (by decide) e.symm, fun e => q 205 (by decide) (by decide) e.symm, fun e => q 207 (by decide) (by decide) e.symm⟩
  have row : ∀ t j, t < 16 → j < 6 → gG z1 t j = gG z t j ∧ z1.2.1 (gG z t j) = z.2.1 (gG z t j) ∧ I1 (gG z t j) = I (gG z t j) := fun t j ht hj => ⟨gG_zf hz1 gO_57 ht hj, by rw [hz1.2], hf _ (nn (1 + 6 * t + j) (by omega))⟩
  have ob : ∀ t, t < 16 → I1 (73 + 7 * t) = I (73 + 7 * t) := fun t ht => hf _ (by simp; omega)
  refine ⟨⟨bsE_fr2 hE (wz_zf hE.1.1 hz1 (by decide)) (gw_zf hz1 gO_57 (by decide) hg) (hz1.1 1 (by decide)) (hz1.1 53 (by decide)) (hz1.1 66 (by decide)) (fun t j ht hj => row t j ht (by omega)) ?_ (fun c hc _ => hf c (by simp; omega)) (fun t ht j _ _ => by rw [ob t ht]), by rw [hz1.1 198 (by decide)]; exact y, fun τ hτ => ?_, fun t ht => by rw [(row t 4 ht (by decide)).1, (row t 4 ht (by decide)).2.2]; exact hT t ht, r1, by rw [e4]; exact r2, ⟨by rw [e3]; exact r3.1, by rw [hf 199 (by decide), hf 200 (by decide)]; exact r3.2⟩, fun t ht => grC_fr (r4 t ht) (fun j _ j6 => row t j (by omega) j6) (by rw [ob t (by omega)]) (by rw [ob t (by omega)])⟩, fun t ht => ⟨(row t 3 ht (by decide)).1, (row t 3 ht (by decide)).2.2⟩⟩
  · rw [hz1.1 63 (by decide), hf (z.1 63 2) (nn 0 (by decide))]
    exact hE.2.2.2.2.2.2.1
  · obtain ⟨ρ, q1, q2, q3, q4, q5⟩ := hP τ hτ
    refine ⟨ρ, by rw [hf 190 (by decide)]; exact q1, by rw [hf 191 (by decide)]; exact q2, q3, q4, ?_⟩
    rw [hf _ (by simp; omega)]; exact q5
theorem t_tell (S : sx_S D T nt n L v dg) {k a : Nat} (hR : rwE D sh mb T nt n L v dg k z I) (a4 : 4 ≤ a) (a9 : a ≤ 9) {f : Int → Int} (hf : wRow D (I a) f) (ov : vOk D f) (iv : isInv D T nt f) (dk : mDeg D f 0 < k) : mU (d + 3) m_Rewriter_tell [vR 8 198, vR 20 a] z I fun I1 => fr [198, 201, 203] I I1 ∧ (∀ j, j ≠ 7 → I1 198 j = I 198 j) ∧ I1 198 7 = ((rwAll D dg (pxL D T nt v dg) (rwQ D T nt v dg f) 16).length : Int) ∧ fcR D T nt v dg (rwQ D T nt v dg f) (fun t i => lab (I (gG z t 3)) i) k (I1 201) ∧ ∀ t : Nat, k ≤ t → t < 16 → ∀ x, pxX D T nt v dg t x → rwQ D T nt v dg f x = 0 := by
  have hD := S.1
  have hq := rwQ_ok S ov iv
  have hz := hR.1.1.1
  have hS := hR.1.1.2.1
  have hsh := shOk_sh hS
  have hs' : sh = 11 ∨ sh = 20 := hsh
  obtain ⟨hE, y, hP, hT, r1, r2, r3, r4⟩ := id hR
  have l201 : z.2.1 201 = 816 := wz_L hz 201 816 (by decide) (by decide)
  have la : z.2.1 a = 816 := by
    have := (hz.2.2.1 ((a : Int) - 4) (by omega) (by omega)).2
    rw [show 4 + ((a : Int) - 4).toNat = a by omega] at this
    exact this
  obtain ⟨m16, m16s, m16'⟩ := m16_bd hD
  have F16 := from_bds hD (t := 15) (by decide) (by decide)
  have m816 : mFrom D 16 ≤ 816 := by have := F16.2.2.1; exact this
  have high : ∀ t : Nat, k ≤ t → t < 16 → ∀ i : Nat, i < (mMany D t).toNat → f (mFrom D t + i) = 0 := by
    intro t h1 h2 i hi
    obtain ⟨c1, c2, c3, c4, c5, c6⟩ := from_bds hD (t := (t : Int)) (by omega) (by omega)
    obtain ⟨d0, d1, d2⟩ := sv_dg hD (t := (t : Int)) (by omega) (by omega) (K := mFrom D t + i) (by omega) (by omega)
    have := mDeg_z hD (f := f) (x := 0) (k := mFrom D t + i) d1 d2 (by omega)
    rw [show (0 : Int) + (mFrom D t + i) = mFrom D t + i by omega] at this
    exact this
  have hiq : ∀ t : Nat, k ≤ t → t < 16 → ∀ x, pxX D T nt v dg t x → rwQ D T nt v dg f x = 0 := fun t h1 h2 => en_zero S (by omega) hq fun i hi => by rw [high t h1 h2 i hi]; exact toF_zero
  obtain ⟨X, hX⟩ : ∃ X : Nat → Nat → tup4, X = fun t i => lab (I (gG z t 3)) i := ⟨_, rfl⟩
  have eX : ∀ t i, X t i = lab (I (gG z t 3)) i := fun t i => by rw [hX]
  have en : ∀ t, t < k → enX D T nt v dg t (X t) := fun t ht => by
    have := (grC_en (r4 t ht)).2.2
    rw [show X t = fun i => lab (I (gG z t 3)) i from funext (eX t)]
    exact this
  rw [← hX]
  obtain ⟨Q, hQQ⟩ : ∃ Q : cm_Q, Q = qU z fun I1 => fr [198, 201, 203] I I1 ∧ (∀ j, j ≠ 7 → I1 198 j = I 198 j) ∧ I1 198 7 = ((rwAll D dg (pxL D T nt v dg) (rwQ D T nt v dg f) 16).length : Int) ∧ fcR D T nt v dg (rwQ D T nt v dg f) X k (I1 201) ∧ ∀ t : Nat, k ≤ t → t < 16 → ∀ x, pxX D T nt v dg t x → rwQ D T nt v dg f x = 0 := ⟨_, rfl⟩
  have Lp : ∀ (u t : Nat) (J : cm_I) (z3 : Option cm_V), t + u = k → fr [201, 203] I J → (∀ i : Int, 0 ≤ i → i < 816 → 0 ≤ J 201 i ∧ J 201 i < 2521) → fcR D T nt v dg (rwQ D T nt v dg f) X t (J 201) → cw (d + 2) cd_Rewriter_tell Q 10 [some (vR 8 198), some (vR 20 a), some (vI (t : Int)), z3] [] (J, z) := by
    intro u
    induction u with
    | zero =>
      intro t J z3 et hF ok hc
      have tk : t = k := by omega
      rw [tk] at hc
      have R1 := (rwE_fr hR (fr_mono hF (by simp)) (zf_refl _ z) (by rw [hF 198 (by decide)]) (by rw [hF 198 (by decide)])).1
      have j4 : J 198 4 = (k : Int) - 1 := R1.2.2.2.2.2.1
      refine wr_Rewriter_tell_10 hz y hsh ?_
      rw [j4]
      refine ⟨fun _ => ?_, fun w => by omega⟩
      obtain ⟨v', hv'⟩ : ∃ v' : Int → Int, v' = fun i => if 0 ≤ i ∧ i < mFrom D 16 then J 201 i else 0 := ⟨_, rfl⟩
      have in_ : ∀ i, 0 ≤ i → i < mFrom D 16 → v' i = J 201 i := fun i h0 h1 => by rw [hv']; exact if_pos ⟨h0, h1⟩
      have out_ : ∀ i, ¬ (0 ≤ i ∧ i < mFrom D 16) → v' i = 0 := fun i h => by rw [hv']; exact if_neg h
      have vo : vOk D v' := by
        refine ⟨fun i => ?_, fun i h => out_ i (by omega), mDeg_le hD (by decide) fun i i0 i1 hi => ?_⟩
        · by_cases w : 0 ≤ i ∧ i < mFrom D 16
          · rw [in_ i w.1 w.2]; exact ok i w.1 (by omega)
          · rw [out_ i w]; exact ⟨Int.le_refl 0, by decide⟩
        · rw [show (0 : Int) + i = i by omega]
          refine out_ i fun w => ?_
          have := (mDg_lt hD (k := i) (t := 15) i0 i1 (by decide)).mp w.2
          omega
      refine mI_mono (t_termsOf (d := d + 1) hz R1.1.1.2.1 (a := 201) (by decide) (by rw [l201]; exact m816) (v := v') (fun i h0 h1 => (in_ i h0 h1).symm) vo) fun r I2 ⟨e2, er⟩ I3 e3 => ?_
      rw [e2] at e3
      obtain ⟨f3, g3⟩ := fr_eq_iu e3
      have cnt := fc_cnt S (k := k) r1 en hiq hc 16 (Nat.le_refl _)
      have ct : vTerms v' = cntNZ (J 201) 0 (mFrom D ((16 : Nat) : Int)).toNat := by
        unfold vTerms cntNZ
        have e0 : (1140 : Nat) = (mFrom D ((16 : Nat) : Int)).toNat + (1140 - (mFrom D ((16 : Nat) : Int)).toNat) := by
          have : mFrom D ((16 : Nat) : Int) = mFrom D 16 := rfl
          omega
        rw [e0, sg_app, sg_zero (n := 1140 - (mFrom D ((16 : Nat) : Int)).toNat) fun i hi => ?_, Int.add_zero]
        · refine sg_congr fun i hi => ?_
          have : mFrom D ((16 : Nat) : Int) = mFrom D 16 := rfl
          rw [show (0 : Int) + (i : Int) = i by omega, in_ i (by omega) (by omega)]
        · have : mFrom D ((16 : Nat) : Int) = mFrom D 16 := rfl
          exact if_pos (out_ _ (by omega))
      rw [hQQ]
      refine qU_mk ⟨fr_trans (fr_mono hF (by simp)) (fr_mono f3 (by simp)), fun j hj => ?_, ?_, by rw [f3 201 (by decide)]; exact hc, hiq⟩
      · rw [g3, ← hF 198 (by decide)]
        exact if_neg hj
      · rw [g3]
        show (if (7 : Int) = 7 then r else _) = _
        rw [if_pos rfl, er, ct, cnt]
    | succ u ih =>
      intro t J z3 et hF ok hc
      have tk : t < k := by omega
      have t16 : t < 16 := by omega
      obtain ⟨R1, lb1⟩ := rwE_fr hR (fr_mono hF (by simp)) (zf_refl _ z) (by rw [hF 198 (by decide)]) (by rw [hF 198 (by decide)])
      have j4 : J 198 4 = (k : Int) - 1 := R1.2.2.2.2.2.1
      have ja : J a = I a := hF a (by simp; omega)
      have fa : wRow D (J a) f := by rw [ja]; exact hf
      obtain ⟨c1, c2, c3, c4, c5, c6⟩ := from_bds hD (t := (t : Int)) (by omega) (by omega)
      have cm := mFrom_mono D (s := (t : Int) + 1) (t := 16) (by omega) (by omega)
      have tt : Int.toNat (t : Int) = t := by omega
      have fc_in : ∀ i : Nat, i < (mMany D t).toNat → ∀ t' : Nat, t' < 16 → t' ≠ t → ∀ i' : Nat, i' < (mMany D t').toNat → mFrom D t' + (i' : Int) < mFrom D t ∨ mFrom D (t + 1) ≤ mFrom D t' + (i' : Int) := by
        intro i hi t' ht' ne i' hi'
        have e' := from_bds hD (t := (t' : Int)) (by omega) (by omega)
        rcases Nat.lt_or_gt_of_ne ne with w | w
        · left
          have := mFrom_mono D (s := (t' : Int) + 1) (t := (t : Int)) (by omega) (by omega)
          omega
        · right
          have := mFrom_mono D (s := (t : Int) + 1) (t := (t' : Int)) (by omega) (by omega)
          omega
      refine wr_Rewriter_tell_10 hz y hsh ?_
      rw [j4]
      refine ⟨fun w => by omega, fun _ => mI_mono (t_isZero (d := d + 1) hz R1.1.1.2.1 (a := a) (by omega) (by rw [la]; exact m816) (t := (t : Int)) (by omega) (by omega)) fun r I4 ⟨e4, r01, riff⟩ => ?_⟩
      rw [e4]
      refine ⟨fun rn => ⟨by unfold cm_i; omega, ?_⟩, fun r0 => ?_⟩
      · have z0 := riff.mp (by omega)
        have q0 := en_zero S (by omega) hq (t := t) fun i hi => by
          have := z0 (mFrom D t + i) (by omega) (by omega)
          rw [fa _ (by omega) (by omega)] at this
          rw [this]; exact toF_zero
        refine ih (t + 1) J z3 (by omega) hF ok ⟨fun t' ht' i hi => ?_, fun t' h1 h2 => hc.2 t' (by omega) h2⟩
        by_cases w : t' = t
        · subst w
          rw [hc.2 t' (Nat.le_refl _) (by omega) i hi]
          by_cases w2 : i < bsRows D T nt t'
          · rw [if_pos w2, q0 _ ((en t' tk).1 i w2)]
            exact (fi_zero.mpr rfl).symm
          · rw [if_neg w2]
        · exact hc.1 t' (by omega) i hi
      · have GC := R1.2.2.2.2.2.2.2 t tk
        obtain ⟨b1, gQ, _⟩ := grC_en GC
        have eXt : (fun i => lab (J (gG z t 3)) i) = X t := by
          funext i
          rw [eX, (lb1 t t16).2]
        rw [eXt] at gQ
        have ga := gd_get R1.1 t16 b1
        have s136 : bsRows D T nt t ≤ (mMany D t).toNat := ga.2.2.2.1
        have st : J (sh + 2) (t : Int) = mFrom D t := R1.1.1.2.1.2.2.2.2.1 _ (by omega) (by omega)
        rw [tt, st]
        refine ⟨⟨by omega, by omega⟩, ⟨by omega, by omega⟩, mU_mono (gr_parts (d := d + 1) R1.1 t16 b1 gQ (a1 := a) (x := mFrom D t) (by omega) (by omega) c1 (by omega) (by rw [la]; omega) (W := fun i => toF (f (mFrom D t + i))) (fun i hi => by
          rw [fa _ (by omega) (by omega), fi_toF]
          have := ov.1 (mFrom D t + i)
          omega)) fun I9 ⟨w1, w2⟩ => ?_⟩
        obtain ⟨R9, lb9⟩ := rwE_fr R1 (I1 := I9) (fr_mono w1 (by simp)) (zf_refl _ z) (by rw [w1 198 (by decide)]) (by rw [w1 198 (by decide)])
        obtain ⟨b9, g9Q, _⟩ := grC_en (R9.2.2.2.2.2.2.2 t tk)
        have eX9 : (fun i => lab (I9 (gG z t 3)) i) = X t := by
          funext i
          rw [(lb9 t t16).2, ← eXt]
        rw [eX9] at g9Q
        have ne3 : ∀ j, j < 6 → gG z t j ∉ [203] := fun j hj' => nin1 (Ne.symm (gw_fix hE.2.1 (c := 203) (by decide) (by decide) (by decide) (k := 1 + 6 * t + j) (by omega)))
        refine mU_mono (gr_sol (d := d) R9.1 S t16 b9 g9Q (W := fun i => toF (f (mFrom D t + i))) (rw_iV S (by omega) (en t tk) hq) (fun c hc' => by rw [w2 c hc', w1 _ (ne3 1 (by decide)), w1 _ (ne3 5 (by decide))])) fun I10 ⟨v1, ff, v2, v3⟩ => ?_
        have co := en_coef S (by omega) (en t tk) hq v2
        have w13 : fr [203] J I10 := fr_trans w1 v1
        have i10s : I10 (sh + 2) (t : Int) = mFrom D t := by rw [w13 _ (nin1 (by omega))]; exact st
        have i10a : I10 (73 + 7 * t) 3 = (bsRows D T nt t : Int) := by rw [w13 _ (nin1 (by omega))]; exact ga.2.2.1
        rw [i10s, i10a]
        refine ⟨⟨by decide, c1, by omega, by omega, by omega⟩, fun I12 e12 => ⟨by unfold cm_i; omega, ?_⟩⟩
        obtain ⟨f12, g12⟩ := fr_eq_iw e12
        have val : ∀ j, I12 201 j = if mFrom D t ≤ j ∧ j < mFrom D t + (bsRows D T nt t : Int) then I10 203 (0 + (j - mFrom D t)) else J 201 j := by
          intro j
          rw [g12, w13 201 (by decide)]
          rfl
        refine ih (t + 1) I12 _ (by omega) (fr_trans (fr_trans hF (fr_mono w13 (by simp))) (fr_mono f12 (by simp))) (fun j j0 j1 => ?_) ⟨fun t' ht' i hi => ?_, fun t' h1 h2 i hi => ?_⟩
        · rw [val]
          by_cases w : mFrom D t ≤ j ∧ j < mFrom D t + (bsRows D T nt t : Int)
          · rw [if_pos w]
            have := v3 (j - mFrom D t).toNat (by omega)
            rw [show (((j - mFrom D t).toNat : Nat) : Int) = 0 + (j - mFrom D t) by omega] at this
            rw [this]
            exact fi_bd _
          · rw [if_neg w]; exact ok j j0 j1
        · rw [val]
          by_cases w : t' = t
          · subst w
            by_cases w2 : i < bsRows D T nt t'
            · rw [if_pos (by omega), if_pos w2, show (0 : Int) + (mFrom D t' + (i : Int) - mFrom D t') = (i : Int) by omega, v3 i w2, co i w2]
            · rw [if_neg (by omega), if_neg w2]
              exact hc.2 t' (Nat.le_refl _) (by omega) i hi
          · have := fc_in 0 (by omega) t' (by omega) w i hi
            rw [if_neg (by omega)]
            exact hc.1 t' (by omega) i hi
        · have := fc_in 0 (by omega) t' (by omega) (by omega) i hi
          rw [val, if_neg (by omega)]
          exact hc.2 t' (by omega) h2 i hi
  show cm_call (d + 3) m_Rewriter_tell _ (I, z) (qU z fun I1 => fr [198, 201, 203] I I1 ∧ (∀ j, j ≠ 7 → I1 198 j = I 198 j) ∧ I1 198 7 = ((rwAll D dg (pxL D T nt v dg) (rwQ D T nt v dg f) 16).length : Int) ∧ fcR D T nt v dg (rwQ D T nt v dg f) X k (I1 201) ∧ ∀ t : Nat, k ≤ t → t < 16 → ∀ x, pxX D T nt v dg t x → rwQ D T nt v dg f x = 0)
  rw [← hQQ]
  refine wr_Rewriter_tell hz (mU_mono (t_fill (d := d + 1) hz (a := 201) (by decide) l201 (by decide) (by decide)) fun I1 e1 => ?_)
  obtain ⟨f1, g1⟩ := fr_eq_iw e1
  have zero : ∀ i : Int, 0 ≤ i → i < 816 → I1 201 i = 0 := fun i h0 h1 => by
    rw [g1]
    unfold fillF
    exact if_pos ⟨h0, by omega⟩
  refine Lp k 0 I1 none (by omega) (fr_mono f1 (by simp)) (fun i h0 h1 => by rw [zero i h0 h1]; exact ⟨Int.le_refl 0, by decide⟩) ⟨fun t ht => by omega, fun t _ ht i hi => ?_⟩
  obtain ⟨c1, c2, c3, c4, c5, c6⟩ := from_bds hD (t := (t : Int)) (by omega) (by omega)
  exact zero _ (by omega) (by omega)
end WTL
