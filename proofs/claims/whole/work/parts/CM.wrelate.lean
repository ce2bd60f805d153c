/-! Rewriter.relate, placeOf -/
/-- the product of two secondary ones -/
noncomputable def rlP (D : Int) (T : Nat → cMat) (nt : Nat) (v : Nat → Int → Int) (dg : Nat → Int) (i h : Nat) : Int → Int := vMul D (sx_b D T nt (sx_x (pxL D T nt v dg) i)) (sx_b D T nt (sx_x (pxL D T nt v dg) h))
/-- its factors stand -/
def rlF (D : Int) (T : Nat → cMat) (nt : Nat) (v : Nat → Int → Int) (dg : Nat → Int) (i h : Nat) (z : cm_Z) (J : cm_I) : Prop := ∀ c : Nat, c < 136 → J 202 (c : Int) = if c < bsRows D T nt ((sx_d (pxL D T nt v dg) i + sx_d (pxL D T nt v dg) h : Nat) : Int) then fi (rwQ D T nt v dg (rlP D T nt v dg i h) (lab (J (gG z (sx_d (pxL D T nt v dg) i + sx_d (pxL D T nt v dg) h) 3)) c)) else 0
section WRL
variable {d : Nat} {z z1 : cm_Z} {I I1 : cm_I} {D : Int} {sh mb : Nat} {T : Nat → cMat} {nt n : Nat} {L : Nat → cMat} {v : Nat → Int → Int} {dg : Nat → Int}
theorem sx_in (S : sx_S D T nt n L v dg) {j : Nat} (hj : j < (pxL D T nt v dg).length) : (sx_x (pxL D T nt v dg) j).1 = (sx_d (pxL D T nt v dg) j : Int) ∧ sx_d (pxL D T nt v dg) j ≤ 15 ∧ (sx_x (pxL D T nt v dg) j).2 < bsRows D T nt (sx_d (pxL D T nt v dg) j) := by
  have := px_L (D := D) (T := T) (nt := nt) (v := v) (dg := dg) _ (sx_at hj).1
  have e : (sx_x (pxL D T nt v dg) j).1 = (sx_d (pxL D T nt v dg) j : Int) := by unfold sx_d; omega
  rw [e] at this
  exact ⟨e, by omega, this.2.2⟩
/-- what the product is: one degree, left alone -/
theorem rlP_ok (S : sx_S D T nt n L v dg) {i h : Nat} (hi : i < (pxL D T nt v dg).length) (hh : h < (pxL D T nt v dg).length) (le : sx_d (pxL D T nt v dg) i + sx_d (pxL D T nt v dg) h ≤ 15) : vOk D (rlP D T nt v dg i h) ∧ isInv D T nt (rlP D T nt v dg i h) ∧ (toP D (rlP D T nt v dg i h) = cMul (toP D (sx_b D T nt (sx_x (pxL D T nt v dg) i))) (toP D (sx_b D T nt (sx_x (pxL D T nt v dg) h)))) ∧ hom (sx_d (pxL D T nt v dg) i + sx_d (pxL D T nt v dg) h) (toP D (rlP D T nt v dg i h)) := by
  have hD := S.1
  obtain ⟨a1, a2, a3⟩ := sx_in S hi
  obtain ⟨b1, b2, b3⟩ := sx_in S hh
  have binv : ∀ {j : Nat}, j < (pxL D T nt v dg).length → vOk D (sx_b D T nt (sx_x (pxL D T nt v dg) j)) ∧ isInv D T nt (sx_b D T nt (sx_x (pxL D T nt v dg) j)) ∧ mDeg D (sx_b D T nt (sx_x (pxL D T nt v dg) j)) 0 ≤ sx_d (pxL D T nt v dg) j ∧ hom (sx_d (pxL D T nt v dg) j) (toP D (sx_b D T nt (sx_x (pxL D T nt v dg) j))) := by
    intro j hj
    obtain ⟨c1, c2, c3⟩ := sx_in S hj
    unfold sx_b
    rw [c1]
    refine ⟨vOk_bRow hD (by omega) (by omega) _, ?_, mDeg_bR hD (by omega) (by omega) _, (sv_zrow hD c2 _).1⟩
    obtain ⟨hd, hRB⟩ := S.2.2.2.2.2.2.2 (sx_d (pxL D T nt v dg) j : Int) (by omega) (by omega)
    exact (iV_inv hD (by omega) (by omega) T nt _).mp (hRB.2.2.2.2.2.1 _ c3)
  obtain ⟨x1, x2, x3, x4⟩ := binv hi
  obtain ⟨y1, y2, y3, y4⟩ := binv hh
  have vm := (vOk_mul hD (v := sx_b D T nt (sx_x (pxL D T nt v dg) i)) (w := sx_b D T nt (sx_x (pxL D T nt v dg) h)) (by omega)).1
  have tp : toP D (rlP D T nt v dg i h) = cMul (toP D (sx_b D T nt (sx_x (pxL D T nt v dg) i))) (toP D (sx_b D T nt (sx_x (pxL D T nt v dg) h))) := toP_mul hD (by omega)
  exact ⟨vm, inv_vMul hD (sx_T S) x1 y1 x2 y2 (by omega) vm, tp, by rw [tp]; exact hom_mul x4 y4⟩
theorem toP_vec (hD : D = 2 ∨ D = 3) {t : Nat} (t1 : t ≤ 15) (f : Int → Int) {k : Nat} (hk : k < (mMany D t).toNat) : toF (f (mFrom D t + k)) = sv_c D t (toP D f) k := by
  obtain ⟨c1, c2, c3, c4, c5, c6⟩ := from_bds hD (t := (t : Int)) (by omega) (by omega)
  obtain ⟨d0, d1, d2⟩ := sv_dg hD (t := (t : Int)) (by omega) (by omega) (K := mFrom D t + k) (by omega) (by omega)
  unfold sv_c atE
  rw [toP_at hD _ d1 d2 (by omega)]
/-- in other degrees it has no factors -/
theorem rl_zero (S : sx_S D T nt n L v dg) {i h : Nat} (hi : i < (pxL D T nt v dg).length) (hh : h < (pxL D T nt v dg).length) (le : sx_d (pxL D T nt v dg) i + sx_d (pxL D T nt v dg) h ≤ 15) {t : Nat} (t1 : t ≤ 15) (ne : t ≠ sx_d (pxL D T nt v dg) i + sx_d (pxL D T nt v dg) h) : ∀ x, pxX D T nt v dg t x → rwQ D T nt v dg (rlP D T nt v dg i h) x = 0 := by
  obtain ⟨vm, im, _, hm⟩ := rlP_ok S hi hh le
  refine en_zero S t1 (rwQ_ok S vm im) fun k hk => ?_
  have hD := S.1
  rw [toP_vec hD t1 _ hk]
  obtain ⟨c1, c2, c3, c4, c5, c6⟩ := from_bds hD (t := (t : Int)) (by omega) (by omega)
  obtain ⟨d0, d1, d2⟩ := sv_dg hD (t := (t : Int)) (by omega) (by omega) (K := mFrom D t + k) (by omega) (by omega)
  unfold sv_c atE
  unfold mDg mEa mEb mEc at d0
  exact hm _ _ _ (by omega)
theorem t_relate (S : sx_S D T nt n L v dg) {k i h : Nat} (hR : rwE D sh mb T nt n L v dg k z I) (hL : seAll D T nt v dg k = pxL D T nt v dg) (hi : i < (pxL D T nt v dg).length) (hh : h < (pxL D T nt v dg).length) (le : sx_d (pxL D T nt v dg) i + sx_d (pxL D T nt v dg) h < k) (hC : I 198 9 = (i : Int) → I 198 10 = (h : Int) → rlF D T nt v dg i h z I) : zcU (d + 4) m_Rewriter_relate [vR 8 198, vI (i : Int), vI (h : Int)] z I fun I1 z1 => zf [205, 207] z z1 ∧ fr [198, 202, 203, 204, 205, 207] I I1 ∧ (∀ j, j ≠ 9 → j ≠ 10 → I1 198 j = I 198 j) ∧ I1 198 9 = (i : Int) ∧ I1 198 10 = (h : Int) ∧ rlF D T nt v dg i h z1 I1 := by
  have hD := S.1
  obtain ⟨hE, y, hP, hT, r1, r2, r3, r4⟩ := id hR
  have hz := hE.1.1
  have hg := hE.2.1
  have L216 := px_216 S
  obtain ⟨a1, a2, a3⟩ := sx_in S hi
  obtain ⟨b1, b2, b3⟩ := sx_in S hh
  rw [hL] at r3
  have k199 : ∀ j : Nat, j < (pxL D T nt v dg).length → I 199 (j : Int) = (sx_d (pxL D T nt v dg) j : Int) ∧ I 200 (j : Int) = ((sx_x (pxL D T nt v dg) j).2 : Int) := fun j hj => ⟨by rw [(r3.2 j hj).1]; exact (sx_in S hj).1, (r3.2 j hj).2⟩
  obtain ⟨p, hp⟩ : ∃ p, p = sx_d (pxL D T nt v dg) i := ⟨_, rfl⟩
  obtain ⟨q, hq⟩ : ∃ q, q = sx_d (pxL D T nt v dg) h := ⟨_, rfl⟩
  obtain ⟨ρ, hρ⟩ : ∃ ρ, ρ = (sx_x (pxL D T nt v dg) i).2 := ⟨_, rfl⟩
  obtain ⟨σ, hσ⟩ : ∃ σ, σ = (sx_x (pxL D T nt v dg) h).2 := ⟨_, rfl⟩
  obtain ⟨vm, im, tp, hm⟩ := rlP_ok S hi hh (by omega)
  obtain ⟨f, hf⟩ : ∃ f, f = rlP D T nt v dg i h := ⟨_, rfl⟩
  have rF : rlF D T nt v dg i h = fun (z : cm_Z) (J : cm_I) => ∀ c : Nat, c < 136 → J 202 (c : Int) = if c < bsRows D T nt ((p + q : Nat) : Int) then fi (rwQ D T nt v dg f (lab (J (gG z (p + q) 3)) c)) else 0 := by
    funext z J
    unfold rlF
    rw [hp, hq, hf]
  have ebi : sx_b D T nt (sx_x (pxL D T nt v dg) i) = bRow D p ((bsX D T nt p).2 ρ) := by unfold sx_b; rw [a1, hp, hρ]
  have ebh : sx_b D T nt (sx_x (pxL D T nt v dg) h) = bRow D q ((bsX D T nt q).2 σ) := by unfold sx_b; rw [b1, hq, hσ]
  rw [ebi, ebh, ← hf] at tp
  rw [← hf] at vm im
  have kp := k199 i hi
  have kh := k199 h hh
  rw [← hp, ← hρ] at kp
  rw [← hq, ← hσ] at kh
  rw [← hp, ← hq] at le
  rw [← hp, ← hρ] at a3
  rw [← hq, ← hσ] at b3
  have hwq := rwQ_ok S vm im
  have tk : p + q < 16 := by omega
  have bp := (grC_en (r4 p (by omega))).1
  have bq := (grC_en (r4 q (by omega))).1
  have gp := gd_get hE (t := p) (by omega) bp
  have gq := gd_get hE (t := q) (by omega) bq
  have mp := mMany_136 hD (t := p) (by omega)
  have mq := mMany_136 hD (t := q) (by omega)
  have mpq := mMany_136 hD (t := p + q) (by omega)
  have room : ∀ (t r : Nat), t < 16 → I (73 + 7 * t) 1 = 1 → r < bsRows D T nt t → 0 ≤ mMany D t * (r : Int) ∧ mMany D t * (r : Int) + mMany D t ≤ z.2.1 (gG z t 0) ∧ z.2.1 (gG z t 0) ≤ 23409 := by
    intro t r ht hb hr
    have g := gd_get hE ht hb
    have m := mMany_136 hD (t := t) (by omega)
    refine ⟨Int.mul_nonneg (by omega) (by omega), Int.le_trans ?_ g.2.2.2.2.1, (hg.2.1 _ (by omega)).2.2.2⟩
    rw [show mMany D t * (r : Int) + mMany D t = mMany D t * ((r : Int) + 1) by rw [Int.mul_add, Int.mul_one]]
    exact Int.mul_le_mul_of_nonneg_left (by omega) (by omega)
  have rp := room p ρ (by omega) bp a3
  have rq := room q σ (by omega) bq b3
  have main : ∀ z3 z4 z5 : Option cm_V, cw (d + 3) cd_Rewriter_relate (kU fun I1 z1 => zf [205, 207] z z1 ∧ fr [198, 202, 203, 204, 205, 207] I I1 ∧ (∀ j, j ≠ 9 → j ≠ 10 → I1 198 j = I 198 j) ∧ I1 198 9 = (i : Int) ∧ I1 198 10 = (h : Int) ∧ rlF D T nt v dg i h z1 I1) 17 [some (vR 8 198), some (vI (i : Int)), some (vI (h : Int)), z3, z4, z5] [] (I, z) := by
    intro z3 z4 z5
    refine wr_Rewriter_relate_17 hz ?_
    rw [kp.1, kp.2, kh.1, show (p : Int) + (q : Int) = ((p + q : Nat) : Int) by omega, Int.toNat_natCast, Int.toNat_natCast, Int.toNat_natCast, gp.2.1, gp.1]
    refine ⟨⟨by omega, by omega⟩, ⟨by omega, by omega⟩, ⟨by omega, by omega⟩, ⟨by omega, by omega⟩, by unfold cm_i; omega, ⟨by omega, by omega⟩, by unfold cm_i; omega, ?_⟩
    refine zcU_mono (t_put (d := d + 2) hz (a := 205) (by decide) (mMany D p * (ρ : Int)) (p : Int)) fun I8 Z9 ⟨s1, s2, s3, s4, s5⟩ => ?_
    have s1' : zf [205, 207] z Z9 := zf_mono s1 (by simp)
    obtain ⟨R8, lb8⟩ := rwE_fr hR (I1 := I8) (fr_mono s3 (by simp)) s1' (by rw [s3 198 (by decide)]) (by rw [s3 198 (by decide)])
    rw [s3 200 (by decide), kh.2, s3 (73 + 7 * q) (nin1 (by omega)), gq.2.1, gq.1]
    refine ⟨R8.1.1.1, by unfold cm_i; omega, ?_⟩
    refine zcU_mono (t_put (d := d + 2) R8.1.1.1 (a := 207) (by decide) (mMany D q * (σ : Int)) (q : Int)) fun I12 Z13 ⟨u1, u2, u3, u4, u5⟩ => ?_
    have z13 : zf [205, 207] z Z13 := zf_trans s1' (zf_mono u1 (by simp))
    have f12 : fr [205, 207] I I12 := fr_trans (fr_mono s3 (by simp)) (fr_mono u3 (by simp))
    obtain ⟨R12, lb12⟩ := rwE_fr hR (I1 := I12) (fr_mono f12 (by simp)) z13 (by rw [f12 198 (by decide)]) (by rw [f12 198 (by decide)])
    have E12 := R12.1
    have ob : ∀ t, t < 16 → I12 (73 + 7 * t) = I (73 + 7 * t) := fun t ht => f12 _ (by simp; omega)
    have G0 : ∀ t, t < 16 → gG Z13 t 0 = gG z t 0 := fun t ht => gG_zf z13 gO_57 ht (by decide)
    have gp12 := gd_get E12 (t := p) (by omega) (by rw [ob p (by omega)]; exact bp)
    have gq12 := gd_get E12 (t := q) (by omega) (by rw [ob q (by omega)]; exact bq)
    have kp0 : 1 + 6 * p + 0 < 97 := by omega
    have kq0 : 1 + 6 * q + 0 < 97 := by omega
    have LZ : ∀ c, Z13.2.1 c = z.2.1 c := fun c => by rw [z13.2]
    have q205 : Z13.1 205 0 = gG z p 0 := by
      rw [u1.1 205 (by decide), s2, gG_at (i := p) (by omega) (j := 0) (s := 4) (by decide) rfl]; rfl
    have q207 : Z13.1 207 0 = gG z q 0 := by
      rw [u2, s1.1 _ (by simp; omega), gG_at (i := q) (by omega) (j := 0) (s := 4) (by decide) rfl]; rfl
    refine mU_mono (t_putSum (d := d + 1) E12.1.1 E12.1.2.1 R12.2.1 (a := 73 + 7 * (p + q)) (qf := gG z p 0) (qg := gG z q 0) (p := p) (q := q) (xf := mMany D p * (ρ : Int)) (xg := mMany D q * (σ : Int)) (u := (bsX D T nt p).2 ρ) (w := (bsX D T nt q).2 σ) (by omega) (by omega) q205 q207 (gw_pos hg kp0) (gw_pos hg kq0) (Ne.symm (gw_fix hg (by decide) (by decide) (by decide) kp0)) (Ne.symm (gw_fix hg (by decide) (by decide) (by decide) kq0)) (by rw [u3 205 (by decide)]; exact s4) (by rw [u3 205 (by decide)]; exact s5) u4 u5 (by omega) ⟨rp.1, by omega⟩ (by rw [LZ]; exact rp.2.1) ⟨rq.1, by omega⟩ (by rw [LZ]; exact rq.2.1) (fun c hc => ?_) (fun c hc => ?_) ?_) fun I14 ⟨w1, w2⟩ => ?_
    · have := gp12.2.2.2.2.2.2.2.1 ρ c a3 hc
      rw [G0 p (by omega)] at this
      exact this
    · have := gq12.2.2.2.2.2.2.2.1 σ c b3 hc
      rw [G0 q (by omega)] at this
      exact this
    · rw [ob (p + q) (by omega)]
      exact (gd_get hE (t := p + q) (by omega) (grC_en (r4 (p + q) (by omega))).1).2.1
    obtain ⟨W, hW⟩ : ∃ W : Nat → cF, W = fun c : Nat => toF (f (mFrom D ((p + q : Nat) : Int) + (c : Int))) := ⟨_, rfl⟩
    have sumW : ∀ c : Nat, c < (mMany D ((p + q : Nat) : Int)).toNat → I14 204 (c : Int) = fi (W c) := by
      intro c hc
      rw [w2 c hc, hW]
      show _ = fi (toF (f (mFrom D ((p + q : Nat) : Int) + c)))
      rw [toP_vec hD (t := p + q) (by omega) f hc, tp]
    have f14 : fr [204, 205, 207] I I14 := fr_trans (fr_mono f12 (by simp)) (fr_mono w1 (by simp))
    obtain ⟨R14, lb14⟩ := rwE_fr hR (I1 := I14) (fr_mono f14 (by simp)) z13 (by rw [f14 198 (by decide)]) (by rw [f14 198 (by decide)])
    obtain ⟨bb, Q14, en14⟩ := grC_en (R14.2.2.2.2.2.2.2 (p + q) le)
    have l204 : Z13.2.1 204 = 136 := wz_L E12.1.1 204 136 (by decide) (by decide)
    have l202 : Z13.2.1 202 = 136 := wz_L E12.1.1 202 136 (by decide) (by decide)
    refine ⟨E12.1.1, mU_mono (gr_parts (d := d + 2) R14.1 tk bb Q14 (a1 := 204) (x := 0) (by decide) (by decide) (by decide) (by decide) (by rw [l204]; omega) (W := W) (fun c hc => by rw [Int.zero_add]; exact sumW c hc)) fun I16 ⟨x1, x2⟩ => ?_⟩
    obtain ⟨R16, lb16⟩ := rwE_fr R14 (I1 := I16) (fr_mono x1 (by simp)) (zf_refl _ Z13) (by rw [x1 198 (by decide)]) (by rw [x1 198 (by decide)])
    have ne3 : ∀ j, j < 6 → gG Z13 (p + q) j ∉ [203] := fun j hj => nin1 (Ne.symm (gw_fix E12.2.1 (c := 203) (by decide) (by decide) (by decide) (k := 1 + 6 * (p + q) + j) (by omega)))
    obtain ⟨b16, Q16, en16⟩ := grC_en (R16.2.2.2.2.2.2.2 (p + q) le)
    have iW : iV D T nt ((p + q : Nat) : Int) W := by
      rw [hW]
      exact rw_iV S (by omega) en16 hwq
    refine mU_mono (gr_sol (d := d + 1) R16.1 S tk b16 Q16 (W := W) iW (fun c hc => by rw [x2 c hc, x1 _ (ne3 1 (by decide)), x1 _ (ne3 5 (by decide))])) fun I17 ⟨v1, ff, v2, v3⟩ => ?_
    rw [hW] at v2
    have co := en_coef S (by omega) en16 hwq v2
    refine mU_mono (t_fill (d := d + 2) E12.1.1 (a := 202) (by decide) l202 (by decide) (by decide)) fun I18 e18 => ?_
    obtain ⟨f18, g18⟩ := fr_eq_iw e18
    have f17 : fr [203, 204, 205, 207] I I17 := fr_trans (fr_mono f14 (by simp)) (fr_trans (fr_mono x1 (by simp)) (fr_mono v1 (by simp)))
    have gpq := gd_get R16.1 (t := p + q) (by omega) b16
    have i18a : I18 (73 + 7 * (p + q)) 3 = (bsRows D T nt ((p + q : Nat) : Int) : Int) := by
      rw [f18 _ (nin1 (by omega)), v1 _ (nin1 (by omega))]
      exact gpq.2.2.1
    have s136 := gpq.2.2.2.1
    rw [i18a]
    refine ⟨⟨by decide, by decide, by omega, by omega, by omega⟩, fun I20 e20 I21 e21 I22 e22 => ?_⟩
    obtain ⟨f20, g20⟩ := fr_eq_iw e20
    obtain ⟨f21, g21⟩ := fr_eq_iu e21
    obtain ⟨f22, g22⟩ := fr_eq_iu e22
    have v198 : I22 198 = fun j => if j = 10 then (h : Int) else if j = 9 then (i : Int) else I 198 j := by
      rw [g22]
      funext j
      show (if j = 10 then (h : Int) else I21 198 j) = _
      rw [g21]
      show (if j = 10 then (h : Int) else if j = 9 then (i : Int) else I20 198 j) = _
      rw [f20 198 (by decide), f18 198 (by decide), f17 198 (by decide)]
    have n3 : gG Z13 (p + q) 3 ∉ [198, 201, 202, 203, 204, 205, 207] := by
      have qq := fun c (h1 : c < 248) (h2 : 185 ≤ c) => gw_fix E12.2.1 h1 (by omega) (Or.inr h2) (k := 1 + 6 * (p + q) + 3) (by omega)
      simp
      exact ⟨fun e => qq 198 (by decide) (by decide) e.symm, fun e => qq 201 (by decide) (by decide) e.symm, fun e => qq 202 (by decide) (by decide) e.symm, fun e => qq 203 (by decide) (by decide) e.symm, fun e => qq 204 (by decide) (by decide) e.symm, fun e => qq 205 (by decide) (by decide) e.symm, fun e => qq 207 (by decide) (by decide) e.symm⟩
    refine kU_mk ⟨z13, fr_trans (fr_mono f17 (by simp)) (fr_trans (fr_mono f18 (by simp)) (fr_trans (fr_mono f20 (by simp)) (fr_trans (fr_mono f21 (by simp)) (fr_mono f22 (by simp))))), fun j h9 h10 => ?_, ?_, ?_, ?_⟩
    · rw [v198]
      show (if j = 10 then (h : Int) else if j = 9 then (i : Int) else I 198 j) = _
      rw [if_neg h10, if_neg h9]
    · rw [v198]; rfl
    · rw [v198]; rfl
    · rw [rF]
      intro c hc
      have l22 : I22 (gG Z13 (p + q) 3) = I16 (gG Z13 (p + q) 3) := by
        rw [f22 _ (nin_sub n3 (by simp)), f21 _ (nin_sub n3 (by simp)), f20 _ (nin_sub n3 (by simp)), f18 _ (nin_sub n3 (by simp)), v1 _ (nin_sub n3 (by simp))]
      rw [f22 202 (by decide), f21 202 (by decide), g20, l22]
      show (if (0 : Int) ≤ (c : Int) ∧ (c : Int) < 0 + (bsRows D T nt ((p + q : Nat) : Int) : Int) then I18 203 (0 + ((c : Int) - 0)) else I18 202 (c : Int)) = _
      by_cases w : c < bsRows D T nt ((p + q : Nat) : Int)
      · rw [if_pos (by omega), if_pos w, show (0 : Int) + ((c : Int) - 0) = (c : Int) by omega, f18 203 (by decide), v3 c w, co c w]
      · rw [if_neg (by omega), if_neg w, g18]
        unfold fillF
        exact if_pos (by omega)
  refine wr_Rewriter_relate hz ⟨fun _ => main _ _ _, fun e9 => ⟨fun _ => main _ _ _, fun e10 => kU_mk ⟨zf_refl _ _, fr_refl _ _, fun _ _ _ => rfl, e9, e10, hC e9 e10⟩⟩⟩
theorem t_placeOf (S : sx_S D T nt n L v dg) {k : Nat} (hR : rwE D sh mb T nt n L v dg k z I) (hL : seAll D T nt v dg k = pxL D T nt v dg) {j a b c : Int} (hj : 0 ≤ j ∧ j < ((pxL D T nt v dg).length : Int)) (ha : 0 ≤ a ∧ a ≤ 2147483647) (hb : 0 ≤ b ∧ b ≤ 2147483647) (hc : 0 ≤ c ∧ c ≤ 2147483647) (h3 : D = 3 ∨ c = 0) : mI (d + 2) m_Rewriter_placeOf [vR 8 198, vI j, vI a, vI b, vI c] z I fun r I1 => I1 = I ∧ ((r = -1 ∧ ∀ t, t < k → ¬ pxX D T nt v dg t (j, a, b, c)) ∨ ∃ t i : Nat, t < k ∧ i < bsRows D T nt t ∧ pxX D T nt v dg t (j, a, b, c) ∧ lab (I (gG z t 3)) i = (j, a, b, c) ∧ r = mFrom D t + i) := by
  have hD := S.1
  obtain ⟨hE, y, hP, hT, r1, r2, r3, r4⟩ := id hR
  have hz := hE.1.1
  have hg := hE.2.1
  have L216 := px_216 S
  have hS := hE.1.2.1
  have hsh := shOk_sh hS
  rw [hL] at r3
  obtain ⟨jn, hjn⟩ : ∃ jn : Nat, (jn : Int) = j := ⟨j.toNat, by omega⟩
  obtain ⟨i1, i2, i3⟩ := sx_in S (j := jn) (by omega)
  have e199 : I 199 j = (sx_d (pxL D T nt v dg) jn : Int) := by rw [← hjn, (r3.2 jn (by omega)).1]; exact i1
  have th : ∀ τ : Nat, (τ : Int) < D → I 190 (τ : Int) = dg τ ∧ 1 ≤ dg τ ∧ dg τ ≤ 6 := fun τ hτ => by
    obtain ⟨ρ, q1, _⟩ := hP τ hτ
    exact ⟨q1, px_th S hτ⟩
  have d0 := th 0 (by omega)
  have d1 := th 1 (by omega)
  have e0 : I 190 0 = dg 0 := d0.1
  have e1 : I 190 1 = dg 1 := d1.1
  have m0 := mul_bd (x := a) (y := dg 0) (X := 2147483647) (Y := 6) (by omega) (by omega) (by omega) (by omega)
  have m1 := mul_bd (x := b) (y := dg 1) (X := 2147483647) (Y := 6) (by omega) (by omega) (by omega) (by omega)
  have esh : I sh 0 = D := hS.2.1
  obtain ⟨c3, hc3⟩ : ∃ c3 : Int, c3 = if D = 3 then c * dg 2 else 0 := ⟨_, rfl⟩
  have c3b : 0 ≤ c3 ∧ c3 ≤ 12884901882 := by
    rw [hc3]
    by_cases w : D = 3
    · have d2 := th 2 (by omega)
      rw [if_pos w]
      have := mul_bd (x := c) (y := dg 2) (X := 2147483647) (Y := 6) (by omega) (by omega) (by omega) (by omega)
      omega
    · rw [if_neg w]; omega
  -- its degree
  have deg : ∀ t : Nat, t ≤ 15 → (pxX D T nt v dg t (j, a, b, c) ↔ (sx_d (pxL D T nt v dg) jn : Int) + a * dg 0 + b * dg 1 + c3 = t) := by
    intro t t1
    rw [px_iff S t1]
    have tn : j.toNat = jn := by omega
    have n0 : ((a.toNat * (dg 0).toNat : Nat) : Int) = a * dg 0 := by
      rw [Int.natCast_mul, Int.toNat_of_nonneg ha.1, Int.toNat_of_nonneg (by omega)]
    have n1 : ((b.toNat * (dg 1).toNat : Nat) : Int) = b * dg 1 := by
      rw [Int.natCast_mul, Int.toNat_of_nonneg hb.1, Int.toNat_of_nonneg (by omega)]
    have n2 : ((c.toNat * sx_3 D dg : Nat) : Int) = c3 := by
      rw [hc3]
      unfold sx_3
      by_cases w : D = 3
      · rw [if_pos w, if_neg (by omega), Int.natCast_mul, Int.toNat_of_nonneg hc.1, Int.toNat_of_nonneg (by have := th 2 (by omega); omega)]
      · have : c = 0 := by rcases h3 with e | e; exact absurd e w; exact e
        rw [if_neg w, this]
        simp
    constructor
    · intro ⟨_, _, _, _, _, _, h7⟩
      have h7' : a.toNat * (dg 0).toNat + (b.toNat * (dg 1).toNat + (c.toNat * sx_3 D dg + sx_d (pxL D T nt v dg) j.toNat)) = t := h7
      rw [tn] at h7'
      omega
    · intro h
      refine ⟨hj.1, by show j.toNat < _; omega, ha.1, hb.1, hc.1, fun e => ?_, ?_⟩
      · show c = 0
        rcases h3 with w | w
        · omega
        · exact w
      · show a.toNat * (dg 0).toNat + (b.toNat * (dg 1).toNat + (c.toNat * sx_3 D dg + sx_d (pxL D T nt v dg) j.toNat)) = t
        rw [tn]
        omega
  have l68 : ∀ (z5 z6 z7 : Option cm_V) (w0 : Int), w0 = c3 → cw (d + 1) cd_Rewriter_placeOf (qI z fun r I1 => I1 = I ∧ ((r = -1 ∧ ∀ t, t < k → ¬ pxX D T nt v dg t (j, a, b, c)) ∨ ∃ t i : Nat, t < k ∧ i < bsRows D T nt t ∧ pxX D T nt v dg t (j, a, b, c) ∧ lab (I (gG z t 3)) i = (j, a, b, c) ∧ r = mFrom D t + i)) 68 [some (vR 8 198), some (vI j), some (vI a), some (vI b), some (vI c), z5, z6, z7] [vL w0, vL ((sx_d (pxL D T nt v dg) jn : Int) + a * dg 0 + b * dg 1)] (I, z) := by
    intro z5 z6 z7 w0 ew
    refine wr_Rewriter_placeOf_68 hz y hsh ?_
    rw [r2, ew]
    obtain ⟨s, hs⟩ : ∃ s, s = (sx_d (pxL D T nt v dg) jn : Int) + a * dg 0 + b * dg 1 + c3 := ⟨_, rfl⟩
    rw [← hs]
    have s0 : 0 ≤ s := by omega
    refine ⟨⟨by omega, by omega⟩, fun le => ?_, fun gt => qI_mk ⟨rfl, Or.inl ⟨rfl, fun t ht hx => ?_⟩⟩⟩
    · have sk : s ≤ (k : Int) - 1 := by
        by_cases w : s < (k : Int) - 1
        · omega
        · rw [if_neg w] at le
          by_cases w2 : s = (k : Int) - 1
          · omega
          · rw [if_neg w2] at le; omega
      obtain ⟨t, htt⟩ : ∃ t : Nat, (t : Int) = s := ⟨s.toNat, by omega⟩
      have tt : Int.toNat s = t := by omega
      have hx : pxX D T nt v dg t (j, a, b, c) := (deg t (by omega)).mpr (by rw [← hs, htt])
      obtain ⟨bb, gQ, en⟩ := grC_en (r4 t (by omega))
      have k8 : 1 + 6 * t + 3 < 97 := by omega
      have ga := gd_get hE (t := t) (by omega) bb
      have mN := mMany_136 hD (t := t) (by omega)
      rw [tt]
      refine ⟨by unfold cm_i; omega, ⟨by omega, by omega⟩, mI_mono (t_productOf (d := d) hz (a := 73 + 7 * t) (q8 := gG z t 3) (m := bsRows D T nt t) (by omega) (gw_pos hg k8) (by rw [gG_at (i := t) (by omega) (j := 3) (s := 8) (by decide) rfl]; rfl) gQ.2.1 (by have := ga.2.2.2.1; omega) gQ.2.2.1.2.1) fun r I4 ⟨e4, alt⟩ => ?_⟩
      rw [e4]
      have fb := from_bds hD (t := (t : Int)) (by omega) (by omega)
      rcases alt with ⟨_, no⟩ | ⟨ii, hi, er, el⟩
      · obtain ⟨ii, hi, el⟩ := en.2.2 _ hx
        exact absurd el (no ii hi)
      · have st : I (sh + 2) s = mFrom D t := by rw [← htt]; exact hS.2.2.2.2.1 _ (by omega) (by omega)
        rw [st]
        have := ga.2.2.2.1
        exact ⟨fun _ => ⟨⟨by omega, by omega⟩, by unfold cm_i; omega, qI_mk ⟨rfl, Or.inr ⟨t, ii, by omega, hi, hx, el, by rw [er]⟩⟩⟩, fun w => by omega⟩
    · have := (deg t (by omega)).mp hx
      rw [← hs] at this
      by_cases w : s < (k : Int) - 1
      · rw [if_pos w] at gt; omega
      · rw [if_neg w] at gt
        by_cases w2 : s = (k : Int) - 1
        · rw [if_pos w2] at gt; omega
        · omega
  refine wr_Rewriter_placeOf hz y hsh ?_
  rw [e0, e1, e199, esh]
  refine ⟨⟨hj.1, by omega⟩, ⟨by omega, by omega⟩, ⟨by omega, by omega⟩, ⟨by omega, by omega⟩, ⟨by omega, by omega⟩, fun w => l68 _ _ _ 0 (by rw [hc3, if_neg w]), fun w => ?_⟩
  have d2 := th 2 (by omega)
  have e2 : I 190 2 = dg 2 := d2.1
  rw [e2]
  have ec : c * dg 2 = c3 := by rw [hc3, if_pos w]
  exact ⟨⟨by omega, by omega⟩, l68 _ _ _ _ ec⟩
end WRL
