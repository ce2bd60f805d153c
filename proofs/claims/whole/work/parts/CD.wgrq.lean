/-! the products of a grade, as they stand; one more is taken -/
def grQ (D : Int) (T : Nat → cMat) (nt : Nat) (v : Nat → Int → Int) (dg : Nat → Int) (t m : Nat) (X : Nat → tup4) (z : cm_Z) (J : cm_I) : Prop := m ≤ bsRows D T nt t ∧ J (73 + 7 * t) 6 = (m : Int) ∧ (mMany D t * (bsRows D T nt t : Int) ≤ z.2.1 (gG z t 2) ∧ 4 * (bsRows D T nt t : Int) ≤ z.2.1 (gG z t 3) ∧ (bsRows D T nt t : Int) * (bsRows D T nt t : Int) ≤ z.2.1 (gG z t 4) ∧ (bsRows D T nt t : Int) ≤ z.2.1 (gG z t 5)) ∧ (∀ i, i < m → lab (J (gG z t 3)) i = X i ∧ pxX D T nt v dg t (X i)) ∧ (∀ i j, i < m → j < m → X i = X j → i = j) ∧ (∀ i k : Nat, i < m → k < (mMany D t).toNat → J (gG z t 2) (mMany D t * i + k) = fi (pxV D T nt v dg t (X i) k)) ∧ luI (bsRows D T nt t) m (gG z t 4) (gG z t 5) (fun i r => pxV D T nt v dg t (X i) (J (gG z t 1) (r : Int)).toNat) J
section WGQ
variable {d : Nat} {z z1 : cm_Z} {I I1 : cm_I} {D : Int} {sh mb : Nat} {T : Nat → cMat} {nt n : Nat} {L : Nat → cMat} {v : Nat → Int → Int} {dg : Nat → Int}
theorem grQ_fr {t m : Nat} {X : Nat → tup4} (h : grQ D T nt v dg t m X z I) (e0 : ∀ j, 1 ≤ j → j < 6 → gG z1 t j = gG z t j ∧ z1.2.1 (gG z t j) = z.2.1 (gG z t j) ∧ I1 (gG z t j) = I (gG z t j)) (e6 : I1 (73 + 7 * t) 6 = I (73 + 7 * t) 6) : grQ D T nt v dg t m X z1 I1 := by
  obtain ⟨h1, h2, h3, h4, h5, h6, h7⟩ := h
  obtain ⟨a1, _, c1⟩ := e0 1 (by decide) (by decide)
  obtain ⟨a2, b2, c2⟩ := e0 2 (by decide) (by decide)
  obtain ⟨a3, b3, c3⟩ := e0 3 (by decide) (by decide)
  obtain ⟨a4, b4, c4⟩ := e0 4 (by decide) (by decide)
  obtain ⟨a5, b5, c5⟩ := e0 5 (by decide) (by decide)
  refine ⟨h1, by rw [e6]; exact h2, by rw [a2, a3, a4, a5, b2, b3, b4, b5]; exact h3, by rw [a3, c3]; exact h4, h5, by rw [a2, c2]; exact h6, ?_⟩
  unfold luI at h7 ⊢
  rw [a1, a4, a5, c1, c4, c5]
  exact h7
/-- the bases stand, whatever changes elsewhere -/
theorem bsE_fr2 (h : bsE D sh mb T nt n L z I) (hz1 : wz z1) (hg1 : gw z1) (z1e : z1.1 1 = z.1 1) (z53 : z1.1 53 = z.1 53) (z66 : z1.1 66 = z.1 66) (hgr : ∀ t j, t < 16 → j < 2 → gG z1 t j = gG z t j ∧ z1.2.1 (gG z t j) = z.2.1 (gG z t j) ∧ I1 (gG z t j) = I (gG z t j)) (ok1 : okR (I1 (z1.1 63 2))) (low : ∀ c, c < 73 → c ∉ [63, 64, 65] → I1 c = I c) (hj : ∀ t, t < 16 → ∀ j : Int, 0 ≤ j → j ≤ 3 → I1 (73 + 7 * t) j = I (73 + 7 * t) j) : bsE D sh mb T nt n L z1 I1 := by
  obtain ⟨h1, h2, h3, h4, h5, h6, h7, h8, h9⟩ := h
  refine ⟨mvE_keep h1 hz1 z1e z53 (fun c c1 c2 => low c (by omega) (by simp; omega)) ?_, hg1, h3, by rw [z66]; exact h4, by rw [z66]; exact h5, by rw [low 69 (by decide) (by decide)]; exact h6, ok1, by rw [low 67 (by decide) (by decide)]; exact h8, fun t t15 => ?_⟩
  · have := h1.2.2.2.2.2.2.2.2.2.2
    unfold mvO at this ⊢
    rw [low 54 (by decide) (by decide), low 58 (by decide) (by decide), low 59 (by decide) (by decide), low 60 (by decide) (by decide)]
    exact this
  · obtain ⟨r1, r2, r3⟩ := hgr t 0 t15 (by decide)
    obtain ⟨s1, s2, s3⟩ := hgr t 1 t15 (by decide)
    exact bsG_fr (h9 t t15) r1 s1 r2 s2 r3 s3 (hj t t15)
theorem gw_ne {k k' : Nat} (hg : gw z) (hk : k < 97) (hk' : k' < 97) (h : k ≠ k') : gR z k ≠ gR z k' := hg.2.2.1 k k' hk hk' h
/-- parts are taken of what stands from x on -/
theorem gr_parts (hE : bsE D sh mb T nt n L z I) {t m : Nat} (t15 : t < 16) (b1 : I (73 + 7 * t) 1 = 1) {X : Nat → tup4} (hQ : grQ D T nt v dg t m X z I) {a1 : Nat} {x : Int} (p1 : 0 < a1) (n1 : a1 ≠ 203) (x0 : 0 ≤ x) (xb : x ≤ 1000000) (lx : x + mMany D t ≤ z.2.1 a1) {W : Nat → cF} (hW : ∀ k : Nat, k < (mMany D t).toNat → I a1 (x + k) = fi (W k)) : mU (d + 1) m_Grade_takeParts [vR 2 (73 + 7 * t), vR 20 a1, vI x, vR 20 203] z I fun I1 => fr [203] I I1 ∧ ∀ c : Nat, c < bsRows D T nt t → I1 203 (c : Int) = fi (W (I (gG z t 1) (I (gG z t 5) (c : Int))).toNat) := by
  have hz := hE.1.1
  have hg := hE.2.1
  have hD := shOk_D hE.1.2.1
  have mN := mMany_136 hD (t := t) (by omega)
  obtain ⟨g1, g2, g3, g4, g5, g6, g7, g8, hd, hRB, g9⟩ := gd_get hE t15 b1
  obtain ⟨q1, q2, q3, q4, q5, q6, q7⟩ := hQ
  have k5 : 1 + 6 * t + 1 < 97 := by omega
  have k10 : 1 + 6 * t + 5 < 97 := by omega
  have l203 : z.2.1 203 = 136 := wz_L hz 203 136 (by decide) (by decide)
  have hb : ∀ r : Nat, r < bsRows D T nt t → 0 ≤ I (gG z t 1) (r : Int) ∧ I (gG z t 1) (r : Int) < mMany D t := fun r hr => by
    have := hRB.2.1 r hr
    rw [g9 r hr]; omega
  refine mU_mono (t_takeParts (d := d) hz (a := 73 + 7 * t) (a1 := a1) (a3 := 203) (q5 := gG z t 1) (q10 := gG z t 5) (s := bsRows D T nt t) (x := x) (by omega) p1 (by decide) (gw_pos hg k5) (gw_pos hg k10) (by rw [gG_at t15 (j := 1) (s := 5) (by decide) rfl]; rfl) (by rw [gG_at t15 (j := 5) (s := 10) (by decide) rfl]; rfl) (by omega) n1 (Ne.symm (gw_fix hg (by decide) (by decide) (by decide) k5)) (Ne.symm (gw_fix hg (by decide) (by decide) (by decide) k10)) g3 (by omega) x0 xb (by omega) g6 q3.2.2.2 q7.2.1 fun r hr => ?_) fun I1 ⟨k1, k2⟩ => ⟨k1, fun c hc => ?_⟩
  · have := hb r hr
    omega
  · rw [k2 c hc]
    have o := q7.2.1 c hc
    have := hb (I (gG z t 5) (c : Int)).toNat (by omega)
    rw [show (((I (gG z t 5) (c : Int)).toNat : Nat) : Int) = I (gG z t 5) (c : Int) by omega] at this
    have h := hW (I (gG z t 1) (I (gG z t 5) (c : Int))).toNat (by omega)
    rw [show (((I (gG z t 1) (I (gG z t 5) (c : Int))).toNat : Nat) : Int) = I (gG z t 1) (I (gG z t 5) (c : Int)) by omega] at h
    exact h
/-- the parts are taken as one product more, or they are a sum of those there are -/
theorem gr_ins (hE : bsE D sh mb T nt n L z I) (S : sx_S D T nt n L v dg) {t m : Nat} (t15 : t < 16) (b1 : I (73 + 7 * t) 1 = 1) {X : Nat → tup4} (hQ : grQ D T nt v dg t m X z I) {W : Nat → cF} (iW : iV D T nt t W) (hW : ∀ c : Nat, c < bsRows D T nt t → I 203 (c : Int) = fi (W (I (gG z t 1) (I (gG z t 5) (c : Int))).toNat)) : mI (d + 2) m_Grade_insert [vR 2 (73 + 7 * t), vR 20 203] z I fun r I1 => (r = 0 ∧ fr [203] I I1 ∧ inS (mMany D t).toNat m (fun i => pxV D T nt v dg t (X i)) W) ∨ (r = 1 ∧ fr [73 + 7 * t, 203, gG z t 4, gG z t 5] I I1 ∧ m < bsRows D T nt t ∧ (I1 (73 + 7 * t) = fun j => if j = 6 then ((m + 1 : Nat) : Int) else I (73 + 7 * t) j) ∧ ¬ inS (mMany D t).toNat m (fun i => pxV D T nt v dg t (X i)) W ∧ luI (bsRows D T nt t) (m + 1) (gG z t 4) (gG z t 5) (fun i => if i = m then (fun r => W (I (gG z t 1) (r : Int)).toNat) else fun r => pxV D T nt v dg t (X i) (I (gG z t 1) (r : Int)).toNat) I1) := by
  have hz := hE.1.1
  have hg := hE.2.1
  have hD := shOk_D hE.1.2.1
  have mN := mMany_136 hD (t := t) (by omega)
  obtain ⟨g1, g2, g3, g4, g5, g6, g7, g8, hd, hRB, g9⟩ := gd_get hE t15 b1
  obtain ⟨q1, q2, q3, q4, q5, q6, q7⟩ := hQ
  have k9 : 1 + 6 * t + 4 < 97 := by omega
  have k10 : 1 + 6 * t + 5 < 97 := by omega
  have l203 : z.2.1 203 = 136 := wz_L hz 203 136 (by decide) (by decide)
  have hh : ∀ r : Nat, r < bsRows D T nt t → (I (gG z t 1) (r : Int)).toNat = hd r := fun r hr => by rw [g9 r hr]; omega
  have hV : ∀ i, i < m → iV D T nt t (pxV D T nt v dg t (X i)) := fun i hi => px_iV S (by omega) (q4 i hi).2
  refine mI_mono (t_gInsert (d := d) hz (a := 73 + 7 * t) (b := 203) (q9 := gG z t 4) (q10 := gG z t 5) (s := bsRows D T nt t) (m := m) (C := fun i r => pxV D T nt v dg t (X i) (I (gG z t 1) (r : Int)).toNat) (p := fun r => W (I (gG z t 1) (r : Int)).toNat) (by omega) (by decide) (gw_pos hg k9) (gw_pos hg k10) (by rw [gG_at t15 (j := 4) (s := 9) (by decide) rfl]; rfl) (by rw [gG_at t15 (j := 5) (s := 10) (by decide) rfl]; rfl) (Ne.symm (gw_gr hg t15 k9)) (Ne.symm (gw_gr hg t15 k10)) (gw_ne hg k9 k10 (by omega)) (by omega) (Ne.symm (gw_fix hg (by decide) (by decide) (by decide) k9)) (Ne.symm (gw_fix hg (by decide) (by decide) (by decide) k10)) g3 q2 (by omega) q3.2.2.1 q3.2.2.2 (by omega) q7 fun c hc => ?_) fun r I1 hr => ?_
  · rw [hW c hc]
    refine ⟨fi_bd _, ?_⟩
    have o := q7.2.1 c hc
    rw [toF_fi, show (((I (gG z t 5) (c : Int)).toNat : Nat) : Int) = I (gG z t 5) (c : Int) by omega]
  · rcases hr with ⟨r0, f1, cc, hc⟩ | ⟨r1, f1, ms, e1, lu⟩
    · refine Or.inl ⟨r0, f1, cc, px_co hRB iW hV fun r hr => ?_⟩
      have q : W (I (gG z t 1) (r : Int)).toNat = gs m fun i => cc i * pxV D T nt v dg t (X i) (I (gG z t 1) (r : Int)).toNat := hc r hr
      rw [hh r hr] at q
      exact q
    · refine Or.inr ⟨r1, f1, ms, e1, fun ⟨cc, hc⟩ => ?_, ?_⟩
      · have ind := lu_ind lu.2.2
        have q := ind (fun i => if i = m then 1 else - cc i) (fun r hr => ?_) m (by omega)
        · rw [if_pos rfl] at q
          exact f_one_ne q
        · have hw : W (hd r) = gs m fun i => cc i * pxV D T nt v dg t (X i) (hd r) := hc (hd r) (hRB.2.1 r hr)
          show (gs m fun i => (if i = m then (1 : cF) else - cc i) * (if i = m then (fun r : Nat => W (I (gG z t 1) (r : Int)).toNat) else fun r : Nat => pxV D T nt v dg t (X i) (I (gG z t 1) (r : Int)).toNat) r) + (if m = m then (1 : cF) else - cc m) * (if m = m then (fun r : Nat => W (I (gG z t 1) (r : Int)).toNat) else fun r : Nat => pxV D T nt v dg t (X m) (I (gG z t 1) (r : Int)).toNat) r = 0
          rw [if_pos rfl, if_pos rfl]
          show _ + 1 * W (I (gG z t 1) (r : Int)).toNat = 0
          rw [hh r hr, hw, gs_congr (g := fun i => - (cc i * pxV D T nt v dg t (X i) (hd r))) fun i hi => ?_, gs_neg]
          · generalize (gs m fun i => cc i * pxV D T nt v dg t (X i) (hd r)) = y
            have gen : ∀ {R : Type} [Lean.Grind.CommRing R] (y : R), - y + 1 * y = 0 := by intro R _ y; grind
            exact gen y
          · rw [if_neg (by omega), if_neg (by omega)]
            show - cc i * pxV D T nt v dg t (X i) (I (gG z t 1) (r : Int)).toNat = _
            rw [hh r hr]
            generalize pxV D T nt v dg t (X i) (hd r) = y
            generalize cc i = x
            have gen : ∀ {R : Type} [Lean.Grind.CommRing R] (x y : R), - x * y = - (x * y) := by intro R _ x y; grind
            exact gen x y
      · exact lu
end WGQ
