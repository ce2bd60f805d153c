/-! Rewriter.putSum: the product of two pieces -/
theorem bRow_at {D t : Int} (w : Nat → cF) {k : Int} (k0 : 0 ≤ k) (k1 : k < mMany D t) (hs : mFrom D t + mMany D t = mFrom D (t + 1)) : bRow D t w (mFrom D t + k) = fi (w k.toNat) := by
  unfold bRow
  rw [if_pos ⟨by omega, by omega⟩, show (mFrom D t + k - mFrom D t).toNat = k.toNat by omega]
theorem bRow_out {D t : Int} (w : Nat → cF) {k : Int} (h : k < mFrom D t ∨ mFrom D (t + 1) ≤ k) : bRow D t w k = 0 := by
  unfold bRow
  rw [if_neg (by omega)]
theorem sg_nil {n : Nat} {f : Nat → Int} (h : ∀ i, i < n → f i = 0) : sg n f = 0 := sg_zero h
/-- one block times one block -/
theorem ap_pTo {D p q : Int} (hD : D = 2 ∨ D = 3) (p0 : 0 ≤ p) (q0 : 0 ≤ q) (pq : p + q ≤ 15) {F G : Int → Int} {u w : Nat → cF} (hF : ∀ k : Int, 0 ≤ k → k < mMany D p → F k = fi (u k.toNat)) (hG : ∀ k : Int, 0 ≤ k → k < mMany D q → G k = fi (w k.toNat)) (k : Int) : apT D F G 0 (fF D (q + 1)).toNat (fF D (p + 1)).toNat 0 k = pTo D (bRow D p u) 0 (bRow D q w) 0 (mFrom D (p + 1)).toNat (mFrom D (q + 1)).toNat (mFrom D (p + q) + k) := by
  obtain ⟨a1, a2, a3, a4, a5, a6⟩ := from_bds hD p0 (by omega)
  obtain ⟨b1, b2, b3, b4, b5, b6⟩ := from_bds hD q0 (by omega)
  rw [fF_many, fF_many]
  unfold apT pTo
  show _ + 0 = _
  rw [Int.add_zero, show (mFrom D (p + 1)).toNat = (mFrom D p).toNat + (mMany D p).toNat by omega, sg_app, sg_nil (n := (mFrom D p).toNat) fun i hi => ?_]
  · rw [Int.zero_add]
    refine sg_congr fun i hi => ?_
    rw [show (mFrom D (q + 1)).toNat = (mFrom D q).toNat + (mMany D q).toNat by omega, sg_app, sg_nil (n := (mFrom D q).toNat) fun j hj => ?_]
    · rw [Int.zero_add]
      refine sg_congr fun j hj => ?_
      have A := (ax_ok hD (i := (i : Int)) (j := (j : Int)) (p := p) (q := q) (by omega) (by omega) p0 q0 pq (by rw [fF_many]; omega) (by rw [fF_many]; omega)).1
      rw [show (((mFrom D p).toNat + i : Nat) : Int) = mFrom D p + i by omega, show (((mFrom D q).toNat + j : Nat) : Int) = mFrom D q + j by omega, A, Int.zero_add, Int.zero_add, bRow_at u (by omega) (by omega) a2, bRow_at w (by omega) (by omega) b2, ← hF i (by omega) (by omega), ← hG j (by omega) (by omega)]
      unfold apE
      by_cases e : 0 + ax D i j = k
      · rw [if_pos e, if_pos (by omega)]
      · rw [if_neg e, if_neg (by omega)]
    · rw [bRow_out w (k := 0 + (j : Int)) (by omega), Int.mul_zero, ite_self]
  · refine sg_nil fun j hj => ?_
    rw [bRow_out u (k := 0 + (i : Int)) (by omega), Int.zero_mul, ite_self]
theorem mDeg_bR {D t : Int} (hD : D = 2 ∨ D = 3) (t0 : 0 ≤ t) (t1 : t ≤ 15) (w : Nat → cF) : mDeg D (bRow D t w) 0 ≤ t := mDeg_le hD t0 fun j j0 j1 hj => by
  rw [show (0 : Int) + j = j by omega]
  unfold bRow
  rw [if_neg]
  intro x
  have := (mDg_lt hD (k := j) (t := t) j0 j1 t0).mp x.2
  omega
theorem ap_vec {D : Int} (hD : D = 2 ∨ D = 3) {p q : Nat} (pq : p + q ≤ 15) (u w : Nat → cF) {k : Nat} (hk : k < (mMany D ((p + q : Nat) : Int)).toNat) : toF (pTo D (bRow D p u) 0 (bRow D q w) 0 (mFrom D ((p : Int) + 1)).toNat (mFrom D ((q : Int) + 1)).toNat (mFrom D ((p + q : Nat) : Int) + k)) = sv_c D ((p + q : Nat) : Int) (cMul (toP D (bRow D p u)) (toP D (bRow D q w))) k := by
  obtain ⟨a1, a2, a3, a4, a5, a6⟩ := from_bds hD (t := (p : Int)) (by omega) (by omega)
  obtain ⟨b1, b2, b3, b4, b5, b6⟩ := from_bds hD (t := (q : Int)) (by omega) (by omega)
  obtain ⟨c1, c2, c3, c4, c5, c6⟩ := from_bds hD (t := ((p + q : Nat) : Int)) (by omega) (by omega)
  have mp := mDeg_bR hD (t := (p : Int)) (by omega) (by omega) u
  have mq := mDeg_bR hD (t := (q : Int)) (by omega) (by omega) w
  have sz : mSz D ≤ 1140 := by rcases hD with e | e <;> (rw [e]; decide)
  obtain ⟨d0, d1, d2⟩ := sv_dg hD (t := ((p + q : Nat) : Int)) (by omega) (by omega) (K := mFrom D ((p + q : Nat) : Int) + k) (by omega) (by omega)
  rw [← toP_mul hD (by omega)]
  unfold sv_c atE
  rw [toP_at hD _ d1 d2 (by omega)]
  unfold vMul
  rw [if_pos ⟨d1, by omega⟩]
  unfold pMul
  rw [toF_mod, pTo_ext (N := (mSz D).toNat) (M := (mSz D).toNat) (n := (mFrom D ((p : Int) + 1)).toNat) (m := (mFrom D ((q : Int) + 1)).toNat) (by omega) (by omega) (fun i h1 h2 => bRow_out u (by omega)) fun j h1 h2 => bRow_out w (by omega)]
section WPS
variable {d : Nat} {z : cm_Z} {I : cm_I} {D : Int} {sh : Nat}
theorem t_putSum (hz : wz z) (hS : shOk D sh I) (y : z.1 198 2 = sh) {a qf qg p q : Nat} {xf xg : Int} {u w : Nat → cF} (a0 : 0 < a) (na : a ≠ 204) (y1 : z.1 205 0 = qf) (y2 : z.1 207 0 = qg) (f0 : 0 < qf) (g0 : 0 < qg) (nf : qf ≠ 204) (ng : qg ≠ 204) (ef : I 205 1 = xf) (ep : I 205 2 = (p : Int)) (eg : I 207 1 = xg) (eq : I 207 2 = (q : Int)) (pq : p + q ≤ 15) (xf0 : 0 ≤ xf ∧ xf ≤ 1000000) (xfl : xf + mMany D p ≤ z.2.1 qf) (xg0 : 0 ≤ xg ∧ xg ≤ 1000000) (xgl : xg + mMany D q ≤ z.2.1 qg) (hu : ∀ k : Nat, k < (mMany D p).toNat → I qf (xf + k) = fi (u k)) (hw : ∀ k : Nat, k < (mMany D q).toNat → I qg (xg + k) = fi (w k)) (em : I a 2 = mMany D ((p + q : Nat) : Int)) : mU (d + 2) m_Rewriter_putSum [vR 8 198, vR 2 a] z I fun I1 => fr [204] I I1 ∧ ∀ k : Nat, k < (mMany D ((p + q : Nat) : Int)).toNat → I1 204 (k : Int) = fi (sv_c D ((p + q : Nat) : Int) (cMul (toP D (bRow D p u)) (toP D (bRow D q w))) k) := by
  have hD := shOk_D hS
  have hsh : sh = 11 ∨ sh = 20 := shOk_sh hS
  obtain ⟨a1, a2, a3, a4, a5, a6⟩ := from_bds hD (t := (p : Int)) (by omega) (by omega)
  obtain ⟨b1, b2, b3, b4, b5, b6⟩ := from_bds hD (t := (q : Int)) (by omega) (by omega)
  obtain ⟨c1, c2, c3, c4, c5, c6⟩ := from_bds hD (t := ((p + q : Nat) : Int)) (by omega) (by omega)
  have c16 := mFrom_mono D (s := ((p + q : Nat) : Int) + 1) (t := 16) (by omega) (by omega)
  have l204 : z.2.1 204 = 136 := wz_L hz 204 136 (by decide) (by decide)
  have ov : okR (bRow D p u) := (vOk_bRow hD (by omega) (by omega) u).1
  have ow : okR (bRow D q w) := (vOk_bRow hD (by omega) (by omega) w).1
  have n204 : ∀ c, c ≠ 204 → c ∉ [204] := fun c hc => by simpa using hc
  refine wr_Rewriter_putSum hz y (mU_mono (t_fill (d := d) hz (a := 204) (by decide) l204 (by decide) (by decide)) fun I1 e1 => ?_)
  obtain ⟨f1, g1⟩ := fr_eq_iw e1
  have zero : ∀ k : Int, 0 ≤ k → k < 136 → I1 204 k = 0 := fun k k0 k1 => by
    rw [g1]
    unfold fillF
    exact if_pos ⟨k0, by omega⟩
  have hS1 : shOk D sh I1 := shOk_fr hS (f1 _ (by simp; omega)) (f1 _ (by simp; omega)) (f1 _ (by simp; omega)) (f1 _ (by simp; omega)) (f1 _ (by simp; omega))
  have hF : ∀ k : Int, 0 ≤ k → k < mMany D p → I1 qf (xf + k) = fi (u k.toNat) := fun k k0 k1 => by
    rw [f1 qf (n204 qf nf)]
    have := hu k.toNat (by omega)
    rw [show ((k.toNat : Nat) : Int) = k by omega] at this
    exact this
  have hG : ∀ k : Int, 0 ≤ k → k < mMany D q → I1 qg (xg + k) = fi (w k.toNat) := fun k k0 k1 => by
    rw [f1 qg (n204 qg ng)]
    have := hw k.toNat (by omega)
    rw [show ((k.toNat : Nat) : Int) = k by omega] at this
    exact this
  have AP := fun k => ap_pTo hD (p := (p : Int)) (q := (q : Int)) (by omega) (by omega) (by omega) (F := fun i => I1 qf (xf + i)) (G := fun j => I1 qg (xg + j)) hF hG k
  have pq' : (p : Int) + q = ((p + q : Nat) : Int) := by omega
  have bd : ∀ k : Int, 0 ≤ k → k < mMany D ((p + q : Nat) : Int) → apT D (fun i => I1 qf (xf + i)) (fun j => I1 qg (xg + j)) 0 (fF D ((q : Int) + 1)).toNat (fF D ((p : Int) + 1)).toNat 0 k ≤ 1371686400 := by
    intro k k0 k1
    rw [AP k]
    exact pTo_bd hD ov ow (by omega) (by omega) (by omega) (by rw [pq']; omega) (by rw [pq']; omega)
  have nn : ∀ k : Int, 0 ≤ apT D (fun i => I1 qf (xf + i)) (fun j => I1 qg (xg + j)) 0 (fF D ((q : Int) + 1)).toNat (fF D ((p : Int) + 1)).toNat 0 k := by
    intro k
    unfold apT
    refine Int.add_nonneg (sg_nonneg fun i hi => sg_nonneg fun j hj => ?_) (by show (0 : Int) ≤ 0; omega)
    rw [fF_many] at hi hj
    unfold apE
    split
    · show 0 ≤ I1 qf (xf + i) * I1 qg (xg + j)
      rw [hF i (by omega) (by omega), hG j (by omega) (by omega)]
      exact Int.mul_nonneg (fi_bd _).1 (fi_bd _).1
    · exact Int.le_refl _
  have mm : fF D ((p : Int) + q + 1) = mMany D ((p + q : Nat) : Int) := by rw [fF_many, pq']
  refine mU_mono (t_addProduct (d := d) hz hS1 (a1 := 205) (a2 := 207) (a3 := 204) (p := (p : Int)) (q := (q : Int)) (xf := xf) (xg := xg) (x := 0) (by decide) (by decide) (by decide) y1 y2 f0 g0 (by rw [f1 205 (by decide)]; exact ef) (by rw [f1 205 (by decide)]; exact ep) (by rw [f1 207 (by decide)]; exact eg) (by rw [f1 207 (by decide)]; exact eq) (by omega) (by omega) (by omega) xf0 (by rw [fF_many]; exact xfl) xg0 (by rw [fF_many]; exact xgl) (by decide) (by rw [mm]; omega) (fun i i0 i1 => by rw [fF_many] at i1; rw [hF i i0 i1]; exact fi_bd _) (fun i i0 i1 => by rw [fF_many] at i1; rw [hG i i0 i1]; exact fi_bd _) (by simp; omega) fun k k0 k1 => by
    rw [mm] at k1
    rw [zero k k0 (by omega)]
    have := bd k k0 (by omega)
    omega) fun I2 ⟨f2, h2⟩ => ?_
  have f02 : fr [204] I I2 := fr_trans f1 f2
  have Lp : ∀ (v x : Nat) (J : cm_I), x + v = (mMany D ((p + q : Nat) : Int)).toNat → fr [204] I J → (∀ k : Int, J 204 k = if 0 ≤ k ∧ k < x then I2 204 k % 2521 else I2 204 k) → cw (d + 1) cd_Rewriter_putSum (qU z fun I1 => fr [204] I I1 ∧ ∀ k : Nat, k < (mMany D ((p + q : Nat) : Int)).toNat → I1 204 (k : Int) = fi (sv_c D ((p + q : Nat) : Int) (cMul (toP D (bRow D p u)) (toP D (bRow D q w))) k)) 30 [some (vR 8 198), some (vR 2 a), some (vI (x : Int))] [] (J, z) := by
    intro v
    induction v with
    | zero =>
      intro x J ex hf hv
      refine wr_Rewriter_putSum_30 hz a0 ?_
      rw [hf a (n204 a na), em]
      refine ⟨fun _ => qU_mk ⟨hf, fun k hk => ?_⟩, fun e => by omega⟩
      rw [hv, if_pos (by omega), h2, zero k (by omega) (by omega), Int.zero_add, AP, pq', ← ap_vec hD pq u w hk, fi_toF]
    | succ v ih =>
      intro x J ex hf hv
      refine wr_Rewriter_putSum_30 hz a0 ?_
      rw [hf a (n204 a na), em]
      have jx : J 204 (x : Int) = I2 204 (x : Int) := by rw [hv, if_neg (by omega)]
      have j0 : 0 ≤ I2 204 (x : Int) := by
        rw [h2, zero x (by omega) (by omega), Int.zero_add]
        exact nn _
      rw [jx, Int.tmod_eq_emod_of_nonneg j0]
      refine ⟨fun e => by omega, fun _ => ⟨⟨by omega, by omega⟩, fun J1 e1 => ⟨by unfold cm_i; omega, ?_⟩⟩⟩
      obtain ⟨f3, g3⟩ := fr_eq_iu e1
      have := ih (x + 1) J1 (by omega) (fr_trans hf f3) fun k => ?_
      · exact this
      · rw [g3]
        show (if k = (x : Int) then _ else J 204 k) = _
        by_cases e : k = (x : Int)
        · rw [if_pos e, if_pos (by omega), e]
        · rw [if_neg e, hv]
          by_cases e2 : 0 ≤ k ∧ k < x
          · rw [if_pos e2, if_pos (by omega)]
          · rw [if_neg e2, if_neg (by omega)]
  exact Lp (mMany D ((p + q : Nat) : Int)).toNat 0 I2 (by omega) f02 fun k => by rw [if_neg (by omega)]
end WPS
