/-! factors by any order of the products: pure -/
def enX (D : Int) (T : Nat → cMat) (nt : Nat) (v : Nat → Int → Int) (dg : Nat → Int) (t : Nat) (X : Nat → tup4) : Prop := (∀ i, i < bsRows D T nt t → pxX D T nt v dg t (X i)) ∧ (∀ i j, i < bsRows D T nt t → j < bsRows D T nt t → X i = X j → i = j) ∧ ∀ x, pxX D T nt v dg t x → ∃ i, i < bsRows D T nt t ∧ X i = x
section PQ
variable {D : Int} {T : Nat → cMat} {nt n : Nat} {L : Nat → cMat} {v : Nat → Int → Int} {dg : Nat → Int}
theorem en_len (S : sx_S D T nt n L v dg) {t : Nat} (t1 : t ≤ 15) {X : Nat → tup4} (hX : enX D T nt v dg t X) : (sx_X D dg (pxL D T nt v dg) t).length = bsRows D T nt t := by
  obtain ⟨h1, h2, h3⟩ := hX
  have hE := sx_hE S (Nat.le_refl 16) (seAll_ok 16 (Nat.le_refl _)).1 (seAll_ok 16 (Nat.le_refl _)).2
  have a := ind_span (M' := sx_w D T nt v dg (pxL D T nt v dg) t) (px_ind S t1 h1 h2) fun i hi => by
    obtain ⟨j, j1, j2⟩ := sx_at4_ex (h1 i hi)
    refine inS_congr (inS_row (w := sx_w D T nt v dg (pxL D T nt v dg) t) j1) fun k hk => ?_
    show pxV D T nt v dg t (X i) k = sv_c D t (sx_t D T nt v (pxL D T nt v dg) (sx_at4 (sx_X D dg (pxL D T nt v dg) t) j)) k
    rw [j2]
    rfl
  have b := ind_span (n := (mMany D t).toNat) (s := (sx_X D dg (pxL D T nt v dg) t).length) (M := sx_w D T nt v dg (pxL D T nt v dg) t) (M' := fun i => pxV D T nt v dg t (X i)) (r := bsRows D T nt t) (fun c hc => sx_ind S px_L hE t1 c hc) fun i hi => by
    obtain ⟨j, j1, j2⟩ := h3 _ (sx_at4_mem hi).1
    refine inS_congr (inS_row (w := fun i => pxV D T nt v dg t (X i)) j1) fun k hk => ?_
    show sv_c D t (sx_t D T nt v (pxL D T nt v dg) (sx_at4 (sx_X D dg (pxL D T nt v dg) t) i)) k = pxV D T nt v dg t (X j) k
    rw [j2]
    rfl
  omega
/-- sums over the products -/
theorem en_sum {R : Type} [Lean.Grind.CommRing R] (S : sx_S D T nt n L v dg) {t : Nat} (t1 : t ≤ 15) {X : Nat → tup4} (hX : enX D T nt v dg t X) (F : tup4 → R) : gs (sx_X D dg (pxL D T nt v dg) t).length (fun i => F (sx_at4 (sx_X D dg (pxL D T nt v dg) t) i)) = gs (bsRows D T nt t) fun i => F (X i) := by
  have len := en_len S t1 hX
  obtain ⟨h1, h2, h3⟩ := hX
  rw [len]
  have nd : List.Pairwise (· ≠ ·) (sx_X D dg (pxL D T nt v dg) (t : Int)) := tJ_nd S.2.2.2.2.2.1 _ _
  have ex : ∀ i, ∃ j, i < bsRows D T nt t → j < bsRows D T nt t ∧ sx_at4 (sx_X D dg (pxL D T nt v dg) t) j = X i := by
    intro i
    by_cases hi : i < bsRows D T nt t
    · obtain ⟨j, j1, j2⟩ := sx_at4_ex (h1 i hi)
      exact ⟨j, fun _ => ⟨by omega, j2⟩⟩
    · exact ⟨0, fun h => absurd h hi⟩
  have σ := fun i => Classical.choose_spec (ex i)
  rw [← gs_perm (s := fun i => Classical.choose (ex i)) (fun i hi => (σ i hi).1) (fun i j hi hj e => ?_) (fun i => F (sx_at4 (sx_X D dg (pxL D T nt v dg) t) i))]
  · exact gs_congr fun i hi => by
      show F (sx_at4 _ (Classical.choose (ex i))) = _
      rw [(σ i hi).2]
  · have e' : Classical.choose (ex i) = Classical.choose (ex j) := e
    refine h2 i j hi hj ?_
    rw [← (σ i hi).2, ← (σ j hj).2, e']
/-- the factors of f, one by one -/
theorem en_coef (S : sx_S D T nt n L v dg) {t : Nat} (t1 : t ≤ 15) {X : Nat → tup4} (hX : enX D T nt v dg t X) {f : Int → Int} {q : tup4 → cF} (hq : rwK D T nt v dg (pxL D T nt v dg) f q) {c : Nat → cF} (hc : ∀ k : Nat, k < (mMany D t).toNat → toF (f (mFrom D t + k)) = lc (bsRows D T nt t) c (fun i => pxV D T nt v dg t (X i)) k) : ∀ i, i < bsRows D T nt t → c i = q (X i) := by
  intro i hi
  have ind := px_ind S t1 hX.1 hX.2.1 (fun i => c i - q (X i)) (fun k hk => ?_) i hi
  · exact uq_g3 ind
  · refine lc_ne ?_
    rw [← hc k hk, hq.1 t t1 k hk]
    exact en_sum S t1 hX fun x => q x * sv_c D t (sx_t D T nt v (pxL D T nt v dg) x) k
theorem en_zero (S : sx_S D T nt n L v dg) {t : Nat} (t1 : t ≤ 15) {f : Int → Int} {q : tup4 → cF} (hq : rwK D T nt v dg (pxL D T nt v dg) f q) (hz : ∀ k : Nat, k < (mMany D t).toNat → toF (f (mFrom D t + k)) = 0) : ∀ x, pxX D T nt v dg t x → q x = 0 := by
  intro x hx
  have hE := sx_hE S (Nat.le_refl 16) (seAll_ok 16 (Nat.le_refl _)).1 (seAll_ok 16 (Nat.le_refl _)).2
  obtain ⟨j, j1, j2⟩ := sx_at4_ex hx
  have := sx_ind S px_L hE t1 (fun i => q (sx_at4 (sx_X D dg (pxL D T nt v dg) t) i)) (fun k hk => by rw [← hq.1 t t1 k hk]; exact hz k hk) j j1
  rw [← j2]; exact this
/-- how many factors a degree has -/
theorem rwL_cnt (q : tup4 → cF) : ∀ Y : List tup4, ((rwL q Y).length : Int) = gs Y.length fun i => if q (sx_at4 Y i) = 0 then (0 : Int) else 1
  | [] => rfl
  | y :: Y => by
    rw [List.length_cons, gs_head]
    have e : (gs Y.length fun i => if q (sx_at4 (y :: Y) (i + 1)) = 0 then (0 : Int) else 1) = gs Y.length fun i => if q (sx_at4 Y i) = 0 then (0 : Int) else 1 := rfl
    rw [e, ← rwL_cnt q Y]
    show (((if q y = 0 then rwL q Y else (y, fi (q y)) :: rwL q Y).length : Nat) : Int) = (if q y = 0 then (0 : Int) else 1) + _
    by_cases h : q y = 0
    · rw [if_pos h, if_pos h]; omega
    · rw [if_neg h, if_neg h, List.length_cons]; omega
/-- the row of factors -/
def fcR (D : Int) (T : Nat → cMat) (nt : Nat) (v : Nat → Int → Int) (dg : Nat → Int) (q : tup4 → cF) (X : Nat → Nat → tup4) (k : Nat) (F : Int → Int) : Prop := (∀ t, t < k → ∀ i : Nat, i < (mMany D t).toNat → F (mFrom D t + i) = if i < bsRows D T nt t then fi (q (X t i)) else 0) ∧ ∀ t : Nat, k ≤ t → t < 16 → ∀ i : Nat, i < (mMany D t).toNat → F (mFrom D t + i) = 0
theorem fc_cnt (S : sx_S D T nt n L v dg) {q : tup4 → cF} {X : Nat → Nat → tup4} {k : Nat} (k16 : k ≤ 16) (hX : ∀ t, t < k → enX D T nt v dg t (X t)) (hk : ∀ t : Nat, k ≤ t → t < 16 → ∀ x, pxX D T nt v dg t x → q x = 0) {F : Int → Int} (hF : fcR D T nt v dg q X k F) : ∀ t : Nat, t ≤ 16 → cntNZ F 0 (mFrom D t).toNat = ((rwAll D dg (pxL D T nt v dg) q t).length : Int) := by
  have hD := S.1
  intro t
  induction t with
  | zero =>
    intro _
    have : (mFrom D ((0 : Nat) : Int)).toNat = 0 := by rcases hD with e | e <;> (rw [e]; decide)
    rw [this]
    rfl
  | succ t ih =>
    intro ht
    obtain ⟨a1, a2, a3, a4, a5, a6⟩ := from_bds hD (t := (t : Int)) (by omega) (by omega)
    have e1 := ih (by omega)
    have e2 : (mFrom D ((t + 1 : Nat) : Int)).toNat = (mFrom D t).toNat + (mMany D t).toNat := by
      rw [show ((t + 1 : Nat) : Int) = (t : Int) + 1 by omega]; omega
    show _ = (((rwAll D dg (pxL D T nt v dg) q t ++ rwL q (sx_X D dg (pxL D T nt v dg) t)).length : Nat) : Int)
    rw [List.length_append, show (((rwAll D dg (pxL D T nt v dg) q t).length + (rwL q (sx_X D dg (pxL D T nt v dg) t)).length : Nat) : Int) = ((rwAll D dg (pxL D T nt v dg) q t).length : Int) + ((rwL q (sx_X D dg (pxL D T nt v dg) t)).length : Int) by omega, ← e1, e2]
    unfold cntNZ
    rw [sg_app]
    congr 1
    by_cases w : t < k
    · have hb : bsRows D T nt t ≤ (mMany D t).toNat := by
        obtain ⟨h, hB⟩ := S.2.2.2.2.2.2.2 t (by omega) (by omega)
        exact RB_le hB
      rw [rwL_cnt, en_sum S (by omega) (hX t w) (fun x => if q x = 0 then (0 : Int) else 1), ← gs_ext hb (f := fun i => if i < bsRows D T nt t then (if q (X t i) = 0 then (0 : Int) else 1) else 0) (fun i h1 h2 => if_neg (by omega)) |>.trans (gs_congr fun i hi => if_pos hi) |>.symm |>.symm, gs_sg]
      refine sg_congr fun i hi => ?_
      rw [show (0 : Int) + (((mFrom D t).toNat + i : Nat) : Int) = mFrom D t + i by omega, hF.1 t w i hi]
      by_cases w2 : i < bsRows D T nt t
      · rw [if_pos w2, if_pos w2]
        by_cases w3 : q (X t i) = 0
        · rw [if_pos w3, if_pos (fi_zero.mpr w3)]
        · rw [if_neg w3, if_neg fun e => w3 (fi_zero.mp e)]
      · rw [if_neg w2, if_neg w2, if_pos rfl]
    · rw [rwL_nil fun x hx => hk t (by omega) (by omega) x hx]
      exact sg_zero fun i hi => if_pos (by
        rw [show (0 : Int) + (((mFrom D t).toNat + i : Nat) : Int) = mFrom D t + i by omega]
        exact hF.2 t (by omega) (by omega) i hi)
end PQ
