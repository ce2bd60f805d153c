/-! THE CLASS: places within a degree, by blocks -/
section WIX
variable {D : Int}
theorem mAt_fF (hD : D = 2 ∨ D = 3) {a b c : Int} (h2 : D = 2 → c = 0) : mAt D a b c = mFrom D (a + b + c) + (fF D (b + c) + c) := by
  unfold mAt fF mMany
  rcases hD with e | e <;> subst e
  · rw [if_pos rfl, if_pos rfl, h2 rfl]; omega
  · rw [if_neg (by decide), if_neg (by decide), show b + c - 1 + 1 = b + c by omega, show b + c - 1 + 2 = b + c + 1 by omega]
theorem fF_many (D t : Int) : fF D (t + 1) = mMany D t := by unfold fF; rw [show t + 1 - 1 = t by omega]
/-- the block of a place; its place there -/
def blk (D p : Int) : Int := mEb D (mFrom D 15 + p) + mEc D (mFrom D 15 + p)
def lst (D p : Int) : Int := mEc D (mFrom D 15 + p)
theorem fF_mono (hD : D = 2 ∨ D = 3) {s t : Int} (s0 : 0 ≤ s) (st : s ≤ t) (t1 : t ≤ 18) : fF D s ≤ fF D t := by
  have key : ∀ n : Nat, s + n ≤ 18 → fF D s ≤ fF D (s + n) := by
    intro n
    induction n with
    | zero => intro _; rw [show s + ((0 : Nat) : Int) = s by omega]; exact Int.le_refl _
    | succ n ih =>
      intro h
      have := fF_succ hD (s := s + n) (by omega) (by omega)
      have h2 := ih (by omega)
      rw [show s + ((n + 1 : Nat) : Int) = s + n + 1 by omega]
      split at this <;> omega
  have := key (t - s).toNat (by omega)
  rw [show s + ((t - s).toNat : Int) = t by omega] at this
  exact this
theorem blk_ok (hD : D = 2 ∨ D = 3) {p : Int} (p0 : 0 ≤ p) (p1 : p < fF D 16) : 0 ≤ blk D p ∧ blk D p ≤ 15 ∧ 0 ≤ lst D p ∧ lst D p ≤ blk D p ∧ (D = 2 → lst D p = 0) ∧ p = fF D (blk D p) + lst D p ∧ fF D (blk D p) ≤ p ∧ p < fF D (blk D p + 1) := by
  have fm := fF_many D 15
  rw [show (15 : Int) + 1 = 16 by decide] at fm
  have fb := from_bds hD (t := 15) (by decide) (by decide)
  obtain ⟨e1, e2, e3, e4, e5, e6⟩ := mE_at hD (k := mFrom D 15 + p) (by omega) (by omega)
  have dg := sv_dg hD (t := 15) (by decide) (by decide) (K := mFrom D 15 + p) (by omega) (by omega)
  have d1 := dg.1
  unfold mDg at d1
  rw [mAt_fF hD e6, d1] at e1
  have sc := fF_succ hD (s := blk D p) (by unfold blk; omega) (by unfold blk; omega)
  unfold blk lst at *
  have l2 : mEc D (mFrom D 15 + p) < (if D = 2 then 1 else mEb D (mFrom D 15 + p) + mEc D (mFrom D 15 + p) + 1) := by
    split
    · next w => have := e6 w; omega
    · omega
  exact ⟨by omega, by omega, by omega, by omega, e6, by omega, by omega, by omega⟩
theorem blk_lt (hD : D = 2 ∨ D = 3) {p t : Int} (p0 : 0 ≤ p) (p1 : p < fF D (t + 1)) (t0 : 0 ≤ t) (t1 : t ≤ 15) : blk D p ≤ t ∧ p < fF D 16 := by
  have m := fF_mono hD (s := t + 1) (t := 16) (by omega) (by omega) (by omega)
  obtain ⟨b1, b2, b3, b4, b5, b6, b7, b8⟩ := blk_ok hD p0 (by omega)
  refine ⟨?_, by omega⟩
  apply Classical.byContradiction
  intro w
  have := fF_mono hD (s := t + 1) (t := blk D p) (by omega) (by omega) (by omega)
  omega
/-- a place told by its block -/
theorem blk_of (hD : D = 2 ∨ D = 3) {s c : Int} (s0 : 0 ≤ s) (s1 : s ≤ 15) (c0 : 0 ≤ c) (c1 : fF D s + c < fF D (s + 1)) : blk D (fF D s + c) = s ∧ lst D (fF D s + c) = c := by
  have fb := fF_bd hD (s := s) s0 (by omega)
  have m := fF_mono hD (s := s + 1) (t := 16) (by omega) (by omega) (by omega)
  obtain ⟨b1, b2, b3, b4, b5, b6, b7, b8⟩ := blk_ok hD (p := fF D s + c) (by omega) (by omega)
  have e : blk D (fF D s + c) = s := by
    rcases Int.lt_trichotomy (blk D (fF D s + c)) s with q | q | q
    · have := fF_mono hD (s := blk D (fF D s + c) + 1) (t := s) (by omega) (by omega) (by omega)
      omega
    · exact q
    · have := fF_mono hD (s := s + 1) (t := blk D (fF D s + c)) (by omega) (by omega) (by omega)
      omega
  rw [e] at b6
  exact ⟨e, by omega⟩
theorem wid_eq (hD : D = 2 ∨ D = 3) {s c : Int} (s0 : 0 ≤ s) (s1 : s ≤ 17) (c0 : 0 ≤ c) : fF D s + c < fF D (s + 1) ↔ (c ≤ s ∧ (D = 2 → c = 0)) := by
  have sc := fF_succ hD s0 s1
  rcases hD with e | e <;> subst e
  · rw [if_pos rfl] at sc
    constructor
    · intro h; exact ⟨by omega, fun _ => by omega⟩
    · intro h; have := h.2 rfl; omega
  · rw [if_neg (by decide)] at sc
    constructor
    · intro h; exact ⟨by omega, fun q => absurd q (by decide)⟩
    · intro h; omega
/-- the powers at a place of a degree -/
theorem mE_loc (hD : D = 2 ∨ D = 3) {p t : Int} (p0 : 0 ≤ p) (t0 : 0 ≤ t) (t1 : t ≤ 15) (p1 : p < fF D (t + 1)) : mEa D (mFrom D t + p) = t - blk D p ∧ mEb D (mFrom D t + p) = blk D p - lst D p ∧ mEc D (mFrom D t + p) = lst D p := by
  obtain ⟨bt, p16⟩ := blk_lt hD p0 p1 t0 t1
  obtain ⟨b1, b2, b3, b4, b5, b6, b7, b8⟩ := blk_ok hD p0 p16
  obtain ⟨m1, m2, m3, m4, m5⟩ := mAt_E hD (a := t - blk D p) (b := blk D p - lst D p) (c := lst D p) (by omega) (by omega) (by omega) (by omega) b5
  have e : mAt D (t - blk D p) (blk D p - lst D p) (lst D p) = mFrom D t + p := by
    rw [mAt_fF hD b5, show t - blk D p + (blk D p - lst D p) + lst D p = t by omega, show blk D p - lst D p + lst D p = blk D p by omega]
    omega
  rw [e] at m1 m2 m3
  exact ⟨m1, m2, m3⟩
/-- where the product of two places stands -/
def ax (D i j : Int) : Int := fF D (blk D i + blk D j) + (lst D i + lst D j)
theorem ax_ok (hD : D = 2 ∨ D = 3) {i j p q : Int} (i0 : 0 ≤ i) (j0 : 0 ≤ j) (p0 : 0 ≤ p) (q0 : 0 ≤ q) (pq : p + q ≤ 15) (i1 : i < fF D (p + 1)) (j1 : j < fF D (q + 1)) : mIx D (mFrom D p + i) (mFrom D q + j) = mFrom D (p + q) + ax D i j ∧ 0 ≤ ax D i j ∧ ax D i j < fF D (p + q + 1) := by
  obtain ⟨bi, p16⟩ := blk_lt hD i0 i1 p0 (by omega)
  obtain ⟨bj, q16⟩ := blk_lt hD j0 j1 q0 (by omega)
  obtain ⟨a1, a2, a3, a4, a5, a6, a7, a8⟩ := blk_ok hD i0 p16
  obtain ⟨b1, b2, b3, b4, b5, b6, b7, b8⟩ := blk_ok hD j0 q16
  obtain ⟨x1, x2, x3⟩ := mE_loc hD i0 p0 (by omega) i1
  obtain ⟨y1, y2, y3⟩ := mE_loc hD j0 q0 (by omega) j1
  have fb := fF_bd hD (s := blk D i + blk D j) (by omega) (by omega)
  have w := (wid_eq hD (s := blk D i + blk D j) (c := lst D i + lst D j) (by omega) (by omega) (by omega)).mpr ⟨by omega, fun e => by have := a5 e; have := b5 e; omega⟩
  have m := fF_mono hD (s := blk D i + blk D j + 1) (t := p + q + 1) (by omega) (by omega) (by omega)
  refine ⟨?_, by unfold ax; omega, by unfold ax; omega⟩
  unfold mIx
  rw [x1, x2, x3, y1, y2, y3, mAt_fF hD (fun e => by have := a5 e; have := b5 e; omega)]
  rw [show p - blk D i + (q - blk D j) + (blk D i - lst D i + (blk D j - lst D j)) + (lst D i + lst D j) = p + q by omega, show blk D i - lst D i + (blk D j - lst D j) + (lst D i + lst D j) = blk D i + blk D j by omega]
  rfl
theorem ax_inj (hD : D = 2 ∨ D = 3) {i j j' q : Int} (i0 : 0 ≤ i) (j0 : 0 ≤ j) (j0' : 0 ≤ j') (i1 : i < fF D 16) (j1 : j < fF D (q + 1)) (j1' : j' < fF D (q + 1)) (q0 : 0 ≤ q) (q1 : blk D i + q ≤ 15) (e : ax D i j = ax D i j') : j = j' := by
  obtain ⟨a1, a2, a3, a4, a5, a6, a7, a8⟩ := blk_ok hD i0 i1
  obtain ⟨bj, q16⟩ := blk_lt hD j0 j1 q0 (by omega)
  obtain ⟨bj', q16'⟩ := blk_lt hD j0' j1' q0 (by omega)
  obtain ⟨b1, b2, b3, b4, b5, b6, b7, b8⟩ := blk_ok hD j0 q16
  obtain ⟨c1, c2, c3, c4, c5, c6, c7, c8⟩ := blk_ok hD j0' q16'
  have w := (wid_eq hD (s := blk D i + blk D j) (c := lst D i + lst D j) (by omega) (by omega) (by omega)).mpr ⟨by omega, fun e => by have := a5 e; have := b5 e; omega⟩
  have w' := (wid_eq hD (s := blk D i + blk D j') (c := lst D i + lst D j') (by omega) (by omega) (by omega)).mpr ⟨by omega, fun e => by have := a5 e; have := c5 e; omega⟩
  obtain ⟨u1, u2⟩ := blk_of hD (s := blk D i + blk D j) (c := lst D i + lst D j) (by omega) (by omega) (by omega) w
  obtain ⟨v1, v2⟩ := blk_of hD (s := blk D i + blk D j') (c := lst D i + lst D j') (by omega) (by omega) (by omega) w'
  unfold ax at e
  rw [e] at u1 u2
  rw [u1] at v1
  rw [u2] at v2
  have eb : blk D j = blk D j' := by omega
  rw [eb] at b6
  omega
theorem shOk_blk {sh : Nat} {I : cm_I} (hS : shOk D sh I) {p : Int} (p0 : 0 ≤ p) (p1 : p < fF D 16) : I (sh + 7) p = blk D p ∧ I (sh + 8) p = fF D (blk D p + 1) - fF D (blk D p) := by
  obtain ⟨b1, b2, b3, b4, b5, b6, b7, b8⟩ := blk_ok (shOk_D hS) p0 p1
  exact hS.2.2.2.2.2 (blk D p) p b1 b2 b7 b8
theorem wz_shL7 {z : cm_Z} (hz : wz z) {sh : Nat} {I : cm_I} (hS : shOk D sh I) : z.2.1 (sh + 7) = fF D 16 ∧ z.2.1 (sh + 8) = fF D 16 := by
  rcases hS.1 with e | e
  · rw [e.1, e.2]
    exact ⟨wz_L hz 18 16 rfl (by decide), wz_L hz 19 16 rfl (by decide)⟩
  · rw [e.1, e.2]
    exact ⟨wz_L hz 27 136 rfl (by decide), wz_L hz 28 136 rfl (by decide)⟩
theorem t_power {d : Nat} {z : cm_Z} {I : cm_I} {sh : Nat} (hz : wz z) (hS : shOk D sh I) {t p w : Int} (t0 : 0 ≤ t) (t1 : t ≤ 15) (p0 : 0 ≤ p) (p1 : p < fF D (t + 1)) (w0 : 0 ≤ w) (w1 : w ≤ 2) : mI (d + 1) m_Shape_power [vR 9 sh, vI t, vI p, vI w] z I fun r I1 => I1 = I ∧ r = if w = 0 then mEa D (mFrom D t + p) else if w = 1 then mEb D (mFrom D t + p) else mEc D (mFrom D t + p) := by
  have hD := shOk_D hS
  obtain ⟨bt, p16⟩ := blk_lt hD p0 p1 t0 t1
  obtain ⟨b1, b2, b3, b4, b5, b6, b7, b8⟩ := blk_ok hD p0 p16
  obtain ⟨m1, m2, m3⟩ := mE_loc hD p0 t0 t1 p1
  have sb := (shOk_blk hS p0 p16).1
  refine wr_Shape_power hz (shOk_sh hS) ?_
  rw [sb, (wz_shL7 hz hS).1, hS.2.2.2.1 (blk D p) b1 (by omega), m1, m2, m3]
  refine ⟨⟨by omega, by omega⟩, ⟨by omega, by omega⟩, ⟨by omega, by omega⟩, fun n0 => ⟨fun n1 => qI_mk ⟨rfl, ?_⟩, fun e1 => ⟨⟨by omega, by omega⟩, qI_mk ⟨rfl, ?_⟩⟩⟩, fun e0 => ⟨⟨by omega, by omega⟩, qI_mk ⟨rfl, ?_⟩⟩⟩
  · rw [if_neg n0, if_neg n1]; omega
  · rw [if_neg n0, if_pos e1]; omega
  · rw [if_pos e0]
end WIX
