/-! the list of secondary ones as far as it is found; what its products span -/
section PY
variable {D : Int} {T : Nat → cMat} {nt n : Nat} {L : Nat → cMat} {v : Nat → Int → Int} {dg : Nat → Int}
theorem seRow_pre {t : Nat} {l : List (Int × Nat)} {r r' : Nat} (h : r ≤ r') : ∃ l', seRow D T nt v dg t r' l = seRow D T nt v dg t r l ++ l' := by
  induction r' with
  | zero => rw [show r = 0 by omega]; exact ⟨[], (List.append_nil _).symm⟩
  | succ r' ih =>
    by_cases e : r = r' + 1
    · rw [e]; exact ⟨[], (List.append_nil _).symm⟩
    · obtain ⟨l', hl⟩ := ih (by omega)
      by_cases q : sx_p D T nt v dg (seRow D T nt v dg t r' l) t (toP D (sx_b D T nt ((t : Int), r')))
      · rw [seRow_yes q]; exact ⟨l', hl⟩
      · rw [seRow_no q, hl]; exact ⟨l' ++ [((t : Int), r')], List.append_assoc _ _ _⟩
theorem px_pre {t r : Nat} (t1 : t ≤ 15) (hr : r ≤ bsRows D T nt t) : ∃ l', pxL D T nt v dg = seRow D T nt v dg t r (seAll D T nt v dg t) ++ l' := by
  obtain ⟨l1, h1, _⟩ := seAll_pre (D := D) (T := T) (nt := nt) (v := v) (dg := dg) (t := t + 1) (t' := 16) (by omega) (Nat.le_refl _)
  obtain ⟨l2, h2⟩ := seRow_pre (D := D) (T := T) (nt := nt) (v := v) (dg := dg) (t := t) (l := seAll D T nt v dg t) hr
  refine ⟨l2 ++ l1, ?_⟩
  show seAll D T nt v dg 16 = _
  rw [h1]
  show seRow D T nt v dg t (bsRows D T nt t) (seAll D T nt v dg t) ++ l1 = _
  rw [h2, List.append_assoc]
theorem px_Lr {t r : Nat} (t1 : t ≤ 15) (hr : r ≤ bsRows D T nt t) : sx_L D T nt (seRow D T nt v dg t r (seAll D T nt v dg t)) := (seRow_ok t1 (seAll_ok t (by omega)).1 r hr).1.1
/-- products of a list that goes on -/
theorem px_Xl (S : sx_S D T nt n L v dg) {l l' : List (Int × Nat)} (hl : sx_L D T nt l) (e : pxL D T nt v dg = l ++ l') {t : Nat} (t1 : t ≤ 15) {x : tup4} : x ∈ sx_X D dg l t ↔ pxX D T nt v dg t x ∧ x.1.toNat < l.length := by
  constructor
  · intro hx
    obtain ⟨h1, h2, h3, h4, h5, h6, h7⟩ := sx_Xok S hl hx
    refine ⟨(px_iff S t1).mpr ⟨h1, by rw [e, List.length_append]; omega, h3, h4, h5, h6, ?_⟩, h2⟩
    rw [e, sx_dap h2]; exact h7
  · intro ⟨hx, h2⟩
    obtain ⟨h1, _, h3, h4, h5, h6, h7⟩ := (px_iff S t1).mp hx
    rw [e, sx_dap h2] at h7
    have := sx_Xin S hl t1 h2 (k := x.2.2.2.toNat) (fun e => by rw [h6 e]; rfl) h7
    have e : (((x.1.toNat : Nat) : Int), ((x.2.1.toNat : Nat) : Int), ((x.2.2.1.toNat : Nat) : Int), ((x.2.2.2.toNat : Nat) : Int)) = x := by
      rw [Int.toNat_of_nonneg h1, Int.toNat_of_nonneg h3, Int.toNat_of_nonneg h4, Int.toNat_of_nonneg h5]
    rw [e] at this
    exact this
theorem px_tl {l l' : List (Int × Nat)} (e : pxL D T nt v dg = l ++ l') {x : tup4} (h : x.1.toNat < l.length) : sx_t D T nt v l x = sx_t D T nt v (pxL D T nt v dg) x := by
  unfold sx_t prP
  rw [e, (sx_eap h).1]
theorem px_span (S : sx_S D T nt n L v dg) {l l' : List (Int × Nat)} (hl : sx_L D T nt l) (e : pxL D T nt v dg = l ++ l') {t m : Nat} (t1 : t ≤ 15) {X : Nat → tup4} (hX : ∀ i, i < m → pxX D T nt v dg t (X i) ∧ (X i).1.toNat < l.length) (cov : ∀ x, pxX D T nt v dg t x → x.1.toNat < l.length → ∃ i, i < m ∧ X i = x) (w : Nat → cF) : sx_p D T nt v dg l t (toP D (bRow D t w)) ↔ inS (mMany D t).toNat m (fun i => pxV D T nt v dg t (X i)) w := by
  rw [sx_span' S hl t1 (sv_zrow S.1 t1 w)]
  have row : ∀ i, i < (sx_X D dg l t).length → ∀ k, sx_w D T nt v dg l t i k = pxV D T nt v dg t (sx_at4 (sx_X D dg l t) i) k := by
    intro i hi k
    have := (px_Xl S hl e t1).mp (sx_at4_mem hi).1
    show sv_c D t (sx_t D T nt v l (sx_at4 (sx_X D dg l t) i)) k = _
    rw [px_tl e this.2]
    rfl
  constructor
  · intro h
    refine inS_trans (inS_congr h fun k hk => (sv_crow S.1 t1 w hk).symm) fun i hi => ?_
    obtain ⟨h1, h2⟩ := (px_Xl S hl e t1).mp (sx_at4_mem hi).1
    obtain ⟨j, j1, j2⟩ := cov _ h1 h2
    refine inS_congr (inS_row (w := fun i => pxV D T nt v dg t (X i)) j1) fun k hk => ?_
    rw [row i hi k, j2]
  · intro h
    refine inS_congr (inS_trans h fun i hi => ?_) fun k hk => sv_crow S.1 t1 w hk
    obtain ⟨h1, h2⟩ := hX i hi
    obtain ⟨j, j1, j2⟩ := sx_at4_ex ((px_Xl S hl e t1).mpr ⟨h1, h2⟩)
    refine inS_congr (inS_row (w := sx_w D T nt v dg l t) j1) fun k hk => ?_
    rw [row j j1 k, j2]
/-- a power of a primary one, or a secondary one of this degree -/
theorem px_last (S : sx_S D T nt n L v dg) {t : Nat} (t1 : t ≤ 15) {x : tup4} (hx : pxX D T nt v dg t x) : 1 ≤ lastP x ↔ x.1.toNat < (seAll D T nt v dg t).length := by
  obtain ⟨h1, h2, h3, h4, h5, h6, h7⟩ := (px_iff S t1).mp hx
  obtain ⟨l', e, he⟩ := seAll_pre (D := D) (T := T) (nt := nt) (v := v) (dg := dg) (t := t) (t' := 16) (by omega) (Nat.le_refl _)
  have lo := (seAll_ok (D := D) (T := T) (nt := nt) (v := v) (dg := dg) t (by omega)).2
  have eL : pxL D T nt v dg = seAll D T nt v dg t ++ l' := e
  obtain ⟨x1, x2, x3, x4⟩ := x
  simp only at h1 h2 h3 h4 h5 h6 h7
  obtain ⟨p1, p2, p3⟩ := sx_pos S
  have el : lastP (x1, x2, x3, x4) = if x4 ≠ 0 then 3 else if x3 ≠ 0 then 2 else if x2 ≠ 0 then 1 else 0 := rfl
  show 1 ≤ lastP (x1, x2, x3, x4) ↔ x1.toNat < _
  constructor
  · intro hl
    apply Classical.byContradiction
    intro ge
    have mem : sx_x (pxL D T nt v dg) x1.toNat ∈ l' := by
      have m1 := (sx_at h2).2
      rw [eL] at m1 ⊢
      rw [List.getElem?_append_right (by omega)] at m1
      exact List.mem_of_getElem? m1
    have dt := he _ mem
    have sd : t ≤ sx_d (pxL D T nt v dg) x1.toNat := by unfold sx_d; omega
    have m2 : x2.toNat * 1 ≤ x2.toNat * (dg 0).toNat := Nat.mul_le_mul_left _ p1
    have m3 : x3.toNat * 1 ≤ x3.toNat * (dg 1).toNat := Nat.mul_le_mul_left _ p2
    have m4 : x4.toNat * 1 ≤ x4.toNat * sx_3 D dg := Nat.mul_le_mul_left _ p3
    rw [el, if_neg (by omega), if_neg (by omega), if_neg (by omega)] at hl
    omega
  · intro hj
    apply Classical.byContradiction
    intro hl
    rw [el] at hl
    by_cases w4 : x4 = 0
    · by_cases w3 : x3 = 0
      · by_cases w2 : x2 = 0
        · rw [w2, w3, w4, eL, sx_dap hj] at h7
          have := lo _ hj
          simp at h7
          omega
        · rw [if_neg (by omega), if_neg (by omega), if_pos (by omega)] at hl
          omega
      · rw [if_neg (by omega), if_pos (by omega)] at hl
        omega
    · rw [if_pos (by omega)] at hl
      omega
/-- one secondary one more -/
theorem px_sec (S : sx_S D T nt n L v dg) {t r : Nat} (t1 : t ≤ 15) (hr : r < bsRows D T nt t) {l : List (Int × Nat)} (el : l = seRow D T nt v dg t r (seAll D T nt v dg t)) (no : ¬ sx_p D T nt v dg l t (toP D (sx_b D T nt ((t : Int), r)))) : seRow D T nt v dg t (r + 1) (seAll D T nt v dg t) = l ++ [((t : Int), r)] ∧ pxX D T nt v dg t ((l.length : Int), 0, 0, 0) ∧ (∀ k, k < (mMany D t).toNat → pxV D T nt v dg t ((l.length : Int), 0, 0, 0) k = (bsX D T nt t).2 r k) ∧ ∀ x, pxX D T nt v dg t x → x.1.toNat < l.length + 1 → x.1.toNat < l.length ∨ x = ((l.length : Int), 0, 0, 0) := by
  have e1 : seRow D T nt v dg t (r + 1) (seAll D T nt v dg t) = l ++ [((t : Int), r)] := by rw [el] at no ⊢; exact seRow_no no
  obtain ⟨l', hl'⟩ := px_pre (D := D) (T := T) (nt := nt) (v := v) (dg := dg) (t := t) (r := r + 1) t1 (by omega)
  rw [e1] at hl'
  have ex : sx_x (pxL D T nt v dg) l.length = ((t : Int), r) := by
    rw [hl', sx_ap (by rw [List.length_append]; show l.length < l.length + 1; omega), sx_last]
  have len : l.length < (pxL D T nt v dg).length := by rw [hl', List.length_append, List.length_append]; show l.length < l.length + 1 + _; omega
  have ed : sx_d (pxL D T nt v dg) l.length = t := by unfold sx_d; rw [ex]; exact Int.toNat_natCast t
  obtain ⟨p1, p2, p3⟩ := sx_pos S
  refine ⟨e1, (px_iff S t1).mpr ⟨by show (0 : Int) ≤ (l.length : Int); omega, by show Int.toNat (l.length : Int) < _; rw [Int.toNat_natCast]; exact len, Int.le_refl _, Int.le_refl _, Int.le_refl _, fun _ => rfl, ?_⟩, fun k hk => ?_, fun x hx hj => ?_⟩
  · show Int.toNat 0 * _ + (Int.toNat 0 * _ + (Int.toNat 0 * _ + sx_d _ (Int.toNat (l.length : Int)))) = t
    rw [Int.toNat_natCast, ed]
    simp
  · show sv_c D t (prP (toP D (v 0)) (toP D (v 1)) (th3 D v) (sx_e D T nt (pxL D T nt v dg)) (Int.toNat (l.length : Int)) (Int.toNat 0) (Int.toNat 0) (Int.toNat 0)) k = _
    rw [Int.toNat_natCast]
    have : prP (toP D (v 0)) (toP D (v 1)) (th3 D v) (sx_e D T nt (pxL D T nt v dg)) l.length (Int.toNat 0) (Int.toNat 0) (Int.toNat 0) = sx_e D T nt (pxL D T nt v dg) l.length := pr_0 _
    rw [this]
    unfold sx_e
    rw [ex]
    exact sv_crow S.1 t1 _ hk
  · by_cases w : x.1.toNat < l.length
    · exact Or.inl w
    · right
      obtain ⟨h1, h2, h3, h4, h5, h6, h7⟩ := (px_iff S t1).mp hx
      have ej : x.1.toNat = l.length := by omega
      rw [ej, ed] at h7
      have m2 : x.2.1.toNat * 1 ≤ x.2.1.toNat * (dg 0).toNat := Nat.mul_le_mul_left _ p1
      have m3 : x.2.2.1.toNat * 1 ≤ x.2.2.1.toNat * (dg 1).toNat := Nat.mul_le_mul_left _ p2
      have m4 : x.2.2.2.toNat * 1 ≤ x.2.2.2.toNat * sx_3 D dg := Nat.mul_le_mul_left _ p3
      refine Prod.ext ?_ (Prod.ext ?_ (Prod.ext ?_ ?_))
      · show x.1 = (l.length : Int); omega
      · show x.2.1 = 0; omega
      · show x.2.2.1 = 0; omega
      · show x.2.2.2 = 0; omega
end PY
