/-! THE CLASS: vectors of a degree as series; times a linear form -/
def lcP (D t : Int) (f : Int → Int) : cP := fun a b c => if ((a + b + c : Nat) : Int) = t ∧ (D = 2 → c = 0) then toF (f (fF D ((b + c : Nat) : Int) + c)) else 0
theorem lcP_in {D t : Int} {f : Int → Int} {a b c : Nat} (h : ((a + b + c : Nat) : Int) = t ∧ (D = 2 → c = 0)) : lcP D t f a b c = toF (f (fF D ((b + c : Nat) : Int) + c)) := if_pos h
theorem lcP_out {D t : Int} {f : Int → Int} {a b c : Nat} (h : ¬ (((a + b + c : Nat) : Int) = t ∧ (D = 2 → c = 0))) : lcP D t f a b c = 0 := if_neg h
theorem lcP_congr {D t : Int} (hD : D = 2 ∨ D = 3) (t0 : 0 ≤ t) (t1 : t ≤ 15) {f g : Int → Int} (h : ∀ p, 0 ≤ p → p < fF D (t + 1) → f p = g p) : lcP D t f = lcP D t g := by
  funext a b c
  by_cases q : ((a + b + c : Nat) : Int) = t ∧ (D = 2 → c = 0)
  · rw [lcP_in q, lcP_in q]
    have fb := fF_bd hD (s := ((b + c : Nat) : Int)) (by omega) (by omega)
    have w := (wid_eq hD (s := ((b + c : Nat) : Int)) (c := (c : Int)) (by omega) (by omega) (by omega)).mpr ⟨by omega, fun e => by have := q.2 e; omega⟩
    have m := fF_mono hD (s := ((b + c : Nat) : Int) + 1) (t := t + 1) (by omega) (by omega) (by omega)
    rw [h _ (by omega) (by omega)]
  · rw [lcP_out q, lcP_out q]
theorem lcP_at {D t : Int} (hD : D = 2 ∨ D = 3) (t0 : 0 ≤ t) (t1 : t ≤ 15) (f : Int → Int) {p : Int} (p0 : 0 ≤ p) (p1 : p < fF D (t + 1)) : atE D (lcP D t f) (mFrom D t + p) = toF (f p) := by
  obtain ⟨m1, m2, m3⟩ := mE_loc hD p0 t0 t1 p1
  obtain ⟨bt, p16⟩ := blk_lt hD p0 p1 t0 t1
  obtain ⟨b1, b2, b3, b4, b5, b6, b7, b8⟩ := blk_ok hD p0 p16
  unfold mEa at m1
  unfold mEb at m2
  unfold mEc at m3
  unfold atE
  rw [lcP_in ⟨by omega, fun e => by have := b5 e; omega⟩, show (((mE D (mFrom D t + p)).2.1 + (mE D (mFrom D t + p)).2.2 : Nat) : Int) = blk D p by omega, m3]
  congr 2
  omega
theorem lcP_ext {D t : Int} (hD : D = 2 ∨ D = 3) (t0 : 0 ≤ t) (t1 : t ≤ 15) {f : Int → Int} {P : cP} (hP : ∀ a b c : Nat, ¬ (((a + b + c : Nat) : Int) = t ∧ (D = 2 → c = 0)) → P a b c = 0) (h : ∀ p, 0 ≤ p → p < fF D (t + 1) → toF (f p) = P (t - blk D p).toNat (blk D p - lst D p).toNat (lst D p).toNat) : lcP D t f = P := by
  funext a b c
  by_cases q : ((a + b + c : Nat) : Int) = t ∧ (D = 2 → c = 0)
  · rw [lcP_in q]
    have fb := fF_bd hD (s := ((b + c : Nat) : Int)) (by omega) (by omega)
    have w := (wid_eq hD (s := ((b + c : Nat) : Int)) (c := (c : Int)) (by omega) (by omega) (by omega)).mpr ⟨by omega, fun e => by have := q.2 e; omega⟩
    have m := fF_mono hD (s := ((b + c : Nat) : Int) + 1) (t := t + 1) (by omega) (by omega) (by omega)
    obtain ⟨e1, e2⟩ := blk_of hD (s := ((b + c : Nat) : Int)) (c := (c : Int)) (by omega) (by omega) (by omega) w
    rw [h _ (by omega) (by omega), e1, e2, show (t - ((b + c : Nat) : Int)).toNat = a by omega, show (((b + c : Nat) : Int) - (c : Int)).toNat = b by omega, show ((c : Int)).toNat = c by omega]
  · rw [lcP_out q, hP a b c q]
theorem cr_00 {R : Type} [Lean.Grind.CommRing R] : (0 : R) + 0 = 0 := by grind
theorem lm_out {D t : Int} {l : Nat → cF} {P : cP} (h2 : D = 2 → l 2 = 0) (hP : ∀ a b c : Nat, ¬ (((a + b + c : Nat) : Int) = t ∧ (D = 2 → c = 0)) → P a b c = 0) : ∀ a b c : Nat, ¬ (((a + b + c : Nat) : Int) = t + 1 ∧ (D = 2 → c = 0)) → lm l P a b c = 0 := by
  intro a b c h
  unfold lm
  have x1 : (if a = 0 then 0 else l 0 * P (a - 1) b c) = 0 := by
    by_cases q : a = 0
    · rw [if_pos q]
    · rw [if_neg q, hP (a - 1) b c (fun w => h ⟨by omega, w.2⟩), gs_z3]
  have x2 : (if b = 0 then 0 else l 1 * P a (b - 1) c) = 0 := by
    by_cases q : b = 0
    · rw [if_pos q]
    · rw [if_neg q, hP a (b - 1) c (fun w => h ⟨by omega, w.2⟩), gs_z3]
  have x3 : (if c = 0 then 0 else l 2 * P a b (c - 1)) = 0 := by
    by_cases q : c = 0
    · rw [if_pos q]
    · rw [if_neg q]
      by_cases e : D = 2
      · rw [h2 e, gs_z1]
      · rw [hP a b (c - 1) (fun w => h ⟨by omega, fun q => absurd q e⟩), gs_z3]
  rw [x1, x2, x3, cr_00, cr_00]

def tfG (D t : Int) (F : Int → Int) (x y w i p : Int) : Int := (if p ≤ i then F p else if p < fF D (t + 1) then x * F p else 0) + (if 1 ≤ blk D p - lst D p ∧ i < fF D (blk D p - 1) + lst D p then y * F (fF D (blk D p - 1) + lst D p) else 0) + (if 1 ≤ lst D p ∧ i < fF D (blk D p - 1) + (lst D p - 1) then w * F (fF D (blk D p - 1) + (lst D p - 1)) else 0)
section WTF
variable {D t : Int} {F : Int → Int} {x y w : Int}
/-- the places from which a place is reached -/
theorem src_y (hD : D = 2 ∨ D = 3) {p : Int} (p0 : 0 ≤ p) (p1 : p < fF D 16) (h : 1 ≤ blk D p - lst D p) : 0 ≤ fF D (blk D p - 1) + lst D p ∧ fF D (blk D p - 1) + lst D p < fF D (blk D p) ∧ blk D (fF D (blk D p - 1) + lst D p) = blk D p - 1 ∧ lst D (fF D (blk D p - 1) + lst D p) = lst D p := by
  obtain ⟨b1, b2, b3, b4, b5, b6, b7, b8⟩ := blk_ok hD p0 p1
  have fb := fF_bd hD (s := blk D p - 1) (by omega) (by omega)
  have wd := (wid_eq hD (s := blk D p - 1) (c := lst D p) (by omega) (by omega) b3).mpr ⟨by omega, b5⟩
  obtain ⟨e1, e2⟩ := blk_of hD (s := blk D p - 1) (c := lst D p) (by omega) (by omega) b3 wd
  rw [show blk D p - 1 + 1 = blk D p by omega] at wd
  exact ⟨by omega, wd, e1, e2⟩
theorem src_z (hD : D = 2 ∨ D = 3) {p : Int} (p0 : 0 ≤ p) (p1 : p < fF D 16) (h : 1 ≤ lst D p) : 0 ≤ fF D (blk D p - 1) + (lst D p - 1) ∧ fF D (blk D p - 1) + (lst D p - 1) < fF D (blk D p) ∧ blk D (fF D (blk D p - 1) + (lst D p - 1)) = blk D p - 1 ∧ lst D (fF D (blk D p - 1) + (lst D p - 1)) = lst D p - 1 := by
  obtain ⟨b1, b2, b3, b4, b5, b6, b7, b8⟩ := blk_ok hD p0 p1
  have fb := fF_bd hD (s := blk D p - 1) (by omega) (by omega)
  have wd := (wid_eq hD (s := blk D p - 1) (c := lst D p - 1) (by omega) (by omega) (by omega)).mpr ⟨by omega, fun e => by have := b5 e; omega⟩
  obtain ⟨e1, e2⟩ := blk_of hD (s := blk D p - 1) (c := lst D p - 1) (by omega) (by omega) (by omega) wd
  rw [show blk D p - 1 + 1 = blk D p by omega] at wd
  exact ⟨by omega, wd, e1, e2⟩
theorem tfG_self (hD : D = 2 ∨ D = 3) (t0 : 0 ≤ t) (t1 : t ≤ 14) {i : Int} (i0 : 0 ≤ i) (i1 : i < fF D (t + 1)) : tfG D t F x y w i i = F i := by
  have m := fF_mono hD (s := t + 1) (t := 16) (by omega) (by omega) (by omega)
  obtain ⟨b1, b2, b3, b4, b5, b6, b7, b8⟩ := blk_ok hD i0 (by omega)
  unfold tfG
  rw [if_pos (Int.le_refl i), if_neg, if_neg]
  · omega
  · intro q
    have := src_z hD i0 (by omega) q.1
    omega
  · intro q
    have := src_y hD i0 (by omega) q.1
    omega
theorem tfG_0 (hD : D = 2 ∨ D = 3) (t0 : 0 ≤ t) (t1 : t ≤ 14) {p : Int} (p0 : 0 ≤ p) (p1 : p < fF D (t + 2)) : tfG D t F x y w (fF D (t + 1) - 1) p = if p < fF D (t + 1) then F p else 0 := by
  have m := fF_mono hD (s := t + 2) (t := 16) (by omega) (by omega) (by omega)
  have bt := (blk_lt hD (t := t + 1) p0 (by rw [show t + 1 + 1 = t + 2 by omega]; exact p1) (by omega) (by omega)).1
  have m2 : fF D (blk D p) ≤ fF D (t + 1) := fF_mono hD (blk_ok hD p0 (by omega)).1 bt (by omega)
  unfold tfG
  rw [if_neg (c := 1 ≤ blk D p - lst D p ∧ _), if_neg (c := 1 ≤ lst D p ∧ _)]
  · by_cases q : p < fF D (t + 1)
    · rw [if_pos (by omega), if_pos q]; omega
    · rw [if_neg (by omega), if_neg q, if_neg q]; omega
  · intro q
    have := src_z hD p0 (by omega) q.1
    omega
  · intro q
    have := src_y hD p0 (by omega) q.1
    omega
theorem tfG_step (hD : D = 2 ∨ D = 3) (t0 : 0 ≤ t) (t1 : t ≤ 14) (h2 : D = 2 → w = 0) {i : Int} (i0 : 0 ≤ i) (i1 : i < fF D (t + 1)) {p : Int} (p0 : 0 ≤ p) (p1 : p < fF D (t + 2)) : tfG D t F x y w (i - 1) p = (if p = i then x * F i else tfG D t F x y w i p) + (if p = i + (fF D (blk D i + 1) - fF D (blk D i)) then y * F i else 0) + (if p = i + (fF D (blk D i + 1) - fF D (blk D i)) + 1 then w * F i else 0) := by
  have m := fF_mono hD (s := t + 1) (t := 16) (by omega) (by omega) (by omega)
  have m' := fF_mono hD (s := t + 2) (t := 16) (by omega) (by omega) (by omega)
  have mb := fF_mono hD (s := t + 1) (t := t + 2) (by omega) (by omega) (by omega)
  obtain ⟨a1, a2, a3, a4, a5, a6, a7, a8⟩ := blk_ok hD i0 (by omega)
  obtain ⟨b1, b2, b3, b4, b5, b6, b7, b8⟩ := blk_ok hD p0 (by omega)
  have bti := (blk_lt hD (t := t) i0 i1 t0 (by omega)).1
  have sc := fF_succ hD (s := blk D i) a1 (by omega)
  have wpos : 1 ≤ fF D (blk D i + 1) - fF D (blk D i) := by split at sc <;> omega
  -- the y part
  have yq : (1 ≤ blk D p - lst D p ∧ fF D (blk D p - 1) + lst D p = i) ↔ p = i + (fF D (blk D i + 1) - fF D (blk D i)) := by
    constructor
    · intro q
      obtain ⟨s1, s2, s3, s4⟩ := src_y hD p0 (by omega) q.1
      rw [q.2] at s3 s4
      rw [b6, s3, ← s4, show blk D p - 1 + 1 = blk D p by omega]
      omega
    · intro q
      have wd := (wid_eq hD (s := blk D i + 1) (c := lst D i) (by omega) (by omega) a3).mpr ⟨by omega, a5⟩
      obtain ⟨e1, e2⟩ := blk_of hD (s := blk D i + 1) (c := lst D i) (by omega) (by omega) a3 wd
      rw [show fF D (blk D i + 1) + lst D i = p by omega] at e1 e2
      rw [e1, e2, show blk D i + 1 - 1 = blk D i by omega]
      omega
  have zq : D = 3 → ((1 ≤ lst D p ∧ fF D (blk D p - 1) + (lst D p - 1) = i) ↔ p = i + (fF D (blk D i + 1) - fF D (blk D i)) + 1) := by
    intro e3
    constructor
    · intro q
      obtain ⟨s1, s2, s3, s4⟩ := src_z hD p0 (by omega) q.1
      rw [q.2] at s3 s4
      rw [b6, s3, show lst D p = lst D i + 1 by omega, show blk D p - 1 + 1 = blk D p by omega]
      omega
    · intro q
      have wd := (wid_eq hD (s := blk D i + 1) (c := lst D i + 1) (by omega) (by omega) (by omega)).mpr ⟨by omega, fun e => by omega⟩
      obtain ⟨e1, e2⟩ := blk_of hD (s := blk D i + 1) (c := lst D i + 1) (by omega) (by omega) (by omega) wd
      rw [show fF D (blk D i + 1) + (lst D i + 1) = p by omega] at e1 e2
      rw [e1, e2, show blk D i + 1 - 1 = blk D i by omega]
      omega
  have y1 : (if 1 ≤ blk D p - lst D p ∧ i - 1 < fF D (blk D p - 1) + lst D p then y * F (fF D (blk D p - 1) + lst D p) else 0) = (if 1 ≤ blk D p - lst D p ∧ i < fF D (blk D p - 1) + lst D p then y * F (fF D (blk D p - 1) + lst D p) else 0) + (if p = i + (fF D (blk D i + 1) - fF D (blk D i)) then y * F i else 0) := by
    by_cases q : p = i + (fF D (blk D i + 1) - fF D (blk D i))
    · have e := yq.mpr q
      rw [if_pos q, e.2, if_pos ⟨e.1, by omega⟩, if_neg (by omega)]
      omega
    · rw [if_neg q, Int.add_zero]
      have ne : ¬ (1 ≤ blk D p - lst D p ∧ fF D (blk D p - 1) + lst D p = i) := fun e => q (yq.mp e)
      by_cases r : 1 ≤ blk D p - lst D p ∧ i < fF D (blk D p - 1) + lst D p
      · rw [if_pos r, if_pos (by omega)]
      · rw [if_neg r, if_neg (by omega)]
  have z1 : (if 1 ≤ lst D p ∧ i - 1 < fF D (blk D p - 1) + (lst D p - 1) then w * F (fF D (blk D p - 1) + (lst D p - 1)) else 0) = (if 1 ≤ lst D p ∧ i < fF D (blk D p - 1) + (lst D p - 1) then w * F (fF D (blk D p - 1) + (lst D p - 1)) else 0) + (if p = i + (fF D (blk D i + 1) - fF D (blk D i)) + 1 then w * F i else 0) := by
    rcases hD with e2 | e3
    · rw [h2 e2, Int.zero_mul, Int.zero_mul, ite_self, ite_self, ite_self, Int.add_zero]
    · by_cases q : p = i + (fF D (blk D i + 1) - fF D (blk D i)) + 1
      · have e := (zq e3).mpr q
        rw [if_pos q, e.2, if_pos ⟨e.1, by omega⟩, if_neg (by omega)]
        omega
      · rw [if_neg q, Int.add_zero]
        have ne : ¬ (1 ≤ lst D p ∧ fF D (blk D p - 1) + (lst D p - 1) = i) := fun e => q ((zq e3).mp e)
        by_cases r : 1 ≤ lst D p ∧ i < fF D (blk D p - 1) + (lst D p - 1)
        · rw [if_pos r, if_pos (by omega)]
        · rw [if_neg r, if_neg (by omega)]
  by_cases e : p = i
  · rw [if_pos e]
    have s := tfG_self (D := D) (t := t) (F := F) (x := x) (y := y) (w := w) hD t0 t1 i0 i1
    unfold tfG at s ⊢
    rw [y1, z1]
    rw [e] at y1 z1 ⊢
    rw [if_pos (Int.le_refl i)] at s
    rw [if_neg (show ¬ i ≤ i - 1 by omega), if_pos i1]
    omega
  · rw [if_neg e]
    unfold tfG
    rw [y1, z1]
    have f1 : (if p ≤ i - 1 then F p else if p < fF D (t + 1) then x * F p else 0) = if p ≤ i then F p else if p < fF D (t + 1) then x * F p else 0 := by
      by_cases q : p ≤ i
      · rw [if_pos q, if_pos (by omega)]
      · rw [if_neg q, if_neg (by omega)]
    rw [f1]
    omega
theorem tfG_bd (hD : D = 2 ∨ D = 3) (oF : okR F) (x0 : 0 ≤ x ∧ x < 2521) (y0 : 0 ≤ y ∧ y < 2521) (w0 : 0 ≤ w ∧ w < 2521) (i p : Int) : 0 ≤ tfG D t F x y w i p ∧ tfG D t F x y w i p ≤ 3 * 6350400 := by
  have pr : ∀ a k, 0 ≤ a ∧ a < 2521 → 0 ≤ a * F k ∧ a * F k ≤ 6350400 := fun a k ha => by
    have o := oF k
    exact mul_bd (x := a) (y := F k) (X := 2520) (Y := 2520) (by omega) (by omega) (by omega) (by omega)
  have p1 := pr x p x0
  have p2 := pr y (fF D (blk D p - 1) + lst D p) y0
  have p3 := pr w (fF D (blk D p - 1) + (lst D p - 1)) w0
  have o := oF p
  unfold tfG
  (repeat' split) <;> omega
/-- done: the product with the form -/
theorem tfG_end (hD : D = 2 ∨ D = 3) (t0 : 0 ≤ t) (t1 : t ≤ 14) (h2 : D = 2 → w = 0) {l : Nat → cF} (l0 : l 0 = toF x) (l1 : l 1 = toF y) (l2 : l 2 = toF w) {G : Int → Int} (hG : ∀ p, 0 ≤ p → p < fF D (t + 2) → G p = tfG D t F x y w (-1) p % 2521) : lcP D (t + 1) G = lm l (lcP D t F) := by
  refine lcP_ext hD (by omega) (by omega) (lm_out (fun e => by rw [l2, h2 e]; rfl) fun a b c h => lcP_out h) fun p p0 p1 => ?_
  rw [show t + 1 + 1 = t + 2 by omega] at p1
  have m' := fF_mono hD (s := t + 2) (t := 16) (by omega) (by omega) (by omega)
  obtain ⟨b1, b2, b3, b4, b5, b6, b7, b8⟩ := blk_ok hD p0 (by omega)
  have bt := (blk_lt hD (t := t + 1) p0 (by rw [show t + 1 + 1 = t + 2 by omega]; exact p1) (by omega) (by omega)).1
  rw [hG p p0 p1, toF_mod]
  unfold tfG lm
  rw [if_neg (show ¬ p ≤ -1 by omega), toF_add, toF_add, l0, l1, l2]
  congr 1
  · congr 1
    · by_cases q : p < fF D (t + 1)
      · have bt2 := (blk_lt hD (t := t) p0 q t0 (by omega)).1
        rw [if_pos q, if_neg (by omega), toF_mul, lcP_in ⟨by omega, fun e => by have := b5 e; omega⟩]
        congr 3
        rw [show (((blk D p - lst D p).toNat + (lst D p).toNat : Nat) : Int) = blk D p by omega]
        omega
      · have ge : blk D p = t + 1 := by
          apply Classical.byContradiction
          intro ne
          have := fF_mono hD (s := blk D p + 1) (t := t + 1) (by omega) (by omega) (by omega)
          omega
        rw [if_neg q, if_pos (by omega)]
        rfl
    · by_cases q : 1 ≤ blk D p - lst D p
      · have s := src_y hD p0 (by omega) q
        rw [if_pos ⟨q, by omega⟩, if_neg (by omega), toF_mul, lcP_in ⟨by omega, fun e => by have := b5 e; omega⟩]
        congr 3
        rw [show (((blk D p - lst D p).toNat - 1 + (lst D p).toNat : Nat) : Int) = blk D p - 1 by omega]
        omega
      · rw [if_neg (by omega), if_pos (by omega)]
        rfl
  · by_cases q : 1 ≤ lst D p
    · have s := src_z hD p0 (by omega) q
      rw [if_pos ⟨q, by omega⟩, if_neg (by omega), toF_mul, lcP_in ⟨by omega, fun e => by have := b5 e; omega⟩]
      congr 3
      rw [show (((blk D p - lst D p).toNat + ((lst D p).toNat - 1) : Nat) : Int) = blk D p - 1 by omega]
      omega
    · rw [if_neg (by omega), if_pos (by omega)]
      rfl
end WTF
