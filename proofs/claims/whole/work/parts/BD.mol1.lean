/-! TRACES on the polynomials of a degree -/
abbrev tr3 : Type := Nat × Nat × Nat
def gt3 (i : Nat) (x : tr3) : Nat := if i = 0 then x.1 else if i = 1 then x.2.1 else x.2.2
def up3 (k : Nat) (x : tr3) : tr3 := (x.1 + (if k = 0 then 1 else 0), x.2.1 + (if k = 1 then 1 else 0), x.2.2 + (if k = 2 then 1 else 0))
def dn3 (k : Nat) (x : tr3) : tr3 := (x.1 - (if k = 0 then 1 else 0), x.2.1 - (if k = 1 then 1 else 0), x.2.2 - (if k = 2 then 1 else 0))
def moT (A : cMat) (x : tr3) : cP := mono A x.1 x.2.1 x.2.2
def ev3 (P : cP) (x : tr3) : cF := P x.1 x.2.1 x.2.2
/-- the sum over all monomials of degree t -/
def sT (t : Nat) (G : tr3 → cF) : cF := S3 18 fun a b c => if a + b + c = t then G (a, b, c) else 0
theorem gt_up {i k : Nat} (hi : i < 3) (hk : k < 3) (x : tr3) : gt3 i (up3 k x) = gt3 i x + (if i = k then 1 else 0) := by
  have a : i = 0 ∨ i = 1 ∨ i = 2 := by omega
  have b : k = 0 ∨ k = 1 ∨ k = 2 := by omega
  rcases a with e | e | e <;> rcases b with w | w | w <;> subst e <;> subst w <;> rfl
theorem dn_up {k : Nat} (hk : k < 3) (x : tr3) : dn3 k (up3 k x) = x := by
  have b : k = 0 ∨ k = 1 ∨ k = 2 := by omega
  rcases b with w | w | w <;> subst w <;> rfl
theorem up_dn {k : Nat} (hk : k < 3) {x : tr3} (h : gt3 k x ≠ 0) : up3 k (dn3 k x) = x := by
  obtain ⟨a, b, c⟩ := x
  have w : k = 0 ∨ k = 1 ∨ k = 2 := by omega
  rcases w with w | w | w <;> subst w
  · have h' : a ≠ 0 := h
    show (a - 1 + 1, b - 0 + 0, c - 0 + 0) = (a, b, c)
    rw [show a - 1 + 1 = a by omega]; rfl
  · have h' : b ≠ 0 := h
    show (a - 0 + 0, b - 1 + 1, c - 0 + 0) = (a, b, c)
    rw [show b - 1 + 1 = b by omega]; rfl
  · have h' : c ≠ 0 := h
    show (a - 0 + 0, b - 0 + 0, c - 1 + 1) = (a, b, c)
    rw [show c - 1 + 1 = c by omega]; rfl
theorem dn_up_ne {i k : Nat} (hi : i < 3) (hk : k < 3) (ne : i ≠ k) (x : tr3) : dn3 i (up3 k x) = up3 k (dn3 i x) := by
  obtain ⟨a, b, c⟩ := x
  have a' : i = 0 ∨ i = 1 ∨ i = 2 := by omega
  have b' : k = 0 ∨ k = 1 ∨ k = 2 := by omega
  rcases a' with e | e | e <;> rcases b' with w | w | w <;> subst e <;> subst w <;> first | rfl | exact absurd rfl ne
theorem sT_congr {t : Nat} {F G : tr3 → cF} (h : ∀ x : tr3, x.1 + x.2.1 + x.2.2 = t → F x = G x) : sT t F = sT t G := S3_congr fun a b c => by
  by_cases q : a + b + c = t
  · rw [if_pos q, if_pos q, h (a, b, c) q]
  · rw [if_neg q, if_neg q]
theorem it_z {p : Prop} [Decidable p] {x : cF} (h : x = 0) : (if p then x else 0) = 0 := by rw [h, ite_self]
theorem it_add {p : Prop} [Decidable p] (x y : cF) : (if p then x + y else 0) = (if p then x else 0) + (if p then y else 0) := by
  split
  · rfl
  · exact cr_00.symm
theorem it_mul {p : Prop} [Decidable p] (k x : cF) : (if p then k * x else 0) = k * (if p then x else 0) := by
  split
  · rfl
  · exact (gs_z3 k).symm
theorem sT_add (t : Nat) (F G : tr3 → cF) : sT t (fun x => F x + G x) = sT t F + sT t G := by
  unfold sT
  rw [← S3_add]
  exact S3_congr fun a b c => it_add _ _
theorem sT_mul (t : Nat) (k : cF) (G : tr3 → cF) : sT t (fun x => k * G x) = k * sT t G := by
  unfold sT
  rw [← S3_mul]
  exact S3_congr fun a b c => it_mul _ _
theorem sT_zero (t : Nat) : sT t (fun _ => 0) = 0 := gs_zero fun _ _ => gs_zero fun _ _ => gs_zero fun _ _ => ite_self _
/-- sums over places one step on -/
theorem sT_shift {k : Nat} (hk : k < 3) {t : Nat} (ht : t + 1 ≤ 16) (G : tr3 → cF) : sT (t + 1) (fun x => if gt3 k x = 0 then 0 else G (dn3 k x)) = sT t G := by
  have b : k = 0 ∨ k = 1 ∨ k = 2 := by omega
  unfold sT S3
  rcases b with w | w | w <;> subst w
  · rw [gs_head 17]
    have e0 : (gs 18 fun j => gs 18 fun l => if 0 + j + l = t + 1 then (fun x => if gt3 0 x = 0 then 0 else G (dn3 0 x)) (0, j, l) else 0) = 0 := gs_zero fun j _ => gs_zero fun l _ => it_z (if_pos rfl)
    rw [e0, cr_0a]
    have e1 : (gs 18 fun i => gs 18 fun j => gs 18 fun l => if i + j + l = t then G (i, j, l) else 0) = gs 17 fun i => gs 18 fun j => gs 18 fun l => if i + j + l = t then G (i, j, l) else 0 := gs_ext (by decide) fun i h1 h2 => gs_zero fun j _ => gs_zero fun l _ => if_neg (by omega)
    rw [e1]
    refine gs_congr fun i hi => gs_congr fun j hj => gs_congr fun l hl => ?_
    show (if i + 1 + j + l = t + 1 then (if i + 1 = 0 then (0 : cF) else G (i + 1 - 1, j - 0, l - 0)) else 0) = _
    rw [if_neg (by omega : ¬ i + 1 = 0), Nat.add_sub_cancel, Nat.sub_zero, Nat.sub_zero]
    by_cases q : i + j + l = t
    · rw [if_pos q, if_pos (by omega)]
    · rw [if_neg q, if_neg (by omega)]
  · refine gs_congr fun i hi => ?_
    rw [gs_head 17]
    have e0 : (gs 18 fun l => if i + 0 + l = t + 1 then (fun x => if gt3 1 x = 0 then 0 else G (dn3 1 x)) (i, 0, l) else 0) = 0 := gs_zero fun l _ => it_z (if_pos rfl)
    rw [e0, cr_0a]
    have e1 : (gs 18 fun j => gs 18 fun l => if i + j + l = t then G (i, j, l) else 0) = gs 17 fun j => gs 18 fun l => if i + j + l = t then G (i, j, l) else 0 := gs_ext (by decide) fun j h1 h2 => gs_zero fun l _ => if_neg (by omega)
    rw [e1]
    refine gs_congr fun j hj => gs_congr fun l hl => ?_
    show (if i + (j + 1) + l = t + 1 then (if j + 1 = 0 then (0 : cF) else G (i - 0, j + 1 - 1, l - 0)) else 0) = _
    rw [if_neg (by omega : ¬ j + 1 = 0), Nat.add_sub_cancel, Nat.sub_zero, Nat.sub_zero]
    by_cases q : i + j + l = t
    · rw [if_pos q, if_pos (by omega)]
    · rw [if_neg q, if_neg (by omega)]
  · refine gs_congr fun i hi => gs_congr fun j hj => ?_
    rw [gs_head 17]
    show (if i + j + 0 = t + 1 then (if gt3 2 (i, j, 0) = 0 then (0 : cF) else G (dn3 2 (i, j, 0))) else 0) + gs 17 (fun l => if i + j + (l + 1) = t + 1 then (if gt3 2 (i, j, l + 1) = 0 then (0 : cF) else G (dn3 2 (i, j, l + 1))) else 0) = gs 18 fun l => if i + j + l = t then G (i, j, l) else 0
    have e0 : gt3 2 (i, j, 0) = 0 := rfl
    rw [if_pos e0, ite_self, cr_0a]
    have e1 : (gs 18 fun l => if i + j + l = t then G (i, j, l) else 0) = gs 17 fun l => if i + j + l = t then G (i, j, l) else 0 := gs_ext (by decide) fun l h1 h2 => if_neg (by omega)
    rw [e1]
    refine gs_congr fun l hl => ?_
    show (if i + j + (l + 1) = t + 1 then (if l + 1 = 0 then (0 : cF) else G (i - 0, j - 0, l + 1 - 1)) else 0) = _
    rw [if_neg (by omega : ¬ l + 1 = 0), Nat.add_sub_cancel, Nat.sub_zero, Nat.sub_zero]
    by_cases q : i + j + l = t
    · rw [if_pos q, if_pos (by omega)]
    · rw [if_neg q, if_neg (by omega)]
theorem one_cm (P : cP) : cMul cOne P = P := by
  rw [cOne_eq]
  exact @Lean.Grind.Semiring.one_mul cP cPr.toRing.toSemiring P
/-- one variable more: times its form -/
theorem mono_up (A : cMat) {j : Nat} (hj : j < 3) (x : tr3) : moT A (up3 j x) = lm (A j) (moT A x) := by
  obtain ⟨a, b, c⟩ := x
  have w : j = 0 ∨ j = 1 ∨ j = 2 := by omega
  have one : ∀ l : Nat → cF, lm l cOne = linP l := fun l => by rw [lm_eq, cMul_comm]; exact one_cm _
  rcases w with w | w | w <;> subst w
  · rfl
  · have e := mono_mul A 0 1 0 a b c
    have e1 : mono A 0 1 0 = linP (A 1) := one (A 1)
    rw [e1, ← lm_eq] at e
    rw [Nat.zero_add, Nat.zero_add, Nat.add_comm 1 b] at e
    exact e.symm
  · have e := mono_mul A 0 0 1 a b c
    have e1 : mono A 0 0 1 = linP (A 2) := one (A 2)
    rw [e1, ← lm_eq] at e
    rw [Nat.zero_add, Nat.zero_add, Nat.add_comm 1 c] at e
    exact e.symm
theorem lm_ev (l : Nat → cF) (P : cP) (x : tr3) : ev3 (lm l P) x = gs 3 fun k => l k * (if gt3 k x = 0 then 0 else ev3 P (dn3 k x)) := by
  obtain ⟨a, b, c⟩ := x
  have f : ∀ (p : Prop) [Decidable p] (k y : cF), (if p then 0 else k * y) = k * (if p then 0 else y) := fun p _ k y => by
    split
    · exact (gs_z3 k).symm
    · rfl
  show (if a = 0 then 0 else l 0 * P (a - 1) b c) + (if b = 0 then 0 else l 1 * P a (b - 1) c) + (if c = 0 then 0 else l 2 * P a b (c - 1)) = 0 + l 0 * (if a = 0 then 0 else P (a - 1) (b - 0) (c - 0)) + l 1 * (if b = 0 then 0 else P (a - 0) (b - 1) (c - 0)) + l 2 * (if c = 0 then 0 else P (a - 0) (b - 0) (c - 1))
  rw [f, f, f, cr_0a, Nat.sub_zero, Nat.sub_zero, Nat.sub_zero]

theorem mo_g2 {R : Type} [Lean.Grind.CommRing R] (a : R) : (1 + 0) * a = a + 0 := by grind
theorem mo_g3 {R : Type} [Lean.Grind.CommRing R] (a b : R) : (1 + a) * b = b + a * b := by grind
def hT (A : cMat) (t : Nat) : cF := sT t fun x => ev3 (moT A x) x
def mT (A : cMat) (t i j : Nat) : cF := sT t fun x => if gt3 i x = 0 then 0 else toF (gt3 i x : Int) * ev3 (moT A (up3 j (dn3 i x))) x
theorem gs3_mul (k : cF) (f : Nat → cF) : k * gs 3 f = gs 3 fun i => k * f i := (gs_mul 3 k f).symm
theorem mo_g1 {R : Type} [Lean.Grind.CommRing R] (a b c : R) : a * (b * c) = b * (a * c) := by grind
theorem toF_succ (m : Nat) : toF ((m + 1 : Nat) : Int) = 1 + toF (m : Int) := by
  rw [show ((m + 1 : Nat) : Int) = 1 + (m : Int) by omega, toF_add, toF_one]
theorem sT_gs (t : Nat) (F : Nat → tr3 → cF) : sT t (fun x => gs 3 fun k => F k x) = gs 3 fun k => sT t (F k) := by
  show sT t (fun x => 0 + F 0 x + F 1 x + F 2 x) = 0 + sT t (F 0) + sT t (F 1) + sT t (F 2)
  rw [cr_0a (sT t (F 0)), ← sT_add, ← sT_add]
  exact sT_congr fun x _ => by rw [cr_0a]
def mG1 (A : cMat) (i k : Nat) (x : tr3) : cF := if gt3 i x = 0 then 0 else toF (gt3 i x : Int) * (if gt3 k x = 0 then 0 else ev3 (moT A (dn3 i x)) (dn3 k x))
def mG2 (A : cMat) (i k : Nat) (y : tr3) : cF := if gt3 i (up3 k y) = 0 then 0 else toF (gt3 i (up3 k y) : Int) * ev3 (moT A (dn3 i (up3 k y))) y
theorem mG_a (A : cMat) {i j : Nat} (hj : j < 3) (x : tr3) : (if gt3 i x = 0 then (0 : cF) else toF (gt3 i x : Int) * ev3 (moT A (up3 j (dn3 i x))) x) = gs 3 fun k => A j k * mG1 A i k x := by
  by_cases q : gt3 i x = 0
  · rw [if_pos q]
    refine (gs_zero fun k _ => ?_).symm
    unfold mG1
    rw [if_pos q, gs_z3]
  · rw [if_neg q, mono_up A hj, lm_ev, gs3_mul]
    refine gs_congr fun k _ => ?_
    unfold mG1
    rw [if_neg q]
    exact mo_g1 _ _ _
theorem mG_b (A : cMat) {i k : Nat} (hk : k < 3) (x : tr3) : mG1 A i k x = if gt3 k x = 0 then 0 else mG2 A i k (dn3 k x) := by
  unfold mG1 mG2
  by_cases q : gt3 k x = 0
  · rw [if_pos q, if_pos q]
    by_cases w : gt3 i x = 0
    · rw [if_pos w]
    · rw [if_neg w, gs_z3]
  · rw [if_neg q, if_neg q, up_dn hk q]
theorem mG_c (A : cMat) {i k : Nat} (hi : i < 3) (hk : k < 3) (t : Nat) : sT t (mG2 A i k) = (if i = k then hT A t else 0) + mT A t i k := by
  by_cases w : i = k
  · subst w
    rw [if_pos rfl]
    unfold hT mT
    rw [← sT_add]
    refine sT_congr fun y _ => ?_
    unfold mG2
    rw [gt_up hi hi, if_pos rfl, if_neg (Nat.succ_ne_zero _), dn_up hi, toF_succ]
    by_cases q : gt3 i y = 0
    · rw [if_pos q, q]
      exact mo_g2 _
    · rw [if_neg q, up_dn hi q]
      exact mo_g3 _ _
  · rw [if_neg w, cr_0a]
    unfold mT
    refine sT_congr fun y _ => ?_
    unfold mG2
    rw [gt_up hi hk, if_neg w, Nat.add_zero, dn_up_ne hi hk w]
/-- from one degree to the next -/
theorem mT_succ (A : cMat) {t i j : Nat} (ht : t + 1 ≤ 16) (hi : i < 3) (hj : j < 3) : mT A (t + 1) i j = gs 3 fun k => A j k * ((if i = k then hT A t else 0) + mT A t i k) := by
  have e1 : mT A (t + 1) i j = sT (t + 1) fun x => gs 3 fun k => A j k * mG1 A i k x := sT_congr fun x _ => mG_a A hj x
  have e2 : (sT (t + 1) fun x => gs 3 fun k => A j k * mG1 A i k x) = gs 3 fun k => sT (t + 1) fun x => A j k * mG1 A i k x := sT_gs (t + 1) fun k x => A j k * mG1 A i k x
  rw [e1, e2]
  refine gs_congr fun k hk => ?_
  have e3 : (sT (t + 1) fun x => A j k * mG1 A i k x) = A j k * sT (t + 1) (mG1 A i k) := sT_mul (t + 1) (A j k) (mG1 A i k)
  have e4 : sT (t + 1) (mG1 A i k) = sT (t + 1) fun x => if gt3 k x = 0 then 0 else mG2 A i k (dn3 k x) := sT_congr fun x _ => mG_b A hk x
  have e5 : (sT (t + 1) fun x => if gt3 k x = 0 then 0 else mG2 A i k (dn3 k x)) = sT t (mG2 A i k) := sT_shift hk ht (mG2 A i k)
  rw [e3, e4, e5, mG_c A hi hk]
theorem mT_euler (A : cMat) (t : Nat) : gs 3 (fun i => mT A t i i) = toF (t : Int) * hT A t := by
  unfold mT hT
  rw [← sT_mul, ← sT_gs]
  refine sT_congr fun x hx => ?_
  have e : ∀ i, i < 3 → (if gt3 i x = 0 then (0 : cF) else toF (gt3 i x : Int) * ev3 (moT A (up3 i (dn3 i x))) x) = toF (gt3 i x : Int) * ev3 (moT A x) x := by
    intro i hi
    by_cases q : gt3 i x = 0
    · rw [if_pos q, q]
      exact (gs_z1 _).symm
    · rw [if_neg q, up_dn hi q]
  rw [gs_congr e, gs_mulr]
  congr 1
  show 0 + toF (x.1 : Int) + toF (x.2.1 : Int) + toF (x.2.2 : Int) = _
  rw [cr_0a, ← toF_add, ← toF_add, ← hx]
  congr 1
theorem mT_0 (A : cMat) {i j : Nat} (hi : i < 3) : mT A 0 i j = 0 := by
  unfold mT
  rw [← sT_zero 0]
  refine sT_congr fun x hx => if_pos ?_
  obtain ⟨a, b, c⟩ := x
  have hx' : a + b + c = 0 := hx
  have : i = 0 ∨ i = 1 ∨ i = 2 := by omega
  rcases this with w | w | w <;> subst w
  · show a = 0; omega
  · show b = 0; omega
  · show c = 0; omega
theorem hT_0 (A : cMat) : hT A 0 = 1 := by
  unfold hT sT
  rw [S3_one (i0 := 0) (j0 := 0) (k0 := 0) (by decide) (by decide) (by decide)]
  · rfl
  · intro i j k h
    exact if_neg (by omega)
