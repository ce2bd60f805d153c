/-! MOVING as putting in: sums, one behind the other -/
theorem S3_congr {N : Nat} {F G : Nat → Nat → Nat → cF} (h : ∀ i j k, F i j k = G i j k) : S3 N F = S3 N G := gs_congr fun i _ => gs_congr fun j _ => gs_congr fun k _ => h i j k
theorem S3_add (N : Nat) (F G : Nat → Nat → Nat → cF) : S3 N (fun i j k => F i j k + G i j k) = S3 N F + S3 N G := by
  unfold S3
  rw [← gs_add]
  refine gs_congr fun i _ => ?_
  rw [← gs_add]
  refine gs_congr fun j _ => ?_
  rw [← gs_add]
theorem S3_mul (N : Nat) (x : cF) (F : Nat → Nat → Nat → cF) : S3 N (fun i j k => x * F i j k) = x * S3 N F := by
  unfold S3
  rw [← gs_mul]
  refine gs_congr fun i _ => ?_
  rw [← gs_mul]
  refine gs_congr fun j _ => ?_
  rw [← gs_mul]
theorem S3_mulr (N : Nat) (x : cF) (F : Nat → Nat → Nat → cF) : S3 N (fun i j k => F i j k * x) = S3 N F * x := by
  rw [S3_congr (G := fun i j k => x * F i j k) fun i j k => el_g4 _ _, S3_mul]
  exact el_g4 _ _
theorem S3_sw1 (N n : Nat) (F : Nat → Nat → Nat → Nat → cF) : S3 N (fun i j k => gs n fun x => F i j k x) = gs n fun x => S3 N fun i j k => F i j k x := by
  unfold S3
  rw [gs_congr fun i _ => gs_congr fun j _ => gs_swap N n fun k x => F i j k x]
  rw [gs_congr fun i _ => gs_swap N n fun j x => gs N fun k => F i j k x]
  exact gs_swap _ _ _
theorem S3_swap (N M : Nat) (F : Nat → Nat → Nat → Nat → Nat → Nat → cF) : S3 N (fun i j k => S3 M fun x y w => F i j k x y w) = S3 M fun x y w => S3 N fun i j k => F i j k x y w := by
  show S3 N (fun i j k => gs M fun x => gs M fun y => gs M fun w => F i j k x y w) = gs M fun x => gs M fun y => gs M fun w => S3 N fun i j k => F i j k x y w
  rw [S3_sw1]
  refine gs_congr fun x _ => ?_
  rw [S3_sw1]
  refine gs_congr fun y _ => ?_
  rw [S3_sw1]
theorem S3_one {N i0 j0 k0 : Nat} (hi : i0 < N) (hj : j0 < N) (hk : k0 < N) {F : Nat → Nat → Nat → cF} (h : ∀ i j k, ¬ (i = i0 ∧ j = j0 ∧ k = k0) → F i j k = 0) : S3 N F = F i0 j0 k0 := by
  unfold S3
  rw [gs_one hi fun i _ he => gs_zero fun j _ => gs_zero fun k _ => h i j k fun q => he q.1, gs_one hj fun j _ he => gs_zero fun k _ => h i0 j k fun q => he q.2.1, gs_one hk fun k _ he => h i0 j0 k fun q => he q.2.2]
theorem mvP_add (A : cMat) (P Q : cP) : mvP A (cAdd P Q) = cAdd (mvP A P) (mvP A Q) := by
  funext a b c
  rw [cAdd_at]
  unfold mvP
  rw [← S3_add]
  exact S3_congr fun i j k => gs_z4 _ _ _
theorem mvP_S (A : cMat) (x : cF) (P : cP) : mvP A (cS x P) = cS x (mvP A P) := by
  funext a b c
  show S3 _ _ = x * S3 _ _
  rw [← S3_mul]
  exact S3_congr fun i j k => gs_z5 _ _ _
/-- a monomial is moved to the product of forms -/
theorem mvP_mon (A : cMat) (x y w : Nat) : mvP A (fun i j k => if i = x ∧ j = y ∧ k = w then 1 else 0) = mono A x y w := by
  funext a b c
  rw [mvP_N A _ (N := a + b + c + 1 + (x + y + w + 1)) (by omega), S3_one (i0 := x) (j0 := y) (k0 := w) (by omega) (by omega) (by omega) fun i j k h => by rw [if_neg h, gs_z1]]
  rw [if_pos ⟨rfl, rfl, rfl⟩, gs_z2]
theorem mvP_one (A : cMat) : mvP A cOne = cOne := mvP_mon A 0 0 0
theorem mvP_x (A : cMat) : mvP A (xs 1) = linP (A 0) := by
  have := mvP_mon A 1 0 0
  refine Eq.trans this ?_
  show lm (A 0) cOne = linP (A 0)
  rw [lm_eq, cOne_eq]
  exact @Lean.Grind.Semiring.mul_one cP cPr.toRing.toSemiring _
theorem mvP_y (A : cMat) : mvP A (ys 1) = linP (A 1) := by
  have := mvP_mon A 0 1 0
  refine Eq.trans this ?_
  show lm (A 1) cOne = linP (A 1)
  rw [lm_eq, cOne_eq]
  exact @Lean.Grind.Semiring.mul_one cP cPr.toRing.toSemiring _
theorem mvP_z (A : cMat) : mvP A (zs 1) = linP (A 2) := by
  have := mvP_mon A 0 0 1
  refine Eq.trans this ?_
  show lm (A 2) cOne = linP (A 2)
  rw [lm_eq, cOne_eq]
  exact @Lean.Grind.Semiring.mul_one cP cPr.toRing.toSemiring _
theorem mvP_pow (A : cMat) (t : cP) (n : Nat) : mvP A (cPow t n) = cPow (mvP A t) n := by
  induction n with
  | zero => exact mvP_one A
  | succ n ih =>
    show mvP A (cMul (cPow t n) t) = cMul (cPow (mvP A t) n) (mvP A t)
    rw [mvP_mul, ih]
theorem sb_g2 {R : Type} [Lean.Grind.CommRing R] (l0 l1 l2 a0 a1 a2 x : R) : l0 * (a0 * x) + l1 * (a1 * x) + l2 * (a2 * x) = (l0 * a0 + l1 * a1 + l2 * a2) * x := by grind
theorem sb_g3 {R : Type} [Lean.Grind.CommRing R] (l0 l1 l2 x0 y0 z0 x1 y1 z1 x2 y2 z2 : R) : l0 * (x0 + y0 + z0) + l1 * (x1 + y1 + z1) + l2 * (x2 + y2 + z2) = (l0 * x0 + l1 * x1 + l2 * x2) + (l0 * y0 + l1 * y1 + l2 * y2) + (l0 * z0 + l1 * z1 + l2 * z2) := by grind
theorem mvP_lin (A : cMat) (l : Nat → cF) : mvP A (linP l) = linP (fun j => l 0 * A 0 j + l 1 * A 1 j + l 2 * A 2 j) := by
  unfold linP
  rw [mvP_add, mvP_add, mvP_S, mvP_S, mvP_S, mvP_x, mvP_y, mvP_z]
  funext a b c
  show l 0 * (A 0 0 * xs 1 a b c + A 0 1 * ys 1 a b c + A 0 2 * zs 1 a b c) + l 1 * (A 1 0 * xs 1 a b c + A 1 1 * ys 1 a b c + A 1 2 * zs 1 a b c) + l 2 * (A 2 0 * xs 1 a b c + A 2 1 * ys 1 a b c + A 2 2 * zs 1 a b c) = (l 0 * A 0 0 + l 1 * A 1 0 + l 2 * A 2 0) * xs 1 a b c + (l 0 * A 0 1 + l 1 * A 1 1 + l 2 * A 2 1) * ys 1 a b c + (l 0 * A 0 2 + l 1 * A 1 2 + l 2 * A 2 2) * zs 1 a b c
  rw [sb_g3, sb_g2, sb_g2, sb_g2]
theorem linP_congr {l m : Nat → cF} (h0 : l 0 = m 0) (h1 : l 1 = m 1) (h2 : l 2 = m 2) : linP l = linP m := by
  unfold linP
  rw [h0, h1, h2]
theorem mvP_mono (A B : cMat) (a b c : Nat) : mvP A (mono B a b c) = mono (mm B A) a b c := by
  have row : ∀ i, i < 3 → mvP A (linP (B i)) = linP (mm B A i) := by
    intro i hi
    rw [mvP_lin]
    exact linP_congr (mm_in ⟨hi, by omega⟩).symm (mm_in ⟨hi, by omega⟩).symm (mm_in ⟨hi, by omega⟩).symm
  rw [mono_eq, mono_eq, mvP_mul, mvP_mul, mvP_mul, mvP_pow, mvP_pow, mvP_pow, mvP_one, row 0 (by omega), row 1 (by omega), row 2 (by omega)]
/-- one behind the other -/
theorem mvP_mvP (A B : cMat) (P : cP) : mvP A (mvP B P) = mvP (mm B A) P := by
  funext a b c
  generalize hM : a + b + c = M
  have e1 : ∀ i j k, mvP B P i j k * mono A i j k a b c = S3 (M + 1) fun x y w => P x y w * (mono B x y w i j k * mono A i j k a b c) := by
    intro i j k
    by_cases q : i + j + k = M
    · rw [mvP_N B P (N := M + 1) (by omega), ← S3_mulr]
      exact S3_congr fun x y w => gs_z5 _ _ _
    · rw [hom_mono A i j k a b c (by omega), gs_z3]
      exact (gs_zero fun x _ => gs_zero fun y _ => gs_zero fun w _ => by show P x y w * (mono B x y w i j k * 0) = 0; rw [gs_z3, gs_z3]).symm
  rw [mvP_N A (mvP B P) (N := M + 1) (by omega), S3_congr e1, S3_swap, mvP_N (mm B A) P (N := M + 1) (by omega)]
  refine S3_congr fun x y w => ?_
  rw [S3_mul, ← mvP_mono, mvP_N A (mono B x y w) (N := M + 1) (by omega)]
theorem mvP_id (P : cP) : mvP mId P = P := by
  have lin : ∀ i, i < 3 → linP (mId i) = if i = 0 then xs 1 else if i = 1 then ys 1 else zs 1 := by
    intro i hi
    have e : ∀ a b c, linP (mId i) a b c = mId i 0 * xs 1 a b c + mId i 1 * ys 1 a b c + mId i 2 * zs 1 a b c := fun a b c => rfl
    funext a b c
    rw [e]
    have i3 : i = 0 ∨ i = 1 ∨ i = 2 := by omega
    rcases i3 with rfl | rfl | rfl
    · show (1 : cF) * _ + 0 * _ + 0 * _ = xs 1 a b c
      rw [gs_z1, gs_z1, gs_z2, Lean.Grind.Semiring.add_zero, Lean.Grind.Semiring.add_zero]
    · show (0 : cF) * _ + 1 * _ + 0 * _ = ys 1 a b c
      rw [gs_z1, gs_z1, gs_z2, Lean.Grind.Semiring.add_zero, Lean.Grind.AddCommMonoid.zero_add]
    · show (0 : cF) * _ + 0 * _ + 1 * _ = zs 1 a b c
      rw [gs_z1, gs_z1, gs_z2, Lean.Grind.Semiring.add_zero, Lean.Grind.AddCommMonoid.zero_add]
  have lx : ∀ (n : Nat) (Q : cP) (a b c : Nat), lpow (mId 0) n Q a b c = if n ≤ a then Q (a - n) b c else 0 := by
    intro n
    induction n with
    | zero => intro Q a b c; rw [if_pos (by omega)]; rfl
    | succ n ih =>
      intro Q a b c
      show lm (mId 0) (lpow (mId 0) n Q) a b c = _
      rw [lm_eq, lin 0 (by omega)]
      show cMul (xs 1) (lpow (mId 0) n Q) a b c = _
      rw [xs_mul]
      by_cases h : 1 ≤ a
      · rw [if_pos h, ih]
        by_cases h2 : n ≤ a - 1
        · rw [if_pos h2, if_pos (by omega), show a - 1 - n = a - (n + 1) by omega]
        · rw [if_neg h2, if_neg (by omega)]
      · rw [if_neg h, if_neg (by omega)]
  have ly : ∀ (n : Nat) (Q : cP) (a b c : Nat), lpow (mId 1) n Q a b c = if n ≤ b then Q a (b - n) c else 0 := by
    intro n
    induction n with
    | zero => intro Q a b c; rw [if_pos (by omega)]; rfl
    | succ n ih =>
      intro Q a b c
      show lm (mId 1) (lpow (mId 1) n Q) a b c = _
      rw [lm_eq, lin 1 (by omega)]
      show cMul (ys 1) (lpow (mId 1) n Q) a b c = _
      rw [ys_mul]
      by_cases h : 1 ≤ b
      · rw [if_pos h, ih]
        by_cases h2 : n ≤ b - 1
        · rw [if_pos h2, if_pos (by omega), show b - 1 - n = b - (n + 1) by omega]
        · rw [if_neg h2, if_neg (by omega)]
      · rw [if_neg h, if_neg (by omega)]
  have lz : ∀ (n : Nat) (Q : cP) (a b c : Nat), lpow (mId 2) n Q a b c = if n ≤ c then Q a b (c - n) else 0 := by
    intro n
    induction n with
    | zero => intro Q a b c; rw [if_pos (by omega)]; rfl
    | succ n ih =>
      intro Q a b c
      show lm (mId 2) (lpow (mId 2) n Q) a b c = _
      rw [lm_eq, lin 2 (by omega)]
      show cMul (zs 1) (lpow (mId 2) n Q) a b c = _
      rw [zs_mul]
      by_cases h : 1 ≤ c
      · rw [if_pos h, ih]
        by_cases h2 : n ≤ c - 1
        · rw [if_pos h2, if_pos (by omega), show c - 1 - n = c - (n + 1) by omega]
        · rw [if_neg h2, if_neg (by omega)]
      · rw [if_neg h, if_neg (by omega)]
  have mo : ∀ i j k a b c, mono mId i j k a b c = if a = i ∧ b = j ∧ c = k then 1 else 0 := by
    intro i j k a b c
    unfold mono
    rw [lx]
    by_cases h1 : i ≤ a
    · rw [if_pos h1, ly]
      by_cases h2 : j ≤ b
      · rw [if_pos h2, lz]
        by_cases h3 : k ≤ c
        · rw [if_pos h3]
          unfold cOne
          by_cases e : a = i ∧ b = j ∧ c = k
          · rw [if_pos e, if_pos (by omega)]
          · rw [if_neg e, if_neg (by omega)]
        · rw [if_neg h3, if_neg (by omega)]
      · rw [if_neg h2, if_neg (by omega)]
    · rw [if_neg h1, if_neg (by omega)]
  funext a b c
  rw [mvP_N mId P (N := a + b + c + 1) (by omega), S3_one (i0 := a) (j0 := b) (k0 := c) (by omega) (by omega) (by omega) fun i j k h => by rw [mo, if_neg (fun q => h ⟨q.1.symm, q.2.1.symm, q.2.2.symm⟩), gs_z3]]
  rw [mo, if_pos ⟨rfl, rfl, rfl⟩]
  exact Lean.Grind.Semiring.mul_one _
