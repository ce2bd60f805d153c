/-! MOVING as putting in: it keeps products -/
theorem gen_lp {R : Type} [Lean.Grind.CommRing R] (l p P : R) : l * (p * P) = p * l * P := by grind
theorem gen_mm {R : Type} [Lean.Grind.CommRing R] (x y w x' y' w' : R) : x * (y * (w * 1)) * (x' * (y' * (w' * 1))) = x * x' * (y * y' * (w * w' * 1)) := by grind
def cS (k : cF) (P : cP) : cP := fun a b c => k * P a b c
theorem cMul_S (k : cF) (P Q : cP) : cMul (cS k P) Q = cS k (cMul P Q) := by
  funext a b c
  rw [cMul_at]
  show _ = k * cMul P Q a b c
  rw [cMul_at, ← gs_mul]
  refine gs_congr fun i _ => ?_
  rw [← gs_mul]
  refine gs_congr fun j _ => ?_
  rw [← gs_mul]
  exact gs_congr fun l _ => gs_z5 _ _ _
theorem cMul_add (P Q S : cP) : cMul (cAdd P Q) S = cAdd (cMul P S) (cMul Q S) := by
  rw [cMul_comm, show cMul S (cAdd P Q) = cAdd (cMul S P) (cMul S Q) from @psMul_add (Nat → Nat → cF) cPr2 S P Q, cMul_comm S P, cMul_comm S Q]
def linP (l : Nat → cF) : cP := cAdd (cAdd (cS (l 0) (xs 1)) (cS (l 1) (ys 1))) (cS (l 2) (zs 1))
theorem lm_eq (l : Nat → cF) (P : cP) : lm l P = cMul (linP l) P := by
  unfold linP
  rw [cMul_add, cMul_add, cMul_S, cMul_S, cMul_S]
  funext a b c
  show lm l P a b c = l 0 * cMul (xs 1) P a b c + l 1 * cMul (ys 1) P a b c + l 2 * cMul (zs 1) P a b c
  rw [xs_mul, ys_mul, zs_mul]
  have e : ∀ (n : Nat) (k x : cF), (if n = 0 then 0 else k * x) = k * (if 1 ≤ n then x else 0) := by
    intro n k x
    by_cases h : n = 0
    · rw [if_pos h, if_neg (by omega), gs_z3]
    · rw [if_neg h, if_pos (by omega)]
  unfold lm
  rw [e, e, e]
theorem lpow_eq (l : Nat → cF) (n : Nat) (P : cP) : lpow l n P = cMul (cPow (linP l) n) P := by
  induction n with
  | zero =>
    show P = cMul cOne P
    rw [cOne_eq]
    exact (@Lean.Grind.Semiring.one_mul cP cPr.toRing.toSemiring P).symm
  | succ n ih =>
    show lm l (lpow l n P) = cMul (cMul (cPow (linP l) n) (linP l)) P
    rw [lm_eq, ih]
    exact @gen_lp cP cPr (linP l) (cPow (linP l) n) P
theorem mono_eq (A : cMat) (a b c : Nat) : mono A a b c = cMul (cPow (linP (A 0)) a) (cMul (cPow (linP (A 1)) b) (cMul (cPow (linP (A 2)) c) cOne)) := by
  unfold mono
  rw [lpow_eq, lpow_eq, lpow_eq]
theorem cPow_add (t : cP) (m n : Nat) : cPow t (m + n) = cMul (cPow t m) (cPow t n) := by
  rw [cPow_eq, cPow_eq, cPow_eq]
  exact @Lean.Grind.Semiring.pow_add cP cPr.toRing.toSemiring t m n
theorem mono_mul (A : cMat) (a b c a' b' c' : Nat) : cMul (mono A a b c) (mono A a' b' c') = mono A (a + a') (b + b') (c + c') := by
  rw [mono_eq, mono_eq, mono_eq, cPow_add, cPow_add, cPow_add, cOne_eq]
  exact @gen_mm cP cPr _ _ _ _ _ _
theorem hom_lm {n : Nat} {P : cP} (l : Nat → cF) (h : hom n P) : hom (n + 1) (lm l P) := by
  intro a b c q
  unfold lm
  have e1 : (if a = 0 then (0 : cF) else l 0 * P (a - 1) b c) = 0 := by
    by_cases z : a = 0
    · rw [if_pos z]
    · rw [if_neg z, h (a - 1) b c (by omega), gs_z3]
  have e2 : (if b = 0 then (0 : cF) else l 1 * P a (b - 1) c) = 0 := by
    by_cases z : b = 0
    · rw [if_pos z]
    · rw [if_neg z, h a (b - 1) c (by omega), gs_z3]
  have e3 : (if c = 0 then (0 : cF) else l 2 * P a b (c - 1)) = 0 := by
    by_cases z : c = 0
    · rw [if_pos z]
    · rw [if_neg z, h a b (c - 1) (by omega), gs_z3]
  rw [e1, e2, e3]
  decide
theorem hom_lpow {n : Nat} {P : cP} (l : Nat → cF) (h : hom n P) (m : Nat) : hom (m + n) (lpow l m P) := by
  induction m with
  | zero => rw [Nat.zero_add]; exact h
  | succ m ih =>
    have := hom_lm l ih
    rw [show m + 1 + n = m + n + 1 by omega]
    exact this
theorem hom_mono (A : cMat) (a b c : Nat) : hom (a + b + c) (mono A a b c) := by
  have h0 : hom 0 cOne := fun x y w q => by
    unfold cOne
    rw [if_neg (by omega)]
  have := hom_lpow (A 0) (hom_lpow (A 1) (hom_lpow (A 2) h0 c) b) a
  rw [show a + b + c = a + (b + (c + 0)) by omega]
  exact this
def S3 (N : Nat) (F : Nat → Nat → Nat → cF) : cF := gs N fun i => gs N fun j => gs N fun k => F i j k
theorem S3_ext {N M : Nat} (h : N ≤ M) {F : Nat → Nat → Nat → cF} (hz : ∀ i j k, (N ≤ i ∨ N ≤ j ∨ N ≤ k) → F i j k = 0) : S3 M F = S3 N F := by
  unfold S3
  rw [gs_ext h fun i h1 _ => gs_zero fun j _ => gs_zero fun k _ => hz i j k (by omega)]
  refine gs_congr fun i _ => ?_
  rw [gs_ext h fun j h1 _ => gs_zero fun k _ => hz i j k (by omega)]
  refine gs_congr fun j _ => ?_
  exact gs_ext h fun k h1 _ => hz i j k (by omega)
/-- in place of the variables stand the rows of A -/
def mvP (A : cMat) (P : cP) : cP := fun a b c => S3 (a + b + c + 1) fun i j k => P i j k * mono A i j k a b c
theorem mvP_N (A : cMat) (P : cP) {a b c N : Nat} (h : a + b + c + 1 ≤ N) : mvP A P a b c = S3 N fun i j k => P i j k * mono A i j k a b c := by
  unfold mvP
  refine (S3_ext h fun i j k q => ?_).symm
  rw [hom_mono A i j k a b c (by omega), gs_z3]
theorem conv1 (M : Nat) (F : Nat → Nat → cF) (hz : ∀ i j, M < i + j → F i j = 0) : gs (M + 1) (fun k => gs (k + 1) fun i => F i (k - i)) = gs (M + 1) fun i => gs (M + 1) fun j => F i j := by
  rw [gs_tri]
  refine gs_congr fun i hi => ?_
  exact (gs_ext (by omega) fun j h1 h2 => hz i j (by omega)).symm
theorem sb_g1 {R : Type} [Lean.Grind.CommRing R] (p m q n : R) : p * m * (q * n) = p * q * (m * n) := by grind
theorem mvP_mul (A : cMat) (P Q : cP) : mvP A (cMul P Q) = cMul (mvP A P) (mvP A Q) := by
  funext a b c
  generalize hM : a + b + c = M
  -- six sums
  have right : cMul (mvP A P) (mvP A Q) a b c = gs (M + 1) fun i => gs (M + 1) fun j => gs (M + 1) fun k => gs (M + 1) fun i' => gs (M + 1) fun j' => gs (M + 1) fun k' => P i j k * Q i' j' k' * mono A (i + i') (j + j') (k + k') a b c := by
    rw [cMul_at]
    have e1 : ∀ x y w, x < a + 1 → y < b + 1 → w < c + 1 → mvP A P x y w * mvP A Q (a - x) (b - y) (c - w) = gs (M + 1) fun i => gs (M + 1) fun j => gs (M + 1) fun k => gs (M + 1) fun i' => gs (M + 1) fun j' => gs (M + 1) fun k' => P i j k * Q i' j' k' * (mono A i j k x y w * mono A i' j' k' (a - x) (b - y) (c - w)) := by
      intro x y w hx hy hw
      rw [mvP_N A P (N := M + 1) (by omega), mvP_N A Q (N := M + 1) (by omega)]
      unfold S3
      rw [← gs_mulr]
      refine gs_congr fun i _ => ?_
      rw [← gs_mulr]
      refine gs_congr fun j _ => ?_
      rw [← gs_mulr]
      refine gs_congr fun k _ => ?_
      rw [← gs_mul]
      refine gs_congr fun i' _ => ?_
      rw [← gs_mul]
      refine gs_congr fun j' _ => ?_
      rw [← gs_mul]
      exact gs_congr fun k' _ => sb_g1 _ _ _ _
    rw [gs_congr fun x hx => gs_congr fun y hy => gs_congr fun w hw => e1 x y w hx hy hw]
    -- the inner sums go out
    have sw : ∀ (n : Nat) (F : Nat → Nat → Nat → Nat → cF), gs (a + 1) (fun x => gs (b + 1) fun y => gs (c + 1) fun w => gs n fun i => F x y w i) = gs n fun i => gs (a + 1) fun x => gs (b + 1) fun y => gs (c + 1) fun w => F x y w i := by
      intro n F
      have s1 : ∀ x y, gs (c + 1) (fun w => gs n fun i => F x y w i) = gs n fun i => gs (c + 1) fun w => F x y w i := fun x y => gs_swap _ _ _
      rw [gs_congr fun x _ => gs_congr fun y _ => s1 x y]
      rw [gs_congr fun x _ => gs_swap (b + 1) n fun y i => gs (c + 1) fun w => F x y w i]
      exact gs_swap _ _ _
    rw [sw]
    refine gs_congr fun i _ => ?_
    rw [sw]
    refine gs_congr fun j _ => ?_
    rw [sw]
    refine gs_congr fun k _ => ?_
    rw [sw]
    refine gs_congr fun i' _ => ?_
    rw [sw]
    refine gs_congr fun j' _ => ?_
    rw [sw]
    refine gs_congr fun k' _ => ?_
    rw [← mono_mul, cMul_at, ← gs_mul]
    refine gs_congr fun x _ => ?_
    rw [← gs_mul]
    refine gs_congr fun y _ => ?_
    rw [← gs_mul]
  have left : mvP A (cMul P Q) a b c = gs (M + 1) fun i => gs (M + 1) fun i' => gs (M + 1) fun j => gs (M + 1) fun j' => gs (M + 1) fun k => gs (M + 1) fun k' => P i j k * Q i' j' k' * mono A (i + i') (j + j') (k + k') a b c := by
    have H0 : ∀ i i' j j' k k', M < i + i' ∨ M < j + j' ∨ M < k + k' → P i j k * Q i' j' k' * mono A (i + i') (j + j') (k + k') a b c = 0 := by
      intro i i' j j' k k' h
      rw [hom_mono A (i + i') (j + j') (k + k') a b c (by omega), gs_z3]
    unfold mvP S3
    rw [hM]
    have e1 : ∀ x y w, cMul P Q x y w * mono A x y w a b c = gs (x + 1) fun i => gs (y + 1) fun j => gs (w + 1) fun k => P i j k * Q (x - i) (y - j) (w - k) * mono A (i + (x - i)) (j + (y - j)) (k + (w - k)) a b c := by
      intro x y w
      rw [cMul_at, ← gs_mulr]
      refine gs_congr fun i hi => ?_
      rw [← gs_mulr]
      refine gs_congr fun j hj => ?_
      rw [← gs_mulr]
      refine gs_congr fun k hk => ?_
      rw [show i + (x - i) = x by omega, show j + (y - j) = y by omega, show k + (w - k) = w by omega]
    rw [gs_congr fun x _ => gs_congr fun y _ => gs_congr fun w _ => e1 x y w]
    -- x with i
    have s1 : ∀ x, gs (M + 1) (fun y => gs (M + 1) fun w => gs (x + 1) fun i => gs (y + 1) fun j => gs (w + 1) fun k => P i j k * Q (x - i) (y - j) (w - k) * mono A (i + (x - i)) (j + (y - j)) (k + (w - k)) a b c) = gs (x + 1) fun i => gs (M + 1) fun y => gs (M + 1) fun w => gs (y + 1) fun j => gs (w + 1) fun k => P i j k * Q (x - i) (y - j) (w - k) * mono A (i + (x - i)) (j + (y - j)) (k + (w - k)) a b c := by
      intro x
      rw [gs_congr fun y _ => gs_swap (M + 1) (x + 1) fun w i => gs (y + 1) fun j => gs (w + 1) fun k => P i j k * Q (x - i) (y - j) (w - k) * mono A (i + (x - i)) (j + (y - j)) (k + (w - k)) a b c]
      exact gs_swap _ _ _
    rw [gs_congr fun x _ => s1 x]
    rw [conv1 M (fun i i' => gs (M + 1) fun y => gs (M + 1) fun w => gs (y + 1) fun j => gs (w + 1) fun k => P i j k * Q i' (y - j) (w - k) * mono A (i + i') (j + (y - j)) (k + (w - k)) a b c) fun i i' h => gs_zero fun y _ => gs_zero fun w _ => gs_zero fun j _ => gs_zero fun k _ => H0 i i' j (y - j) k (w - k) (Or.inl h)]
    refine gs_congr fun i _ => gs_congr fun i' _ => ?_
    rw [gs_congr fun y _ => gs_swap (M + 1) (y + 1) fun w j => gs (w + 1) fun k => P i j k * Q i' (y - j) (w - k) * mono A (i + i') (j + (y - j)) (k + (w - k)) a b c]
    rw [conv1 M (fun j j' => gs (M + 1) fun w => gs (w + 1) fun k => P i j k * Q i' j' (w - k) * mono A (i + i') (j + j') (k + (w - k)) a b c) fun j j' h => gs_zero fun w _ => gs_zero fun k _ => H0 i i' j j' k (w - k) (Or.inr (Or.inl h))]
    refine gs_congr fun j _ => gs_congr fun j' _ => ?_
    exact conv1 M (fun k k' => P i j k * Q i' j' k' * mono A (i + i') (j + j') (k + k') a b c) fun k k' h => H0 i i' j j' k k' (Or.inr (Or.inr h))
  rw [left, right]
  refine gs_congr fun i _ => ?_
  -- i' j j' k k' to j k i' j' k'
  rw [gs_swap (M + 1) (M + 1) fun i' j => gs (M + 1) fun j' => gs (M + 1) fun k => gs (M + 1) fun k' => P i j k * Q i' j' k' * mono A (i + i') (j + j') (k + k') a b c]
  refine gs_congr fun j _ => ?_
  rw [gs_congr fun i' _ => gs_swap (M + 1) (M + 1) fun j' k => gs (M + 1) fun k' => P i j k * Q i' j' k' * mono A (i + i') (j + j') (k + k') a b c]
  exact gs_swap _ _ _
