/-! READING of polynomials: what it is to give -/
def rwF (f : Int → Int) (x : Int) : Int → Int := fun k => if 0 ≤ k ∧ k < 1140 then f (x + k) else 0
def vMul (D : Int) (v w : Int → Int) : Int → Int := fun k => if 0 ≤ k ∧ k < 1140 then pMul D v 0 w 0 k else 0
def vK (c : Int) : Int → Int := fun k => if k = 0 then c else 0
def vPow (D : Int) (v : Int → Int) : Nat → (Int → Int)
  | 0 => vK 1
  | n + 1 => vMul D (vPow D v n) v
def vAdd (s : Int) (v w : Int → Int) : Int → Int := fun k => if 0 ≤ k ∧ k < 1140 then (v k + s * w k) % 2521 else 0
def vIx (D j : Int) : Int := mAt D (if j = 0 then 1 else 0) (if j = 1 then 1 else 0) (if j = 2 then 1 else 0)
def vVar (D j : Int) : Int → Int := fun k => if k = vIx D j then 1 else 0
abbrev pQ : Type := Bool × (Int → Int) × (Int → Int)
def pClose (B : Int → Int) (r : pQ) : pQ :=
  if r.1 = true then (if r.2.1 18 = 2 ∧ r.2.1 19 = 41 then (true, st1 (tok r.2.1 B) 29 (r.2.1 29 - 1), r.2.2) else (false, st1 (rBad r.2.1 1) 29 (r.2.1 29 - 1), r.2.2)) else (false, st1 r.2.1 29 (r.2.1 29 - 1), r.2.2)
def pPart (D : Int) (B : Int → Int) (S : (Int → Int) → pQ) (f : Int → Int) : pQ :=
  if f 18 = 1 then (if f 17 - f 16 ≤ 4 then (true, tok (st1 f 27 (f 27 + 1)) B, vK (f 19 % 2521)) else (false, rBad f 1, vK 1))
  else if f 18 = 2 ∧ 120 ≤ f 19 ∧ f 19 - 120 ≤ D - 1 then (true, tok (st1 f 27 (f 27 + 1)) B, vVar D (f 19 - 120))
  else if f 18 = 2 ∧ f 19 = 40 then (if f 29 = 8 then (false, rBad f 2, vK 1) else pClose B (S (tok (st1 f 29 (f 29 + 1)) B)))
  else (false, rBad f 1, vK 1)
def pRaise (D e : Int) (f v : Int → Int) : (Int → Int) × (Int → Int) :=
  if f 28 ≠ 0 ∨ 15 < mDeg D v 0 * e then (st1 f 28 1, v) else (st1 f 28 0, vPow D v e.toNat)
def pExp (D : Int) (B : Int → Int) (f v : Int → Int) : pQ :=
  if f 18 = 1 ∧ f 17 - f 16 ≤ 2 then (if f 19 ≤ 15 then (true, tok (pRaise D (f 19) f v).1 B, (pRaise D (f 19) f v).2) else (false, rBad f 2, v)) else (false, rBad f 1, v)
def pPow2 (D : Int) (B : Int → Int) (r : pQ) : pQ :=
  if r.1 = true then (if r.2.1 18 = 2 ∧ r.2.1 19 = 94 then pExp D B (tok r.2.1 B) r.2.2 else r) else (false, r.2)
def pPower (D : Int) (B : Int → Int) (S : (Int → Int) → pQ) (f : Int → Int) : pQ := pPow2 D B (pPart D B S f)
def pJoin (D : Int) (f v w : Int → Int) : (Int → Int) × (Int → Int) :=
  if f 28 ≠ 0 ∨ 15 < mDeg D v 0 + mDeg D w 0 then (st1 (st1 f 28 1) 27 (f 27 - 1), v) else (st1 (st1 f 28 0) 27 (f 27 - 1), vMul D v w)
def pProdF (D : Int) (B : Int → Int) (S : (Int → Int) → pQ) : Nat → (Int → Int) → (Int → Int) → pQ
  | 0, f, v => (false, f, v)
  | n + 1, f, v => if f 18 = 2 ∧ f 19 = 42 then (if (pPower D B S (tok f B)).1 = true then pProdF D B S n (pJoin D (pPower D B S (tok f B)).2.1 v (pPower D B S (tok f B)).2.2).1 (pJoin D (pPower D B S (tok f B)).2.1 v (pPower D B S (tok f B)).2.2).2 else (false, (pPower D B S (tok f B)).2.1, v)) else (true, f, v)
def pProd (D : Int) (B : Int → Int) (S : (Int → Int) → pQ) (f : Int → Int) : pQ :=
  if (pPower D B S f).1 = true then pProdF D B S 401 (pPower D B S f).2.1 (pPower D B S f).2.2 else (false, (pPower D B S f).2)
def dn27 (f : Int → Int) : Int → Int := st1 f 27 (f 27 - 1)
def pSumF (D : Int) (B : Int → Int) (S : (Int → Int) → pQ) : Nat → (Int → Int) → (Int → Int) → pQ
  | 0, f, v => (false, f, v)
  | n + 1, f, v => if f 18 = 2 ∧ (f 19 = 43 ∨ f 19 = 45) then (if (pProd D B S (tok f B)).1 = true then pSumF D B S n (dn27 (pProd D B S (tok f B)).2.1) (vAdd (if f 19 = 43 then 1 else -1) v (pProd D B S (tok f B)).2.2) else (false, (pProd D B S (tok f B)).2.1, v)) else (true, f, v)
def pSum1 (B f : Int → Int) : Int → Int := if f 18 = 2 ∧ f 19 = 45 then tok f B else f
def pSum0 (B f : Int → Int) : Int → Int := st1 (pSum1 B f) 27 (pSum1 B f 27 + 1)
def pSum (D : Int) (B : Int → Int) (S : (Int → Int) → pQ) (f : Int → Int) : pQ :=
  if (pProd D B S (pSum0 B f)).1 = true then pSumF D B S 401 (dn27 (pProd D B S (pSum0 B f)).2.1) (vAdd (if f 18 = 2 ∧ f 19 = 45 then -1 else 1) (vK 0) (pProd D B S (pSum0 B f)).2.2) else (false, (pProd D B S (pSum0 B f)).2.1, vK 0)
def pLev (D : Int) (B : Int → Int) : Nat → (Int → Int) → pQ
  | 0 => fun f => (false, f, vK 1)
  | l + 1 => pSum D B (pLev D B l)
/-! what it keeps -/
def rOk2 (f : Int → Int) : Prop := rOk f ∧ (f 18 ≠ 0 → f 16 < f 17)
theorem tok_ok2 {f : Int → Int} (B : Int → Int) (h : rOk f) : rOk2 (tok f B) ∧ f 17 ≤ tok f B 16 ∧ (∀ s, s < 16 ∨ 19 < s → tok f B s = f s) := by
  obtain ⟨r1, r2, r3, r4, r5, r6⟩ := id h
  obtain ⟨a, b, c, e⟩ := tok_ok B (f := f) (by omega) r3 r4 r5 r6
  have hs := tSkF_bd B (f 15 - f 17).toNat (f 17)
  have hs1 : f 17 ≤ tSk B (f 15) (f 17) ∧ tSk B (f 15) (f 17) ≤ f 15 := by unfold tSk; omega
  have main : (tok f B 18 ≠ 0 → tok f B 16 < tok f B 17) ∧ f 17 ≤ tok f B 16 := by
    clear a b c e
    unfold tok
    generalize tSk B (f 15) (f 17) = q at hs1 ⊢
    by_cases c1 : f 15 ≤ q
    · rw [if_pos c1]
      obtain ⟨a1, a2, a3, a4, a5⟩ := gst_at f q q 0 (f 19)
      exact ⟨fun x => absurd a3 x, by omega⟩
    · rw [if_neg c1]
      by_cases c2 : 48 ≤ B q % 256 ∧ B q % 256 ≤ 57
      · rw [if_pos c2]
        obtain ⟨d1, d2, d3⟩ := tDgF_bd B (f 15 - (q + 1)).toNat (q + 1)
        have e : tDg B (f 15) q = tDgF B (f 15 - (q + 1)).toNat (q + 1) := by
          unfold tDg
          rw [show (f 15 - q).toNat = (f 15 - (q + 1)).toNat + 1 by omega, tDgF, if_pos c2]
        obtain ⟨a1, a2, a3, a4, a5⟩ := gst_at f q (tDg B (f 15) q) 1 (tV B q (tDg B (f 15) q - q).toNat)
        rw [← e] at d1
        exact ⟨fun _ => by omega, by omega⟩
      · rw [if_neg c2]
        obtain ⟨a1, a2, a3, a4, a5⟩ := gst_at f q (q + 1) 2 (B q % 256)
        exact ⟨fun _ => by omega, by omega⟩
  exact ⟨⟨a, main.1⟩, main.2, b⟩
/-- a value: reduced, nothing outside, of degree 15 at most -/
def vOk (D : Int) (v : Int → Int) : Prop := okR v ∧ (∀ k, ¬ (0 ≤ k ∧ k < mSz D) → v k = 0) ∧ mDeg D v 0 ≤ 15
theorem mDeg_le {D : Int} (hD : D = 2 ∨ D = 3) {f : Int → Int} {x t : Int} (t0 : 0 ≤ t) (h : ∀ k, 0 ≤ k → k < mSz D → t < mDg D k → f (x + k) = 0) : mDeg D f x ≤ t := by
  apply Classical.byContradiction
  intro q
  obtain ⟨k, k0, k1, k2, k3⟩ := mDeg_nz hD (f := f) (x := x) (by omega)
  exact k3 (h k k0 k1 (by omega))
theorem vOk_K {D : Int} (hD : D = 2 ∨ D = 3) {c : Int} (c0 : 0 ≤ c) (c1 : c < 2521) : vOk D (vK c) := by
  have hs := mSz_bd D
  refine ⟨fun j => ?_, fun k hk => ?_, mDeg_le hD (by omega) fun k k0 k1 hk => ?_⟩
  · unfold vK; split <;> omega
  · unfold vK; rw [if_neg (by omega)]
  · unfold vK
    rw [if_neg]
    intro e
    have := (mDg_lt hD (k := k) (t := 0) k0 k1 (by omega)).mp (by
      rw [show k = 0 by omega]
      unfold mFrom
      split <;> decide)
    omega
theorem vIx_bd {D j : Int} (hD : D = 2 ∨ D = 3) (j0 : 0 ≤ j) (j1 : j ≤ D - 1) : 0 ≤ vIx D j ∧ vIx D j < mSz D ∧ mDg D (vIx D j) = 1 := by
  have hj : j = 0 ∨ j = 1 ∨ j = 2 := by omega
  have := mAt_E hD (a := if j = 0 then 1 else 0) (b := if j = 1 then 1 else 0) (c := if j = 2 then 1 else 0) (by split <;> omega) (by split <;> omega) (by split <;> omega) (by split <;> split <;> split <;> omega) (fun e => by rw [if_neg (by omega)])
  obtain ⟨a1, a2, a3, a4, a5⟩ := this
  refine ⟨a4, a5, ?_⟩
  unfold mDg
  show mEa D (vIx D j) + mEb D (vIx D j) + mEc D (vIx D j) = 1
  unfold vIx
  rw [a1, a2, a3]
  split <;> split <;> split <;> omega
theorem vOk_var {D j : Int} (hD : D = 2 ∨ D = 3) (j0 : 0 ≤ j) (j1 : j ≤ D - 1) : vOk D (vVar D j) := by
  obtain ⟨b0, b1, b2⟩ := vIx_bd hD j0 j1
  refine ⟨fun k => ?_, fun k hk => ?_, mDeg_le hD (by omega) fun k k0 k1 hk => ?_⟩
  · unfold vVar; split <;> omega
  · unfold vVar; rw [if_neg (by omega)]
  · unfold vVar
    rw [if_neg]
    intro e
    rw [show k = vIx D j by omega] at hk
    omega
theorem pMul_bd (D : Int) (f : Int → Int) (x : Int) (g : Int → Int) (y k : Int) : 0 ≤ pMul D f x g y k ∧ pMul D f x g y k < 2521 := by unfold pMul; omega
theorem pMul_zero {D : Int} (hD : D = 2 ∨ D = 3) {f g : Int → Int} {x y : Int} (h : mDeg D f x + mDeg D g y ≤ 17) {k : Int} (hk : ¬ (0 ≤ k ∧ k < mSz D) ∨ (0 ≤ k ∧ k < mSz D ∧ mDeg D f x + mDeg D g y < mDg D k)) : pMul D f x g y k = 0 := by
  unfold pMul pTo
  rw [sg_zero]
  · rfl
  · intro i hi
    refine sg_zero fun j hj => ?_
    by_cases e : mIx D i j = k
    · rw [if_pos e]
      by_cases d1 : mDeg D f x < mDg D i
      · rw [mDeg_z hD (by omega) (by omega) d1]; omega
      · by_cases d2 : mDeg D g y < mDg D j
        · rw [mDeg_z hD (by omega) (by omega) d2]; omega
        · exfalso
          obtain ⟨a1, a2, a3, a4, a5⟩ := mIx_E hD (i := i) (j := j) (by omega) (by omega) (by omega) (by omega) (by omega)
          rcases hk with hk | hk
          · rw [← e] at hk; omega
          · have : mDg D k = mDg D i + mDg D j := by
              rw [← e]
              unfold mDg
              omega
            omega
    · rw [if_neg e]
theorem vOk_mul {D : Int} (hD : D = 2 ∨ D = 3) {v w : Int → Int} (h : mDeg D v 0 + mDeg D w 0 ≤ 15) : vOk D (vMul D v w) ∧ mDeg D (vMul D v w) 0 ≤ mDeg D v 0 + mDeg D w 0 := by
  have hs := mSz_bd D
  have dv := mDeg_bd hD v 0
  have dw := mDeg_bd hD w 0
  have m : mDeg D (vMul D v w) 0 ≤ mDeg D v 0 + mDeg D w 0 := mDeg_le hD (by omega) fun k k0 k1 hk => by
    unfold vMul
    rw [if_pos (by omega), show (0 : Int) + k = k by omega]
    exact pMul_zero hD (by omega) (Or.inr ⟨k0, k1, hk⟩)
  refine ⟨⟨fun k => ?_, fun k hk => ?_, by omega⟩, m⟩
  · unfold vMul
    have := pMul_bd D v 0 w 0 k
    split <;> omega
  · unfold vMul
    split
    · exact pMul_zero hD (by omega) (Or.inl hk)
    · rfl
theorem vOk_pow {D : Int} (hD : D = 2 ∨ D = 3) {v : Int → Int} (hv : vOk D v) : ∀ n : Nat, mDeg D v 0 * n ≤ 15 → vOk D (vPow D v n) ∧ mDeg D (vPow D v n) 0 ≤ mDeg D v 0 * n := by
  intro n
  have dv := mDeg_bd hD v 0
  induction n with
  | zero =>
    intro _
    refine ⟨vOk_K hD (by omega) (by omega), ?_⟩
    rw [show mDeg D v 0 * ((0 : Nat) : Int) = 0 by omega]
    refine mDeg_le hD (by omega) fun k k0 k1 hk => ?_
    show vK 1 (0 + k) = 0
    unfold vK
    rw [if_neg]
    intro e
    have := (mDg_lt hD (k := k) (t := 0) k0 k1 (by omega)).mp (by
      rw [show k = 0 by omega]
      unfold mFrom
      split <;> decide)
    omega
  | succ n ih =>
    intro h
    have e : mDeg D v 0 * ((n + 1 : Nat) : Int) = mDeg D v 0 * n + mDeg D v 0 := by
      rw [Int.natCast_add, Int.mul_add]; omega
    rw [e] at h
    obtain ⟨a, b⟩ := ih (by omega)
    obtain ⟨p, q⟩ := vOk_mul hD (v := vPow D v n) (w := v) (by omega)
    exact ⟨p, by show mDeg D (vMul D (vPow D v n) v) 0 ≤ _; omega⟩
theorem vOk_add {D : Int} (hD : D = 2 ∨ D = 3) {v w : Int → Int} (s : Int) (hv : vOk D v) (hw : vOk D w) : vOk D (vAdd s v w) := by
  have hs := mSz_bd D
  refine ⟨fun k => ?_, fun k hk => ?_, mDeg_le hD (by omega) fun k k0 k1 hk => ?_⟩
  · unfold vAdd; split <;> omega
  · unfold vAdd
    split
    · rw [hv.2.1 k hk, hw.2.1 k hk]
      rw [Int.mul_zero]; rfl
    · rfl
  · unfold vAdd
    rw [if_pos (by omega)]
    have h1 := mDeg_z hD (f := v) (x := 0) k0 k1 (by have := hv.2.2; omega)
    have h2 := mDeg_z hD (f := w) (x := 0) k0 k1 (by have := hw.2.2; omega)
    rw [h1, h2, Int.mul_zero]; rfl
