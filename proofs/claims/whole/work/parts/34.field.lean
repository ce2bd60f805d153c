/-! THE FIELD: remainders by 2521 -/
abbrev cF : Type := Fin 2521
def toF (x : Int) : cF := ⟨(x % 2521).toNat, by omega⟩
def fi (a : cF) : Int := (a.val : Int)
theorem fi_bd (a : cF) : 0 ≤ fi a ∧ fi a < 2521 := by
  have := a.isLt
  unfold fi
  omega
theorem fi_toF (x : Int) : fi (toF x) = x % 2521 := by unfold fi toF; dsimp only; omega
theorem toF_fi (a : cF) : toF (fi a) = a := by
  apply Fin.ext
  have := a.isLt
  unfold fi toF
  dsimp only
  omega
theorem fi_inj {a b : cF} (h : fi a = fi b) : a = b := by rw [← toF_fi a, h, toF_fi]
theorem toF_eq {x y : Int} : toF x = toF y ↔ x % 2521 = y % 2521 := by
  constructor
  · intro h; rw [← fi_toF, h, fi_toF]
  · intro h; apply fi_inj; rw [fi_toF, fi_toF, h]
theorem toF_mod (x : Int) : toF (x % 2521) = toF x := by rw [toF_eq]; omega
theorem toF_add (x y : Int) : toF (x + y) = toF x + toF y := by
  apply Fin.ext
  rw [Fin.val_add]
  unfold toF
  dsimp only
  omega
theorem toF_mul (x y : Int) : toF (x * y) = toF x * toF y := by
  apply Fin.ext
  rw [Fin.val_mul]
  unfold toF
  dsimp only
  have h1 : ((x % 2521).toNat * (y % 2521).toNat % 2521 : Nat) = ((x % 2521 * (y % 2521)) % 2521).toNat := by
    have hx : ((x % 2521).toNat : Int) = x % 2521 := Int.toNat_of_nonneg (by omega)
    have hy : ((y % 2521).toNat : Int) = y % 2521 := Int.toNat_of_nonneg (by omega)
    have : (((x % 2521).toNat * (y % 2521).toNat % 2521 : Nat) : Int) = (x % 2521 * (y % 2521)) % 2521 := by
      rw [Int.natCast_emod, Int.natCast_mul, hx, hy]; rfl
    omega
  rw [h1, ← Int.mul_emod]
theorem toF_zero : toF 0 = 0 := rfl
theorem toF_one : toF 1 = 1 := rfl
theorem toF_neg (x : Int) : toF (-x) = - toF x := by
  have h : toF (-x) + toF x = 0 := by rw [← toF_add, ← toF_zero]; congr 1; omega
  grind
theorem toF_sub (x y : Int) : toF (x - y) = toF x - toF y := by
  rw [Int.sub_eq_add_neg, toF_add, toF_neg]
  grind
theorem toF_eq_zero {x : Int} (h0 : 0 ≤ x) (h1 : x < 2521) : toF x = 0 ↔ x = 0 := by
  rw [← toF_zero, toF_eq]; omega
theorem fi_zero {a : cF} : fi a = 0 ↔ a = 0 := by
  constructor
  · intro h; apply fi_inj; rw [h]; rfl
  · intro h; rw [h]; rfl
/-- powers by squaring as the programs make them -/
def fPow (b : cF) : Nat → cF
  | 0 => 1
  | n + 1 => fPow b n * b
theorem fPow_add (b : cF) (m n : Nat) : fPow b (m + n) = fPow b m * fPow b n := by
  induction n with
  | zero => show fPow b m = fPow b m * 1; grind
  | succ n ih => show fPow b (m + n) * b = fPow b m * (fPow b n * b); rw [ih]; grind
theorem fPow_sq (b : cF) (n : Nat) : fPow (b * b) n = fPow b (2 * n) := by
  induction n with
  | zero => rfl
  | succ n ih =>
    rw [show 2 * (n + 1) = 2 * n + 1 + 1 by omega]
    show fPow (b * b) n * (b * b) = fPow b (2 * n) * b * b
    rw [ih]
    grind
/-- by squaring, with so many halvings -/
def sqPow : Nat → Nat → cF → cF → cF
  | 0, _, r, _ => r
  | n + 1, e, r, b => if e = 0 then r else sqPow n (e / 2) (if e % 2 = 1 then r * b else r) (b * b)
theorem sqPow_spec : ∀ (n e : Nat) (r b : cF), e < 2 ^ n → sqPow n e r b = r * fPow b e := by
  intro n
  induction n with
  | zero =>
    intro e r b h
    rw [show e = 0 by simpa using h]
    show r = r * 1
    grind
  | succ n ih =>
    intro e r b h
    rw [sqPow]
    by_cases h0 : e = 0
    · rw [if_pos h0, h0]
      show r = r * 1
      grind
    · rw [if_neg h0, ih _ _ _ (by rw [Nat.pow_succ] at h; omega), fPow_sq]
      by_cases h1 : e % 2 = 1
      · rw [if_pos h1]
        have : e = 2 * (e / 2) + 1 := by omega
        rw [show fPow b e = fPow b (2 * (e / 2)) * b from (congrArg (fPow b) this).trans rfl]
        grind
      · rw [if_neg h1, show 2 * (e / 2) = e by omega]
def fInv (a : cF) : cF := sqPow 12 2519 1 a
def fChk : Nat → Bool
  | 0 => true
  | n + 1 => decide (Fin.ofNat 2521 (n + 1) * fInv (Fin.ofNat 2521 (n + 1)) = 1) && fChk n
theorem fChk_ok : fChk 2520 = true := by decide +kernel
theorem fChk_spec : ∀ n, fChk n = true → ∀ k, 0 < k → k ≤ n → Fin.ofNat 2521 k * fInv (Fin.ofNat 2521 k) = 1 := by
  intro n
  induction n with
  | zero => intro _ k h1 h2; omega
  | succ n ih =>
    intro h k h1 h2
    simp only [fChk, Bool.and_eq_true, decide_eq_true_eq] at h
    by_cases e : k = n + 1
    · rw [e]; exact h.1
    · exact ih h.2 k h1 (by omega)
theorem fInv_mul {a : cF} (h : a ≠ 0) : a * fInv a = 1 := by
  have h0 : a.val ≠ 0 := fun e => h (Fin.ext e)
  have h1 := a.isLt
  have := fChk_spec 2520 fChk_ok a.val (by omega) (by omega)
  have e : Fin.ofNat 2521 a.val = a := Fin.ext (Nat.mod_eq_of_lt h1)
  rw [e] at this
  exact this
theorem fmul_eq_zero {a b : cF} (h : a * b = 0) : a = 0 ∨ b = 0 := by
  by_cases ha : a = 0
  · exact Or.inl ha
  · right
    have := fInv_mul ha
    have e : b = (a * fInv a) * b := by rw [this]; grind
    rw [e, show a * fInv a * b = fInv a * (a * b) by grind, h]
    grind
/-- sums in the field -/
def fs : Nat → (Nat → cF) → cF
  | 0, _ => 0
  | n + 1, f => fs n f + f n
theorem toF_sg (n : Nat) (f : Nat → Int) : toF (sg n f) = fs n fun i => toF (f i) := by
  induction n with
  | zero => rfl
  | succ n ih => rw [sg_succ, toF_add, ih]; rfl
section FI
variable {d : Nat} {z : cm_Z} {I : cm_I}
theorem s_inverse (hz : mz z) {v : Int} (h0 : 0 ≤ v) (h1 : v < 2521) : mI (d + 1) m_Model_inverse [vI v] z I fun r I1 => I1 = I ∧ r = fi (fInv (toF v)) := by
  refine mr_inverse hz ?_
  have key : ∀ (n e : Nat) (r b : cF) (z0 z2 z4 : Option cm_V), e < 2 ^ n → sqPow n e r b = fInv (toF v) → e ≤ 2519 → cw d cd_Model_inverse (qI z fun r I1 => I1 = I ∧ r = fi (fInv (toF v))) 10 [z0, some (vL (fi r)), z2, some (vL (fi b)), z4, some (vI (e : Int))] [] (I, z) := by
    intro n
    induction n with
    | zero =>
      intro e r b z0 z2 z4 h E he
      rw [show e = 0 by simpa using h]
      have hr := fi_bd r
      refine mr_inverse_10 hz ⟨fun _ => ⟨⟨by omega, by omega⟩, qI_mk ⟨rfl, ?_⟩⟩, fun q => absurd q (by decide)⟩
      rw [← E]
      rfl
    | succ n ih =>
      intro e r b z0 z2 z4 h E he
      have hr := fi_bd r
      have hb := fi_bd b
      have m1 := mul_bd hr.1 (show fi r ≤ 2520 by omega) hb.1 (show fi b ≤ 2520 by omega)
      have m2 := mul_bd hb.1 (show fi b ≤ 2520 by omega) hb.1 (show fi b ≤ 2520 by omega)
      rw [sqPow] at E
      by_cases e0 : e = 0
      · rw [if_pos e0] at E
        refine mr_inverse_10 hz ⟨fun _ => ⟨⟨by omega, by omega⟩, qI_mk ⟨rfl, ?_⟩⟩, fun q => by omega⟩
        rw [E]
      · rw [if_neg e0] at E
        have e2 : ∀ x y : cF, Int.tmod (fi x * fi y) 2521 = fi (x * y) := by
          intro x y
          have hx := fi_bd x
          have hy := fi_bd y
          rw [tmod_pos (Int.mul_nonneg hx.1 hy.1), ← fi_toF, toF_mul, toF_fi, toF_fi]
        have h34 : ∀ (w : cF) (z1 : Option cm_V), w = (if e % 2 = 1 then r * b else r) → cw d cd_Model_inverse (qI z fun r I1 => I1 = I ∧ r = fi (fInv (toF v))) 34 [z0, z1, z2, some (vL (fi b)), z4, some (vI (e : Int))] [vL (fi w)] (I, z) := by
          intro w z1 ew
          refine mr_inverse_34 hz ⟨⟨by omega, by omega⟩, ?_⟩
          rw [e2, tdiv_pos' (by omega), show (e : Int) / 2 = ((e / 2 : Nat) : Int) by omega]
          refine ih (e / 2) w (b * b) _ _ _ (by rw [Nat.pow_succ] at h; omega) ?_ (by omega)
          rw [ew]
          exact E
        refine mr_inverse_10 hz ⟨fun q => by omega, fun q => ⟨fun q2 => h34 r _ ?_, fun q2 => ⟨⟨by omega, by omega⟩, ?_⟩⟩⟩
        · rw [tmod_pos (by omega)] at q2
          rw [if_neg (by omega)]
        · rw [tmod_pos (by omega)] at q2
          rw [e2]
          exact h34 (r * b) _ (by rw [if_pos (by omega)])
  have e1 : fi (1 : cF) = 1 := rfl
  have e2 : fi (toF v) = v := by rw [fi_toF]; omega
  have := key 12 2519 1 (toF v) (some (vI v)) none none (by decide) rfl (by omega)
  rw [e1, e2] at this
  exact this
end FI
