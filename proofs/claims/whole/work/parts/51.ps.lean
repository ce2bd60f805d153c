/-! SUMS in any ring; POWER SERIES over any ring -/
def gs {R : Type} [Lean.Grind.CommRing R] : Nat → (Nat → R) → R
  | 0, _ => 0
  | n + 1, f => gs n f + f n
section GS
variable {R : Type}
theorem gs_congr [Lean.Grind.CommRing R] {n : Nat} {f g : Nat → R} (h : ∀ i, i < n → f i = g i) : gs n f = gs n g := by
  induction n with
  | zero => rfl
  | succ n ih => rw [gs, gs, ih (fun i hi => h i (by omega)), h n (by omega)]
theorem gs_zero [Lean.Grind.CommRing R] {n : Nat} {f : Nat → R} (h : ∀ i, i < n → f i = 0) : gs n f = 0 := by
  induction n with
  | zero => rfl
  | succ n ih => rw [gs, ih (fun i hi => h i (by omega)), h n (by omega)]; grind
theorem gs_add [Lean.Grind.CommRing R] (n : Nat) (f g : Nat → R) : gs n (fun i => f i + g i) = gs n f + gs n g := by
  induction n with
  | zero => show (0 : R) = 0 + 0; grind
  | succ n ih => rw [gs, gs, gs, ih]; grind
theorem gs_neg [Lean.Grind.CommRing R] (n : Nat) (f : Nat → R) : gs n (fun i => - f i) = - gs n f := by
  induction n with
  | zero => show (0 : R) = - 0; grind
  | succ n ih => rw [gs, gs, ih]; grind
theorem gs_mul [Lean.Grind.CommRing R] (n : Nat) (c : R) (f : Nat → R) : gs n (fun i => c * f i) = c * gs n f := by
  induction n with
  | zero => show (0 : R) = c * 0; grind
  | succ n ih => rw [gs, gs, ih]; grind
theorem gs_mulr [Lean.Grind.CommRing R] (n : Nat) (c : R) (f : Nat → R) : gs n (fun i => f i * c) = gs n f * c := by
  induction n with
  | zero => show (0 : R) = 0 * c; grind
  | succ n ih => rw [gs, gs, ih]; grind
theorem gs_swap [Lean.Grind.CommRing R] (n m : Nat) (f : Nat → Nat → R) : gs n (fun i => gs m (fun j => f i j)) = gs m (fun j => gs n (fun i => f i j)) := by
  induction n with
  | zero => exact (gs_zero fun _ _ => rfl).symm
  | succ n ih => rw [gs, ih, ← gs_add]; rfl
theorem gs_ext [Lean.Grind.CommRing R] {n m : Nat} {f : Nat → R} (h : n ≤ m) (hz : ∀ i, n ≤ i → i < m → f i = 0) : gs m f = gs n f := by
  induction m with
  | zero => rw [show n = 0 by omega]
  | succ m ih =>
    by_cases e : n = m + 1
    · rw [e]
    · rw [gs, ih (by omega) (fun i h1 h2 => hz i h1 (by omega)), hz m (by omega) (by omega)]; grind
theorem gs_one [Lean.Grind.CommRing R] {n k : Nat} {f : Nat → R} (hk : k < n) (hz : ∀ i, i < n → i ≠ k → f i = 0) : gs n f = f k := by
  induction n with
  | zero => omega
  | succ n ih =>
    rw [gs]
    by_cases e : k = n
    · rw [gs_zero (fun i hi => hz i (by omega) (by omega)), e]; grind
    · rw [ih (by omega) (fun i hi he => hz i (by omega) he), hz n (by omega) (by omega)]; grind
theorem gs_head [Lean.Grind.CommRing R] (n : Nat) (f : Nat → R) : gs (n + 1) f = f 0 + gs n (fun i => f (i + 1)) := by
  induction n with
  | zero => show (0 : R) + f 0 = f 0 + 0; grind
  | succ n ih => rw [gs, ih, gs]; grind
theorem gs_rev [Lean.Grind.CommRing R] (n : Nat) (f : Nat → R) : gs (n + 1) f = gs (n + 1) (fun i => f (n - i)) := by
  induction n generalizing f with
  | zero => rfl
  | succ n ih =>
    rw [gs_head, ih, show gs (n + 1 + 1) (fun i => f (n + 1 - i)) = gs (n + 1) (fun i => f (n + 1 - i)) + f (n + 1 - (n + 1)) from rfl, Nat.sub_self]
    rw [gs_congr (f := fun i => f (n - i + 1)) (g := fun i => f (n + 1 - i)) (fun i hi => by show f (n - i + 1) = f (n + 1 - i); congr 1; omega)]
    grind
theorem gs_tri [Lean.Grind.CommRing R] (n : Nat) (F : Nat → Nat → R) : gs (n + 1) (fun k => gs (k + 1) fun i => F i (k - i)) = gs (n + 1) (fun i => gs (n - i + 1) fun j => F i j) := by
  induction n with
  | zero => rfl
  | succ n ih =>
    rw [gs, ih]
    have e : gs (n + 1 + 1) (fun i => gs (n + 1 - i + 1) fun j => F i j) = gs (n + 1) (fun i => gs (n - i + 1) (fun j => F i j) + F i (n + 1 - i)) + F (n + 1) 0 := by
      rw [gs]
      congr 1
      · refine gs_congr fun i hi => ?_
        rw [show n + 1 - i + 1 = (n - i + 1) + 1 by omega, gs, show n - i + 1 = n + 1 - i by omega]
      · show gs (n + 1 - (n + 1) + 1) (fun j => F (n + 1) j) = _
        rw [Nat.sub_self]
        show (0 : R) + F (n + 1) 0 = _
        rw [Lean.Grind.Semiring.add_comm, Lean.Grind.Semiring.add_zero]
    have e3 : gs (n + 1 + 1) (fun i => F i (n + 1 - i)) = gs (n + 1) (fun i => F i (n + 1 - i)) + F (n + 1) 0 := by
      show _ + F (n + 1) (n + 1 - (n + 1)) = _
      rw [Nat.sub_self]
    rw [e, gs_add, e3]
    exact (Lean.Grind.Semiring.add_assoc _ _ _).symm
/-- power series -/
def psAdd [Lean.Grind.CommRing R] (p q : Nat → R) : Nat → R := fun n => p n + q n
def psNeg [Lean.Grind.CommRing R] (p : Nat → R) : Nat → R := fun n => - p n
def psMul [Lean.Grind.CommRing R] (p q : Nat → R) : Nat → R := fun n => gs (n + 1) fun i => p i * q (n - i)
def psK [Lean.Grind.CommRing R] (c : R) : Nat → R := fun n => if n = 0 then c else 0
def psPow [Lean.Grind.CommRing R] (p : Nat → R) : Nat → (Nat → R)
  | 0 => psK 1
  | n + 1 => psMul (psPow p n) p
theorem psMul_comm [Lean.Grind.CommRing R] (p q : Nat → R) : psMul p q = psMul q p := by
  funext n
  unfold psMul
  rw [gs_rev]
  refine gs_congr fun i hi => ?_
  show p (n - i) * q (n - (n - i)) = q i * p (n - i)
  rw [show n - (n - i) = i by omega]
  grind
theorem psMul_assoc [Lean.Grind.CommRing R] (p q r : Nat → R) : psMul (psMul p q) r = psMul p (psMul q r) := by
  funext n
  have e1 : psMul (psMul p q) r n = gs (n + 1) (fun k => gs (k + 1) fun i => (fun i j => p i * q j * r (n - i - j)) i (k - i)) := by
    refine gs_congr fun k hk => ?_
    show psMul p q k * r (n - k) = _
    unfold psMul
    rw [← gs_mulr]
    refine gs_congr fun i hi => ?_
    show p i * q (k - i) * r (n - k) = p i * q (k - i) * r (n - i - (k - i))
    rw [show n - i - (k - i) = n - k by omega]
  have e2 : psMul p (psMul q r) n = gs (n + 1) (fun i => gs (n - i + 1) fun j => (fun i j => p i * q j * r (n - i - j)) i j) := by
    refine gs_congr fun i hi => ?_
    show p i * psMul q r (n - i) = _
    unfold psMul
    rw [← gs_mul]
    refine gs_congr fun j hj => ?_
    show p i * (q j * r (n - i - j)) = p i * q j * r (n - i - j)
    grind
  rw [e1, e2]
  exact gs_tri n fun i j => p i * q j * r (n - i - j)
theorem psMul_K [Lean.Grind.CommRing R] (c : R) (p : Nat → R) : psMul (psK c) p = fun n => c * p n := by
  funext n
  unfold psMul
  rw [gs_one (k := 0) (by omega) (fun i hi he => by show psK c i * p (n - i) = 0; unfold psK; rw [if_neg he]; grind)]
  show psK c 0 * p (n - 0) = _
  unfold psK
  rw [if_pos rfl, Nat.sub_zero]
theorem psMul_one [Lean.Grind.CommRing R] (p : Nat → R) : psMul p (psK 1) = p := by
  rw [psMul_comm, psMul_K]
  funext n
  grind
theorem psMul_zero [Lean.Grind.CommRing R] (p : Nat → R) : psMul p (psK 0) = psK 0 := by
  rw [psMul_comm, psMul_K]
  funext n
  unfold psK
  split <;> grind
theorem psMul_add [Lean.Grind.CommRing R] (p q r : Nat → R) : psMul p (psAdd q r) = psAdd (psMul p q) (psMul p r) := by
  funext n
  show gs (n + 1) (fun i => p i * (q (n - i) + r (n - i))) = gs (n + 1) (fun i => p i * q (n - i)) + gs (n + 1) (fun i => p i * r (n - i))
  rw [← gs_add]
  exact gs_congr fun i hi => by grind
theorem psAdd_zero [Lean.Grind.CommRing R] (p : Nat → R) : psAdd p (psK 0) = p := by
  funext n
  unfold psAdd psK
  split <;> grind
theorem psAdd_comm [Lean.Grind.CommRing R] (p q : Nat → R) : psAdd p q = psAdd q p := by
  funext n
  unfold psAdd
  grind
theorem psAdd_assoc [Lean.Grind.CommRing R] (p q r : Nat → R) : psAdd (psAdd p q) r = psAdd p (psAdd q r) := by
  funext n
  unfold psAdd
  grind
theorem psK_add [Lean.Grind.CommRing R] (a b : R) : psK (a + b) = psAdd (psK a) (psK b) := by
  funext n
  unfold psAdd psK
  split <;> grind
theorem psK_neg [Lean.Grind.CommRing R] (a : R) : psK (- a) = psNeg (psK a) := by
  funext n
  unfold psNeg psK
  split <;> grind
abbrev psC (R : Type) [Lean.Grind.CommRing R] : Lean.Grind.CommRing (Nat → R) :=
  { add := psAdd
    mul := psMul
    natCast := ⟨fun k => psK (OfNat.ofNat (α := R) k)⟩
    ofNat := fun k => ⟨psK (OfNat.ofNat (α := R) k)⟩
    nsmul := ⟨fun k p => psMul (psK (OfNat.ofNat (α := R) k)) p⟩
    npow := ⟨fun p k => psPow p k⟩
    neg := psNeg
    sub := fun p q => psAdd p (psNeg q)
    intCast := ⟨fun k => psK (Lean.Grind.Ring.intCast.intCast k)⟩
    zsmul := ⟨fun k p => psMul (psK (Lean.Grind.Ring.intCast.intCast k)) p⟩
    add_zero := psAdd_zero
    add_comm := psAdd_comm
    add_assoc := psAdd_assoc
    mul_assoc := psMul_assoc
    mul_comm := psMul_comm
    mul_one := psMul_one
    one_mul := fun a => (psMul_comm _ _).trans (psMul_one a)
    left_distrib := psMul_add
    right_distrib := fun a b c => by
      show psMul (psAdd a b) c = psAdd (psMul a c) (psMul b c)
      rw [psMul_comm, psMul_add, psMul_comm c a, psMul_comm c b]
    zero_mul := fun a => (psMul_comm _ _).trans (psMul_zero a)
    mul_zero := psMul_zero
    pow_zero := fun _ => rfl
    pow_succ := fun _ _ => rfl
    ofNat_succ := fun a => by
      show psK (OfNat.ofNat (α := R) (a + 1)) = psAdd (psK (OfNat.ofNat (α := R) a)) (psK 1)
      rw [Lean.Grind.Semiring.ofNat_succ, psK_add]
    ofNat_eq_natCast := fun _ => rfl
    nsmul_eq_natCast_mul := fun _ _ => rfl
    neg_add_cancel := fun a => by
      funext n
      show - a n + a n = psK 0 n
      unfold psK
      split <;> grind
    sub_eq_add_neg := fun _ _ => rfl
    neg_zsmul := fun i a => by
      show psMul (psK (Lean.Grind.Ring.intCast.intCast (-i))) a = psNeg (psMul (psK (Lean.Grind.Ring.intCast.intCast i)) a)
      rw [psMul_K, psMul_K]
      funext n
      show Lean.Grind.Ring.intCast.intCast (-i) * a n = - (Lean.Grind.Ring.intCast.intCast i * a n)
      rw [show (Lean.Grind.Ring.intCast.intCast (-i) : R) = - Lean.Grind.Ring.intCast.intCast i from Lean.Grind.Ring.intCast_neg i]
      grind
    zsmul_natCast_eq_nsmul := fun n a => by
      show psMul (psK (Lean.Grind.Ring.intCast.intCast (n : Int))) a = psMul (psK (OfNat.ofNat (α := R) n)) a
      rw [show (Lean.Grind.Ring.intCast.intCast (n : Int) : R) = OfNat.ofNat n from Lean.Grind.Ring.intCast_ofNat n]
    intCast_ofNat := fun n => by
      show psK (Lean.Grind.Ring.intCast.intCast (OfNat.ofNat n : Int)) = psK (OfNat.ofNat (α := R) n)
      rw [show (Lean.Grind.Ring.intCast.intCast (OfNat.ofNat n : Int) : R) = OfNat.ofNat n from Lean.Grind.Ring.intCast_ofNat n]
    intCast_neg := fun i => by
      show psK (Lean.Grind.Ring.intCast.intCast (-i)) = psNeg (psK (Lean.Grind.Ring.intCast.intCast i))
      rw [show (Lean.Grind.Ring.intCast.intCast (-i) : R) = - Lean.Grind.Ring.intCast.intCast i from Lean.Grind.Ring.intCast_neg i, psK_neg] }
end GS
/-- series of three variables over the field -/
abbrev cP : Type := Nat → Nat → Nat → cF
abbrev cPr1 : Lean.Grind.CommRing (Nat → cF) := psC cF
abbrev cPr2 : Lean.Grind.CommRing (Nat → Nat → cF) := @psC (Nat → cF) cPr1
abbrev cPr : Lean.Grind.CommRing cP := @psC (Nat → Nat → cF) cPr2
