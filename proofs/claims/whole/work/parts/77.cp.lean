/-! SERIES of three variables: products, powers of a variable -/
def cMul (P Q : cP) : cP := @psMul (Nat → Nat → cF) cPr2 P Q
def cAdd (P Q : cP) : cP := @psAdd (Nat → Nat → cF) cPr2 P Q
theorem gs_at {R : Type} [Lean.Grind.CommRing R] (n : Nat) (f : Nat → Nat → R) (m : Nat) : @gs (Nat → R) (psC R) n f m = gs n (fun i => f i m) := by
  induction n with
  | zero =>
    show psK (0 : R) m = 0
    unfold psK
    split <;> rfl
  | succ n ih =>
    show @gs (Nat → R) (psC R) n f m + f n m = gs n (fun i => f i m) + f n m
    rw [ih]
theorem cMul_at (P Q : cP) (a b c : Nat) : cMul P Q a b c = gs (a + 1) fun i => gs (b + 1) fun j => gs (c + 1) fun l => P i j l * Q (a - i) (b - j) (c - l) := by
  show @gs (Nat → Nat → cF) cPr2 (a + 1) (fun i => @psMul (Nat → cF) cPr1 (P i) (Q (a - i))) b c = _
  rw [@gs_at (Nat → cF) cPr1 (a + 1), @gs_at cF _ (a + 1)]
  refine gs_congr fun i _ => ?_
  show @gs (Nat → cF) cPr1 (b + 1) (fun j => psMul (P i j) (Q (a - i) (b - j))) c = _
  rw [@gs_at cF _ (b + 1)]
  rfl
theorem cAdd_at (P Q : cP) (a b c : Nat) : cAdd P Q a b c = P a b c + Q a b c := rfl
def c0 : cP := fun _ _ _ => 0
theorem c0_eq : c0 = (@OfNat.ofNat cP 0 (cPr.toRing.toSemiring.ofNat 0) : cP) := by
  funext a b c
  show (0 : cF) = (@psK (Nat → Nat → cF) cPr2 (@psK (Nat → cF) cPr1 (psK (0 : cF)))) a b c
  unfold psK
  by_cases ha : a = 0
  · rw [if_pos ha]
    by_cases hb : b = 0
    · rw [if_pos hb]
      split <;> rfl
    · rw [if_neg hb]
      show (0 : cF) = psK (0 : cF) c
      unfold psK
      split <;> rfl
  · rw [if_neg ha]
    show (0 : cF) = (@psK (Nat → cF) cPr1 (psK (0 : cF))) b c
    unfold psK
    by_cases hb : b = 0
    · rw [if_pos hb]
      split <;> rfl
    · rw [if_neg hb]
      show (0 : cF) = psK (0 : cF) c
      unfold psK
      split <;> rfl
/-- powers of the variables -/
def xs (s : Nat) : cP := fun a b c => if a = s ∧ b = 0 ∧ c = 0 then 1 else 0
def ys (s : Nat) : cP := fun a b c => if a = 0 ∧ b = s ∧ c = 0 then 1 else 0
def zs (s : Nat) : cP := fun a b c => if a = 0 ∧ b = 0 ∧ c = s then 1 else 0
/-- one monomial times a series -/
theorem mon_mul (x y w : Nat) (P : cP) (a b c : Nat) : cMul (fun i j l => if i = x ∧ j = y ∧ l = w then 1 else 0) P a b c = if x ≤ a ∧ y ≤ b ∧ w ≤ c then P (a - x) (b - y) (c - w) else 0 := by
  rw [cMul_at]
  by_cases h : x ≤ a ∧ y ≤ b ∧ w ≤ c
  · rw [if_pos h, gs_one (k := x) (by omega) (fun i hi he => gs_zero fun j _ => gs_zero fun l _ => by rw [if_neg (fun q => he q.1), gs_z1]), gs_one (k := y) (by omega) (fun j hj he => gs_zero fun l _ => by rw [if_neg (fun q => he q.2.1), gs_z1]), gs_one (k := w) (by omega) (fun l hl he => by rw [if_neg (fun q => he q.2.2), gs_z1]), if_pos ⟨rfl, rfl, rfl⟩, gs_z2]
  · rw [if_neg h]
    refine gs_zero fun i hi => gs_zero fun j hj => gs_zero fun l hl => ?_
    rw [if_neg (by omega), gs_z1]
theorem xs_mul (s : Nat) (P : cP) (a b c : Nat) : cMul (xs s) P a b c = if s ≤ a then P (a - s) b c else 0 := by
  show cMul (fun i j l => if i = s ∧ j = 0 ∧ l = 0 then 1 else 0) P a b c = _
  rw [mon_mul]
  by_cases h : s ≤ a
  · rw [if_pos ⟨h, by omega, by omega⟩, if_pos h, Nat.sub_zero, Nat.sub_zero]
  · rw [if_neg (fun q => h q.1), if_neg h]
theorem ys_mul (s : Nat) (P : cP) (a b c : Nat) : cMul (ys s) P a b c = if s ≤ b then P a (b - s) c else 0 := by
  show cMul (fun i j l => if i = 0 ∧ j = s ∧ l = 0 then 1 else 0) P a b c = _
  rw [mon_mul]
  by_cases h : s ≤ b
  · rw [if_pos ⟨by omega, h, by omega⟩, if_pos h, Nat.sub_zero, Nat.sub_zero]
  · rw [if_neg (fun q => h q.2.1), if_neg h]
theorem zs_mul (s : Nat) (P : cP) (a b c : Nat) : cMul (zs s) P a b c = if s ≤ c then P a b (c - s) else 0 := by
  show cMul (fun i j l => if i = 0 ∧ j = 0 ∧ l = s then 1 else 0) P a b c = _
  rw [mon_mul]
  by_cases h : s ≤ c
  · rw [if_pos ⟨by omega, by omega, h⟩, if_pos h, Nat.sub_zero, Nat.sub_zero]
  · rw [if_neg (fun q => h q.2.2), if_neg h]
theorem xs_reg (s : Nat) (u : cP) (h : cMul (xs s) u = c0) : u = c0 := by
  funext a b c
  have := congrFun (congrFun (congrFun h (a + s)) b) c
  rw [xs_mul, if_pos (by omega), Nat.add_sub_cancel] at this
  exact this
theorem ys_reg (s : Nat) (u v : cP) (h : cMul (ys s) u = cMul (xs s) v) : ∃ w, u = cMul (xs s) w := by
  refine ⟨fun a b c => u (a + s) b c, ?_⟩
  funext a b c
  rw [xs_mul]
  by_cases q : s ≤ a
  · rw [if_pos q, Nat.sub_add_cancel q]
  · rw [if_neg q]
    have := congrFun (congrFun (congrFun h a) (b + s)) c
    rw [ys_mul, xs_mul, if_pos (by omega), if_neg q, Nat.add_sub_cancel] at this
    exact this
theorem zs_reg (s : Nat) (u v w : cP) (h : cMul (zs s) u = cAdd (cMul (xs s) v) (cMul (ys s) w)) : ∃ x y, u = cAdd (cMul (xs s) x) (cMul (ys s) y) := by
  refine ⟨fun a b c => u (a + s) b c, fun a b c => if a < s then u a (b + s) c else 0, ?_⟩
  funext a b c
  rw [cAdd_at, xs_mul, ys_mul]
  by_cases q : s ≤ a
  · rw [if_pos q, Nat.sub_add_cancel q, if_neg (c := a < s) (by omega)]
    have : (if s ≤ b then (0 : cF) else 0) = 0 := by split <;> rfl
    rw [this]
    exact (Lean.Grind.Semiring.add_zero _).symm
  · rw [if_neg q]
    by_cases r : s ≤ b
    · rw [if_pos r, if_pos (by omega), Nat.sub_add_cancel r]
      exact (Lean.Grind.AddCommMonoid.zero_add _).symm
    · rw [if_neg r]
      have := congrFun (congrFun (congrFun h a) b) (c + s)
      rw [zs_mul, cAdd_at, xs_mul, ys_mul, if_pos (by omega), if_neg q, if_neg r, Nat.add_sub_cancel] at this
      rw [this]
/-- a row as a series -/
def toP (D : Int) (v : Int → Int) : cP := fun a b c => if a + b + c ≤ 15 ∧ (D = 2 → c = 0) then toF (v (mAt D a b c)) else 0
theorem toP_deg {D : Int} (hD : D = 2 ∨ D = 3) {v : Int → Int} {a b c : Nat} (h : mDeg D v 0 < (a : Int) + b + c) : toP D v a b c = 0 := by
  unfold toP
  by_cases q : a + b + c ≤ 15 ∧ (D = 2 → c = 0)
  · rw [if_pos q]
    obtain ⟨e1, e2, e3, e4, e5⟩ := mAt_E hD (a := (a : Int)) (b := (b : Int)) (c := (c : Int)) (by omega) (by omega) (by omega) (by omega) (fun e => by have := q.2 e; omega)
    have := mDeg_z hD (f := v) (x := 0) e4 e5 (by unfold mDg; rw [e1, e2, e3]; exact h)
    rw [show (0 : Int) + mAt D a b c = mAt D a b c by omega] at this
    rw [this]
    rfl
  · rw [if_neg q]
/-- sums by places are sums by powers -/
theorem ix_sum {D : Int} (hD : D = 2 ∨ D = 3) (F : Nat → Nat → Nat → cF) : gs (mSz D).toNat (fun i => F (mE D (i : Int)).1 (mE D (i : Int)).2.1 (mE D (i : Int)).2.2) = gs 18 fun a => gs 18 fun b => gs 18 fun c => if a + b + c ≤ 17 ∧ (D = 2 → c = 0) then F a b c else 0 := by
  have bd : ∀ i : Nat, i < (mSz D).toNat → (mE D (i : Int)).1 + (mE D (i : Int)).2.1 + (mE D (i : Int)).2.2 ≤ 17 := by
    intro i hi
    obtain ⟨_, e2, e3, e4, e5, _⟩ := mE_at hD (k := (i : Int)) (by omega) (by omega)
    unfold mEa mEb mEc at e5
    omega
  have e1 : ∀ i : Nat, i < (mSz D).toNat → F (mE D (i : Int)).1 (mE D (i : Int)).2.1 (mE D (i : Int)).2.2 = gs 18 fun a => gs 18 fun b => gs 18 fun c => if mE D (i : Int) = (a, b, c) then F a b c else 0 := by
    intro i hi
    have := bd i hi
    rw [gs_one (k := (mE D (i : Int)).1) (by omega) (fun a _ he => gs_zero fun b _ => gs_zero fun c _ => if_neg fun q => he (by rw [q])), gs_one (k := (mE D (i : Int)).2.1) (by omega) (fun b _ he => gs_zero fun c _ => if_neg fun q => he (by rw [q])), gs_one (k := (mE D (i : Int)).2.2) (by omega) (fun c _ he => if_neg fun q => he (by rw [q]))]
    rw [if_pos rfl]
  rw [gs_congr e1, gs_swap]
  refine gs_congr fun a ha => ?_
  rw [gs_swap]
  refine gs_congr fun b hb => ?_
  rw [gs_swap]
  refine gs_congr fun c hc => ?_
  by_cases q : a + b + c ≤ 17 ∧ (D = 2 → c = 0)
  · rw [if_pos q]
    obtain ⟨m1, m2, m3, m4, m5⟩ := mAt_E hD (a := (a : Int)) (b := (b : Int)) (c := (c : Int)) (by omega) (by omega) (by omega) (by omega) (fun e => by have := q.2 e; omega)
    have em : mE D (mAt D a b c) = (a, b, c) := by
      unfold mEa at m1
      unfold mEb at m2
      unfold mEc at m3
      exact Prod.ext (by omega) (Prod.ext (by show _ = b; omega) (by show _ = c; omega))
    rw [gs_one (k := (mAt D (a : Int) (b : Int) (c : Int)).toNat) (by omega) (fun i hi he => if_neg fun w => he ?_)]
    · rw [show (((mAt D (a : Int) (b : Int) (c : Int)).toNat : Nat) : Int) = mAt D a b c by omega, if_pos em]
    · have x := (mE_at hD (k := (i : Int)) (by omega) (by omega)).1
      unfold mEa mEb mEc at x
      rw [w] at x
      have x' : mAt D (a : Int) (b : Int) (c : Int) = (i : Int) := x
      omega
  · rw [if_neg q]
    refine gs_zero fun i hi => if_neg fun w => q ?_
    have x := mE_at hD (k := (i : Int)) (by omega) (by omega)
    unfold mEa mEb mEc at x
    rw [w] at x
    have x5 : (a : Int) + b + c ≤ 17 := x.2.2.2.2.1
    have x6 : D = 2 → (c : Int) = 0 := x.2.2.2.2.2
    exact ⟨by omega, fun e => by have := x6 e; omega⟩
