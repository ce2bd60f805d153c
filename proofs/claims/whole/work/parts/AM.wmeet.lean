/-! SUMS by places; how many products meet -/
theorem ix_sumR {R : Type} [Lean.Grind.CommRing R] {D : Int} (hD : D = 2 ∨ D = 3) (F : Nat → Nat → Nat → R) : gs (mSz D).toNat (fun i => F (mE D (i : Int)).1 (mE D (i : Int)).2.1 (mE D (i : Int)).2.2) = gs 18 fun a => gs 18 fun b => gs 18 fun c => if a + b + c ≤ 17 ∧ (D = 2 → c = 0) then F a b c else 0 := by
  have bd : ∀ i : Nat, i < (mSz D).toNat → (mE D (i : Int)).1 + (mE D (i : Int)).2.1 + (mE D (i : Int)).2.2 ≤ 17 := by
    intro i hi
    obtain ⟨_, e2, e3, e4, e5, _⟩ := mE_at hD (k := (i : Int)) (by omega) (by omega)
    unfold mEa mEb mEc at e5
    omega
  have e1 : ∀ i : Nat, i < (mSz D).toNat → F (mE D (i : Int)).1 (mE D (i : Int)).2.1 (mE D (i : Int)).2.2 = gs 18 fun a => gs 18 fun b => gs 18 fun c => if mE D (i : Int) = (a, b, c) then F a b c else 0 := by
    intro i hi
    have := bd i hi
    rw [gs_one (k := (mE D (i : Int)).1) (by omega) (fun a _ he => gs_zero fun b _ => gs_zero fun c _ => if_neg fun q => he (by rw [q])), gs_one (k := (mE D (i : Int)).2.1) (by omega) (fun b _ he => gs_zero fun c _ => if_neg fun q => he (by rw [q])), gs_one (k := (mE D (i : Int)).2.2) (by omega) (fun c _ he => if_neg fun q => he (by rw [q]))]
    rw [if_pos rfl]
  rw [gs_congr e1, gs_swap]
  refine gs_congr fun a ha => ?_
  rw [gs_swap]
  refine gs_congr fun b hb => ?_
  rw [gs_swap]
  refine gs_congr fun c hc => ?_
  by_cases q : a + b + c ≤ 17 ∧ (D = 2 → c = 0)
  · rw [if_pos q]
    obtain ⟨m1, m2, m3, m4, m5⟩ := mAt_E hD (a := (a : Int)) (b := (b : Int)) (c := (c : Int)) (by omega) (by omega) (by omega) (by omega) (fun e => by have := q.2 e; omega)
    have em : mE D (mAt D a b c) = (a, b, c) := by
      unfold mEa at m1
      unfold mEb at m2
      unfold mEc at m3
      exact Prod.ext (by omega) (Prod.ext (by show _ = b; omega) (by show _ = c; omega))
    rw [gs_one (k := (mAt D (a : Int) (b : Int) (c : Int)).toNat) (by omega) (fun i hi he => if_neg fun w => he ?_)]
    · rw [show (((mAt D (a : Int) (b : Int) (c : Int)).toNat : Nat) : Int) = mAt D a b c by omega, if_pos em]
    · have x := (mE_at hD (k := (i : Int)) (by omega) (by omega)).1
      unfold mEa mEb mEc at x
      rw [w] at x
      have x' : mAt D (a : Int) (b : Int) (c : Int) = (i : Int) := x
      omega
  · rw [if_neg q]
    refine gs_zero fun i hi => if_neg fun w => q ?_
    have x := mE_at hD (k := (i : Int)) (by omega) (by omega)
    unfold mEa mEb mEc at x
    rw [w] at x
    have x5 : (a : Int) + b + c ≤ 17 := x.2.2.2.2.1
    have x6 : D = 2 → (c : Int) = 0 := x.2.2.2.2.2
    exact ⟨by omega, fun e => by have := x6 e; omega⟩
theorem sg_gs (n : Nat) (f : Nat → Int) : sg n f = gs n f := by
  induction n with
  | zero => rfl
  | succ n ih =>
    show sg n f + f n = gs n f + f n
    rw [ih]
theorem sg_app (n m : Nat) (f : Nat → Int) : sg (n + m) f = sg n f + sg m fun i => f (n + i) := by
  induction m with
  | zero => show sg n f = sg n f + 0; omega
  | succ m ih =>
    show sg (n + m) f + f (n + m) = sg n f + (sg m (fun i => f (n + i)) + f (n + m))
    rw [ih]
    omega
/-- at most one of them counts -/
theorem sg_at1 {n : Nat} {P : Nat → Prop} [DecidablePred P] {f : Nat → Int} {B : Int} (b0 : 0 ≤ B) (hb : ∀ i, i < n → f i ≤ B) (h : ∀ i j, i < n → j < n → P i → P j → i = j) : (sg n fun i => if P i then f i else 0) ≤ B := by
  induction n with
  | zero => exact b0
  | succ n ih =>
    rw [sg_succ]
    by_cases q : P n
    · rw [if_pos q, sg_zero fun i hi => if_neg fun w => by have := h i n (by omega) (by omega) w q; omega]
      have := hb n (by omega)
      omega
    · rw [if_neg q, Int.add_zero]
      exact ih (fun i hi => hb i (by omega)) fun i j hi hj => h i j (by omega) (by omega)
theorem sg_upto {n m : Nat} {X : Int} (x0 : 0 ≤ X) : (sg n fun a => if a ≤ m then X else 0) ≤ ((m : Int) + 1) * X := by
  have h : ∀ n : Nat, (sg n fun a => if a ≤ m then X else 0) ≤ (min n (m + 1) : Nat) * X := by
    intro n
    induction n with
    | zero => show (0 : Int) ≤ ((min 0 (m + 1) : Nat) : Int) * X; rw [Nat.zero_min]; simp
    | succ n ih =>
      rw [sg_succ]
      by_cases q : n ≤ m
      · rw [if_pos q, show min (n + 1) (m + 1) = min n (m + 1) + 1 by omega, show ((min n (m + 1) + 1 : Nat) : Int) = ((min n (m + 1) : Nat) : Int) + 1 by omega, Int.add_mul, Int.one_mul]
        omega
      · rw [if_neg q, show min (n + 1) (m + 1) = min n (m + 1) by omega]
        omega
  refine Int.le_trans (h n) ?_
  have := Int.mul_le_mul_of_nonneg_right (show ((min n (m + 1) : Nat) : Int) ≤ (m : Int) + 1 by omega) x0
  exact this
theorem c216 : ∀ a b c : Fin 16, a.val + b.val + c.val ≤ 15 → (a.val + 1) * ((b.val + 1) * (c.val + 1)) ≤ 216 := by decide +kernel
theorem sg_sum3 {N : Nat} {D : Int} {a b c : Nat} (h : a + b + c ≤ 15) : (sg N fun x => sg N fun y => sg N fun w => if x + y + w ≤ 17 ∧ (D = 2 → w = 0) then (if x ≤ a ∧ y ≤ b ∧ w ≤ c then (1 : Int) else 0) else 0) ≤ 216 := by
  have i3 : ∀ x y : Nat, (sg N fun w => if x + y + w ≤ 17 ∧ (D = 2 → w = 0) then (if x ≤ a ∧ y ≤ b ∧ w ≤ c then (1 : Int) else 0) else 0) ≤ if x ≤ a then (if y ≤ b then (c : Int) + 1 else 0) else 0 := by
    intro x y
    have le : ∀ (f g : Nat → Int), (∀ i, i < N → f i ≤ g i) → sg N f ≤ sg N g := by
      intro f g
      generalize N = n
      induction n with
      | zero => intro _; exact Int.le_refl _
      | succ n ih =>
        intro h
        rw [sg_succ, sg_succ]
        have := ih fun i hi => h i (by omega)
        have := h n (by omega)
        omega
    by_cases q : x ≤ a ∧ y ≤ b
    · rw [if_pos q.1, if_pos q.2]
      refine Int.le_trans (le _ (fun w => if w ≤ c then 1 else 0) fun w _ => ?_) (Int.le_trans (sg_upto (X := 1) (by decide)) (by omega))
      by_cases r : w ≤ c
      · rw [if_pos r]; split <;> (try split) <;> omega
      · rw [if_neg r, if_neg (show ¬ (x ≤ a ∧ y ≤ b ∧ w ≤ c) by omega), ite_self]; exact Int.le_refl _
    · rw [sg_zero fun w _ => by rw [if_neg (show ¬ (x ≤ a ∧ y ≤ b ∧ w ≤ c) by omega), ite_self]]
      split <;> (try split) <;> omega
  have le : ∀ (f g : Nat → Int), (∀ i, i < N → f i ≤ g i) → sg N f ≤ sg N g := by
    intro f g
    generalize N = n
    induction n with
    | zero => intro _; exact Int.le_refl _
    | succ n ih =>
      intro h
      rw [sg_succ, sg_succ]
      have := ih fun i hi => h i (by omega)
      have := h n (by omega)
      omega
  have i2 : ∀ x : Nat, (sg N fun y => sg N fun w => if x + y + w ≤ 17 ∧ (D = 2 → w = 0) then (if x ≤ a ∧ y ≤ b ∧ w ≤ c then (1 : Int) else 0) else 0) ≤ if x ≤ a then ((b : Int) + 1) * ((c : Int) + 1) else 0 := by
    intro x
    refine Int.le_trans (le _ _ fun y _ => i3 x y) ?_
    by_cases q : x ≤ a
    · rw [if_pos q]
      have e : (fun y => if x ≤ a then (if y ≤ b then (c : Int) + 1 else 0) else 0) = fun y => if y ≤ b then (c : Int) + 1 else 0 := by funext y; rw [if_pos q]
      rw [e]
      exact sg_upto (by omega)
    · rw [if_neg q, sg_zero fun y _ => if_neg q]
      exact Int.le_refl _
  refine Int.le_trans (le _ _ fun x _ => i2 x) (Int.le_trans (sg_upto (Int.mul_nonneg (by omega) (by omega))) ?_)
  have := c216 ⟨a, by omega⟩ ⟨b, by omega⟩ ⟨c, by omega⟩ h
  have e : ((a : Int) + 1) * (((b : Int) + 1) * ((c : Int) + 1)) = (((a + 1) * ((b + 1) * (c + 1)) : Nat) : Int) := by simp
  rw [e]
  exact Int.ofNat_le.mpr this
theorem gs_sg (f : Nat → Int) (n : Nat) : gs n f = sg n f := (sg_gs n f).symm
/-- how many places divide one of degree at most 15 -/
theorem dv_cnt {D : Int} (hD : D = 2 ∨ D = 3) {k : Int} (k0 : 0 ≤ k) (k1 : k < mSz D) (kd : mDg D k ≤ 15) : (sg (mSz D).toNat fun i => if (mE D (i : Int)).1 ≤ (mE D k).1 ∧ (mE D (i : Int)).2.1 ≤ (mE D k).2.1 ∧ (mE D (i : Int)).2.2 ≤ (mE D k).2.2 then (1 : Int) else 0) ≤ 216 := by
  have := ix_sumR hD (R := Int) fun x y w => if x ≤ (mE D k).1 ∧ y ≤ (mE D k).2.1 ∧ w ≤ (mE D k).2.2 then (1 : Int) else 0
  rw [gs_sg] at this
  rw [this]
  have e : (gs 18 fun a => gs 18 fun b => gs 18 fun c => if a + b + c ≤ 17 ∧ (D = 2 → c = 0) then (if a ≤ (mE D k).1 ∧ b ≤ (mE D k).2.1 ∧ c ≤ (mE D k).2.2 then (1 : Int) else 0) else 0) = sg 18 fun a => sg 18 fun b => sg 18 fun c => if a + b + c ≤ 17 ∧ (D = 2 → c = 0) then (if a ≤ (mE D k).1 ∧ b ≤ (mE D k).2.1 ∧ c ≤ (mE D k).2.2 then (1 : Int) else 0) else 0 := by
    rw [gs_sg]
    refine sg_congr fun a _ => ?_
    rw [gs_sg]
    refine sg_congr fun b _ => ?_
    rw [gs_sg]
  rw [e]
  unfold mDg mEa mEb mEc at kd
  exact sg_sum3 (by omega)
/-- what meets at one place stays small -/
theorem pTo_bd {D : Int} (hD : D = 2 ∨ D = 3) {v w : Int → Int} (ov : okR v) (ow : okR w) {P Q : Int} (P0 : 0 ≤ P) (Q0 : 0 ≤ Q) (PQ : P + Q ≤ 15) {k : Int} (k0 : 0 ≤ k) (k1 : k < mFrom D 16) : pTo D v 0 w 0 (mFrom D (P + 1)).toNat (mFrom D (Q + 1)).toNat k ≤ 1371686400 := by
  obtain ⟨s1, s2, s3⟩ := m16_bd hD
  have kd : mDg D k ≤ 15 := (mDg_lt hD (k := k) (t := 15) k0 (by omega) (by decide)).mp (by rw [show (15 : Int) + 1 = 16 by decide]; exact k1)
  have fp := mFrom_mono D (s := P + 1) (t := 16) (by omega) (by omega)
  have fq := mFrom_mono D (s := Q + 1) (t := 16) (by omega) (by omega)
  have p0 := (mFrom_bd D (t := P + 1) (by omega) (by omega)).1
  have q0 := (mFrom_bd D (t := Q + 1) (by omega) (by omega)).1
  have dgP : ∀ i : Nat, i < (mFrom D (P + 1)).toNat → mDg D (i : Int) ≤ P := fun i hi => (mDg_lt hD (k := (i : Int)) (t := P) (by omega) (by omega) P0).mp (by omega)
  have dgQ : ∀ i : Nat, i < (mFrom D (Q + 1)).toNat → mDg D (i : Int) ≤ Q := fun i hi => (mDg_lt hD (k := (i : Int)) (t := Q) (by omega) (by omega) Q0).mp (by omega)
  have vb : ∀ i j : Int, v i * w j ≤ 6350400 := fun i j => by
    have a := ov i
    have b := ow j
    have := mul_bd (x := v i) (y := w j) (X := 2520) (Y := 2520) (by omega) (by omega) (by omega) (by omega)
    omega
  have row : ∀ i : Nat, i < (mFrom D (P + 1)).toNat → (sg (mFrom D (Q + 1)).toNat fun j => if mIx D (i : Int) (j : Int) = k then v (0 + (i : Int)) * w (0 + (j : Int)) else 0) ≤ 6350400 * (if (mE D (i : Int)).1 ≤ (mE D k).1 ∧ (mE D (i : Int)).2.1 ≤ (mE D k).2.1 ∧ (mE D (i : Int)).2.2 ≤ (mE D k).2.2 then (1 : Int) else 0) := by
    intro i hi
    have di := dgP i hi
    by_cases q : (mE D (i : Int)).1 ≤ (mE D k).1 ∧ (mE D (i : Int)).2.1 ≤ (mE D k).2.1 ∧ (mE D (i : Int)).2.2 ≤ (mE D k).2.2
    · rw [if_pos q]
      refine Int.le_trans (sg_at1 (P := fun j : Nat => mIx D (i : Int) (j : Int) = k) (B := 6350400) (by decide) (fun j _ => vb _ _) fun j j' hj hj' e e' => ?_) (by decide)
      have dj := dgQ j hj
      have dj' := dgQ j' hj'
      obtain ⟨x1, x2, x3, x4, x5⟩ := mIx_E hD (i := (i : Int)) (j := (j : Int)) (by omega) (by omega) (by omega) (by omega) (by omega)
      obtain ⟨y1, y2, y3, y4, y5⟩ := mIx_E hD (i := (i : Int)) (j := (j' : Int)) (by omega) (by omega) (by omega) (by omega) (by omega)
      rw [e] at x1 x2 x3
      rw [e'] at y1 y2 y3
      have a := (mE_at hD (k := (j : Int)) (by omega) (by omega)).1
      have b := (mE_at hD (k := (j' : Int)) (by omega) (by omega)).1
      rw [show mEa D (j : Int) = mEa D (j' : Int) by omega, show mEb D (j : Int) = mEb D (j' : Int) by omega, show mEc D (j : Int) = mEc D (j' : Int) by omega, b] at a
      omega
    · rw [if_neg q, sg_zero fun j hj => if_neg fun e => q ?_]
      · decide
      · have dj := dgQ j hj
        obtain ⟨x1, x2, x3, x4, x5⟩ := mIx_E hD (i := (i : Int)) (j := (j : Int)) (by omega) (by omega) (by omega) (by omega) (by omega)
        rw [e] at x1 x2 x3
        unfold mEa at x1
        unfold mEb at x2
        unfold mEc at x3
        omega
  have le : ∀ (n : Nat) (f g : Nat → Int), (∀ i, i < n → f i ≤ g i) → sg n f ≤ sg n g := by
    intro n f g
    induction n with
    | zero => intro _; exact Int.le_refl _
    | succ n ih =>
      intro h
      rw [sg_succ, sg_succ]
      have := ih fun i hi => h i (by omega)
      have := h n (by omega)
      omega
  have a1 := le (mFrom D (P + 1)).toNat _ _ row
  rw [sg_mul] at a1
  have a2 := sg_mono (f := fun i : Nat => if (mE D (i : Int)).1 ≤ (mE D k).1 ∧ (mE D (i : Int)).2.1 ≤ (mE D k).2.1 ∧ (mE D (i : Int)).2.2 ≤ (mE D k).2.2 then (1 : Int) else 0) (n := (mFrom D (P + 1)).toNat) (m := (mSz D).toNat) (by omega) fun i _ => by split <;> omega
  have a3 := dv_cnt hD k0 (by omega) kd
  unfold pTo
  omega
