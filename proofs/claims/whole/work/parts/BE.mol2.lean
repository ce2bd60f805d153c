/-! TRACES: the recurrence -/
theorem mo_g4 {R : Type} [Lean.Grind.CommRing R] (a q w : Nat → Nat → R) (h : R) : gs 3 (fun i => gs 3 fun j => ((if i = j then h else 0) + gs 3 fun k => a j k * q i k) * w j i) = h * gs 3 (fun i => w i i) + gs 3 (fun i => gs 3 fun k => q i k * gs 3 fun j => a j k * w j i) := by
  simp [gs]
  grind
theorem mo_g5 {R : Type} [Lean.Grind.CommRing R] (w : Nat → Nat → R) : gs 3 (fun i => gs 3 fun k => ((if i = k then 1 else 0) + 0) * w k i) = gs 3 (fun i => w i i) := by
  simp [gs]
  grind
theorem mo_g6 {R : Type} [Lean.Grind.CommRing R] (a q : Nat → Nat → R) : gs 3 (fun i => gs 3 fun k => q i k * gs 3 fun j => a j k * (if j = i then 1 else 0)) = gs 3 (fun i => gs 3 fun k => a i k * q i k) := by
  simp [gs]
  grind
def mW3 {R : Type} [Lean.Grind.CommRing R] (a : Nat → Nat → R) : Nat → Nat → Nat → R
  | 0 => fun k i => if k = i then 1 else 0
  | m + 1 => fun k i => gs 3 fun j => a j k * mW3 a m j i
def mP3 {R : Type} [Lean.Grind.CommRing R] (a : Nat → Nat → R) (m : Nat) : R := gs 3 fun i => mW3 a m i i
def mE1 {R : Type} [Lean.Grind.CommRing R] (a : Nat → Nat → R) : R := a 0 0 + a 1 1 + a 2 2
def mE2 {R : Type} [Lean.Grind.CommRing R] (a : Nat → Nat → R) : R := a 0 0 * a 1 1 - a 0 1 * a 1 0 + (a 0 0 * a 2 2 - a 0 2 * a 2 0) + (a 1 1 * a 2 2 - a 1 2 * a 2 1)
def mE3 {R : Type} [Lean.Grind.CommRing R] (a : Nat → Nat → R) : R := a 0 0 * (a 1 1 * a 2 2 - a 1 2 * a 2 1) + a 0 1 * (a 1 2 * a 2 0 - a 1 0 * a 2 2) + a 0 2 * (a 1 0 * a 2 1 - a 1 1 * a 2 0)
theorem mo_ch {R : Type} [Lean.Grind.CommRing R] (a : Nat → Nat → R) (x : Nat → R) (k : Nat) (hk : k = 0 ∨ k = 1 ∨ k = 2) : gs 3 (fun j => a j k * gs 3 fun l => a l j * gs 3 fun m => a m l * x m) = mE1 a * gs 3 (fun j => a j k * gs 3 fun l => a l j * x l) - mE2 a * gs 3 (fun j => a j k * x j) + mE3 a * x k := by
  unfold mE1 mE2 mE3
  rcases hk with e | e | e <;> subst e <;> simp [gs] <;> grind
theorem mP_rec {R : Type} [Lean.Grind.CommRing R] (a : Nat → Nat → R) (m : Nat) : mP3 a (m + 3) = mE1 a * mP3 a (m + 2) - mE2 a * mP3 a (m + 1) + mE3 a * mP3 a m := by
  have e : ∀ i, i < 3 → mW3 a (m + 3) i i = mE1 a * mW3 a (m + 2) i i - mE2 a * mW3 a (m + 1) i i + mE3 a * mW3 a m i i := fun i hi => mo_ch a (fun j => mW3 a m j i) i (by omega)
  unfold mP3
  show 0 + mW3 a (m + 3) 0 0 + mW3 a (m + 3) 1 1 + mW3 a (m + 3) 2 2 = mE1 a * (0 + mW3 a (m + 2) 0 0 + mW3 a (m + 2) 1 1 + mW3 a (m + 2) 2 2) - mE2 a * (0 + mW3 a (m + 1) 0 0 + mW3 a (m + 1) 1 1 + mW3 a (m + 1) 2 2) + mE3 a * (0 + mW3 a m 0 0 + mW3 a m 1 1 + mW3 a m 2 2)
  rw [e 0 (by decide), e 1 (by decide), e 2 (by decide)]
  generalize mW3 a (m + 2) 0 0 = x0
  generalize mW3 a (m + 2) 1 1 = x1
  generalize mW3 a (m + 2) 2 2 = x2
  generalize mW3 a (m + 1) 0 0 = y0
  generalize mW3 a (m + 1) 1 1 = y1
  generalize mW3 a (m + 1) 2 2 = y2
  generalize mW3 a m 0 0 = z0
  generalize mW3 a m 1 1 = z1
  generalize mW3 a m 2 2 = z2
  generalize mE1 a = e1
  generalize mE2 a = e2
  generalize mE3 a = e3
  clear e
  grind
theorem mP_0 {R : Type} [Lean.Grind.CommRing R] (a : Nat → Nat → R) : mP3 a 0 = 3 := by
  show (0 : R) + 1 + 1 + 1 = 3
  grind
theorem mP_1 {R : Type} [Lean.Grind.CommRing R] (a : Nat → Nat → R) : mP3 a 1 = mE1 a := by
  unfold mP3 mE1
  simp [gs, mW3]
  grind
theorem mP_2 {R : Type} [Lean.Grind.CommRing R] (a : Nat → Nat → R) : mP3 a 2 = mE1 a * mE1 a - 2 * mE2 a := by
  unfold mP3 mE1 mE2
  simp [gs, mW3]
  grind
/-- the trace on degree t, behind three that are 0 -/
def hH (A : cMat) (n : Nat) : cF := if n < 3 then 0 else hT A (n - 3)
def qT (A : cMat) (t i k : Nat) : cF := (if i = k then hT A t else 0) + mT A t i k
def yT (A : cMat) (t m : Nat) : cF := gs 3 fun i => gs 3 fun k => qT A t i k * mW3 A m k i
def yY (A : cMat) (n m : Nat) : cF := if n < 3 then 0 else yT A (n - 3) m
theorem yT_succ (A : cMat) {t : Nat} (ht : t + 1 ≤ 16) (m : Nat) : yT A (t + 1) m = hT A (t + 1) * mP3 A m + yT A t (m + 1) := by
  have e : yT A (t + 1) m = gs 3 fun i => gs 3 fun j => ((if i = j then hT A (t + 1) else 0) + gs 3 fun k => A j k * qT A t i k) * mW3 A m j i := gs_congr fun i hi => gs_congr fun j hj => by
    unfold qT
    rw [mT_succ A ht hi hj]
  rw [e, mo_g4]
  rfl
theorem yT_0 (A : cMat) (m : Nat) : yT A 0 m = mP3 A m := by
  have e : yT A 0 m = gs 3 fun i => gs 3 fun k => ((if i = k then 1 else 0) + 0) * mW3 A m k i := gs_congr fun i hi => gs_congr fun k hk => by
    unfold qT
    rw [hT_0, mT_0 A hi]
  rw [e, mo_g5]
  rfl
theorem yT_1 (A : cMat) {t : Nat} (ht : t + 1 ≤ 16) : yT A t 1 = toF ((t + 1 : Nat) : Int) * hT A (t + 1) := by
  rw [← mT_euler]
  have e : gs 3 (fun i => mT A (t + 1) i i) = gs 3 fun i => gs 3 fun k => A i k * qT A t i k := gs_congr fun i hi => mT_succ A ht hi hi
  rw [e, ← mo_g6]
  rfl
theorem yY_succ (A : cMat) {n : Nat} (hn : n + 1 ≤ 19) (m : Nat) : yY A (n + 1) m = hH A (n + 1) * mP3 A m + yY A n (m + 1) := by
  unfold yY hH
  by_cases q : n + 1 < 3
  · rw [if_pos q, if_pos q, if_pos (by omega), gs_z1, cr_00]
  · rw [if_neg q, if_neg q]
    by_cases w : n < 3
    · rw [if_pos w, show n + 1 - 3 = 0 by omega, yT_0, hT_0, gs_z2, cr_a0]
    · rw [if_neg w, show n + 1 - 3 = (n - 3) + 1 by omega, yT_succ A (by omega)]
theorem yY_1 (A : cMat) {n : Nat} (hn : n ≤ 18) : yY A n 1 = toF ((n : Int) - 2) * hH A (n + 1) := by
  unfold yY hH
  by_cases q : n < 3
  · rw [if_pos q]
    by_cases w : n + 1 < 3
    · rw [if_pos w, gs_z3]
    · rw [if_neg w, show (n : Int) - 2 = 0 by omega, toF_zero, gs_z1]
  · rw [if_neg q, if_neg (by omega), yT_1 A (by omega), show ((n - 3 + 1 : Nat) : Int) = (n : Int) - 2 by omega, show n + 1 - 3 = n - 3 + 1 by omega]
theorem mo_g7 {R : Type} [Lean.Grind.CommRing R] (e1 e2 e3 h0 h1 h2 h3 p a0 a1 a2 a3 : R) (r : h3 = e1 * h2 - e2 * h1 + e3 * h0) : (h3 * p + a3) - e1 * (h2 * p + a2) + e2 * (h1 * p + a1) - e3 * (h0 * p + a0) = a3 - e1 * a2 + e2 * a1 - e3 * a0 := by grind
theorem mo_g8 {R : Type} [Lean.Grind.CommRing R] (e1 e2 e3 p : R) : p - e1 * 0 + e2 * 0 - e3 * 0 = p := by grind
/-- as long as the recurrence holds -/
theorem vT_eq (A : cMat) : ∀ t m : Nat, t ≤ 16 → (∀ j, 1 ≤ j → j ≤ t → hH A (j + 3) = mE1 A * hH A (j + 2) - mE2 A * hH A (j + 1) + mE3 A * hH A j) → yY A (t + 3) m - mE1 A * yY A (t + 2) m + mE2 A * yY A (t + 1) m - mE3 A * yY A t m = mP3 A (m + t) := by
  intro t
  induction t with
  | zero =>
    intro m _ _
    have e3 : yY A (0 + 3) m = mP3 A m := yT_0 A m
    have e2 : yY A (0 + 2) m = 0 := rfl
    have e1 : yY A (0 + 1) m = 0 := rfl
    have e0 : yY A 0 m = 0 := rfl
    rw [e3, e2, e1, e0]
    exact mo_g8 _ _ _ _
  | succ t ih =>
    intro m ht hr
    have r := hr (t + 1) (by omega) (Nat.le_refl _)
    have y3 : yY A (t + 1 + 3) m = hH A (t + 1 + 3) * mP3 A m + yY A (t + 3) (m + 1) := yY_succ A (n := t + 3) (by omega) m
    have y2 : yY A (t + 1 + 2) m = hH A (t + 1 + 2) * mP3 A m + yY A (t + 2) (m + 1) := yY_succ A (n := t + 2) (by omega) m
    have y1 : yY A (t + 1 + 1) m = hH A (t + 1 + 1) * mP3 A m + yY A (t + 1) (m + 1) := yY_succ A (n := t + 1) (by omega) m
    have y0 : yY A (t + 1) m = hH A (t + 1) * mP3 A m + yY A t (m + 1) := yY_succ A (n := t) (by omega) m
    have v := ih (m + 1) (by omega) fun j a b => hr j a (by omega)
    rw [y3, y2, y1, y0, mo_g7 _ _ _ _ _ _ _ _ _ _ _ _ r, v, show m + 1 + t = m + (t + 1) by omega]
theorem mo_g9 {R : Type} [Lean.Grind.CommRing R] {e1 e2 e3 h1 h2 h3 h4 t p : R} (v : (t + 1) * h4 - e1 * (t * h3) + e2 * ((t - 1) * h2) - e3 * ((t - 2) * h1) = p) (w : p = e1 * h3 - 2 * e2 * h2 + 3 * e3 * h1) : (t + 1) * (h4 - (e1 * h3 - e2 * h2 + e3 * h1)) = 0 := by grind
theorem mo_g15 {R : Type} [Lean.Grind.CommRing R] (e1 e2 e3 h0 h1 h2 h3 h4 : R) : e1 * (e1 * h4 - 2 * e2 * h3 + 3 * e3 * h2) - e2 * (e1 * h3 - 2 * e2 * h2 + 3 * e3 * h1) + e3 * (e1 * h2 - 2 * e2 * h1 + 3 * e3 * h0) = e1 * (e1 * h4 - e2 * h3 + e3 * h2) - 2 * e2 * (e1 * h3 - e2 * h2 + e3 * h1) + 3 * e3 * (e1 * h2 - e2 * h1 + e3 * h0) := by grind
theorem mo_g10 {R : Type} [Lean.Grind.CommRing R] {e1 e2 e3 h0 h1 h2 h3 h4 h5 p1 p2 p3 p4 : R} (q : p4 = e1 * p3 - e2 * p2 + e3 * p1) (w3 : p3 = e1 * h4 - 2 * e2 * h3 + 3 * e3 * h2) (w2 : p2 = e1 * h3 - 2 * e2 * h2 + 3 * e3 * h1) (w1 : p1 = e1 * h2 - 2 * e2 * h1 + 3 * e3 * h0) (r3 : h5 = e1 * h4 - e2 * h3 + e3 * h2) (r2 : h4 = e1 * h3 - e2 * h2 + e3 * h1) (r1 : h3 = e1 * h2 - e2 * h1 + e3 * h0) : p4 = e1 * h5 - 2 * e2 * h4 + 3 * e3 * h3 := by
  rw [q, w3, w2, w1, mo_g15, ← r3, ← r2, ← r1]
theorem mo_g11 {R : Type} [Lean.Grind.CommRing R] (e1 e2 e3 : R) : e1 = e1 * 1 - 2 * e2 * 0 + 3 * e3 * 0 := by grind
theorem mo_g12 {R : Type} [Lean.Grind.CommRing R] (e1 e2 e3 : R) : e1 * e1 - 2 * e2 = e1 * (e1 * 1 - e2 * 0 + e3 * 0) - 2 * e2 * 1 + 3 * e3 * 0 := by grind
theorem mo_g13 {R : Type} [Lean.Grind.CommRing R] (e1 e2 e3 : R) : e1 * (e1 * e1 - 2 * e2) - e2 * e1 + e3 * 3 = e1 * (e1 * (e1 * 1 - e2 * 0 + e3 * 0) - e2 * 1 + e3 * 0) - 2 * e2 * (e1 * 1 - e2 * 0 + e3 * 0) + 3 * e3 * 1 := by grind
theorem mo_g14 {R : Type} [Lean.Grind.CommRing R] {a b : R} (h : a - b = 0) : a = b := by grind
theorem hT_rec (A : cMat) : ∀ t : Nat, t ≤ 15 → (∀ j, 1 ≤ j → j ≤ t → hH A (j + 3) = mE1 A * hH A (j + 2) - mE2 A * hH A (j + 1) + mE3 A * hH A j) ∧ ∀ j, 1 ≤ j → j ≤ t → mP3 A j = mE1 A * hH A (j + 2) - 2 * mE2 A * hH A (j + 1) + 3 * mE3 A * hH A j := by
  intro t
  induction t with
  | zero => intro _; exact ⟨fun j a b => by omega, fun j a b => by omega⟩
  | succ t ih =>
    intro ht
    obtain ⟨hr, hp⟩ := ih (by omega)
    have h3 : hH A 3 = 1 := hT_0 A
    have h2 : hH A 2 = 0 := rfl
    have h1 : hH A 1 = 0 := rfl
    have h0 : hH A 0 = 0 := rfl
    have new : mP3 A (t + 1) = mE1 A * hH A (t + 1 + 2) - 2 * mE2 A * hH A (t + 1 + 1) + 3 * mE3 A * hH A (t + 1) := by
      by_cases t0 : t = 0
      · subst t0
        rw [mP_1]
        show mE1 A = mE1 A * hH A 3 - 2 * mE2 A * hH A 2 + 3 * mE3 A * hH A 1
        rw [h3, h2, h1]
        exact mo_g11 _ _ _
      · by_cases t1 : t = 1
        · subst t1
          have r1 := hr 1 (by decide) (by decide)
          rw [mP_2]
          show _ = mE1 A * hH A 4 - 2 * mE2 A * hH A 3 + 3 * mE3 A * hH A 2
          have r1' : hH A 4 = mE1 A * hH A 3 - mE2 A * hH A 2 + mE3 A * hH A 1 := r1
          rw [r1', h3, h2, h1]
          exact mo_g12 _ _ _
        · by_cases t2 : t = 2
          · subst t2
            have r1 : hH A 4 = mE1 A * hH A 3 - mE2 A * hH A 2 + mE3 A * hH A 1 := hr 1 (by decide) (by decide)
            have r2 : hH A 5 = mE1 A * hH A 4 - mE2 A * hH A 3 + mE3 A * hH A 2 := hr 2 (by decide) (by decide)
            rw [show 2 + 1 = 0 + 3 from rfl, mP_rec, show 0 + 2 = 2 from rfl, show 0 + 1 = 1 from rfl, mP_0, mP_1, mP_2]
            show _ = mE1 A * hH A 5 - 2 * mE2 A * hH A 4 + 3 * mE3 A * hH A 3
            rw [r2, r1, h3, h2, h1]
            exact mo_g13 _ _ _
          · obtain ⟨s, es⟩ : ∃ s, t = s + 3 := ⟨t - 3, by omega⟩
            subst es
            have q := mP_rec A (s + 1)
            rw [show s + 1 + 3 = s + 3 + 1 by omega, show s + 1 + 2 = s + 3 by omega, show s + 1 + 1 = s + 2 by omega] at q
            have w3 := hp (s + 3) (by omega) (by omega)
            have w2 := hp (s + 2) (by omega) (by omega)
            have w1 := hp (s + 1) (by omega) (by omega)
            have r3 := hr (s + 3) (by omega) (by omega)
            have r2 := hr (s + 2) (by omega) (by omega)
            have r1 := hr (s + 1) (by omega) (by omega)
            rw [show s + 3 + 2 = s + 5 by omega, show s + 3 + 1 = s + 4 by omega] at w3
            rw [show s + 2 + 2 = s + 4 by omega, show s + 2 + 1 = s + 3 by omega] at w2
            rw [show s + 1 + 2 = s + 3 by omega, show s + 1 + 1 = s + 2 by omega] at w1
            rw [show s + 3 + 3 = s + 6 by omega, show s + 3 + 2 = s + 5 by omega, show s + 3 + 1 = s + 4 by omega] at r3
            rw [show s + 2 + 3 = s + 5 by omega, show s + 2 + 2 = s + 4 by omega, show s + 2 + 1 = s + 3 by omega] at r2
            rw [show s + 1 + 3 = s + 4 by omega, show s + 1 + 2 = s + 3 by omega, show s + 1 + 1 = s + 2 by omega] at r1
            rw [show s + 3 + 1 + 2 = s + 6 by omega, show s + 3 + 1 + 1 = s + 5 by omega, show s + 3 + 1 = s + 4 by omega]
            rw [show s + 3 + 1 = s + 4 by omega] at q
            exact mo_g10 q w3 w2 w1 r3 r2 r1
    have rec_ : hH A (t + 1 + 3) = mE1 A * hH A (t + 1 + 2) - mE2 A * hH A (t + 1 + 1) + mE3 A * hH A (t + 1) := by
      have v := vT_eq A t 1 (by omega) hr
      rw [yY_1 A (by omega), yY_1 A (by omega), yY_1 A (n := t + 1) (by omega), yY_1 A (n := t) (by omega), show (((t + 3 : Nat) : Int) - 2) = (t : Int) + 1 by omega, show (((t + 2 : Nat) : Int) - 2) = (t : Int) by omega, show (((t + 1 : Nat) : Int) - 2) = (t : Int) - 1 by omega, toF_add, toF_sub, toF_sub, toF_one, show toF 2 = 2 from rfl, show 1 + t = t + 1 by omega] at v
      have z := mo_g9 v new
      have nz : toF (t : Int) + 1 ≠ 0 := by
        rw [← toF_one, ← toF_add]
        intro w
        have := (toF_eq (x := (t : Int) + 1) (y := 0)).mp w
        omega
      rcases fmul_eq_zero z with w | w
      · exact absurd w nz
      · exact mo_g14 w
    refine ⟨fun j a b => ?_, fun j a b => ?_⟩
    · by_cases w : j = t + 1
      · rw [w]; exact rec_
      · exact hr j a (by omega)
    · by_cases w : j = t + 1
      · rw [w]; exact new
      · exact hp j a (by omega)
