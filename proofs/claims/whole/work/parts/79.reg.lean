/-! REGULAR: three elements whose relations are the plain ones, in a graded ring; what is apart from them times their powers is free -/
section REG
variable {R : Type}
theorem rg_1 [Lean.Grind.CommRing R] (t1 t3 v w a b : R) : t1 * a - t3 * (t1 * b) = t1 * (a - t3 * b) := by grind
theorem rg_2 [Lean.Grind.CommRing R] {a b : R} (h : 0 = a - b) : a = b := by grind
theorem rg_3 [Lean.Grind.CommRing R] {a b c e : R} (h : 0 = a * b - c * e) : c * (- e) + a * b = 0 := by grind
theorem rg_4 [Lean.Grind.CommRing R] (a b : R) : a - b = a + - b := by grind
theorem rg_5 [Lean.Grind.CommRing R] (a : R) : a * 0 = 0 := by grind
theorem rg_6 [Lean.Grind.CommRing R] (a b c : R) (h : a * b = c) : a * b + 0 * 0 = c + 0 * 0 := by rw [h]
theorem reg2a [Lean.Grind.CommRing R] {t1 t2 t3 : R} {d1 d3 : Nat} (H : Nat → R → R) (Hadd : ∀ n a b, H n (a + b) = H n a + H n b) (Hneg : ∀ n a, H n (- a) = - H n a) (T1 : ∀ n P, H (d1 + n) (t1 * P) = t1 * H n P) (T1l : ∀ n P, n < d1 → H n (t1 * P) = 0) (T3 : ∀ n P, H (d3 + n) (t3 * P) = t3 * H n P) (T3l : ∀ n P, n < d3 → H n (t3 * P) = 0) (p3 : 1 ≤ d3) (kz : ∀ u1 u2 u3, t1 * u1 + t2 * u2 + t3 * u3 = 0 → ∃ w1 w2 w3, u1 = t3 * w2 - t2 * w3 ∧ u2 = t1 * w3 - t3 * w1 ∧ u3 = t2 * w1 - t1 * w2) : ∀ (n : Nat) (u1 u2 : R), t1 * u1 + t2 * u2 = 0 → ∃ v, H n u2 = t1 * v := by
  intro n
  induction n using Nat.strongRecOn with
  | _ n ih =>
    intro u1 u2 h
    obtain ⟨w1, w2, w3, e1, e2, e3⟩ := kz u1 u2 0 (by rw [h, rg_5]; exact Lean.Grind.Semiring.add_zero 0)
    have a : ∃ x, H n (t1 * w3) = t1 * x := by
      by_cases q : n < d1
      · exact ⟨0, by rw [T1l n w3 q, rg_5]⟩
      · refine ⟨H (n - d1) w3, ?_⟩
        have := T1 (n - d1) w3
        rw [show d1 + (n - d1) = n by omega] at this
        exact this
    have b : ∃ x, H n (t3 * w1) = t3 * (t1 * x) := by
      by_cases q : n < d3
      · exact ⟨0, by rw [T3l n w1 q, rg_5, rg_5]⟩
      · obtain ⟨x, hx⟩ := ih (n - d3) (by omega) (- w2) w1 (rg_3 e3)
        refine ⟨x, ?_⟩
        have := T3 (n - d3) w1
        rw [show d3 + (n - d3) = n by omega, hx] at this
        exact this
    obtain ⟨x, hx⟩ := a
    obtain ⟨y, hy⟩ := b
    refine ⟨x - t3 * y, ?_⟩
    rw [e2, rg_4, Hadd, Hneg, hx, hy, ← rg_4]
    exact rg_1 t1 t3 0 0 x y
theorem reg2b [Lean.Grind.CommRing R] {t1 t2 t3 : R} {d1 d3 : Nat} (H : Nat → R → R) (Hadd : ∀ n a b, H n (a + b) = H n a + H n b) (Hneg : ∀ n a, H n (- a) = - H n a) (HH : ∀ n a, H n (H n a) = H n a) (Hext : ∀ a b, (∀ n, H n a = H n b) → a = b) (Hall : ∀ V : Nat → R, ∃ v, ∀ n, H n v = H n (V n)) (T1 : ∀ n P, H (d1 + n) (t1 * P) = t1 * H n P) (T1l : ∀ n P, n < d1 → H n (t1 * P) = 0) (T3 : ∀ n P, H (d3 + n) (t3 * P) = t3 * H n P) (T3l : ∀ n P, n < d3 → H n (t3 * P) = 0) (p3 : 1 ≤ d3) (kz : ∀ u1 u2 u3, t1 * u1 + t2 * u2 + t3 * u3 = 0 → ∃ w1 w2 w3, u1 = t3 * w2 - t2 * w3 ∧ u2 = t1 * w3 - t3 * w1 ∧ u3 = t2 * w1 - t1 * w2) (u1 u2 : R) (h : t1 * u1 + t2 * u2 = 0) : ∃ v, u2 = t1 * v := by
  have part := fun n => reg2a H Hadd Hneg T1 T1l T3 T3l p3 kz n u1 u2 h
  have ex : ∃ V : Nat → R, ∀ n, H n u2 = t1 * V n := ⟨fun n => Classical.choose (part n), fun n => Classical.choose_spec (part n)⟩
  obtain ⟨V, hV⟩ := ex
  obtain ⟨v, hv⟩ := Hall fun n => V (d1 + n)
  refine ⟨v, Hext _ _ fun n => ?_⟩
  by_cases q : n < d1
  · rw [T1l n v q, ← HH n u2, hV n, T1l n _ q]
  · have e : n = d1 + (n - d1) := by omega
    rw [e, T1, hv, ← HH _ u2, hV, T1]
theorem ind_1 [Lean.Grind.CommRing R] (a b c e : R) : a * b + c * e - (a * b + c * e) = 0 := by grind
/-- sums of powers of three elements with what is apart from them -/
theorem indep3 [Lean.Grind.CommRing R] {t1 t2 t3 : R} (r1 : ∀ u, t1 * u = 0 → u = 0) (r2 : ∀ u v, t2 * u = t1 * v → ∃ w, u = t1 * w) (r3 : ∀ u v w, t3 * u = t1 * v + t2 * w → ∃ a b, u = t1 * a + t2 * b) {V : R → Prop} (hV : ∀ v, V v → (∃ a b c, v = t1 * a + t2 * b + t3 * c) → v = 0) (n : Nat) (v : Nat → Nat → Nat → R) (hv : ∀ i j k, i < n → j < n → k < n → V (v i j k)) (h : gs n (fun i => t1 ^ i * gs n (fun j => t2 ^ j * gs n (fun k => t3 ^ k * v i j k))) = 0) : ∀ i j k, i < n → j < n → k < n → v i j k = 0 := by
  have L3 : ∀ w : Nat → R, (∀ k, k < n → V (w k)) → (∃ a b, gs n (fun k => t3 ^ k * w k) = t1 * a + t2 * b) → ∀ k, k < n → w k = 0 := fun w hw hJ => t_ind (J := fun x => ∃ a b, x = t1 * a + t2 * b) (V := V) (t := t3) (by
    rintro x y ⟨a, b, e⟩ ⟨a', b', e'⟩
    exact ⟨a - a', b - b', by rw [e, e']; grind⟩) (by
    rintro x hx ⟨j, s, ⟨a, b, ej⟩, ex⟩
    exact hV x hx ⟨a, b, s, by rw [ex, ej]⟩) (by
    rintro u ⟨a, b, e⟩
    exact r3 u a b e) n w hw hJ
  have z3 : ∀ w : Nat → R, (∀ k, k < n → w k = 0) → gs n (fun k => t3 ^ k * w k) = 0 := fun w hw => gs_zero fun k hk => by rw [hw k hk, rg_5]
  have L2 : ∀ w : Nat → Nat → R, (∀ j k, j < n → k < n → V (w j k)) → (∃ a, gs n (fun j => t2 ^ j * gs n (fun k => t3 ^ k * w j k)) = t1 * a) → ∀ j, j < n → gs n (fun k => t3 ^ k * w j k) = 0 := fun w hw hJ => t_ind (J := fun x => ∃ a, x = t1 * a) (V := fun x => ∃ y : Nat → R, (∀ k, k < n → V (y k)) ∧ x = gs n fun k => t3 ^ k * y k) (t := t2) (by
    rintro x y ⟨a, e⟩ ⟨a', e'⟩
    exact ⟨a - a', by rw [e, e']; grind⟩) (by
    rintro x ⟨y, hy, exy⟩ ⟨j, s, ⟨a, ej⟩, ex⟩
    rw [exy]
    exact z3 y (L3 y hy ⟨a, s, by rw [← exy, ex, ej]⟩)) (by
    rintro u ⟨a, e⟩
    exact r2 u a e) n (fun j => gs n fun k => t3 ^ k * w j k) (fun j hj => ⟨w j, fun k hk => hw j k hj hk, rfl⟩) hJ
  have L1 : ∀ i, i < n → gs n (fun j => t2 ^ j * gs n (fun k => t3 ^ k * v i j k)) = 0 := t_ind (J := fun x => x = 0) (V := fun x => ∃ y : Nat → Nat → R, (∀ j k, j < n → k < n → V (y j k)) ∧ x = gs n fun j => t2 ^ j * gs n fun k => t3 ^ k * y j k) (t := t1) (by
    intro a b ha hb
    show a - b = 0
    rw [show a = 0 from ha, show b = 0 from hb]
    grind) (by
    rintro x ⟨y, hy, exy⟩ ⟨j, s, ej, ex⟩
    rw [exy]
    refine gs_zero fun j' hj' => ?_
    rw [L2 y hy ⟨s, by rw [← exy, ex, show j = 0 from ej]; grind⟩ j' hj', rg_5]) (fun u hu => r1 u hu) n (fun i => gs n fun j => t2 ^ j * gs n fun k => t3 ^ k * v i j k) (fun i hi => ⟨v i, fun j k hj hk => hv i j k hi hj hk, rfl⟩) h
  intro i j k hi hj hk
  have a := L2 (v i) (fun j k hj hk => hv i j k hi hj hk) ⟨0, by rw [L1 i hi, rg_5]⟩ j hj
  exact L3 (v i j) (fun k hk => hv i j k hi hj hk) ⟨0, 0, by rw [a]; grind⟩ k hk
/-- power series over a domain are a domain -/
theorem ps_dom [Lean.Grind.CommRing R] (hR : ∀ a b : R, a * b = 0 → a = 0 ∨ b = 0) (p q : Nat → R) (h : psMul p q = psK 0) : p = psK 0 ∨ q = psK 0 := by
  have z : ∀ r : Nat → R, (∀ n, r n = 0) → r = psK 0 := fun r hr => by
    funext n
    rw [hr n]
    unfold psK
    split <;> rfl
  apply Classical.byContradiction
  intro hn
  have hp : ∃ n, p n ≠ 0 := Classical.byContradiction fun x => hn (Or.inl (z p fun n => Classical.byContradiction fun y => x ⟨n, y⟩))
  have hq : ∃ n, q n ≠ 0 := Classical.byContradiction fun x => hn (Or.inr (z q fun n => Classical.byContradiction fun y => x ⟨n, y⟩))
  obtain ⟨n1, h1⟩ := hp
  obtain ⟨n2, h2⟩ := hq
  obtain ⟨i, _, hi, li⟩ := least (P := fun n => p n ≠ 0) n1 h1
  obtain ⟨j, _, hj, lj⟩ := least (P := fun n => q n ≠ 0) n2 h2
  have e := congrFun h (i + j)
  unfold psMul at e
  rw [gs_one (k := i) (by omega) (fun k hk he => by
    show p k * q (i + j - k) = 0
    by_cases lt : k < i
    · rw [Classical.byContradiction fun y => li k lt y, gs_z1]
    · rw [Classical.byContradiction fun y => lj (i + j - k) (by omega) y, rg_5])] at e
  have e' : p i * q (i + j - i) = psK 0 (i + j) := e
  rw [show i + j - i = j by omega] at e'
  have z0 : psK (0 : R) (i + j) = 0 := by unfold psK; split <;> rfl
  rw [z0] at e'
  rcases hR _ _ e' with x | x
  · exact hi x
  · exact hj x
end REG
theorem cP_dom (P Q : cP) (h : cMul P Q = c0) : P = c0 ∨ Q = c0 := by
  rw [c0_eq] at h ⊢
  have d1 : ∀ a b : Nat → cF, psMul a b = psK 0 → a = psK 0 ∨ b = psK 0 := ps_dom fun a b => fmul_eq_zero
  have d2 := @ps_dom (Nat → cF) cPr1 d1
  exact @ps_dom (Nat → Nat → cF) cPr2 d2 P Q h
