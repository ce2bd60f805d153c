/-! WHAT is solved for: the free ones, a base in steps -/
def sol (m n : Nat) (R : Nat → Nat → cF) (u : Nat → cF) : Prop := ∀ q, q < m → gs n (fun k => R q k * u k) = 0
theorem dot_lc (n m : Nat) (c : Nat → cF) (R : Nat → Nat → cF) (u : Nat → cF) : gs n (fun k => lc m c R k * u k) = gs m (fun q => c q * gs n (fun k => R q k * u k)) := by
  unfold lc
  have e1 : gs n (fun k => gs m (fun i => c i * R i k) * u k) = gs n (fun k => gs m fun i => c i * (R i k * u k)) := by
    refine gs_congr fun k _ => ?_
    rw [← gs_mulr]
    exact gs_congr fun i _ => gs_z5 _ _ _
  rw [e1, gs_swap]
  exact gs_congr fun i _ => gs_mul _ _ _
theorem sol_spn {m n : Nat} (hn : n ≤ 160) {R R' : Nat → Nat → cF} (h : ∀ q, q < m → inS 160 m R (R' q)) {u : Nat → cF} (s : sol m n R u) : sol m n R' u := by
  intro q hq
  obtain ⟨c, hc⟩ := h q hq
  rw [gs_congr (g := fun k => lc m c R k * u k) (fun k hk => by rw [hc k (by omega)]), dot_lc]
  exact gs_zero fun i hi => by rw [s i hi, gs_z3]
theorem sol_iff {m n : Nat} (hn : n ≤ 160) {R R' : Nat → Nat → cF} (h : spn m R R') (u : Nat → cF) : sol m n R u ↔ sol m n R' u := ⟨sol_spn hn h.1, sol_spn hn h.2⟩
/-- how many of the first k are free -/
def cfr (piv : Nat → Bool) : Nat → Nat
  | 0 => 0
  | k + 1 => if piv k = true then cfr piv k else cfr piv k + 1
theorem cfr_le (piv : Nat → Bool) (k : Nat) : cfr piv k ≤ k := by
  induction k with
  | zero => exact Nat.le_refl 0
  | succ k ih => rw [cfr]; split <;> omega
theorem cfr_mono (piv : Nat → Bool) {j k : Nat} (h : j ≤ k) : cfr piv j ≤ cfr piv k := by
  induction k with
  | zero => rw [show j = 0 by omega]; exact Nat.le_refl _
  | succ k ih =>
    by_cases e : j = k + 1
    · rw [e]; exact Nat.le_refl _
    · have := ih (by omega)
      rw [cfr]
      split <;> omega
theorem cfr_inj {piv : Nat → Bool} {j k : Nat} (hj : piv j = false) (hk : piv k = false) (e : cfr piv j = cfr piv k) : j = k := by
  have lt : ∀ {a b : Nat}, piv a = false → a < b → cfr piv a < cfr piv b := by
    intro a b ha hab
    have := cfr_mono piv (j := a + 1) (k := b) (by omega)
    rw [cfr, if_neg (by rw [ha]; decide)] at this
    omega
  rcases Nat.lt_trichotomy j k with h | h | h
  · have := lt hj h; omega
  · exact h
  · have := lt hk h; omega
theorem cfr_ex {piv : Nat → Bool} : ∀ (n f : Nat), f < cfr piv n → ∃ k, k < n ∧ piv k = false ∧ cfr piv k = f := by
  intro n
  induction n with
  | zero => intro f hf; exact absurd hf (by simp [cfr])
  | succ n ih =>
    intro f hf
    rw [cfr] at hf
    by_cases h : piv n = true
    · rw [if_pos h] at hf
      obtain ⟨k, a, b, c⟩ := ih f hf
      exact ⟨k, by omega, b, c⟩
    · rw [if_neg h] at hf
      by_cases e : f = cfr piv n
      · exact ⟨n, by omega, Bool.eq_false_iff.mpr h, e.symm⟩
      · obtain ⟨k, a, b, c⟩ := ih f (by omega)
        exact ⟨k, by omega, b, c⟩
theorem cfr_sum (piv : Nat → Bool) (ph : Nat → Nat) (G : Nat → cF) : ∀ n : Nat, (∀ k, k < n → piv k = false → ph (cfr piv k) = k) → gs (cfr piv n) (fun f => G (ph f)) = gs n (fun k => if piv k = true then 0 else G k) := by
  intro n
  induction n with
  | zero => intro _; rfl
  | succ n ih =>
    intro h
    rw [cfr, gs]
    by_cases e : piv n = true
    · rw [if_pos e, ih (fun k hk => h k (by omega)), if_pos e]
      exact (Lean.Grind.Semiring.add_zero _).symm
    · rw [if_neg e, gs, ih (fun k hk => h k (by omega)), if_neg e, h n (by omega) (Bool.eq_false_iff.mpr e)]
/-- which columns are first ones -/
def isPv (done : Nat) (p : Nat → Nat) (k : Nat) : Bool := decide (∃ r : Fin done, p r.val = k)
theorem isPv_iff {done : Nat} {p : Nat → Nat} {k : Nat} : isPv done p k = true ↔ ∃ r, r < done ∧ p r = k := by
  unfold isPv
  rw [decide_eq_true_eq]
  constructor
  · intro ⟨r, h⟩; exact ⟨r.val, r.isLt, h⟩
  · intro ⟨r, hr, h⟩; exact ⟨⟨r, hr⟩, h⟩
theorem isPv_no {done : Nat} {p : Nat → Nat} {k : Nat} (h : isPv done p k = false) {r : Nat} (hr : r < done) : p r ≠ k := fun e => by
  have := isPv_iff.mpr ⟨r, hr, e⟩
  rw [h] at this
  exact Bool.noConfusion this
/-- the free vector of a column: 1 there, and what the rows take -/
def fvc (done : Nat) (R : Nat → Nat → cF) (p : Nat → Nat) (k : Nat) : Nat → Nat → cF
  | 0 => fun j => if j = k then 1 else 0
  | r + 1 => fun j => if j = p r then - R r k else fvc done R p k r j
theorem fvc_piv {done : Nat} {R : Nat → Nat → cF} {p : Nat → Nat} {k : Nat} (inc : ∀ i j, i < j → j < done → p i < p j) : ∀ (n r : Nat), n ≤ done → r < n → fvc done R p k n (p r) = - R r k := by
  intro n
  induction n with
  | zero => intro r _ hr; omega
  | succ n ih =>
    intro r hn hr
    show (if p r = p n then - R n k else fvc done R p k n (p r)) = _
    by_cases e : r = n
    · rw [e, if_pos rfl]
    · have := inc r n (by omega) (by omega)
      rw [if_neg (by omega)]
      exact ih r (by omega) (by omega)
theorem fvc_non {done : Nat} {R : Nat → Nat → cF} {p : Nat → Nat} {k j : Nat} : ∀ (n : Nat), (∀ r, r < n → p r ≠ j) → fvc done R p k n j = if j = k then 1 else 0 := by
  intro n
  induction n with
  | zero => intro _; rfl
  | succ n ih =>
    intro h
    show (if j = p n then - R n k else fvc done R p k n j) = _
    rw [if_neg (fun e => h n (by omega) e.symm)]
    exact ih fun r hr => h r (by omega)
theorem fr_g1 {R : Type} [Lean.Grind.CommRing R] {x s : R} (h : x + s = 0) : x = - s := by grind
theorem fr_g2 {R : Type} [Lean.Grind.CommRing R] (x : R) : x * 1 + - x = 0 := by grind
theorem fr_g3 {R : Type} [Lean.Grind.CommRing R] (x y : R) : x * - y = - (y * x) := by grind
theorem fr_g4 {R : Type} [Lean.Grind.CommRing R] (x y : R) : - (y * x) = - y * x := by grind
/-- sums part into first columns and free ones -/
theorem sum_piv {n done : Nat} {p : Nat → Nat} (h1 : ∀ i, i < done → p i < n) (inc : ∀ i j, i < j → j < done → p i < p j) (G : Nat → cF) : gs n G = gs done (fun r => G (p r)) + gs n (fun k => if isPv done p k = true then 0 else G k) := by
  have key : ∀ m : Nat, m ≤ done → gs n (fun k => if isPv m p k = true then G k else 0) = gs m (fun r => G (p r)) := by
    intro m
    induction m with
    | zero =>
      intro _
      refine gs_zero fun k _ => ?_
      rw [if_neg]
      intro e
      obtain ⟨r, hr, _⟩ := isPv_iff.mp e
      omega
    | succ m ih =>
      intro hm
      rw [gs, ← ih (by omega)]
      have one : gs n (fun k => if k = p m then G k else 0) = G (p m) := by
        rw [gs_one (k := p m) (h1 m (by omega)) (fun i _ he => if_neg he)]
        exact if_pos rfl
      rw [← one, ← gs_add]
      refine gs_congr fun k _ => ?_
      by_cases a : k = p m
      · have no : ¬ isPv m p k = true := fun e => by
          obtain ⟨r, hr, er⟩ := isPv_iff.mp e
          have := inc r m hr (by omega)
          omega
        rw [if_pos (isPv_iff.mpr ⟨m, by omega, a.symm⟩), if_neg no, if_pos a]
        exact (Lean.Grind.AddCommMonoid.zero_add _).symm
      · rw [if_neg a]
        have same : isPv (m + 1) p k = true ↔ isPv m p k = true := by
          rw [isPv_iff, isPv_iff]
          constructor
          · intro ⟨r, hr, er⟩
            by_cases e : r = m
            · rw [e] at er; exact absurd er.symm a
            · exact ⟨r, by omega, er⟩
          · intro ⟨r, hr, er⟩; exact ⟨r, by omega, er⟩
        by_cases b : isPv m p k = true
        · rw [if_pos (same.mpr b), if_pos b]; exact (Lean.Grind.Semiring.add_zero _).symm
        · rw [if_neg (fun e => b (same.mp e)), if_neg b]; exact (Lean.Grind.Semiring.add_zero _).symm
  rw [← key done (Nat.le_refl _), ← gs_add]
  refine gs_congr fun k _ => ?_
  by_cases b : isPv done p k = true
  · rw [if_pos b, if_pos b]; exact (Lean.Grind.Semiring.add_zero _).symm
  · rw [if_neg b, if_neg b]; exact (Lean.Grind.AddCommMonoid.zero_add _).symm
section FRE
variable {m n done : Nat} {R : Nat → Nat → cF} {p : Nat → Nat}
theorem free_sol (h : gSt m n done R p) {k : Nat} (hk : k < n) (nk : isPv done p k = false) : sol m n R (fvc done R p k done) := by
  obtain ⟨a1, a2, a3, a4, a5, a6, a7, a8⟩ := h
  intro q hq
  rw [sum_piv a3 a4]
  by_cases qd : q < done
  · have e1 : gs done (fun r => R q (p r) * fvc done R p k done (p r)) = - R q k := by
      rw [gs_one (k := q) qd (fun r hr he => by
        show R q (p r) * fvc done R p k done (p r) = 0
        rw [a6 q r hq hr (fun e => he e.symm), gs_z1])]
      show R q (p q) * fvc done R p k done (p q) = _
      rw [a5 q qd, fvc_piv a4 done q (Nat.le_refl _) qd, gs_z2]
    have e2 : gs n (fun j => if isPv done p j = true then 0 else R q j * fvc done R p k done j) = R q k := by
      rw [gs_one (k := k) hk (fun j hj he => by
        show (if isPv done p j = true then 0 else R q j * fvc done R p k done j) = 0
        by_cases b : isPv done p j = true
        · rw [if_pos b]
        · rw [if_neg b, fvc_non done (fun r hr => isPv_no (Bool.eq_false_iff.mpr b) hr), if_neg he, gs_z3])]
      show (if isPv done p k = true then 0 else R q k * fvc done R p k done k) = R q k
      rw [if_neg (by rw [nk]; decide), fvc_non done (fun r hr => isPv_no nk hr), if_pos rfl]
      exact Lean.Grind.Semiring.mul_one _
    rw [e1, e2]
    exact Lean.Grind.Ring.neg_add_cancel _
  · rw [← sum_piv a3 a4 (fun j => R q j * fvc done R p k done j)]
    exact gs_zero fun j hj => by rw [a8 q j (by omega) hq hj, gs_z1]
theorem free_span (h : gSt m n done R p) (ph : Nat → Nat) (hph : ∀ k, k < n → isPv done p k = false → ph (cfr (isPv done p) k) = k) {u : Nat → cF} (s : sol m n R u) {j : Nat} (hj : j < n) : u j = lc (cfr (isPv done p) n) (fun f => u (ph f)) (fun f => fvc done R p (ph f) done) j := by
  obtain ⟨a1, a2, a3, a4, a5, a6, a7, a8⟩ := h
  unfold lc
  rw [cfr_sum (isPv done p) ph (fun k => u k * fvc done R p k done j) n hph]
  by_cases b : isPv done p j = true
  · obtain ⟨r, hr, er⟩ := isPv_iff.mp b
    have s0 := s r (by omega)
    rw [sum_piv a3 a4] at s0
    have e1 : gs done (fun r' => R r (p r') * u (p r')) = u j := by
      rw [gs_one (k := r) hr (fun i hi he => by
        show R r (p i) * u (p i) = 0
        rw [a6 r i (by omega) hi (fun e => he e.symm), gs_z1])]
      show R r (p r) * u (p r) = _
      rw [a5 r hr, gs_z2, er]
    rw [e1] at s0
    rw [fr_g1 s0, ← gs_neg]
    refine gs_congr fun k _ => ?_
    by_cases c : isPv done p k = true
    · rw [if_pos c, if_pos c]; decide
    · rw [if_neg c, if_neg c, ← er, fvc_piv a4 done r (Nat.le_refl _) hr, fr_g3]
  · have nb := Bool.eq_false_iff.mpr b
    rw [gs_one (k := j) hj (fun k hk he => by
      show (if isPv done p k = true then 0 else u k * fvc done R p k done j) = 0
      by_cases c : isPv done p k = true
      · rw [if_pos c]
      · rw [if_neg c, fvc_non done (fun r hr => isPv_no nb hr), if_neg (fun e => he e.symm), gs_z3])]
    show _ = if isPv done p j = true then 0 else u j * fvc done R p j done j
    rw [if_neg b, fvc_non done (fun r hr => isPv_no nb hr), if_pos rfl]
    exact (Lean.Grind.Semiring.mul_one _).symm
end FRE
/-- rows in steps are a base of what they span -/
theorem gSt_RB {m n done : Nat} {M : Nat → Nat → cF} {p : Nat → Nat} {V : (Nat → cF) → Prop} (h : gSt m n done M p) (h1 : ∀ i, i < m → V (M i)) (h2 : ∀ v, V v → ∃ c, ∀ k, k < n → v k = lc m c M k) : isRB n done p M V := by
  obtain ⟨a1, a2, a3, a4, a5, a6, a7, a8⟩ := h
  refine ⟨a4, a3, a5, fun i j hi hj hne => a6 i j (by omega) hj hne, a7, fun i hi => h1 i (by omega), fun v hv k hk => ?_⟩
  obtain ⟨c, hc⟩ := h2 v hv
  have short : ∀ k, k < n → lc m c M k = lc done c M k := fun k hk => gs_ext a1 fun i hi him => by rw [a8 i k hi him hk, gs_z3]
  have co : ∀ i, i < done → v (p i) = c i := by
    intro i hi
    rw [hc _ (a3 i hi), short _ (a3 i hi)]
    unfold lc
    rw [gs_one (k := i) hi (fun j hj he => by show c j * M j (p i) = 0; rw [a6 j i (by omega) hi he, gs_z3])]
    show c i * M i (p i) = c i
    rw [a5 i hi]
    exact Lean.Grind.Semiring.mul_one _
  rw [hc k hk, short k hk]
  exact gs_congr fun i hi => by rw [co i hi]
