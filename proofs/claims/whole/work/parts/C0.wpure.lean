/-! THE SEARCH of the class, pure: it asks the same ones in the same order -/
theorem mul_td {a b p : Int} (ha : 1 ≤ a) (hp : 0 ≤ p) : a * b = p ↔ Int.tmod p a = 0 ∧ b = Int.tdiv p a := by
  rw [Int.tmod_eq_emod_of_nonneg hp, Int.tdiv_eq_ediv_of_nonneg hp]
  constructor
  · intro h
    rw [← h]
    exact ⟨Int.mul_emod_right a b, (Int.mul_ediv_cancel_left b (by omega)).symm⟩
  · intro ⟨h1, h2⟩
    have := Int.mul_ediv_add_emod p a
    rw [h1, ← h2] at this
    omega
section CPS
variable (ask : Nat → Nat → sSt → sSt) (deg : Nat → Int)
noncomputable def H3 (g : Int) (i : Nat) : Nat → Nat → sSt → sSt
  | 0, _, st => st
  | n + 1, j, st => H3 g i n (j + 1) (if deg j = g then ask i j st else st)
noncomputable def H2 (g : Int) (N : Nat) : Nat → Nat → sSt → sSt
  | 0, _, st => st
  | n + 1, i, st => H2 g N n (i + 1) (if Int.tmod g (deg i) = 0 then H3 ask deg (Int.tdiv g (deg i)) i (N - (i + 1)) (i + 1) st else st)
end CPS
section CPT
variable {ask : Nat → Nat → sSt → sSt} {deg : Nat → Int} {sys : Nat → Nat → Nat → Prop} {st : sSt}
theorem H3_stop (ha : ∀ i j, ask i j st = st) (g : Int) (i : Nat) : ∀ n j, H3 ask deg g i n j st = st := by
  intro n
  induction n with
  | zero => intro j; rfl
  | succ n ih => intro j; rw [H3, ha, ite_self]; exact ih _
theorem H2_stop (ha : ∀ i j, ask i j st = st) (g : Int) (N : Nat) : ∀ n i, H2 ask deg g N n i st = st := by
  intro n
  induction n with
  | zero => intro i; rfl
  | succ n ih => intro i; rw [H2, H3_stop ha, ite_self]; exact ih _
theorem H3_no {g : Int} {i : Nat} {n j : Nat} (h : ∀ k, j ≤ k → k < j + n → deg k ≠ g) : H3 ask deg g i n j st = st := by
  induction n generalizing j with
  | zero => rfl
  | succ n ih =>
    rw [H3, if_neg (h j (by omega) (by omega))]
    exact ih fun k h1 h2 => h k (by omega) (by omega)
/-- two variables -/
theorem K2_H3 {p : Int} (p0 : 0 ≤ p) {N i : Nat} (di : 1 ≤ deg i) : ∀ n j st, K2 sys deg p 2 N i n j st = if Int.tmod p (deg i) = 0 then H3 (fun a b => sAsk sys a b 0) deg (Int.tdiv p (deg i)) i n j st else st := by
  intro n
  induction n with
  | zero => intro j st; rw [K2, H3, ite_self]
  | succ n ih =>
    intro j st
    rw [K2, if_pos rfl, ih]
    by_cases w : Int.tmod p (deg i) = 0
    · rw [if_pos w, if_pos w, H3]
      congr 1
      by_cases v : deg j = Int.tdiv p (deg i)
      · rw [if_pos v, if_pos ((mul_td di p0).mpr ⟨w, v⟩)]
      · rw [if_neg v, if_neg fun h => v ((mul_td di p0).mp h).2]
    · rw [if_neg w, if_neg w, if_neg fun h => w ((mul_td di p0).mp h).1]
theorem K1_H2 {p : Int} (p0 : 0 ≤ p) {N : Nat} (hd : ∀ e, e < N → 1 ≤ deg e) : ∀ n i st, i + n = N → K1 sys deg p 2 N n i st = H2 (fun a b => sAsk sys a b 0) deg p N n i st := by
  intro n
  induction n with
  | zero => intro i st _; rfl
  | succ n ih =>
    intro i st h
    rw [K1, H2, K2_H3 p0 (hd i (by omega)), ih _ _ (by omega)]
/-- three variables -/
theorem K3_H3 {p : Int} (p0 : 0 ≤ p) {i j : Nat} (di : 1 ≤ deg i) (dj : 1 ≤ deg j) : ∀ n k st, K3 sys deg p i j n k st = if Int.tmod p (deg i) = 0 ∧ Int.tmod (Int.tdiv p (deg i)) (deg j) = 0 then H3 (fun a b => sAsk sys i a b) deg (Int.tdiv (Int.tdiv p (deg i)) (deg j)) j n k st else st := by
  have q0 : 0 ≤ Int.tdiv p (deg i) := by
    rw [Int.tdiv_eq_ediv_of_nonneg p0]
    exact Int.ediv_nonneg p0 (by omega)
  intro n
  induction n with
  | zero => intro k st; rw [K3, H3, ite_self]
  | succ n ih =>
    intro k st
    have key : deg i * deg j * deg k = p ↔ Int.tmod p (deg i) = 0 ∧ Int.tmod (Int.tdiv p (deg i)) (deg j) = 0 ∧ deg k = Int.tdiv (Int.tdiv p (deg i)) (deg j) := by
      rw [Int.mul_assoc, mul_td di p0, mul_td dj q0]
    rw [K3, ih]
    by_cases w : Int.tmod p (deg i) = 0 ∧ Int.tmod (Int.tdiv p (deg i)) (deg j) = 0
    · rw [if_pos w, if_pos w, H3]
      congr 1
      by_cases v : deg k = Int.tdiv (Int.tdiv p (deg i)) (deg j)
      · rw [if_pos v, if_pos (key.mpr ⟨w.1, w.2, v⟩)]
      · rw [if_neg v, if_neg fun h => v (key.mp h).2.2]
    · rw [if_neg w, if_neg w, if_neg fun h => w ⟨(key.mp h).1, (key.mp h).2.1⟩]
theorem K2_H2 {p : Int} (p0 : 0 ≤ p) {N i : Nat} (di : 1 ≤ deg i) (hd : ∀ e, e < N → 1 ≤ deg e) : ∀ n j st, j + n = N → K2 sys deg p 3 N i n j st = if Int.tmod p (deg i) = 0 then H2 (fun a b => sAsk sys i a b) deg (Int.tdiv p (deg i)) N n j st else st := by
  intro n
  induction n with
  | zero => intro j st _; rw [K2, H2, ite_self]
  | succ n ih =>
    intro j st h
    rw [K2, if_neg (by decide), ih _ _ (by omega), K3_H3 p0 di (hd j (by omega))]
    by_cases w : Int.tmod p (deg i) = 0
    · rw [if_pos w, if_pos w, H2]
      congr 1
      by_cases v : Int.tmod (Int.tdiv p (deg i)) (deg j) = 0
      · rw [if_pos ⟨w, v⟩, if_pos v]
      · rw [if_neg fun h => v h.2, if_neg v]
    · rw [if_neg w, if_neg w, if_neg fun h => w h.1]
/-- goal by goal -/
noncomputable def KG (sys : Nat → Nat → Nat → Prop) (deg : Nat → Int) (D : Int) (N : Nat) (m : Int) : Nat → Int → sSt → sSt
  | 0, _, st => st
  | k + 1, p, st => KG sys deg D N m k (p + 1) (if Int.tmod p m = 0 then K1 sys deg p D N N 0 st else st)
theorem KG_stop {D : Int} {N : Nat} {m : Int} (h : sStop st) : ∀ k p, KG sys deg D N m k p st = st := by
  intro k
  induction k with
  | zero => intro p; rfl
  | succ k ih => intro p; rw [KG, K1_stop h, ite_self]; exact ih _
theorem KG_KP {D : Int} {N : Nat} {m most : Int} (m1 : 1 ≤ m) : ∀ (k f : Nat) (q p : Int) (st : sSt), 1 ≤ q → q ≤ p → p < q + m → Int.tmod p m = 0 → q + k = most + 1 → k ≤ f → KG sys deg D N m k q st = KP sys deg D N m most f p st := by
  intro k
  induction k with
  | zero =>
    intro f q p st q1 qp pq pm e kf
    rw [KG]
    cases f with
    | zero => rfl
    | succ f => rw [KP, if_neg (by omega)]
  | succ k ih =>
    intro f q p st q1 qp pq pm e kf
    rw [KG]
    by_cases w : Int.tmod q m = 0
    · have pe : p = q := by
        rw [Int.tmod_eq_emod_of_nonneg (by omega)] at w pm
        obtain ⟨x, hx⟩ := Int.dvd_of_emod_eq_zero w
        obtain ⟨y, hy⟩ := Int.dvd_of_emod_eq_zero pm
        have h1 : 0 ≤ m * (y - x) := by rw [Int.mul_sub]; omega
        have h2 : m * (y - x) < m * 1 := by rw [Int.mul_sub]; omega
        have h3 : y - x < 1 := Int.lt_of_mul_lt_mul_left h2 (by omega)
        have h4 : 0 ≤ y - x := by
          apply Classical.byContradiction
          intro n
          have : m * (y - x) ≤ m * (-1) := Int.mul_le_mul_of_nonneg_left (by omega) (by omega)
          omega
        have : y = x := by omega
        rw [hy, hx, this]
      rw [if_pos w]
      cases f with
      | zero => omega
      | succ f =>
        rw [KP, if_pos (by omega), ← pe]
        refine ih f _ _ _ (by omega) (by omega) (by omega) ?_ (by omega) (by omega)
        rw [Int.tmod_eq_emod_of_nonneg (by omega)] at pm ⊢
        rw [Int.add_emod_right]; exact pm
    · rw [if_neg w]
      refine ih f _ _ _ (by omega) ?_ (by omega) pm (by omega) (by omega)
      have : q ≠ p := fun x => w (by rw [x]; exact pm)
      omega
theorem KG_add {D : Int} {N : Nat} {m : Int} : ∀ (a b : Nat) (p : Int) (st : sSt), KG sys deg D N m (a + b) p st = KG sys deg D N m b (p + a) (KG sys deg D N m a p st) := by
  intro a
  induction a with
  | zero => intro b p st; rw [Nat.zero_add, KG, show p + ((0 : Nat) : Int) = p by omega]
  | succ a ih =>
    intro b p st
    rw [show a + 1 + b = (a + b) + 1 by omega, KG, KG, ih, show p + 1 + (a : Int) = p + ((a + 1 : Nat) : Int) by omega]
theorem KG_no {D : Int} {N : Nat} {m : Int} : ∀ (b : Nat) (p : Int) (st : sSt), (∀ q st, p ≤ q → K1 sys deg q D N N 0 st = st) → KG sys deg D N m b p st = st := by
  intro b
  induction b with
  | zero => intro p st _; rfl
  | succ b ih =>
    intro p st h
    rw [KG, h p st (by omega), ite_self]
    exact ih _ _ fun q st hq => h q st (by omega)
theorem K2_no {p : Int} {N i : Nat} (h : ∀ j, j < N → deg i * deg j ≠ p) : ∀ n j st, j + n = N → K2 sys deg p 2 N i n j st = st := by
  intro n
  induction n with
  | zero => intro j st _; rfl
  | succ n ih => intro j st e; rw [K2, if_pos rfl, if_neg (h j (by omega))]; exact ih _ _ (by omega)
theorem K1_no {p : Int} {N : Nat} (h : ∀ i j, i < N → j < N → deg i * deg j ≠ p) : ∀ n i st, i + n = N → K1 sys deg p 2 N n i st = st := by
  intro n
  induction n with
  | zero => intro i st _; rfl
  | succ n ih => intro i st e; rw [K1, K2_no (fun j hj => h i j (by omega) hj) _ _ _ (by omega)]; exact ih _ _ (by omega)
/-- the class's goals give what the reference's products give -/
theorem KG_res {D : Int} (hD : D = 2 ∨ D = 3) {N : Nat} {m : Int} (m1 : 1 ≤ m) (hd : ∀ e, e < N → 1 ≤ deg e ∧ deg e ≤ 6) (st : sSt) : KG sys deg D N m 216 1 st = KP sys deg D N m (if D = 2 then 36 else 216) 217 m st := by
  have mm : Int.tmod m m = 0 := by rw [Int.tmod_eq_emod_of_nonneg (by omega)]; exact Int.emod_self
  rcases hD with e | e
  · rw [e, if_pos rfl, show 216 = 36 + 180 from rfl, KG_add]
    rw [KG_no 180 _ _ fun q st hq => ?_]
    · exact KG_KP m1 36 217 1 m st (by omega) m1 (by omega) mm (by omega) (by omega)
    · refine K1_no (fun i j hi hj w => ?_) N 0 st (by omega)
      have a := hd i hi
      have b := hd j hj
      have := mul_bd (x := deg i) (y := deg j) (X := 6) (Y := 6) (by omega) (by omega) (by omega) (by omega)
      omega
  · rw [e, if_neg (by decide)]
    exact KG_KP m1 216 217 1 m st (by omega) m1 (by omega) mm (by omega) (by omega)
end CPT
