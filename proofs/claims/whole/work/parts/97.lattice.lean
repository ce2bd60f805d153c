/-! HOW MANY triples lie below a degree -/
def nB (M B : Nat) : Int := gs B fun x => gs B fun y => gs B fun w => if x + y + w ≤ M then 1 else 0
def nA (d1 d2 d3 M : Nat) : Int := gs (M + 1) fun a => gs (M + 1) fun b => gs (M + 1) fun k => if a * d1 + b * d2 + k * d3 ≤ M then 1 else 0
theorem gs_nn {n : Nat} {f : Nat → Int} (h : ∀ i, i < n → 0 ≤ f i) : 0 ≤ gs n f := by
  have := gs_le (n := n) (f := fun _ => 0) (g := f) h
  rw [gs_k, Int.mul_zero] at this
  exact this
theorem gs_more {m n : Nat} {f : Nat → Int} (l : m ≤ n) (h : ∀ i, i < n → 0 ≤ f i) : gs m f ≤ gs n f := by
  obtain ⟨k, rfl⟩ : ∃ k, n = m + k := ⟨n - m, by omega⟩
  rw [gs_split]
  have := gs_nn (n := k) (f := fun i => f (m + i)) fun i hi => h _ (by omega)
  omega
theorem gs_thin (N d : Nat) (hd : 1 ≤ d) {g : Nat → Int} (nn : ∀ x, 0 ≤ g x) (dec : ∀ x r, g (x + r) ≤ g x) : gs N g ≤ d * gs N fun a => g (a * d) := by
  have a := gs_more (m := N) (n := N * d) (f := g) (Nat.le_mul_of_pos_right N hd) fun i _ => nn i
  rw [← gs_flat] at a
  have b : gs N (fun a => gs d fun b => g (a * d + b)) ≤ gs N (fun a => (d : Int) * g (a * d)) := by
    refine gs_le fun i _ => ?_
    rw [← gs_k]
    exact gs_le fun r _ => dec _ r
  rw [gs_mul] at b
  omega
theorem i01 (p : Prop) [Decidable p] : (0 : Int) ≤ if p then 1 else 0 := by
  split <;> omega
theorem i01_le {p q : Prop} [Decidable p] [Decidable q] (h : p → q) : (if p then (1 : Int) else 0) ≤ if q then 1 else 0 := by
  by_cases x : p
  · rw [if_pos x, if_pos (h x)]
    exact Int.le_refl _
  · rw [if_neg x]
    exact i01 q
theorem nB_nA {d1 d2 d3 : Nat} (h1 : 1 ≤ d1) (h2 : 1 ≤ d2) (h3 : 1 ≤ d3) (M : Nat) : nB M (M + 1) ≤ d1 * (d2 * (d3 * nA d1 d2 d3 M)) := by
  have s1 : nB M (M + 1) ≤ d1 * gs (M + 1) fun a => gs (M + 1) fun y => gs (M + 1) fun w => if a * d1 + y + w ≤ M then (1 : Int) else 0 := by
    exact gs_thin (M + 1) d1 h1 (g := fun x => gs (M + 1) fun y => gs (M + 1) fun w => if x + y + w ≤ M then (1 : Int) else 0) (fun x => gs_nn fun y _ => gs_nn fun w _ => i01 _) fun x r => gs_le fun y _ => gs_le fun w _ => i01_le fun h => by omega
  have s2 : (gs (M + 1) fun a => gs (M + 1) fun y => gs (M + 1) fun w => if a * d1 + y + w ≤ M then (1 : Int) else 0) ≤ d2 * gs (M + 1) fun a => gs (M + 1) fun b => gs (M + 1) fun w => if a * d1 + b * d2 + w ≤ M then (1 : Int) else 0 := by
    rw [← gs_mul]
    refine gs_le fun a _ => ?_
    exact gs_thin (M + 1) d2 h2 (g := fun y => gs (M + 1) fun w => if a * d1 + y + w ≤ M then (1 : Int) else 0) (fun x => gs_nn fun w _ => i01 _) fun x r => gs_le fun w _ => i01_le fun h => by omega
  have s3 : (gs (M + 1) fun a => gs (M + 1) fun b => gs (M + 1) fun w => if a * d1 + b * d2 + w ≤ M then (1 : Int) else 0) ≤ d3 * nA d1 d2 d3 M := by
    unfold nA
    rw [← gs_mul]
    refine gs_le fun a _ => ?_
    rw [← gs_mul]
    refine gs_le fun b _ => ?_
    exact gs_thin (M + 1) d3 h3 (g := fun w => if a * d1 + b * d2 + w ≤ M then (1 : Int) else 0) (fun x => i01 _) fun x r => i01_le fun h => by omega
  have m1 := Int.mul_le_mul_of_nonneg_left s3 (show (0 : Int) ≤ d2 by omega)
  have m2 := Int.mul_le_mul_of_nonneg_left (Int.le_trans s2 m1) (show (0 : Int) ≤ d1 by omega)
  exact Int.le_trans s1 m2
theorem gs_conv (f : Nat → Int) {m B : Nat} (h : m < B) : gs B (fun y => if y ≤ m then f (m - y) else 0) = gs (m + 1) f := by
  rw [gs_ext (n := m + 1) (by omega) fun i h1 _ => if_neg (by omega)]
  clear h
  induction m with
  | zero => rfl
  | succ m ih =>
    rw [show m + 1 + 1 = 1 + (m + 1) by omega, gs_split]
    have e1 : gs 1 (fun y => if y ≤ m + 1 then f (m + 1 - y) else 0) = f (m + 1) := by
      show 0 + f (m + 1) = f (m + 1)
      omega
    have e2 : gs (m + 1) (fun i => if 1 + i ≤ m + 1 then f (m + 1 - (1 + i)) else 0) = gs (m + 1) fun y => if y ≤ m then f (m - y) else 0 := by
      refine gs_congr fun i hi => ?_
      rw [if_pos (by omega), if_pos (by omega), show m + 1 - (1 + i) = m - i by omega]
    rw [e1, e2, ih, show 1 + (m + 1) = m + 1 + 1 by omega]
    show f (m + 1) + gs (m + 1) f = gs (m + 1) f + f (m + 1)
    omega
theorem tri1 (m : Nat) : 2 * gs (m + 1) (fun i => (i : Int) + 1) = ((m : Int) + 1) * (m + 2) := by
  induction m with
  | zero => rfl
  | succ m ih =>
    show 2 * (gs (m + 1) (fun i => (i : Int) + 1) + (((m + 1 : Nat) : Int) + 1)) = _
    rw [Int.mul_add, ih]
    grind
theorem tri2 (m : Nat) : 6 * gs (m + 1) (fun i => gs (i + 1) fun i => (i : Int) + 1) = ((m : Int) + 1) * (m + 2) * (m + 3) := by
  induction m with
  | zero => rfl
  | succ m ih =>
    show 6 * (gs (m + 1) (fun i => gs (i + 1) fun i => (i : Int) + 1) + gs (m + 1 + 1) fun i => (i : Int) + 1) = _
    have := tri1 (m + 1)
    rw [Int.mul_add, ih]
    generalize gs (m + 1 + 1) (fun i => (i : Int) + 1) = z at this
    grind
theorem nB_eq (M : Nat) : 6 * nB M (M + 1) = ((M : Int) + 1) * (M + 2) * (M + 3) := by
  rw [← tri2, ← gs_conv (fun i => gs (i + 1) fun i => (i : Int) + 1) (m := M) (B := M + 1) (by omega)]
  refine congrArg (6 * ·) (gs_congr fun x hx => ?_)
  rw [if_pos (by omega), ← gs_conv (fun i => (i : Int) + 1) (m := M - x) (B := M + 1) (by omega)]
  refine gs_congr fun y hy => ?_
  by_cases q : y ≤ M - x
  · rw [if_pos q]
    have : gs (M + 1) (fun w => if w ≤ M - x - y then (1 : Int) else 0) = gs (M - x - y + 1) fun _ => 1 := gs_conv (fun _ => 1) (by omega)
    rw [gs_k] at this
    rw [gs_congr (g := fun w => if w ≤ M - x - y then (1 : Int) else 0) fun w _ => by
      by_cases r : w ≤ M - x - y
      · rw [if_pos r, if_pos (by omega)]
      · rw [if_neg r, if_neg (by omega)], this]
    omega
  · rw [if_neg q]
    exact gs_zero fun w _ => if_neg (by omega)
