/-! NESTED sums as one sum -/
theorem gs_flat {R : Type} [Lean.Grind.CommRing R] (A B : Nat) (f : Nat → R) : gs A (fun a => gs B fun b => f (a * B + b)) = gs (A * B) f := by
  induction A with
  | zero => rw [Nat.zero_mul]; rfl
  | succ A ih =>
    show gs A (fun a => gs B fun b => f (a * B + b)) + gs B (fun b => f (A * B + b)) = _
    rw [ih, Nat.succ_mul, gs_split]
theorem gs_flat3 {R : Type} [Lean.Grind.CommRing R] (A B C : Nat) (f : Nat → R) : gs A (fun a => gs B fun b => gs C fun c => f (a * (B * C) + (b * C + c))) = gs (A * (B * C)) f := by
  rw [← gs_flat]
  exact gs_congr fun a _ => gs_flat B C fun y => f (a * (B * C) + y)
theorem gs_flat5 {R : Type} [Lean.Grind.CommRing R] (A B C D E : Nat) (f : Nat → R) : gs A (fun a => gs B fun b => gs C fun c => gs D fun d => gs E fun e => f (a * (B * (C * (D * E))) + (b * (C * (D * E)) + (c * (D * E) + (d * E + e))))) = gs (A * (B * (C * (D * E)))) f := by
  rw [← gs_flat]
  refine gs_congr fun a _ => ?_
  rw [← gs_flat B (C * (D * E)) fun y => f (a * (B * (C * (D * E))) + y)]
  refine gs_congr fun b _ => ?_
  exact gs_flat3 C D E fun y => f (a * (B * (C * (D * E))) + (b * (C * (D * E)) + y))
theorem dv {a b B : Nat} (h : b < B) : (a * B + b) / B = a ∧ (a * B + b) % B = b := by
  constructor
  · rw [Nat.mul_comm, Nat.mul_add_div (by omega), Nat.div_eq_of_lt h, Nat.add_zero]
  · rw [Nat.mul_comm, Nat.mul_add_mod, Nat.mod_eq_of_lt h]
theorem dv_lt {a b A B : Nat} (ha : a < A) (h : b < B) : a * B + b < A * B := by
  have : (a + 1) * B ≤ A * B := Nat.mul_le_mul_right B ha
  rw [Nat.succ_mul] at this
  omega
theorem dv_un {x A B : Nat} (h : x < A * B) : x / B < A ∧ x % B < B ∧ x / B * B + x % B = x := by
  have hB : 0 < B := by
    apply Nat.pos_of_ne_zero
    intro e
    rw [e, Nat.mul_zero] at h
    omega
  refine ⟨?_, Nat.mod_lt x hB, ?_⟩
  · exact (Nat.div_lt_iff_lt_mul hB).mpr h
  · rw [Nat.mul_comm]; exact Nat.div_add_mod x B
theorem hmy_gs (p : Nat → Bool) (n : Nat) : (hmy p n : Int) = gs n fun i => if p i then (1 : Int) else 0 := by
  induction n with
  | zero => rfl
  | succ n ih =>
    show ((hmy p n + (if p n then 1 else 0) : Nat) : Int) = gs n _ + (if p n then (1 : Int) else 0)
    rw [← ih]
    by_cases q : p n = true
    · rw [if_pos q, if_pos q]; omega
    · rw [if_neg q, if_neg q]; omega
theorem gs_le {n : Nat} {f g : Nat → Int} (h : ∀ i, i < n → f i ≤ g i) : gs n f ≤ gs n g := by
  induction n with
  | zero => exact Int.le_refl _
  | succ n ih =>
    have a := ih fun i hi => h i (by omega)
    have b := h n (by omega)
    show gs n f + f n ≤ gs n g + g n
    omega
theorem gs_k (n : Nat) (x : Int) : gs n (fun _ => x) = n * x := by
  induction n with
  | zero => rw [show ((0 : Nat) : Int) = 0 from rfl, Int.zero_mul]; rfl
  | succ n ih =>
    show gs n (fun _ => x) + x = _
    rw [ih, show ((n + 1 : Nat) : Int) = (n : Int) + 1 from rfl, Int.add_mul, Int.one_mul]
