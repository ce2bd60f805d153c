/-! COUNTING independent ones under conditions -/
def hmy (p : Nat → Bool) : Nat → Nat
  | 0 => 0
  | n + 1 => hmy p n + if p n then 1 else 0
theorem hmy_mono (p : Nat → Bool) {m n : Nat} (h : m ≤ n) : hmy p m ≤ hmy p n := by
  induction n with
  | zero => rw [Nat.le_zero.mp h]; exact Nat.le_refl _
  | succ n ih =>
    by_cases e : m = n + 1
    · subst e; exact Nat.le_refl _
    · have := ih (by omega)
      show hmy p m ≤ hmy p n + _
      omega
theorem hmy_lt (p : Nat → Bool) {i n : Nat} (h : i < n) (hp : p i = true) : hmy p i < hmy p n := by
  have := hmy_mono p (m := i + 1) (n := n) h
  have e : hmy p (i + 1) = hmy p i + 1 := by
    show hmy p i + (if p i then 1 else 0) = _
    rw [if_pos hp]
  omega
theorem enumr (p : Nat → Bool) : ∀ A : Nat, ∃ e : Nat → Nat, (∀ k, k < hmy p A → e k < A ∧ p (e k) = true ∧ hmy p (e k) = k) ∧ ∀ F : Nat → cF, gs A (fun i => if p i then F i else 0) = gs (hmy p A) fun k => F (e k) := by
  intro A
  induction A with
  | zero => exact ⟨fun _ => 0, fun k hk => absurd hk (Nat.not_lt_zero k), fun F => rfl⟩
  | succ A ih =>
    obtain ⟨e, h1, h2⟩ := ih
    by_cases q : p A = true
    · have ce : hmy p (A + 1) = hmy p A + 1 := by
        show hmy p A + (if p A then 1 else 0) = _
        rw [if_pos q]
      refine ⟨fun k => if k = hmy p A then A else e k, fun k hk => ?_, fun F => ?_⟩
      · rw [ce] at hk
        show (if k = hmy p A then A else e k) < A + 1 ∧ p (if k = hmy p A then A else e k) = true ∧ hmy p (if k = hmy p A then A else e k) = k
        by_cases r : k = hmy p A
        · rw [if_pos r]
          exact ⟨by omega, q, r.symm⟩
        · rw [if_neg r]
          have := h1 k (by omega)
          exact ⟨by omega, this.2⟩
      · rw [ce]
        show gs A _ + (if p A then F A else 0) = gs (hmy p A) _ + F (if hmy p A = hmy p A then A else e (hmy p A))
        rw [if_pos q, if_pos rfl, h2]
        refine congrArg (· + F A) (gs_congr fun k hk => ?_)
        show F (e k) = F (if k = hmy p A then A else e k)
        rw [if_neg (by omega)]
    · have ce : hmy p (A + 1) = hmy p A := by
        show hmy p A + (if p A then 1 else 0) = _
        rw [if_neg q]
        rfl
      refine ⟨e, fun k hk => ?_, fun F => ?_⟩
      · rw [ce] at hk
        have := h1 k hk
        exact ⟨by omega, this.2⟩
      · rw [ce, ← h2]
        show gs A _ + (if p A then F A else 0) = _
        rw [if_neg q, Lean.Grind.Semiring.add_zero]
theorem ind_cnt {A B : Nat} (p q : Nat → Bool) (w : Nat → Nat → cF) (hw : ∀ i, i < A → p i = true → ∀ k, k < B → q k = false → w i k = 0) (h : ∀ c : Nat → cF, (∀ i, p i = false → c i = 0) → (∀ k, k < B → gs A (fun i => c i * w i k) = 0) → ∀ i, i < A → c i = 0) : hmy p A ≤ hmy q B := by
  obtain ⟨e, e1, e2⟩ := enumr p A
  obtain ⟨d, d1, d2⟩ := enumr q B
  refine indep_le (w := fun i k => w (e i) (d k)) fun c' hc' k' hk' => ?_
  have hz := h (fun i => if p i then c' (hmy p i) else 0) (fun i hi => by rw [hi]; rfl) fun k hk => ?_
  · obtain ⟨x1, x2, x3⟩ := e1 k' hk'
    have := hz (e k') x1
    rw [x2, x3] at this
    exact this
  · have step : gs A (fun i => (if p i then c' (hmy p i) else 0) * w i k) = gs (hmy p A) fun x => c' x * w (e x) k := by
      rw [gs_congr (g := fun i => if p i then c' (hmy p i) * w i k else 0) fun i _ => by
        by_cases r : p i = true
        · rw [if_pos r, if_pos r]
        · rw [if_neg r, if_neg r]; exact gs_z1 _]
      rw [e2 fun i => c' (hmy p i) * w i k]
      refine gs_congr fun x hx => ?_
      rw [(e1 x hx).2.2]
    show gs A (fun i => (if p i then c' (hmy p i) else 0) * w i k) = 0
    rw [step]
    by_cases r : q k = true
    · have dk : d (hmy q k) = k := by
        obtain ⟨y1, y2, y3⟩ := d1 (hmy q k) (hmy_lt q hk r)
        rcases Nat.lt_trichotomy (d (hmy q k)) k with o | o | o
        · have := hmy_lt q o y2
          omega
        · exact o
        · have := hmy_lt q o r
          omega
      have : gs (hmy p A) (fun i => c' i * w (e i) (d (hmy q k))) = 0 := hc' (hmy q k) (hmy_lt q hk r)
      rw [dk] at this
      exact this
    · refine gs_zero fun x hx => ?_
      obtain ⟨x1, x2, x3⟩ := e1 x hx
      rw [hw (e x) x1 x2 k hk (by cases y : q k <;> simp_all), gs_z3]
