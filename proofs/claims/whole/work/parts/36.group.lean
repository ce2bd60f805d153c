/-! TABLES over the field (two variables: the third stays), members breadth first -/
abbrev cMat : Type := Nat → Nat → cF
def mat (D : Int) (f : Int → Int) (g : Int) : cMat := fun i j => if (i : Int) < D ∧ (j : Int) < D then toF (f (9 * g + 3 * i + j)) else if i = j ∧ i < 3 then 1 else 0
def mm (A B : cMat) : cMat := fun i j => if i < 3 ∧ j < 3 then A i 0 * B 0 j + A i 1 * B 1 j + A i 2 * B 2 j else 0
def mId : cMat := fun i j => if i = j ∧ i < 3 then 1 else 0
def isM (A : cMat) : Prop := ∀ i j, ¬ (i < 3 ∧ j < 3) → A i j = 0
theorem isM_mm (A B : cMat) : isM (mm A B) := fun i j h => by unfold mm; rw [if_neg h]
theorem isM_id : isM mId := fun i j h => by unfold mId; rw [if_neg (by omega)]
theorem isM_mat {D : Int} (hD : D = 2 ∨ D = 3) (f : Int → Int) (g : Int) : isM (mat D f g) := fun i j h => by
  unfold mat
  rw [if_neg (by omega), if_neg (by omega)]
def mSame (A B : cMat) : Bool := decide (∀ i j : Fin 3, A i.val j.val = B i.val j.val)
theorem mSame_iff {A B : cMat} (hA : isM A) (hB : isM B) : mSame A B = true ↔ A = B := by
  unfold mSame
  rw [decide_eq_true_eq]
  constructor
  · intro h
    funext i j
    by_cases q : i < 3 ∧ j < 3
    · exact h ⟨i, q.1⟩ ⟨j, q.2⟩
    · rw [hA i j q, hB i j q]
  · intro h i j
    rw [h]
theorem mat_same {D : Int} (hD : D = 2 ∨ D = 3) {f h : Int → Int} {g k : Int} (of : okR f) (oh : okR h) : (∀ i j : Int, 0 ≤ i → i < D → 0 ≤ j → j < D → f (9 * g + 3 * i + j) = h (9 * k + 3 * i + j)) ↔ mat D f g = mat D h k := by
  constructor
  · intro H
    funext i j
    unfold mat
    by_cases q : (i : Int) < D ∧ (j : Int) < D
    · rw [if_pos q, if_pos q, H i j (by omega) q.1 (by omega) q.2]
    · rw [if_neg q, if_neg q]
  · intro H i j i0 i1 j0 j1
    have := congrFun (congrFun H i.toNat) j.toNat
    unfold mat at this
    rw [if_pos (by omega), if_pos (by omega), toF_eq, show ((i.toNat : Nat) : Int) = i by omega, show ((j.toNat : Nat) : Int) = j by omega] at this
    have x := of (9 * g + 3 * i + j)
    have y := oh (9 * k + 3 * i + j)
    omega
theorem mat_tF {D : Int} (hD : D = 2 ∨ D = 3) (f h c : Int → Int) (g k l : Int) : mat D (tF D l (mEnt D f g h k) D 0 c) l = mm (mat D f g) (mat D h k) := by
  funext i j
  by_cases q : i < 3 ∧ j < 3
  · by_cases q2 : (i : Int) < D ∧ (j : Int) < D
    · have e : mat D (tF D l (mEnt D f g h k) D 0 c) l i j = toF (mEnt D f g h k i j) := by
        unfold mat
        rw [if_pos q2]
        unfold tF
        rw [if_pos (by omega)]
        congr 2 <;> omega
      rw [e]
      unfold mEnt mm
      rw [if_pos q, toF_mod, toF_sg]
      have e1 : ∀ m : Nat, (m : Int) < D → mat D f g i m = toF (f (9 * g + 3 * i + m)) := by
        intro m hm
        unfold mat
        rw [if_pos ⟨q2.1, hm⟩]
      have e2 : ∀ m : Nat, (m : Int) < D → mat D h k m j = toF (h (9 * k + 3 * m + j)) := by
        intro m hm
        unfold mat
        rw [if_pos ⟨hm, q2.2⟩]
      rcases hD with rfl | rfl
      · have e3 : mat 2 f g i 2 = 0 := by
          unfold mat
          rw [if_neg (by omega), if_neg (by omega)]
        rw [e1 0 (by omega), e1 1 (by omega), e2 0 (by omega), e2 1 (by omega), e3]
        show 0 + toF _ + toF _ = _
        rw [toF_mul, toF_mul]
        grind
      · rw [e1 0 (by omega), e1 1 (by omega), e2 0 (by omega), e2 1 (by omega), e1 2 (by omega), e2 2 (by omega)]
        show 0 + toF _ + toF _ + toF _ = _
        rw [toF_mul, toF_mul, toF_mul]
        grind
    · rcases hD with rfl | rfl
      · unfold mm mat
        rw [if_neg q2, if_pos q]
        have hi : i = 0 ∨ i = 1 ∨ i = 2 := by omega
        have hj : j = 0 ∨ j = 1 ∨ j = 2 := by omega
        rcases hi with rfl | rfl | rfl <;> rcases hj with rfl | rfl | rfl <;> first | (exfalso; revert q2; decide) | (simp; done) | (simp; grind)
      · omega
  · rw [isM_mat hD _ _ i j q, isM_mm _ _ i j q]
theorem mat_tF_ne {D : Int} (hD : D = 2 ∨ D = 3) {V : Nat → Nat → Int} {c : Int → Int} {l k : Int} (h : k ≠ l) : mat D (tF D l V D 0 c) k = mat D c k := by
  funext i j
  unfold mat
  by_cases q : (i : Int) < D ∧ (j : Int) < D
  · rw [if_pos q, if_pos q, tF_out (by omega)]
  · rw [if_neg q, if_neg q]
theorem tF_ok {D : Int} {f h c : Int → Int} {g k l : Int} {i0 j0 : Int} (oc : okR c) : okR (tF D l (mEnt D f g h k) i0 j0 c) := by
  intro x
  unfold tF
  split
  · unfold mEnt; omega
  · exact oc x
def gFind (L : Nat → cMat) (c : cMat) : Nat → Nat
  | 0 => 0
  | n + 1 => if gFind L c n < n then gFind L c n else if mSame (L n) c = true then n else n + 1
theorem gFind_le (L : Nat → cMat) (c : cMat) (n : Nat) : gFind L c n ≤ n := by
  induction n with
  | zero => exact Nat.le_refl 0
  | succ n ih => rw [gFind]; split <;> (try split) <;> omega
theorem gFind_no {L : Nat → cMat} {c : cMat} : ∀ {n k : Nat}, k < gFind L c n → mSame (L k) c = false := by
  intro n
  induction n with
  | zero => intro k h; exact absurd h (by simp [gFind])
  | succ n ih =>
    intro k h
    rw [gFind] at h
    have hl := gFind_le L c n
    by_cases h1 : gFind L c n < n
    · rw [if_pos h1] at h; exact ih h
    · rw [if_neg h1] at h
      by_cases h2 : mSame (L n) c = true
      · rw [if_pos h2] at h; exact ih (by omega)
      · rw [if_neg h2] at h
        by_cases h3 : k = n
        · rw [h3]; exact Bool.eq_false_iff.mpr h2
        · exact ih (by omega)
theorem gFind_at {L : Nat → cMat} {c : cMat} : ∀ {n : Nat}, gFind L c n < n → mSame (L (gFind L c n)) c = true := by
  intro n
  induction n with
  | zero => intro h; omega
  | succ n ih =>
    intro h
    rw [gFind] at h ⊢
    by_cases h1 : gFind L c n < n
    · rw [if_pos h1]; exact ih h1
    · rw [if_neg h1] at h ⊢
      by_cases h2 : mSame (L n) c = true
      · rw [if_pos h2]; exact h2
      · rw [if_neg h2] at h; omega
theorem gFind_uniq {L : Nat → cMat} {c : cMat} {n r : Nat} (h1 : r ≤ n) (h2 : ∀ k, k < r → mSame (L k) c = false) (h3 : r < n → mSame (L r) c = true) : gFind L c n = r := by
  have hl := gFind_le L c n
  rcases Nat.lt_trichotomy (gFind L c n) r with q | q | q
  · have := gFind_at (L := L) (c := c) (n := n) (by omega)
    rw [h2 _ q] at this
    exact absurd this (by decide)
  · exact q
  · have := gFind_no q
    rw [h3 (by omega)] at this
    exact absurd this (by decide)
theorem gFind_congr {L L' : Nat → cMat} {c : cMat} {n : Nat} (h : ∀ k, k < n → L k = L' k) : gFind L c n = gFind L' c n := by
  induction n with
  | zero => rfl
  | succ n ih => rw [gFind, gFind, ih (fun k q => h k (by omega)), h n (by omega)]
/-- a member times a table: found, or a new one (none: too many) -/
def gStep (T : Nat → cMat) (g t : Nat) (s : Nat × (Nat → cMat)) : Option (Nat × (Nat → cMat)) :=
  if gFind s.2 (mm (s.2 g) (T t)) s.1 = s.1 then (if s.1 = 48 then none else some (s.1 + 1, fun k => if k = s.1 then mm (s.2 g) (T t) else s.2 k)) else some s
def gRow (T : Nat → cMat) (g : Nat) : Nat → Nat × (Nat → cMat) → Option (Nat × (Nat → cMat))
  | 0, s => some s
  | t + 1, s => (gRow T g t s).bind (gStep T g t)
def gAll (T : Nat → cMat) (nt : Nat) : Nat → Option (Nat × (Nat → cMat))
  | 0 => some (1, fun _ => mId)
  | g + 1 => (gAll T nt g).bind fun s => if g < s.1 then gRow T g nt s else some s
theorem gAll_stay {T : Nat → cMat} {nt g : Nat} {s : Nat × (Nat → cMat)} (h : gAll T nt g = some s) (hs : s.1 ≤ g) (m : Nat) : gAll T nt (g + m) = some s := by
  induction m with
  | zero => exact h
  | succ m ih =>
    show (gAll T nt (g + m)).bind _ = _
    rw [ih]
    show (if g + m < s.1 then _ else _) = _
    rw [if_neg (by omega)]
theorem gAll_none {T : Nat → cMat} {nt g : Nat} (h : gAll T nt g = none) (m : Nat) : gAll T nt (g + m) = none := by
  induction m with
  | zero => exact h
  | succ m ih =>
    show (gAll T nt (g + m)).bind _ = _
    rw [ih]
    rfl
theorem gRow_none {T : Nat → cMat} {g t : Nat} {s : Nat × (Nat → cMat)} (h : gRow T g t s = none) (m : Nat) : gRow T g (t + m) s = none := by
  induction m with
  | zero => exact h
  | succ m ih =>
    show (gRow T g (t + m) s).bind _ = _
    rw [ih]
    rfl
theorem gStep_bd {T : Nat → cMat} {g t : Nat} {s s' : Nat × (Nat → cMat)} (h : gStep T g t s = some s') (hs : s.1 ≤ 48) : s'.1 ≤ 48 ∧ s.1 ≤ s'.1 := by
  unfold gStep at h
  by_cases h1 : gFind s.2 (mm (s.2 g) (T t)) s.1 = s.1
  · rw [if_pos h1] at h
    by_cases h2 : s.1 = 48
    · rw [if_pos h2] at h; exact absurd h (by simp)
    · rw [if_neg h2] at h
      injection h with h
      subst h
      exact ⟨by show s.1 + 1 ≤ 48; omega, by show s.1 ≤ s.1 + 1; omega⟩
  · rw [if_neg h1] at h
    injection h with h
    subst h
    exact ⟨hs, Nat.le_refl _⟩
