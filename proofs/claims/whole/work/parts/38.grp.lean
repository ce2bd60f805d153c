/-! GROUPS: what the members are -/
theorem mm_in {A B : cMat} {i j : Nat} (h : i < 3 ∧ j < 3) : mm A B i j = A i 0 * B 0 j + A i 1 * B 1 j + A i 2 * B 2 j := if_pos h
theorem mm_assoc (A B C : cMat) : mm (mm A B) C = mm A (mm B C) := by
  funext i j
  by_cases h : i < 3 ∧ j < 3
  · rw [mm_in h, mm_in h, mm_in ⟨h.1, by omega⟩, mm_in ⟨h.1, by omega⟩, mm_in ⟨h.1, by omega⟩, mm_in ⟨by omega, h.2⟩, mm_in ⟨by omega, h.2⟩, mm_in ⟨by omega, h.2⟩]
    grind
  · rw [isM_mm _ _ i j h, isM_mm _ _ i j h]
theorem mm_id {A : cMat} (hA : isM A) : mm A mId = A := by
  funext i j
  by_cases h : i < 3 ∧ j < 3
  · rw [mm_in h]
    have hj : j = 0 ∨ j = 1 ∨ j = 2 := by omega
    unfold mId
    rcases hj with rfl | rfl | rfl <;> simp <;> grind
  · rw [isM_mm _ _ i j h, hA i j h]
theorem id_mm {A : cMat} (hA : isM A) : mm mId A = A := by
  funext i j
  by_cases h : i < 3 ∧ j < 3
  · rw [mm_in h]
    have hi : i = 0 ∨ i = 1 ∨ i = 2 := by omega
    unfold mId
    rcases hi with rfl | rfl | rfl <;> simp <;> grind
  · rw [isM_mm _ _ i j h, hA i j h]
def mDet (A : cMat) : cF := A 0 0 * (A 1 1 * A 2 2 - A 1 2 * A 2 1) + A 0 1 * (A 1 2 * A 2 0 - A 1 0 * A 2 2) + A 0 2 * (A 1 0 * A 2 1 - A 1 1 * A 2 0)
/-- the table that undoes another one -/
def mUn (A : cMat) : cMat := fun i j => if i < 3 ∧ j < 3 then fInv (mDet A) * (A ((j + 1) % 3) ((i + 1) % 3) * A ((j + 2) % 3) ((i + 2) % 3) - A ((j + 1) % 3) ((i + 2) % 3) * A ((j + 2) % 3) ((i + 1) % 3)) else 0
theorem isM_un (A : cMat) : isM (mUn A) := fun i j h => if_neg h
theorem mUn_in {A : cMat} {i j : Nat} (h : i < 3 ∧ j < 3) : mUn A i j = fInv (mDet A) * (A ((j + 1) % 3) ((i + 1) % 3) * A ((j + 2) % 3) ((i + 2) % 3) - A ((j + 1) % 3) ((i + 2) % 3) * A ((j + 2) % 3) ((i + 1) % 3)) := if_pos h
theorem un_gen1 {R : Type} [Lean.Grind.CommRing R] (A : Nat → Nat → R) (w : R) (hd : (A 0 0 * (A 1 1 * A 2 2 - A 1 2 * A 2 1) + A 0 1 * (A 1 2 * A 2 0 - A 1 0 * A 2 2) + A 0 2 * (A 1 0 * A 2 1 - A 1 1 * A 2 0)) * w = 1) (i j : Nat) (hi : i = 0 ∨ i = 1 ∨ i = 2) (hj : j = 0 ∨ j = 1 ∨ j = 2) : A i 0 * (w * (A ((j + 1) % 3) ((0 + 1) % 3) * A ((j + 2) % 3) ((0 + 2) % 3) - A ((j + 1) % 3) ((0 + 2) % 3) * A ((j + 2) % 3) ((0 + 1) % 3))) + A i 1 * (w * (A ((j + 1) % 3) ((1 + 1) % 3) * A ((j + 2) % 3) ((1 + 2) % 3) - A ((j + 1) % 3) ((1 + 2) % 3) * A ((j + 2) % 3) ((1 + 1) % 3))) + A i 2 * (w * (A ((j + 1) % 3) ((2 + 1) % 3) * A ((j + 2) % 3) ((2 + 2) % 3) - A ((j + 1) % 3) ((2 + 2) % 3) * A ((j + 2) % 3) ((2 + 1) % 3))) = if i = j then 1 else 0 := by
  rcases hi with rfl | rfl | rfl <;> rcases hj with rfl | rfl | rfl <;> (simp; generalize A 0 0 = v00 at hd ⊢; generalize A 0 1 = v01 at hd ⊢; generalize A 0 2 = v02 at hd ⊢; generalize A 1 0 = v10 at hd ⊢; generalize A 1 1 = v11 at hd ⊢; generalize A 1 2 = v12 at hd ⊢; generalize A 2 0 = v20 at hd ⊢; generalize A 2 1 = v21 at hd ⊢; generalize A 2 2 = v22 at hd ⊢; grind)

theorem un_gen2 {R : Type} [Lean.Grind.CommRing R] (A : Nat → Nat → R) (w : R) (hd : (A 0 0 * (A 1 1 * A 2 2 - A 1 2 * A 2 1) + A 0 1 * (A 1 2 * A 2 0 - A 1 0 * A 2 2) + A 0 2 * (A 1 0 * A 2 1 - A 1 1 * A 2 0)) * w = 1) (i j : Nat) (hi : i = 0 ∨ i = 1 ∨ i = 2) (hj : j = 0 ∨ j = 1 ∨ j = 2) : w * (A ((0 + 1) % 3) ((i + 1) % 3) * A ((0 + 2) % 3) ((i + 2) % 3) - A ((0 + 1) % 3) ((i + 2) % 3) * A ((0 + 2) % 3) ((i + 1) % 3)) * A 0 j + w * (A ((1 + 1) % 3) ((i + 1) % 3) * A ((1 + 2) % 3) ((i + 2) % 3) - A ((1 + 1) % 3) ((i + 2) % 3) * A ((1 + 2) % 3) ((i + 1) % 3)) * A 1 j + w * (A ((2 + 1) % 3) ((i + 1) % 3) * A ((2 + 2) % 3) ((i + 2) % 3) - A ((2 + 1) % 3) ((i + 2) % 3) * A ((2 + 2) % 3) ((i + 1) % 3)) * A 2 j = if i = j then 1 else 0 := by
  rcases hi with rfl | rfl | rfl <;> rcases hj with rfl | rfl | rfl <;> (simp; generalize A 0 0 = v00 at hd ⊢; generalize A 0 1 = v01 at hd ⊢; generalize A 0 2 = v02 at hd ⊢; generalize A 1 0 = v10 at hd ⊢; generalize A 1 1 = v11 at hd ⊢; generalize A 1 2 = v12 at hd ⊢; generalize A 2 0 = v20 at hd ⊢; generalize A 2 1 = v21 at hd ⊢; generalize A 2 2 = v22 at hd ⊢; grind)

theorem mm_un {A : cMat} (h : mDet A ≠ 0) : mm A (mUn A) = mId := by
  have hd := fInv_mul h
  funext i j
  by_cases q : i < 3 ∧ j < 3
  · rw [mm_in q, mUn_in ⟨by omega, q.2⟩, mUn_in ⟨by omega, q.2⟩, mUn_in ⟨by omega, q.2⟩]
    refine (un_gen1 A (fInv (mDet A)) hd i j (by omega) (by omega)).trans ?_
    unfold mId
    by_cases e : i = j
    · rw [if_pos e, if_pos ⟨e, q.1⟩]
    · rw [if_neg e, if_neg (fun x => e x.1)]
  · rw [isM_mm _ _ i j q, isM_id i j q]
theorem un_mm {A : cMat} (h : mDet A ≠ 0) : mm (mUn A) A = mId := by
  have hd := fInv_mul h
  funext i j
  by_cases q : i < 3 ∧ j < 3
  · rw [mm_in q, mUn_in ⟨q.1, by omega⟩, mUn_in ⟨q.1, by omega⟩, mUn_in ⟨q.1, by omega⟩]
    refine (un_gen2 A (fInv (mDet A)) hd i j (by omega) (by omega)).trans ?_
    unfold mId
    by_cases e : i = j
    · rw [if_pos e, if_pos ⟨e, q.1⟩]
    · rw [if_neg e, if_neg (fun x => e x.1)]
  · rw [isM_mm _ _ i j q, isM_id i j q]
/-- what holds of the members up to the pair (g, t) -/
def gInv (T : Nat → cMat) (nt g t : Nat) (s : Nat × (Nat → cMat)) : Prop :=
  1 ≤ s.1 ∧ s.2 0 = mId ∧ (∀ k, k < s.1 → isM (s.2 k)) ∧ (∀ i j, i < j → j < s.1 → s.2 i ≠ s.2 j) ∧ (∀ k, 0 < k → k < s.1 → ∃ a b, a < k ∧ b < nt ∧ s.2 k = mm (s.2 a) (T b)) ∧ (∀ a b, (a < g ∨ (a = g ∧ b < t)) → a < s.1 → b < nt → ∃ k, k < s.1 ∧ s.2 k = mm (s.2 a) (T b))
theorem gStep_inv {T : Nat → cMat} {nt g t : Nat} {s s' : Nat × (Nat → cMat)} (h : gInv T nt g t s) (hg : g < s.1) (ht : t < nt) (e : gStep T g t s = some s') : gInv T nt g (t + 1) s' := by
  obtain ⟨h1, h2, h3, h4, h5, h6⟩ := h
  unfold gStep at e
  have hle := gFind_le s.2 (mm (s.2 g) (T t)) s.1
  by_cases q : gFind s.2 (mm (s.2 g) (T t)) s.1 = s.1
  · rw [if_pos q] at e
    by_cases q2 : s.1 = 48
    · rw [if_pos q2] at e; exact absurd e (by simp)
    · rw [if_neg q2] at e
      injection e with e
      subst e
      have hne : ∀ k, k < s.1 → s.2 k ≠ mm (s.2 g) (T t) := by
        intro k hk e0
        have := gFind_no (L := s.2) (c := mm (s.2 g) (T t)) (n := s.1) (k := k) (by omega)
        rw [(mSame_iff (h3 k hk) (isM_mm _ _)).mpr e0] at this
        exact absurd this (by decide)
      have old : ∀ k, k < s.1 → (if k = s.1 then mm (s.2 g) (T t) else s.2 k) = s.2 k := fun k hk => if_neg (by omega)
      have new : (if s.1 = s.1 then mm (s.2 g) (T t) else s.2 s.1) = mm (s.2 g) (T t) := if_pos rfl
      refine ⟨by show 1 ≤ s.1 + 1; omega, ?_, ?_, ?_, ?_, ?_⟩
      · show (if 0 = s.1 then _ else _) = _
        rw [old 0 (by omega), h2]
      · intro k hk
        have hk : k < s.1 + 1 := hk
        show isM (if k = s.1 then _ else _)
        by_cases ek : k = s.1
        · rw [ek, new]; exact isM_mm _ _
        · rw [old k (by omega)]; exact h3 k (by omega)
      · intro i j hij hj
        have hj : j < s.1 + 1 := hj
        show (if i = s.1 then _ else _) ≠ (if j = s.1 then _ else _)
        rw [old i (by omega)]
        by_cases ej : j = s.1
        · rw [ej, new]; exact hne i (by omega)
        · rw [old j (by omega)]; exact h4 i j hij (by omega)
      · intro k k0 hk
        have hk : k < s.1 + 1 := hk
        by_cases ek : k = s.1
        · refine ⟨g, t, by omega, ht, ?_⟩
          show (if k = s.1 then _ else _) = mm (if g = s.1 then _ else _) _
          rw [ek, new, old g hg]
        · obtain ⟨a, b, x1, x2, x3⟩ := h5 k k0 (by omega)
          refine ⟨a, b, x1, x2, ?_⟩
          show (if k = s.1 then _ else _) = mm (if a = s.1 then _ else _) _
          rw [old k (by omega), old a (by omega)]
          exact x3
      · intro a b hab ha hb
        have ha : a < s.1 + 1 := ha
        by_cases e1 : a = g ∧ b = t
        · refine ⟨s.1, by show s.1 < s.1 + 1; omega, ?_⟩
          show (if s.1 = s.1 then _ else _) = mm (if a = s.1 then _ else _) _
          rw [new, old a (by omega), e1.1, e1.2]
        · obtain ⟨k, x1, x2⟩ := h6 a b (by omega) (by omega) hb
          refine ⟨k, by show k < s.1 + 1; omega, ?_⟩
          show (if k = s.1 then _ else _) = mm (if a = s.1 then _ else _) _
          rw [old k x1, old a (by omega)]
          exact x2
  · rw [if_neg q] at e
    injection e with e
    subst e
    refine ⟨h1, h2, h3, h4, h5, ?_⟩
    intro a b hab ha hb
    by_cases e1 : a = g ∧ b = t
    · have hf := gFind_at (L := s.2) (c := mm (s.2 g) (T t)) (n := s.1) (by omega)
      refine ⟨gFind s.2 (mm (s.2 g) (T t)) s.1, by omega, ?_⟩
      · rw [e1.1, e1.2]
        exact (mSame_iff (h3 _ (by omega)) (isM_mm _ _)).mp hf
    · exact h6 a b (by omega) ha hb
theorem gRow_inv {T : Nat → cMat} {nt g : Nat} {s : Nat × (Nat → cMat)} (h : gInv T nt g 0 s) (hg : g < s.1) (hs : s.1 ≤ 48) : ∀ (t : Nat) (s' : Nat × (Nat → cMat)), t ≤ nt → gRow T g t s = some s' → gInv T nt g t s' ∧ s.1 ≤ s'.1 ∧ s'.1 ≤ 48 := by
  intro t
  induction t with
  | zero =>
    intro s' _ e
    injection e with e
    subst e
    exact ⟨h, Nat.le_refl _, hs⟩
  | succ t ih =>
    intro s' ht e
    have e : (gRow T g t s).bind (gStep T g t) = some s' := e
    cases hr : gRow T g t s with
    | none => rw [hr] at e; exact absurd e (by simp)
    | some s1 =>
      rw [hr] at e
      have e : gStep T g t s1 = some s' := e
      obtain ⟨x1, x2, x3⟩ := ih s1 (by omega) hr
      have y := gStep_bd e x3
      exact ⟨gStep_inv x1 (by omega) (by omega) e, by omega, y.1⟩
theorem gAll_inv {T : Nat → cMat} {nt : Nat} : ∀ (g : Nat) (s : Nat × (Nat → cMat)), gAll T nt g = some s → gInv T nt g 0 s ∧ s.1 ≤ 48 := by
  intro g
  induction g with
  | zero =>
    intro s e
    injection e with e
    subst e
    refine ⟨⟨Nat.le_refl 1, rfl, fun k _ => isM_id, ?_, ?_, ?_⟩, by show 1 ≤ 48; omega⟩
    · intro i j h1 h2
      have h2 : j < 1 := h2
      omega
    · intro k h1 h2
      have h2 : k < 1 := h2
      omega
    · intro a b h; omega
  | succ g ih =>
    intro s e
    have e : (gAll T nt g).bind (fun s => if g < s.1 then gRow T g nt s else some s) = some s := e
    cases hr : gAll T nt g with
    | none => rw [hr] at e; exact absurd e (by simp)
    | some s1 =>
      rw [hr] at e
      have e : (if g < s1.1 then gRow T g nt s1 else some s1) = some s := e
      obtain ⟨x1, x2⟩ := ih s1 hr
      by_cases q : g < s1.1
      · rw [if_pos q] at e
        obtain ⟨⟨y1, y2, y3, y4, y5, y6⟩, z2, z3⟩ := gRow_inv x1 q x2 nt s (Nat.le_refl _) e
        exact ⟨⟨y1, y2, y3, y4, y5, fun a b h1 h2 h3 => y6 a b (by omega) h2 h3⟩, z3⟩
      · rw [if_neg q] at e
        injection e with e
        subst e
        obtain ⟨y1, y2, y3, y4, y5, y6⟩ := x1
        exact ⟨⟨y1, y2, y3, y4, y5, fun a b h1 h2 h3 => y6 a b (by omega) h2 h3⟩, x2⟩
/-- the members of a finite group of tables -/
def isG (T : Nat → cMat) (nt n : Nat) (L : Nat → cMat) : Prop :=
  1 ≤ n ∧ n ≤ 48 ∧ L 0 = mId ∧ (∀ k, k < n → isM (L k)) ∧ (∀ i j, i < n → j < n → L i = L j → i = j) ∧ (∀ k, 0 < k → k < n → ∃ a b, a < k ∧ b < nt ∧ L k = mm (L a) (T b)) ∧ (∀ a b, a < n → b < nt → ∃ k, k < n ∧ L k = mm (L a) (T b))
theorem isG_all {T : Nat → cMat} {nt : Nat} {s : Nat × (Nat → cMat)} (h : gAll T nt 48 = some s) : isG T nt s.1 s.2 := by
  obtain ⟨⟨y1, y2, y3, y4, y5, y6⟩, x2⟩ := gAll_inv 48 s h
  refine ⟨y1, x2, y2, y3, ?_, y5, fun a b h1 h2 => y6 a b (by omega) h1 h2⟩
  intro i j hi hj e
  rcases Nat.lt_trichotomy i j with q | q | q
  · exact absurd e (y4 i j q hj)
  · exact q
  · exact absurd e.symm (y4 j i q hi)
section GR
variable {T : Nat → cMat} {nt n : Nat} {L : Nat → cMat}
theorem isG_mul (G : isG T nt n L) {a : Nat} (ha : a < n) : ∀ {b : Nat}, b < n → ∃ k, k < n ∧ L k = mm (L a) (L b) := by
  obtain ⟨h1, h2, h3, h4, h5, h6, h7⟩ := G
  intro b
  induction b using Nat.strongRecOn with
  | ind b ih =>
    intro hb
    by_cases b0 : b = 0
    · exact ⟨a, ha, by rw [b0, h3, mm_id (h4 a ha)]⟩
    · obtain ⟨c, t, x1, x2, x3⟩ := h6 b (by omega) hb
      obtain ⟨k, y1, y2⟩ := ih c x1 (by omega)
      obtain ⟨l, z1, z2⟩ := h7 k t y1 x2
      exact ⟨l, z1, by rw [z2, y2, x3, mm_assoc]⟩
/-- the number of a product -/
def gm (n : Nat) (L : Nat → cMat) (a b : Nat) : Nat := gFind L (mm (L a) (L b)) n
theorem gm_lt (G : isG T nt n L) {a b : Nat} (ha : a < n) (hb : b < n) : gm n L a b < n ∧ L (gm n L a b) = mm (L a) (L b) := by
  obtain ⟨k, x1, x2⟩ := isG_mul G ha hb
  have hM := G.2.2.2.1
  have hle := gFind_le L (mm (L a) (L b)) n
  have hlt : gm n L a b < n := by
    rcases Nat.lt_or_ge (gm n L a b) n with q | q
    · exact q
    · have := gFind_no (L := L) (c := mm (L a) (L b)) (n := n) (k := k) (by unfold gm at q; omega)
      rw [(mSame_iff (hM k x1) (isM_mm _ _)).mpr x2] at this
      exact absurd this (by decide)
  exact ⟨hlt, (mSame_iff (hM _ hlt) (isM_mm _ _)).mp (gFind_at hlt)⟩
theorem gm_eq (G : isG T nt n L) {a b k : Nat} (ha : a < n) (hb : b < n) (hk : k < n) : gm n L a b = k ↔ L k = mm (L a) (L b) := by
  obtain ⟨x1, x2⟩ := gm_lt G ha hb
  constructor
  · intro e; rw [← e]; exact x2
  · intro e; exact G.2.2.2.2.1 _ _ x1 hk (x2.trans e.symm)
theorem gm_assoc (G : isG T nt n L) {a b c : Nat} (ha : a < n) (hb : b < n) (hc : c < n) : gm n L (gm n L a b) c = gm n L a (gm n L b c) := by
  obtain ⟨x1, x2⟩ := gm_lt G ha hb
  obtain ⟨y1, y2⟩ := gm_lt G hb hc
  obtain ⟨z1, z2⟩ := gm_lt G ha y1
  rw [gm_eq G x1 hc z1, z2, y2, x2, mm_assoc]
theorem gm_zero (G : isG T nt n L) {a : Nat} (ha : a < n) : gm n L a 0 = a := by
  rw [gm_eq G ha (by have := G.1; omega) ha, G.2.2.1, mm_id (G.2.2.2.1 a ha)]
theorem zero_gm (G : isG T nt n L) {a : Nat} (ha : a < n) : gm n L 0 a = a := by
  rw [gm_eq G (by have := G.1; omega) ha ha, G.2.2.1, id_mm (G.2.2.2.1 a ha)]
/-- every member can be undone, as the tables can -/
theorem isG_un (G : isG T nt n L) (hT : ∀ t, t < nt → mDet (T t) ≠ 0) : ∀ {k : Nat}, k < n → ∃ B, isM B ∧ mm (L k) B = mId ∧ mm B (L k) = mId := by
  intro k
  induction k using Nat.strongRecOn with
  | ind k ih =>
    intro hk
    by_cases k0 : k = 0
    · exact ⟨mId, isM_id, by rw [k0, G.2.2.1, mm_id isM_id], by rw [k0, G.2.2.1, mm_id isM_id]⟩
    · obtain ⟨c, t, x1, x2, x3⟩ := G.2.2.2.2.2.1 k (by omega) hk
      obtain ⟨B, b1, b2, b3⟩ := ih c x1 (by omega)
      refine ⟨mm (mUn (T t)) B, isM_mm _ _, ?_, ?_⟩
      · rw [x3, mm_assoc, ← mm_assoc (T t), mm_un (hT t x2), id_mm b1, b2]
      · rw [x3, mm_assoc, ← mm_assoc B, b3, ← mm_assoc, mm_id (isM_un _), un_mm (hT t x2)]
end GR
