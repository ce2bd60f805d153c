/-! THE CLASS: rows that are made; a whole polynomial is read -/
abbrev zC (z : cm_Z) : Nat := z.2.2.2.2.1
abbrev zS (z : cm_Z) : Nat := z.2.2.2.2.2
/-- what lay there before stays, but for references of l -/
def zg (l : List Nat) (z z1 : cm_Z) : Prop := (∀ a, a < zN z → a ∉ l → z1.1 a = z.1 a) ∧ (∀ a, a < zN z → z1.2.1 a = z.2.1 a) ∧ zN z ≤ zN z1
theorem zg_refl (l : List Nat) (z : cm_Z) : zg l z z := ⟨fun _ _ _ => rfl, fun _ _ => rfl, Nat.le_refl _⟩
theorem zg_trans {l : List Nat} {z z1 z2 : cm_Z} (h : zg l z z1) (h' : zg l z1 z2) : zg l z z2 := ⟨fun a ha hl => (h'.1 a (Nat.lt_of_lt_of_le ha h.2.2) hl).trans (h.1 a ha hl), fun a ha => (h'.2.1 a (Nat.lt_of_lt_of_le ha h.2.2)).trans (h.2.1 a ha), Nat.le_trans h.2.2 h'.2.2⟩
theorem zg_mono {l l' : List Nat} {z z1 : cm_Z} (h : zg l z z1) (s : ∀ x, x ∈ l → x ∈ l') : zg l' z z1 := ⟨fun a ha hl => h.1 a ha fun m => hl (s a m), h.2⟩
theorem zg_zf {l : List Nat} {z z1 : cm_Z} (h : zf l z z1) : zg l z z1 := ⟨fun a _ hl => h.1 a hl, fun a _ => by rw [h.2], by rw [zN, zN, h.2]; exact Nat.le_refl _⟩
theorem news_spec (h : cm_H) (len : Int) (sl : Nat) : ∀ n : Nat, (∀ a, (ch_news h len sl n).1 a = if ch_n h ≤ a ∧ a < ch_n h + n then (fun _ => 0) else h.1 a) ∧ (∀ a, (ch_news h len sl n).2.1 a = if ch_n h ≤ a ∧ a < ch_n h + n then (fun _ => 0) else h.2.1 a) ∧ (∀ a, (ch_news h len sl n).2.2.1 a = if ch_n h ≤ a ∧ a < ch_n h + n then len else h.2.2.1 a) ∧ ch_n (ch_news h len sl n) = ch_n h + n ∧ ch_c (ch_news h len sl n) = ch_c h + n ∧ ch_s (ch_news h len sl n) = ch_s h + n * sl := by
  intro n
  induction n with
  | zero => exact ⟨fun a => (if_neg (by omega)).symm, fun a => (if_neg (by omega)).symm, fun a => (if_neg (by omega)).symm, rfl, rfl, by rw [Nat.zero_mul]; rfl⟩
  | succ n ih =>
    obtain ⟨i1, i2, i3, i4, i5, i6⟩ := ih
    have e : (ch_news h len sl n).2.2.2.2.1 = ch_n h + n := i4
    refine ⟨fun a => ?_, fun a => ?_, fun a => ?_, ?_, ?_, ?_⟩
    · show (if a = (ch_news h len sl n).2.2.2.2.1 then _ else (ch_news h len sl n).1 a) = _
      rw [e, i1 a]
      by_cases q : a = ch_n h + n
      · rw [if_pos q, if_pos (by omega)]
      · rw [if_neg q]
        by_cases w : ch_n h ≤ a ∧ a < ch_n h + n
        · rw [if_pos w, if_pos (by omega)]
        · rw [if_neg w, if_neg (by omega)]
    · show (if a = (ch_news h len sl n).2.2.2.2.1 then _ else (ch_news h len sl n).2.1 a) = _
      rw [e, i2 a]
      by_cases q : a = ch_n h + n
      · rw [if_pos q, if_pos (by omega)]
      · rw [if_neg q]
        by_cases w : ch_n h ≤ a ∧ a < ch_n h + n
        · rw [if_pos w, if_pos (by omega)]
        · rw [if_neg w, if_neg (by omega)]
    · show (if a = (ch_news h len sl n).2.2.2.2.1 then _ else (ch_news h len sl n).2.2.1 a) = _
      rw [e, i3 a]
      by_cases q : a = ch_n h + n
      · rw [if_pos q, if_pos (by omega)]
      · rw [if_neg q]
        by_cases w : ch_n h ≤ a ∧ a < ch_n h + n
        · rw [if_pos w, if_pos (by omega)]
        · rw [if_neg w, if_neg (by omega)]
    · show ch_n (ch_news h len sl n) + 1 = _
      rw [i4]; omega
    · show ch_c (ch_news h len sl n) + 1 = _
      rw [i5]; omega
    · show ch_s (ch_news h len sl n) + sl = _
      rw [i6, Nat.add_mul, Nat.one_mul]; omega
/-- rows made together -/
theorem nwM_spec {I I1 : cm_I} {z z1 : cm_Z} {m : Int} (m0 : 0 ≤ m) (e : (I1, z1) = nwM (I, z) 21 m) : (∀ a, a < zN z → I1 a = I a) ∧ (∀ a, zN z ≤ a → a < zN z + 22 → I1 a = fun _ => 0) ∧ (∀ a, a < zN z → z1.1 a = z.1 a) ∧ (∀ i : Nat, i < 21 → z1.1 (zN z) (i : Int) = zN z + 1 + i) ∧ (∀ a, a < zN z → z1.2.1 a = z.2.1 a) ∧ z1.2.1 (zN z) = 21 ∧ (∀ i : Nat, i < 21 → z1.2.1 (zN z + 1 + i) = m) ∧ zN z1 = zN z + 22 ∧ zC z1 = zC z + 22 ∧ zS z1 = zS z + 21 + 21 * m.toNat := by
  have n1 : ch_n (ch_new ((I, z) : cm_H) 23 21 (Int.toNat 21)) = zN z + 1 := rfl
  obtain ⟨i1, i2, i3, i4, i5, i6⟩ := news_spec (ch_new ((I, z) : cm_H) 23 21 (Int.toNat 21)) m m.toNat (Int.toNat 21)
  unfold nwM ch_x at e
  injection e with eI ez
  subst eI
  subst ez
  rw [n1] at i1 i2 i3 i4
  have t21 : Int.toNat 21 = 21 := rfl
  rw [t21] at i1 i2 i3 i4 i5 i6 n1 ⊢
  refine ⟨fun a ha => ?_, fun a h0 h1 => ?_, fun a ha => ?_, fun i hi => ?_, fun a ha => ?_, ?_, fun i hi => ?_, ?_, ?_, ?_⟩
  · rw [i1 a, if_neg (by omega)]
    show (if a = zN z then _ else I a) = I a
    rw [if_neg (by omega)]
  · rw [i1 a]
    by_cases q : zN z + 1 ≤ a
    · rw [if_pos (by omega)]
    · rw [if_neg (by omega)]
      show (if a = zN z then _ else I a) = _
      rw [if_pos (by omega)]
  · show (if a = zN z then _ else (ch_news (ch_new ((I, z) : cm_H) 23 21 21) m m.toNat 21).2.1 a) = _
    rw [if_neg (by omega), i2 a, if_neg (by omega)]
    show (if a = zN z then _ else z.1 a) = _
    rw [if_neg (by omega)]
  · show (if zN z = zN z then (fun j : Int => if 0 ≤ j ∧ j < 21 then zN z + 1 + j.toNat else 0) else _) (i : Int) = _
    rw [if_pos rfl]
    show (if (0 : Int) ≤ (i : Int) ∧ (i : Int) < 21 then zN z + 1 + (i : Int).toNat else 0) = _
    rw [if_pos (by omega), Int.toNat_natCast]
  · show (ch_news (ch_new ((I, z) : cm_H) 23 21 21) m m.toNat 21).2.2.1 a = _
    rw [i3 a, if_neg (by omega)]
    show (if a = zN z then _ else z.2.1 a) = _
    rw [if_neg (by omega)]
  · show (ch_news (ch_new ((I, z) : cm_H) 23 21 21) m m.toNat 21).2.2.1 (zN z) = _
    rw [i3, if_neg (by omega)]
    show (if zN z = zN z then (21 : Int) else z.2.1 (zN z)) = _
    rw [if_pos rfl]
  · show (ch_news (ch_new ((I, z) : cm_H) 23 21 21) m m.toNat 21).2.2.1 (zN z + 1 + i) = _
    rw [i3, if_pos (by omega)]
  · show ch_n (ch_news (ch_new ((I, z) : cm_H) 23 21 21) m m.toNat 21) = _
    rw [i4]
  · show ch_c (ch_news (ch_new ((I, z) : cm_H) 23 21 21) m m.toNat 21) = _
    rw [i5]
    show zC z + 1 + 21 = _
    omega
  · show ch_s (ch_news (ch_new ((I, z) : cm_H) 23 21 21) m m.toNat 21) = _
    rw [i6]
    rfl
/-- the reader of polynomials between its calls -/
def smV (z : cm_Z) (J : cm_I) : Prop := (z.1 51 2 = 52 ∧ z.2.1 52 = 0) ∨ (248 ≤ z.1 51 2 ∧ z.1 51 2 + 22 ≤ zN z ∧ isRws z (z.1 51 2) ∧ z.2.1 (z.1 51 2) = 21 ∧ (∃ len : Int, (len = 136 ∨ len = 816) ∧ ∀ i : Nat, i < 21 → z.2.1 (z.1 51 2 + 1 + i) = len) ∧ ∀ i : Nat, i < 21 → okR (J (z.1 51 2 + 1 + i)))
/-- how many cells and slots its rows have taken at most -/
def smC (z : cm_Z) : Nat := if z.1 51 2 = 52 then 0 else if z.2.1 (z.1 51 2 + 1) = 136 then 22 else 44
def smS (z : cm_Z) : Nat := if z.1 51 2 = 52 then 0 else if z.2.1 (z.1 51 2 + 1) = 136 then 2877 else 20034
theorem m16_eq {D : Int} (hD : D = 2 ∨ D = 3) : (D = 2 ∧ mFrom D 16 = 136) ∨ (D = 3 ∧ mFrom D 16 = 816) := by
  rcases hD with e | e
  · left; exact ⟨e, by rw [e]; decide⟩
  · right; exact ⟨e, by rw [e]; decide⟩
theorem wz_zg51 {z z1 : cm_Z} (hz : wz z) (h0 : ∀ a, a < 248 → a ≠ 51 → z1.1 a = z.1 a) (h1 : z1.1 51 0 = z.1 51 0) (h2 : ∀ a, a < 248 → z1.2.1 a = z.2.1 a) (h3 : zN z ≤ zN z1) : wz z1 := by
  obtain ⟨w1, w2, w3, w4, w5, w6⟩ := hz
  have wa : ∀ a j : Nat, j < 100 → 248 ≤ a → wA (a * 100 + j) = 0 := by
    intro a j hj ha
    generalize hk : a * 100 + j = k
    have : 24800 ≤ k := by omega
    unfold wA
    split <;> first | rfl | omega
  have wl : ∀ a, 248 ≤ a → wL a = 0 := by
    intro a ha
    unfold wL
    split <;> first | rfl | omega
  have w51 : ∀ j : Nat, j < 100 → j ≠ 0 → wA (51 * 100 + j) = 0 := by decide
  refine ⟨fun a j hj hw => ?_, fun a ha => ?_, fun i i0 i1 => ?_, fun i i0 i1 => ?_, fun i i0 i1 => ?_, Nat.le_trans w6 h3⟩
  · by_cases q : a < 248
    · by_cases e : a = 51
      · rw [e] at hw ⊢
        by_cases j0 : j = 0
        · rw [j0] at hw ⊢
          show z1.1 51 0 = _
          rw [h1]
          exact w1 51 0 (by decide) hw
        · exact absurd (w51 j hj j0) hw
      · rw [h0 a q e]; exact w1 a j hj hw
    · exact absurd (wa a j hj (by omega)) hw
  · by_cases q : a < 248
    · rw [h2 a q]; exact w2 a ha
    · exact absurd (wl a (by omega)) ha
  · rw [h0 3 (by decide) (by decide), h2 _ (by omega)]; exact w3 i i0 i1
  · rw [h0 68 (by decide) (by decide)]; exact w4 i i0 i1
  · rw [h0 189 (by decide) (by decide)]; exact w5 i i0 i1
