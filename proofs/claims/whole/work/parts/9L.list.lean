/-! THE LIST of secondary ones, as both programs find it -/
noncomputable def seRow (D : Int) (T : Nat → cMat) (nt : Nat) (v : Nat → Int → Int) (dg : Nat → Int) (t : Nat) : Nat → List (Int × Nat) → List (Int × Nat)
  | 0, l => l
  | r + 1, l => @ite (List (Int × Nat)) (sx_p D T nt v dg (seRow D T nt v dg t r l) t (toP D (sx_b D T nt ((t : Int), r)))) (Classical.propDecidable _) (seRow D T nt v dg t r l) (seRow D T nt v dg t r l ++ [((t : Int), r)])
noncomputable def seAll (D : Int) (T : Nat → cMat) (nt : Nat) (v : Nat → Int → Int) (dg : Nat → Int) : Nat → List (Int × Nat)
  | 0 => []
  | t + 1 => seRow D T nt v dg t (bsRows D T nt t) (seAll D T nt v dg t)
section SE
variable {D : Int} {T : Nat → cMat} {nt n : Nat} {L : Nat → cMat} {v : Nat → Int → Int} {dg : Nat → Int}
theorem seRow_yes {t r : Nat} {l : List (Int × Nat)} (h : sx_p D T nt v dg (seRow D T nt v dg t r l) t (toP D (sx_b D T nt ((t : Int), r)))) : seRow D T nt v dg t (r + 1) l = seRow D T nt v dg t r l := by
  rw [seRow, if_pos h]
theorem seRow_no {t r : Nat} {l : List (Int × Nat)} (h : ¬ sx_p D T nt v dg (seRow D T nt v dg t r l) t (toP D (sx_b D T nt ((t : Int), r)))) : seRow D T nt v dg t (r + 1) l = seRow D T nt v dg t r l ++ [((t : Int), r)] := by
  rw [seRow, if_neg h]
theorem seRow_len {t : Nat} {l : List (Int × Nat)} {r r' : Nat} (h : r ≤ r') : (seRow D T nt v dg t r l).length ≤ (seRow D T nt v dg t r' l).length := by
  induction r' with
  | zero => rw [show r = 0 by omega]; exact Nat.le_refl _
  | succ r' ih =>
    by_cases e : r = r' + 1
    · rw [e]; exact Nat.le_refl _
    · have h1 := ih (by omega)
      by_cases q : sx_p D T nt v dg (seRow D T nt v dg t r' l) t (toP D (sx_b D T nt ((t : Int), r')))
      · rw [seRow_yes q]; exact h1
      · rw [seRow_no q, List.length_append]; omega
/-- what holds of the list while it is found -/
def seOk (D : Int) (T : Nat → cMat) (nt : Nat) (v : Nat → Int → Int) (dg : Nat → Int) (t r : Nat) (l : List (Int × Nat)) : Prop := sx_L D T nt l ∧ sx_M D T nt v dg l ∧ sx_O l ∧ (∀ j, j < l.length → sx_d l j ≤ t) ∧ (∀ t', t' < t → ∀ r', r' < bsRows D T nt t' → sx_p D T nt v dg l t' (toP D (sx_b D T nt ((t' : Int), r')))) ∧ ∀ r', r' < r → sx_p D T nt v dg l t (toP D (sx_b D T nt ((t : Int), r')))
theorem seRow_ok {t : Nat} (t1 : t ≤ 15) {l : List (Int × Nat)} (h : seOk D T nt v dg t 0 l) : ∀ r, r ≤ bsRows D T nt t → seOk D T nt v dg t r (seRow D T nt v dg t r l) ∧ ∃ l', seRow D T nt v dg t r l = l ++ l' ∧ ∀ x, x ∈ l' → x.1 = t := by
  intro r
  induction r with
  | zero => intro _; exact ⟨h, [], (List.append_nil l).symm, fun x hx => absurd hx List.not_mem_nil⟩
  | succ r ih =>
    intro hr
    obtain ⟨⟨a1, a2, a3, a4, a5, a6⟩, l', e', hl'⟩ := ih (by omega)
    by_cases q : sx_p D T nt v dg (seRow D T nt v dg t r l) t (toP D (sx_b D T nt ((t : Int), r)))
    · rw [seRow_yes q]
      refine ⟨⟨a1, a2, a3, a4, a5, fun r' hr' => ?_⟩, l', e', hl'⟩
      by_cases e : r' = r
      · rw [e]; exact q
      · exact a6 r' (by omega)
    · rw [seRow_no q]
      have hd : ∀ j, j < (seRow D T nt v dg t r l).length → sx_d (seRow D T nt v dg t r l) j ≤ ((t : Int), r).1.toNat := fun j hj => by have := a4 j hj; show _ ≤ ((t : Int)).toNat; omega
      refine ⟨⟨sx_Lap a1 ⟨by show (0 : Int) ≤ t; omega, by show (t : Int) ≤ 15; omega, by show r < bsRows D T nt t; omega⟩, sx_Map a2 q, sx_Oap a3 hd, fun j hj => ?_, fun t' ht' r' hr' => sx_pap _ (a5 t' ht' r' hr'), fun r' hr' => ?_⟩, l' ++ [((t : Int), r)], by rw [e', List.append_assoc], fun x hx => ?_⟩
      · rw [List.length_append] at hj
        have hj' : j < (seRow D T nt v dg t r l).length + 1 := hj
        by_cases e : j = (seRow D T nt v dg t r l).length
        · subst e
          unfold sx_d
          rw [sx_last]
          show ((t : Int)).toNat ≤ t
          omega
        · rw [(sx_dap (show j < (seRow D T nt v dg t r l).length by omega))]
          exact a4 j (by omega)
      · by_cases e : r' = r
        · rw [e]; exact sx_new ((t : Int), r)
        · exact sx_pap _ (a6 r' (by omega))
      · rcases List.mem_append.mp hx with y | y
        · exact hl' x y
        · rw [List.mem_singleton.mp y]
/-- degrees below t -/
def seLow (l : List (Int × Nat)) (t : Nat) : Prop := ∀ j, j < l.length → sx_d l j < t
theorem seAll_ok : ∀ t, t ≤ 16 → seOk D T nt v dg t 0 (seAll D T nt v dg t) ∧ seLow (seAll D T nt v dg t) t := by
  intro t
  induction t with
  | zero =>
    intro _
    refine ⟨⟨fun x hx => absurd hx List.not_mem_nil, fun j hj => absurd hj (Nat.not_lt_zero j), fun a b _ hb => absurd hb (Nat.not_lt_zero b), fun j hj => absurd hj (Nat.not_lt_zero j), fun t' ht' => absurd ht' (Nat.not_lt_zero t'), fun r' hr' => absurd hr' (Nat.not_lt_zero r')⟩, fun j hj => absurd hj (Nat.not_lt_zero j)⟩
  | succ t ih =>
    intro ht
    obtain ⟨a, b⟩ := ih (by omega)
    obtain ⟨⟨c1, c2, c3, c4, c5, c6⟩, -⟩ := seRow_ok (by omega) a (bsRows D T nt t) (Nat.le_refl _)
    refine ⟨⟨c1, c2, c3, fun j hj => by have := c4 j hj; show sx_d (seRow D T nt v dg t (bsRows D T nt t) (seAll D T nt v dg t)) j ≤ t + 1; omega, fun t' ht' r' hr' => ?_, fun r' hr' => absurd hr' (Nat.not_lt_zero r')⟩, fun j hj => by have := c4 j hj; show sx_d (seRow D T nt v dg t (bsRows D T nt t) (seAll D T nt v dg t)) j < t + 1; omega⟩
    by_cases e : t' = t
    · subst e; exact c6 r' hr'
    · exact c5 t' (by omega) r' hr'
theorem seAll_pre {t t' : Nat} (h : t ≤ t') (h16 : t' ≤ 16) : ∃ l', seAll D T nt v dg t' = seAll D T nt v dg t ++ l' ∧ ∀ x, x ∈ l' → (t : Int) ≤ x.1 := by
  induction t' with
  | zero => rw [show t = 0 by omega]; exact ⟨[], rfl, fun x hx => absurd hx List.not_mem_nil⟩
  | succ t' ih =>
    by_cases e : t = t' + 1
    · subst e; exact ⟨[], (List.append_nil _).symm, fun x hx => absurd hx List.not_mem_nil⟩
    · obtain ⟨l', e', hl'⟩ := ih (by omega) (by omega)
      obtain ⟨-, l2, e2, h2⟩ := seRow_ok (D := D) (T := T) (nt := nt) (v := v) (dg := dg) (t := t') (by omega) (seAll_ok t' (by omega)).1 (bsRows D T nt t') (Nat.le_refl _)
      refine ⟨l' ++ l2, ?_, fun x hx => ?_⟩
      · show seRow D T nt v dg t' (bsRows D T nt t') (seAll D T nt v dg t') = _
        rw [e2, e', List.append_assoc]
      · rcases List.mem_append.mp hx with y | y
        · exact hl' x y
        · rw [h2 x y]; omega
end SE
