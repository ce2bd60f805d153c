/-! the calls of the reference, with its invariant: polynomials -/
section RC2
variable {d : Nat} {z : cm_Z} {I : cm_I} {T : Nat → cMat} {nt n : Nat} {L : Nat → cMat} {D : Int} {K : Int → Int → Int} {B : Int → Int} {tp : Int} {rf : Option (Int → Int)}
theorem rI_putX (h : rI D T nt n L K B tp rf I) {ok : Prop} {to : Int} {w : Int → Int} {no r : Int} {I1 : cm_I} (p : putPostX I K ok to w no r I1) : putR D T nt n L K B tp rf ok to w no I r I1 := rI_put h ⟨p.1, p.2.1, p.2.2.2⟩ p.2.2.1
theorem q_plus (h : rI D T nt n L K B tp rf I) (hz : mz z) (a b f to : Int) : mI (d + 3) m_Model_plus [vR 12 209, vI a, vI b, vI f, vI to] z I (putR D T nt n L K B tp rf (kFit a ∧ kFit b ∧ kFit to) to (vAdd (f % 2521) (K a) (K b)) (-1) I) := mI_mono (s_plusX hz h.1.1.2.2.1 h.1.1.1 h.2.2.1 a b f to) fun r I1 p => rI_putX h p
theorem q_product (h : rI D T nt n L K B tp rf I) (hz : mz z) (a b to : Int) : mI (d + 4) m_Model_product_ [vR 12 209, vI a, vI b, vI to] z I (putR D T nt n L K B tp rf ((kFit a ∧ kFit b ∧ kFit to) ∧ mDeg D (K a) 0 + mDeg D (K b) 0 ≤ 15) to (vMul D (K a) (K b)) (if kFit a ∧ kFit b ∧ kFit to then -2 else -1) I) := mI_mono (s_product_X hz h.1.1.2.2.1 h.1.1.1 h.1.1.2.1 h.2.2.1 a b to) fun r I1 p => by
  have := rI_putX h p
  rw [(rI_D h).1] at this
  exact this
/-- a frame within the cells, slot 0 put -/
theorem rI_f (h : rI D T nt n L K B tp rf I) {K' : Int → Int → Int} {l : List Nat} {I1 : cm_I} (f : fr l I I1) (hl : ∀ c, c ∈ [210, 211, 212, 217, 218, 219, 221, 228, 229, 230, 234, 235, 236, 239, 240, 245] → c ∉ l) (e9 : I1 209 = st1 (I 209) 0 0) (ho : ∀ c, c ∈ l → c ∈ oL → okR (I1 c)) (k : kOk I1 K') : rI D T nt n L K' B tp rf I1 := rI_k1 h f (fun c hc => hl c (by simp at hc ⊢; omega)) e9 ho k (mGs_fr h.2.1 (by rw [e9]; rfl) (by rw [e9]; rfl) (f 218 (hl 218 (by decide))))
theorem rI_213 (h : rI D T nt n L K B tp rf I) {I1 : cm_I} (e : I1 213 = I 213) (e9 : I1 209 = st1 (I 209) 0 0) : kOk I1 K := kOk_fr h.2.2.1 e (by rw [e9]; rfl)
theorem q_moved (h : rI D T nt n L K B tp rf I) (hz : mz z) (k g to : Int) : mI (d + 5) m_Model_moved [vR 12 209, vI k, vI g, vI to] z I (putR D T nt n L K B tp rf ((kFit k ∧ (0 ≤ g ∧ g < n)) ∧ kFit to) to (mv D (L g.toNat) (K k)) (-1) I) := mI_mono (s_moved hz h.1.1 h.2.2.1 h.2.1 k g to) fun r I1 ⟨f, e9, o6, o4, p⟩ => by
  rw [(rI_D h).1] at p
  have ho : ∀ c, c ∈ [209, 213, 216, 224] → c ∈ oL → okR (I1 c) := fun c hc ho => by
    simp at hc
    rcases hc with w | w | w | w
    · rw [w] at ho; exact absurd ho (by decide)
    · rw [w] at ho; exact absurd ho (by decide)
    · rw [w]; exact o6
    · rw [w]; exact o4
  refine ⟨mdF_of f (by decide), ?_⟩
  rcases p with ⟨a, b, c⟩ | ⟨a, b, c⟩
  · exact Or.inl ⟨a, rI_f h f (by decide) e9 ho b, c⟩
  · exact Or.inr ⟨a, rI_f h f (by decide) e9 ho (rI_213 h b e9), c⟩
theorem gAll_n {s : Nat × (Nat → cMat)} (h : gAll T nt 48 = some s) : 1 ≤ s.1 := (isG_all h).1
theorem q_average (h : rI D T nt n L K B tp rf I) (hz : mz z) (k to : Int) : mI (d + 5) m_Model_average [vR 12 209, vI k, vI to] z I (putR D T nt n L K B tp rf (kFit k ∧ kFit to) to (av D L n (K k)) (-1) I) := mI_mono (s_average hz h.1.1 (h.2.2.2.2.2.2.2.2.2.1 215 (by decide)) h.2.2.1 h.2.1 (gAll_n h.2.2.2.2.2.2.2.2.1) k to) fun r I1 ⟨f, e9, o5, o6, o4, p⟩ => by
  rw [(rI_D h).1] at p
  have ho : ∀ c, c ∈ [209, 213, 215, 216, 224] → c ∈ oL → okR (I1 c) := fun c hc ho => by
    simp at hc
    rcases hc with w | w | w | w | w
    · rw [w] at ho; exact absurd ho (by decide)
    · rw [w] at ho; exact absurd ho (by decide)
    · rw [w]; exact o5
    · rw [w]; exact o6
    · rw [w]; exact o4
  refine ⟨mdF_of f (by decide), ?_⟩
  rcases p with ⟨a, b, c⟩ | ⟨a, b, c⟩
  · exact Or.inl ⟨a, rI_f h f (by decide) e9 ho b, c⟩
  · exact Or.inr ⟨a, rI_f h f (by decide) e9 ho (rI_213 h b e9), c⟩
theorem q_of (h : rI D T nt n L K B tp rf I) (hz : mz z) (k what : Int) : mI (d + 6) m_Model_of_ [vR 12 209, vI k, vI what] z I (rP D T nt n L K B tp rf I (aOf D T nt n L K k what)) := mI_mono (s_of_ hz h.1.1 (h.2.2.2.2.2.2.2.2.2.1 225 (by decide)) h.2.2.1 h.2.1 h.1.2.2.1 h.1.2.2.2.1 k what) fun r I1 ⟨f, e9, o6, o4, o5, p⟩ => by
  rw [(rI_D h).1, h.1.2.1] at p
  refine ⟨mdF_of f (by decide), rI_f h f (by decide) e9 (fun c hc ho => ?_) (rI_213 h (f 213 (by decide)) e9), p⟩
  simp at hc
  rcases hc with w | w | w | w
  · rw [w] at ho; exact absurd ho (by decide)
  · rw [w]; exact o6
  · rw [w]; exact o4
  · rw [w]; exact o5
theorem q_isSystem (h : rI D T nt n L K B tp rf I) (hz : mz z) (a b c : Int) : mI (d + 6) m_Model_isSystem [vR 12 209, vI a, vI b, vI c] z I (rP D T nt n L K B tp rf I (aSystem D T nt K a b c)) := mI_mono (s_isSystem hz h.1.1 h.2.2.1 (h.2.2.2.2.2.2.2.2.2.1 226 (by decide)) (h.2.2.2.2.2.2.2.2.2.1 233 (by decide)) h.1.2.2.1 h.1.2.2.2.1 a b c) fun r I1 ⟨f, e9, o6, o4, o26, o33, p⟩ => by
  rw [(rI_D h).1, h.1.2.1] at p
  refine ⟨mdF_of f (by decide), rI_f h f (by decide) e9 (fun c hc ho => ?_) (rI_213 h (f 213 (by decide)) e9), p⟩
  simp at hc
  rcases hc with w | w | w | w | w | w
  · rw [w] at ho; exact absurd ho (by decide)
  · rw [w]; exact o6
  · rw [w]; exact o4
  · rw [w]; exact o26
  · rw [w] at ho; exact absurd ho (by decide)
  · rw [w]; exact o33
theorem q_feed (h : rI D T nt n L K B tp rf I) (hz : mz z) (a b c e f : Int) : mI (d + 2) m_Model_feed [vR 12 209, vI a, vI b, vI c, vI e, vI f] z I fun r I1 => mdF I I1 ∧ ((tp + 20 ≤ 400 ∧ rI D T nt n L K (fedF B tp a b c e f) (tp + 20) rf I1 ∧ r = tp + 20) ∨ (400 < tp + 20 ∧ rI D T nt n L K B tp rf I1 ∧ r = -1)) := by
  obtain ⟨t1, t2, t3⟩ := id h.2.2.2.2.2.2.1
  refine mI_mono (s_feed hz a b c e f (by rw [t1]; exact t2) (by rw [t1]; exact t3)) fun r I1 p => ?_
  rw [t1] at p
  by_cases q : tp + 20 ≤ 400
  · rw [if_pos q] at p
    obtain ⟨p, er⟩ := p
    have fi : ∀ (J : cm_I) (v : Int), fr [209, 219] J (iFed J v) := fun J v x hx => by
      simp at hx
      show (if x = 209 then _ else if x = 219 then _ else J x) = J x
      rw [if_neg hx.1, if_neg hx.2]
    have f1 : fr [209, 219] I I1 := by
      rw [p]
      exact fr_trans (fr_trans (fr_trans (fr_trans (fr_trans (fr_mono (fr_iu I 209 0 0) (by decide)) (fi _ _)) (fi _ _)) (fi _ _)) (fi _ _)) (fi _ _)
    have s1 : ∀ s : Int, s ≠ 0 → s ≠ 14 → I1 209 s = I 209 s := fun s h0 h14 => by
      have st : ∀ (J : cm_I) (v : Int), iFed J v 209 s = J 209 s := fun J v => by
        show (if s = 14 then _ else J 209 s) = J 209 s
        rw [if_neg h14]
      rw [p, st, st, st, st, st]
      show (if s = 0 then _ else I 209 s) = I 209 s
      rw [if_neg h0]
    have s14 : ∀ (J : cm_I) (v : Int), iFed J v 209 14 = J 209 14 + 4 := fun J v => rfl
    have s19 : ∀ (J : cm_I) (v : Int), iFed J v 219 = putF (J 219) (J 209 14) v := fun J v => rfl
    have i14 : iu I 209 0 0 209 14 = tp := t1
    have i19 : iu I 209 0 0 219 = B := h.2.2.2.2.2.1
    refine ⟨mdF_of f1 (by decide), Or.inl ⟨q, rI_k h f1 (by decide) (fun s hs => s1 s (by simp at hs; omega) (by simp at hs; omega)) ⟨?_, by omega, by omega⟩ ?_ ?_ (fun x hx ho => ?_) ?_ (kOk_fr h.2.2.1 (f1 213 (by decide)) (s1 1 (by decide) (by decide))) (mGs_fr h.2.1 (s1 1 (by decide) (by decide)) (s1 11 (by decide) (by decide)) (f1 218 (by decide))), er⟩⟩
    · rw [p, s14, s14, s14, s14, s14, i14]; omega
    · rw [s1 19 (by decide) (by decide)]; exact h.2.2.2.2.2.2.2.1
    · rw [p]
      simp only [s19, s14, i14, i19]
      unfold fedF
      rw [show tp + 4 + 4 = tp + 8 by omega, show tp + 8 + 4 = tp + 12 by omega, show tp + 12 + 4 = tp + 16 by omega]
    · simp at hx
      rcases hx with w | w <;> (rw [w] at ho; exact absurd ho (by decide))
    · rw [f1 221 (by decide)]; exact h.2.2.2.2.2.2.2.2.2.2
  · rw [if_neg q] at p
    exact ⟨(rI_0 h p.1).1, Or.inr ⟨by omega, (rI_0 h p.1).2, p.2⟩⟩
end RC2
