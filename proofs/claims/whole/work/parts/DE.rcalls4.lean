/-! the calls of the reference, with its invariant: texts of polynomials -/
section RC4
variable {d : Nat} {z : cm_Z} {I I1 : cm_I} {T : Nat → cMat} {nt n : Nat} {L : Nat → cMat} {D : Int} {K : Int → Int → Int} {B : Int → Int} {tp : Int} {rf : Option (Int → Int)}
theorem pAll_sl (hD : D = 2 ∨ D = 3) {f : Int → Int} (h : pIn f) : (∀ s, (s < 16 ∨ 20 < s) → s ≠ 27 → s ≠ 28 → s ≠ 29 → (pAll D B f).2.1 s = f s) ∧ 0 ≤ (pAll D B f).2.1 19 ∧ (pAll D B f).2.1 19 ≤ 9999 := by
  obtain ⟨a1, a2, _⟩ := pLev_kp (B := B) hD 9 f h
  unfold pAll
  split
  · obtain ⟨b1, b2⟩ := rBad_ok 1 a1
    exact ⟨fun s hs h1 h2 h3 => (b2 s hs).trans (a2 s hs h1 h2 h3), b1.2.2.2.2.1, b1.2.2.2.2.2⟩
  · exact ⟨a2, a1.2.2.2.2.1, a1.2.2.2.2.2⟩
theorem q_polynomial (h : rI D T nt n L K B tp rf I) (hz : mz z) (k m : Int) : mI (d + 42) m_Model_polynomial [vR 12 209, vI k, vI m] z I fun r I1 => mdF I I1 ∧ ((kFit k ∧ 0 ≤ m ∧ m ≤ tp) ∧ r = aPoly D B (I 209) m ∧ rI D T nt n L (if (pAll D B (pl0 B m (I 209))).1 = true ∧ (pAll D B (pl0 B m (I 209))).2.1 28 = 0 then kSet K k (pAll D B (pl0 B m (I 209))).2.2 else K) B 0 rf I1 ∨ ¬ (kFit k ∧ 0 ≤ m ∧ m ≤ tp) ∧ r = -1 ∧ rI D T nt n L K B tp rf I1) := by
  obtain ⟨t1, t2, t3⟩ := id h.2.2.2.2.2.2.1
  obtain ⟨eD, hD, _⟩ := rI_D h
  have eB := h.2.2.2.2.2.1
  have o := h.2.2.2.2.2.2.2.2.2.1
  refine mI_mono (s_polynomialX hz ⟨h.1.1.1, h.1.1.2.1, o 223 (by decide), o 214 (by decide), o 216 (by decide)⟩ h.2.2.1 h.2.2.2.2.2.2.2.1 (by rw [t1]; exact ⟨t2, t3⟩) k m) fun r I1 p => ?_
  unfold plPostX at p
  rw [t1, eD, eB] at p
  by_cases q : kFit k ∧ 0 ≤ m ∧ m ≤ tp
  · rw [if_pos q] at p
    obtain ⟨f, o46, o23, e9, p⟩ := p
    obtain ⟨b1, b2, _, _, b5⟩ := pl0_ok (B := B) (f := I 209) q.2.1 (by omega) h.2.2.2.2.2.2.2.1.1 h.2.2.2.2.2.2.2.1.2
    obtain ⟨c1, c2⟩ := pAll_sl (B := B) hD b1
    have s9 : ∀ s, (s < 14 ∨ 20 < s) → s ≠ 0 → s ≠ 27 → s ≠ 28 → s ≠ 29 → I1 209 s = I 209 s := fun s h1 h2 h3 h4 h5 => by rw [e9, c1 s (by omega) h3 h4 h5, b5 s h1 h2 h3 h4 h5]
    have e1 := s9 1 (by decide) (by decide) (by decide) (by decide) (by decide)
    have mk : ∀ K', kOk I1 K' → rI D T nt n L K' B 0 rf I1 := fun K' hk => rI_k h f (by decide) (fun s hs => by simp at hs; exact s9 s (by omega) (by omega) (by omega) (by omega) (by omega)) ⟨by rw [e9, c1 14 (by decide) (by decide) (by decide) (by decide)]; exact b2, by decide, by decide⟩ (by rw [e9]; exact c2) (by rw [f 219 (by decide)]; exact eB) (fun c hc ho => by
      simp at hc
      rcases hc with w | w | w | w | w
      · rw [w] at ho; exact absurd ho (by decide)
      · rw [w] at ho; exact absurd ho (by decide)
      · rw [w]; exact o46.1
      · rw [w]; exact o46.2
      · rw [w]; exact o23) (by rw [f 221 (by decide)]; exact h.2.2.2.2.2.2.2.2.2.2) hk (mGs_fr h.2.1 e1 (s9 11 (by decide) (by decide) (by decide) (by decide) (by decide)) (f 218 (by decide)))
    refine ⟨mdF_of f (by decide), Or.inl ⟨q, ?_, ?_⟩⟩
    · unfold aPoly
      rcases p with ⟨x1, x2, _⟩ | ⟨x1, x2, x3, _⟩ | ⟨x1, x2, x3, _⟩
      · rw [if_pos x1, x2, e9]
      · rw [e9] at x2
        rw [if_neg (by rw [x1]; decide), if_pos x2, x3]
      · rw [e9] at x2
        rw [if_neg (by rw [x1]; decide), if_neg (fun y => y x2), x3]
    · rcases p with ⟨x1, x2, x3⟩ | ⟨x1, x2, _, x3⟩ | ⟨x1, x2, _, x3⟩
      · rw [if_neg (fun y => by rw [x1] at y; exact absurd y.1 (by decide))]
        exact mk K (kOk_fr h.2.2.1 x3 e1)
      · rw [e9] at x2
        rw [if_neg (fun y => x2 y.2)]
        exact mk K (kOk_fr h.2.2.1 x3 e1)
      · rw [e9] at x2
        rw [if_pos ⟨x1, x2⟩]
        exact mk _ x3
  · rw [if_neg q] at p
    exact ⟨(rI_0 h p.1).1, Or.inr ⟨q, p.2, (rI_0 h p.1).2⟩⟩
end RC4
