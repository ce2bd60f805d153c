/-! the calls of the reference, with its invariant -/
def mdF (I I1 : cm_I) : Prop := ∀ a, ¬ sMd a → I1 a = I a
theorem mdF_of {l : List Nat} {I I1 : cm_I} (f : fr l I I1) (h : ∀ c, c ∈ l → 209 ≤ c ∧ c ≤ 247) : mdF I I1 := fun a ha => f a fun m => ha (h a m)
section RCL
variable {d : Nat} {z : cm_Z} {I : cm_I} {T : Nat → cMat} {nt n : Nat} {L : Nat → cMat} {D : Int} {K : Int → Int → Int} {B : Int → Int} {tp : Int} {rf : Option (Int → Int)}
def rP (D : Int) (T : Nat → cMat) (nt n : Nat) (L : Nat → cMat) (K : Int → Int → Int) (B : Int → Int) (tp : Int) (rf : Option (Int → Int)) (I : cm_I) (a : Int) (r : Int) (I1 : cm_I) : Prop := mdF I I1 ∧ rI D T nt n L K B tp rf I1 ∧ r = a
def putR (D : Int) (T : Nat → cMat) (nt n : Nat) (L : Nat → cMat) (K : Int → Int → Int) (B : Int → Int) (tp : Int) (rf : Option (Int → Int)) (ok : Prop) (to : Int) (w : Int → Int) (no : Int) (I : cm_I) (r : Int) (I1 : cm_I) : Prop := mdF I I1 ∧ ((ok ∧ rI D T nt n L (kSet K to w) B tp rf I1 ∧ r = vTerms w) ∨ (¬ ok ∧ rI D T nt n L K B tp rf I1 ∧ r = no))
theorem rI_D (h : rI D T nt n L K B tp rf I) : I 209 1 = D ∧ (D = 2 ∨ D = 3) ∧ I 209 1 = (D.toNat : Int) := by
  have a := h.1.1.1
  have e := h.2.2.2.2.1
  unfold mD at a
  rw [e] at a ⊢
  exact ⟨rfl, a, by omega⟩
theorem st1_1 (f : Int → Int) : st1 f 0 0 1 = f 1 := rfl
theorem rI_gt (h : rI D T nt n L K B tp rf I) {I1 : cm_I} (g : mGt n L I I1) : mdF I I1 ∧ rI D T nt n L K B tp rf I1 := by
  obtain ⟨F, e, G⟩ := g
  have f : fr [209, 218] I I1 := fun a ha => by
    simp at ha
    rw [e]
    show (if a = 218 then _ else if a = 209 then _ else I a) = I a
    rw [if_neg ha.2, if_neg ha.1]
  have e9 : I1 209 = st1 (I 209) 0 0 := by rw [e]; rfl
  refine ⟨mdF_of f (by decide), rI_k1 h f (by decide) e9 (fun c hc ho => ?_) (kOk_fr h.2.2.1 (f 213 (by decide)) (by rw [e9]; rfl)) G⟩
  simp at hc
  rcases hc with w | w
  · rw [w] at ho; exact absurd ho (by decide)
  · rw [w]; exact G.2.2.2.2.1
theorem q_group (h : rI D T nt n L K B tp rf I) (hz : mz z) (what : Int) : mI (d + 7) m_Model_group [vR 12 209, vI what] z I (rP D T nt n L K B tp rf I (aGroup D.toNat nt n L what)) := mI_mono (s_group hz h.2.1 (rI_D h).2.2 h.1.2.2.1 what) fun r I1 ⟨g, e⟩ => ⟨(rI_gt h g).1, (rI_gt h g).2, e⟩
theorem q_member (h : rI D T nt n L K B tp rf I) (hz : mz z) (g i j : Int) : mI (d + 3) m_Model_member [vR 12 209, vI g, vI i, vI j] z I (rP D T nt n L K B tp rf I (aMember D.toNat n L g i j)) := mI_mono (s_member hz h.2.1 (rI_D h).2.2 g i j) fun r I1 ⟨g, e⟩ => ⟨(rI_gt h g).1, (rI_gt h g).2, e⟩
theorem q_times (h : rI D T nt n L K B tp rf I) (hz : mz z) (g k : Int) : mI (d + 5) m_Model_times_ [vR 12 209, vI g, vI k] z I (rP D T nt n L K B tp rf I (aTimes n L g k)) := mI_mono (s_times_ hz h.2.1 g k) fun r I1 ⟨g, e⟩ => ⟨(rI_gt h g).1, (rI_gt h g).2, e⟩
theorem q_about (h : rI D T nt n L K B tp rf I) (hz : mz z) (g what : Int) : mI (d + 6) m_Model_about [vR 12 209, vI g, vI what] z I (rP D T nt n L K B tp rf I (aAbout D.toNat n L g what)) := mI_mono (s_about hz h.2.1 (rI_D h).2.2 g what) fun r I1 ⟨g, e⟩ => ⟨(rI_gt h g).1, (rI_gt h g).2, e⟩
/-- slot 0 alone is put -/
theorem rI_0 (h : rI D T nt n L K B tp rf I) {I1 : cm_I} (e : I1 = iu I 209 0 0) : mdF I I1 ∧ rI D T nt n L K B tp rf I1 := by
  obtain ⟨f, e9⟩ := fr_eq_iu e
  refine ⟨mdF_of f (by decide), rI_k1 h f (by decide) e9 (fun c hc ho => ?_) (kOk_fr h.2.2.1 (f 213 (by decide)) (by rw [e9]; rfl)) (mGs_fr h.2.1 (by rw [e9]; rfl) (by rw [e9]; rfl) (f 218 (by decide)))⟩
  simp at hc
  rw [hc] at ho; exact absurd ho (by decide)
theorem rw_told (h : rI D T nt n L K B tp rf I) : I 209 58 = cTold D T nt n rf := by
  rcases h.2.2.2.1 with ⟨e1, e2⟩ | ⟨f, q, e1, e2, _, _, _, e6, _⟩
  · rw [e1, e2]; rfl
  · rw [(rI_D h).1] at e2 e6
    rw [e1, e6]
    unfold cTold
    simp only [e2]
theorem q_count (h : rI D T nt n L K B tp rf I) (hz : mz z) (what : Int) : mI (d + 1) m_Model_count [vR 12 209, vI what] z I (rP D T nt n L K B tp rf I (if what = 0 then tp else if what = 1 then cTold D T nt n rf else -1)) := mI_mono (s_count hz what) fun r I1 ⟨g, e⟩ => ⟨(rI_0 h g).1, (rI_0 h g).2, by rw [e, h.2.2.2.2.2.2.1.1, rw_told h]⟩
theorem q_factor (h : rI D T nt n L K B tp rf I) (hz : mz z) (k a b c : Int) : mI (d + 3) m_Model_factor [vR 12 209, vI k, vI a, vI b, vI c] z I (rP D T nt n L K B tp rf I (aFactor D K k a b c)) := mI_mono (s_factor hz h.1.1.1 h.2.2.1 k a b c) fun r I1 ⟨g, e⟩ => ⟨(rI_0 h g).1, (rI_0 h g).2, by rw [e, (rI_D h).1]⟩
theorem rI_put (h : rI D T nt n L K B tp rf I) {ok : Prop} {to : Int} {w : Int → Int} {no r : Int} {I1 : cm_I} (p : putPost I K ok to w no r I1) (o16 : okR (I1 216)) : putR D T nt n L K B tp rf ok to w no I r I1 := by
  obtain ⟨f, e9, p⟩ := p
  have ho : ∀ c, c ∈ [209, 213, 216] → c ∈ oL → okR (I1 c) := fun c hc ho => by
    simp at hc
    rcases hc with w | w | w
    · rw [w] at ho; exact absurd ho (by decide)
    · rw [w] at ho; exact absurd ho (by decide)
    · rw [w]; exact o16
  have G := mGs_fr (I1 := I1) h.2.1 (by rw [e9]; rfl) (by rw [e9]; rfl) (f 218 (by decide))
  refine ⟨mdF_of f (by decide), ?_⟩
  rcases p with ⟨a, b, c⟩ | ⟨a, b, c⟩
  · exact Or.inl ⟨a, rI_k1 h f (by decide) e9 ho b G, c⟩
  · exact Or.inr ⟨a, rI_k1 h f (by decide) e9 ho (kOk_fr h.2.2.1 b (by rw [e9]; rfl)) G, c⟩
end RCL
