/-! the calls of the reference, with its invariant: bases, primary and secondary ones, rewriting -/
section RC3
variable {d : Nat} {z : cm_Z} {I I1 : cm_I} {T : Nat → cMat} {nt n : Nat} {L : Nat → cMat} {D : Int} {K : Int → Int → Int} {B : Int → Int} {tp : Int} {rf : Option (Int → Int)}
theorem pm_bsx (h : pmIn T nt n L I) {l : List Nat} (f : fr l I I1) (hl : ∀ c, c ∈ [210, 211, 212, 214, 216, 217, 218, 233, 234, 235, 236, 239, 240] → c ∉ l) (o24 : okR (I1 224)) (s9 : ∀ s, s ≠ 0 → s ≠ 37 → I1 209 s = I 209 s) (b : bsOk T nt I1) (g37 : I 209 37 ≤ I1 209 37) : pmIn T nt n L I1 := by
  have c := fun c hc => f c (hl c hc)
  have e1 := s9 1 (by decide) (by decide)
  refine pmIn_k h ⟨by unfold mD; rw [e1]; exact h.1.1, mMon_c h.1.2.1 e1 (c 210 (by decide)) (c 211 (by decide)) (c 212 (by decide)), by rw [c 216 (by decide)]; exact h.1.2.2.1, by rw [c 217 (by decide)]; exact h.1.2.2.2.1, by rw [c 218 (by decide)]; exact h.1.2.2.2.2.1, o24⟩ (c 217 (by decide)) b (by rw [c 214 (by decide)]; exact h.2.2.2.2.2.1) (by rw [c 233 (by decide)]; exact h.2.2.2.2.2.2.1) (fun x hx => c x ?_) (fun x hx => s9 x ?_ ?_) g37
  · simp at hx ⊢; omega
  · simp at hx; omega
  · simp at hx; omega
theorem q_series (h : rI D T nt n L K B tp rf I) (hz : mz z) (t : Int) : mI (d + 6) m_Model_series [vR 12 209, vI t] z I (rP D T nt n L K B tp rf I (if 0 ≤ t ∧ t ≤ 15 then (bsRows D T nt t : Int) else -1)) := mI_mono (s_series hz h.1.1 h.1.2.2.1 h.1.2.2.2.1 (by rw [h.1.2.1]; exact h.1.2.2.2.2.1) t) fun r I1 ⟨⟨f, o4, s9, _⟩, b, g, p⟩ => by
  rw [h.1.2.1] at b
  rw [(rI_D h).1, h.1.2.1] at p
  have p1 := pm_bsx h.1 f (by decide) o4 s9 b g
  refine ⟨mdF_of f (by decide), rI_k2 h f (by decide) (fun s hs => s9 s (by simp at hs; omega) (by simp at hs; omega)) p1 (kOk_fr h.2.2.1 (f 213 (by decide)) (s9 1 (by decide) (by decide))) (rwOk_k h.2.2.2.1 (fun s hs => s9 s (by simp at hs; omega) (by simp at hs; omega)) (f 245 (by decide))) (by rw [f 215 (by decide)]; exact h.2.2.2.2.2.2.2.2.2.1 215 (by decide)), ?_⟩
  rcases p with ⟨a, b, rows, X, hX, e⟩ | ⟨a, e⟩
  · rw [if_pos ⟨a, b⟩, e]
    unfold bsRows
    rw [(bsX_ok hX).2.1]
  · rw [if_neg a, e]
theorem q_base (h : rI D T nt n L K B tp rf I) (hz : mz z) (t row to : Int) : mI (d + 6) m_Model_base [vR 12 209, vI t, vI row, vI to] z I (putR D T nt n L K B tp rf (((0 ≤ t ∧ t ≤ 15) ∧ kFit to) ∧ (0 ≤ row ∧ row < (bsRows D T nt t : Int))) to (bRow D t ((bsX D T nt t).2 row.toNat)) (-1) I) := mI_mono (s_base hz h.1.1 h.2.2.1 h.1.2.2.1 h.1.2.2.2.1 (by rw [h.1.2.1]; exact h.1.2.2.2.2.1) t row to) fun r I1 ⟨f, o4, s9, _, b, g, p⟩ => by
  rw [h.1.2.1] at b
  rw [(rI_D h).1, h.1.2.1] at p
  have p1 := pm_bsx h.1 f (by decide) o4 s9 b g
  have mk : ∀ K', kOk I1 K' → rI D T nt n L K' B tp rf I1 := fun K' k => rI_k2 h f (by decide) (fun s hs => s9 s (by simp at hs; omega) (by simp at hs; omega)) p1 k (rwOk_k h.2.2.2.1 (fun s hs => s9 s (by simp at hs; omega) (by simp at hs; omega)) (f 245 (by decide))) (by rw [f 215 (by decide)]; exact h.2.2.2.2.2.2.2.2.2.1 215 (by decide))
  refine ⟨mdF_of f (by decide), ?_⟩
  rcases p with ⟨er, e13, p⟩ | ⟨a, b, rows, X, hX, c, k, er⟩
  · refine Or.inr ⟨fun q => ?_, mk K (kOk_fr h.2.2.1 e13 (s9 1 (by decide) (by decide))), er⟩
    rcases p with p | ⟨rows, X, hX, c⟩
    · exact p q.1
    · have := (bsX_ok hX).2.1
      unfold bsRows at q
      rw [this] at q
      exact c q.2
  · have u := bsX_ok hX
    have ur : bsRows D T nt t = rows := u.2.1
    have eq : bRow D t ((bsX D T nt t).2 row.toNat) = bRow D t (X row.toNat) := bRow_congr (rI_D h).2.1 a.1 a.2 fun k hk => u.2.2 _ (by omega) k hk
    refine Or.inl ⟨⟨⟨a, b⟩, by rw [ur]; exact c⟩, ?_, ?_⟩
    · rw [eq]; exact mk _ k
    · rw [eq]; exact er
theorem rwOk_pcX (h : rwOk T nt n rf I) (f : pcFrX I I1) : rwOk T nt n rf I1 := by
  have s := fun s a0 a b c e f' g i => f.1.2.1 s a0 a b c e f' g i
  have e1 := s 1 (by decide) (by decide) (by decide) (by decide) (by decide) (by decide) (by decide) (by decide)
  have e58 := s 58 (by decide) (by decide) (by decide) (by decide) (by decide) (by decide) (by decide) (by decide)
  unfold rwOk at h ⊢
  rw [e1, e58]
  rcases h with h | ⟨F, q, h1, h2, h3, h4, h5, h6, h7⟩
  · exact Or.inl h
  · exact Or.inr ⟨F, q, h1, h2, f.2 h3, h4, h5, h6, fdSt_fr h7 (f.1.1 245 (by decide))⟩
theorem rI_pc (h : rI D T nt n L K B tp rf I) (f : pcFrX I I1) (p : pmIn T nt n L I1) : mdF I I1 ∧ rI D T nt n L K B tp rf I1 := by
  refine ⟨mdF_of f.1.1 (by decide), rI_k2 h f.1.1 (by decide) (fun s hs => ?_) p (kOk_fr h.2.2.1 (f.1.1 213 (by decide)) (f.1.2.1 1 (by decide) (by decide) (by decide) (by decide) (by decide) (by decide) (by decide) (by decide))) (rwOk_pcX h.2.2.2.1 f) (by rw [f.1.1 215 (by decide)]; exact h.2.2.2.2.2.2.2.2.2.1 215 (by decide))⟩
  simp at hs
  exact f.1.2.1 s (by omega) (by omega) (by omega) (by omega) (by omega) (by omega) (by omega) (by omega)
theorem q_primary (h : rI D T nt n L K B tp rf I) (hz : mz z) (k what : Int) : mI (d + 10) m_Model_primary [vR 12 209, vI k, vI what] z I (rP D T nt n L K B tp rf I (aPrimary D T nt n k what)) := mI_mono (s_primaryX hz h.1 k what) fun r I1 ⟨f, p, e⟩ => ⟨(rI_pc h f p).1, (rI_pc h f p).2, by rw [e, (rI_D h).1]⟩
theorem q_secondaries (h : rI D T nt n L K B tp rf I) (hz : mz z) : mI (d + 10) m_Model_secondaries [vR 12 209] z I (rP D T nt n L K B tp rf I (aSecondaries D T nt n)) := mI_mono (s_secondariesX hz h.1) fun r I1 ⟨f, p, e⟩ => ⟨(rI_pc h f p).1, (rI_pc h f p).2, by rw [e, (rI_D h).1]⟩
theorem q_secondary (h : rI D T nt n L K B tp rf I) (hz : mz z) (k what : Int) : mI (d + 10) m_Model_secondary [vR 12 209, vI k, vI what] z I (rP D T nt n L K B tp rf I (aSecondary D T nt n k what)) := mI_mono (s_secondaryX hz h.1 k what) fun r I1 ⟨f, p, e⟩ => ⟨(rI_pc h f p).1, (rI_pc h f p).2, by rw [e, (rI_D h).1]⟩
theorem q_numerator (h : rI D T nt n L K B tp rf I) (hz : mz z) (t : Int) : mI (d + 10) m_Model_numerator [vR 12 209, vI t] z I (rP D T nt n L K B tp rf I (aNumerator D T nt n t)) := mI_mono (s_numeratorX hz h.1 t) fun r I1 ⟨f, p, e⟩ => ⟨(rI_pc h f p).1, (rI_pc h f p).2, by rw [e, (rI_D h).1]⟩
theorem rI_rc {rf' : Option (Int → Int)} (h : rI D T nt n L K B tp rf I) (f : rcFr I I1) (o15 : okR (I1 215)) (p : pmIn T nt n L I1) (r : rwOk T nt n rf' I1) : mdF I I1 ∧ rI D T nt n L K B tp rf' I1 := by
  refine ⟨mdF_of f.1 (by decide), rI_k2 h f.1 (by decide) (fun s hs => ?_) p (kOk_fr h.2.2.1 (f.1 213 (by decide)) (f.2.1 1 (by decide) (by decide) (by decide) (by decide) (by decide) (by decide) (by decide) (by decide) (by decide) (by decide))) r o15⟩
  simp at hs
  exact f.2.1 s (by omega) (by omega) (by omega) (by omega) (by omega) (by omega) (by omega) (by omega) (by omega) (by omega)
theorem q_rewrite (h : rI D T nt n L K B tp rf I) (hz : mz z) (k : Int) : mI (d + 10) m_Model_rewrite [vR 12 209, vI k] z I (rP D T nt n L K B tp (rfRewrite D T nt n K k rf) I (aRewrite D T nt n K k)) := mI_mono (s_rewrite hz h.1 h.2.2.1 h.2.2.2.1 k) fun r I1 ⟨f, e15, p, w, e⟩ => by
  rw [(rI_D h).1] at w e
  have := rI_rc h f (by rw [e15]; exact h.2.2.2.2.2.2.2.2.2.1 215 (by decide)) p w
  exact ⟨this.1, this.2, e⟩
theorem q_rewritten (h : rI D T nt n L K B tp rf I) (hz : mz z) (j a b c : Int) : mI (d + 3) m_Model_rewritten [vR 12 209, vI j, vI a, vI b, vI c] z I (rP D T nt n L K B tp rf I (aRewritten D T nt n rf j a b c)) := mI_mono (s_rewritten hz h.1 h.2.2.2.1 j a b c) fun r I1 ⟨g, e⟩ => ⟨(rI_0 h g).1, (rI_0 h g).2, by rw [e, (rI_D h).1]⟩
theorem q_relation (h : rI D T nt n L K B tp rf I) (hz : mz z) (i g j a b c : Int) : mI (d + 10) m_Model_relation [vR 12 209, vI i, vI g, vI j, vI a, vI b, vI c] z I (rP D T nt n L K B tp rf I (aRelation D T nt n i g j a b c)) := mI_mono (s_relation hz h.1 (h.2.2.2.2.2.2.2.2.2.1 215 (by decide)) h.2.2.2.1 i g j a b c) fun r I1 ⟨f, o15, p, w, e⟩ => by
  rw [(rI_D h).1] at e
  have := rI_rc h f o15 p w
  exact ⟨this.1, this.2, e⟩
theorem q_term (h : rI D T nt n L K B tp rf I) (hz : mz z) (k i what : Int) (hi : i ≤ 2147483647) : mI (d + 3) m_Model_term [vR 12 209, vI k, vI i, vI what] z I fun r I1 => mdF I I1 ∧ rI D T nt n L K B tp rf I1 ∧ ((aTerm D K k i what = some r ∧ I1 209 0 = 0) ∨ (aTerm D K k i what = none ∧ I1 209 0 = 1)) := mI_mono (s_term hz h.1.1.1 h.1.1.2.1 h.2.2.1 k i what hi) fun r I1 ⟨f, p⟩ => by
  rw [(rI_D h).1] at p
  have s9 : ∀ s : Int, s ≠ 0 → I1 209 s = I 209 s := fun s hs => by
    rcases p with ⟨_, e⟩ | ⟨_, e⟩ <;> (rw [e]; unfold st1; rw [if_neg hs])
  refine ⟨mdF_of f (by decide), rI_k h f (by decide) (fun s hs => s9 s (by simp at hs; omega)) ?_ ?_ ?_ (fun c hc ho => ?_) ?_ (kOk_fr h.2.2.1 (f 213 (by decide)) (s9 1 (by decide))) (mGs_fr h.2.1 (s9 1 (by decide)) (s9 11 (by decide)) (f 218 (by decide))), ?_⟩
  · rw [s9 14 (by decide)]; exact h.2.2.2.2.2.2.1
  · rw [s9 19 (by decide)]; exact h.2.2.2.2.2.2.2.1
  · rw [f 219 (by decide)]; exact h.2.2.2.2.2.1
  · simp at hc
    rw [hc] at ho; exact absurd ho (by decide)
  · rw [f 221 (by decide)]; exact h.2.2.2.2.2.2.2.2.2.2
  · rcases p with ⟨a, e⟩ | ⟨a, e⟩
    · exact Or.inl ⟨a, by rw [e]; rfl⟩
    · exact Or.inr ⟨a, by rw [e]; rfl⟩
end RC3
