/-! THE INVARIANT OF THE REFERENCE -/
def oL : List Nat := [214, 215, 216, 217, 218, 220, 223, 224, 225, 226, 230, 233, 236]
def rO (I : cm_I) : Prop := ∀ c, c ∈ oL → okR (I c)
theorem rO_k {l : List Nat} {I I1 : cm_I} (h : rO I) (f : fr l I I1) (h' : ∀ c, c ∈ l → c ∈ oL → okR (I1 c)) : rO I1 := fun c hc => by
  by_cases e : c ∈ l
  · exact h' c e hc
  · rw [f c e]; exact h c hc
section RIV
variable {T : Nat → cMat} {nt n : Nat} {L : Nat → cMat} {I I1 : cm_I} {D : Int} {K K' : Int → Int → Int} {B B' : Int → Int} {tp tp' : Int} {rf : Option (Int → Int)} {l : List Nat}
theorem pmIn_k (h : pmIn T nt n L I) (m : mvOk I1) (e17 : I1 217 = I 217) (b : bsOk T nt I1) (o14 : okR (I1 214)) (o33 : okR (I1 233)) (e : ∀ c, c ∈ [234, 235, 236, 239, 240] → I1 c = I c) (s : ∀ s : Int, s ∈ [1, 9, 11, 41, 42, 50] → I1 209 s = I 209 s) (g37 : I 209 37 ≤ I1 209 37) : pmIn T nt n L I1 := by
  obtain ⟨_, h2, h3, h4, _, _, _, h8, h9, h10, h11, h12⟩ := h
  refine ⟨m, ?_, by rw [s 9 (by decide)]; exact h3, h4, b, o14, o33, by rw [e 236 (by decide)]; exact h8, h9, h10, by rw [s 11 (by decide)]; exact h11, ?_⟩
  · rw [← h2]
    unfold mTab
    rw [s 1 (by decide), e17]
  · unfold pmOk at h12 ⊢
    rw [s 41 (by decide)]
    rcases h12 with w | ⟨w, st⟩
    · exact Or.inl w
    · refine Or.inr ⟨w, ?_⟩
      unfold pmSt at st ⊢
      rw [s 1 (by decide), s 42 (by decide)]
      rcases st with st | ⟨q, q1, q2, q3, q4, q5, q6, q7⟩
      · exact Or.inl st
      · refine Or.inr ⟨q, q1, q2, q3, ?_, ?_, by omega, ?_⟩
        · unfold prSt at q4 ⊢
          rw [e 236 (by decide), e 234 (by decide)]; exact q4
        · rw [e 235 (by decide)]; exact q5
        · unfold seSt at q7 ⊢
          rw [s 50 (by decide), e 239 (by decide), e 240 (by decide)]; exact q7
def rI (D : Int) (T : Nat → cMat) (nt n : Nat) (L : Nat → cMat) (K : Int → Int → Int) (B : Int → Int) (tp : Int) (rf : Option (Int → Int)) (I : cm_I) : Prop := pmIn T nt n L I ∧ mGs n L I ∧ kOk I K ∧ rwOk T nt n rf I ∧ I 209 1 = D ∧ I 219 = B ∧ (I 209 14 = tp ∧ 0 ≤ tp ∧ tp ≤ 400) ∧ (0 ≤ I 209 19 ∧ I 209 19 ≤ 9999) ∧ gAll T nt 48 = some (n, L) ∧ rO I ∧ okP (I 221)
theorem mMon_c {J J1 : cm_I} (h : mMon J) (e : J1 209 1 = J 209 1) (e0 : J1 210 = J 210) (e1 : J1 211 = J 211) (e2 : J1 212 = J 212) : mMon J1 := by
  unfold mMon at h ⊢
  rw [e, e0, e1, e2]; exact h
theorem rwOk_k (h : rwOk T nt n rf I) (s : ∀ s : Int, s ∈ [1, 41, 58] → I1 209 s = I 209 s) (e : I1 245 = I 245) : rwOk T nt n rf I1 := by
  unfold rwOk at h ⊢
  rw [s 1 (by decide), s 41 (by decide), s 58 (by decide)]
  rcases h with h | ⟨f, q, h1, h2, h3, h4, h5, h6, h7⟩
  · exact Or.inl h
  · exact Or.inr ⟨f, q, h1, h2, h3, h4, h5, h6, fdSt_fr h7 e⟩
theorem rI_k (h : rI D T nt n L K B tp rf I) (f : fr l I I1) (hl : ∀ c, c ∈ [210, 211, 212, 217, 228, 229, 230, 234, 235, 236, 239, 240, 245] → c ∉ l) (s9 : ∀ s : Int, s ∈ [1, 9, 11, 37, 41, 42, 50, 58] → I1 209 s = I 209 s) (t : I1 209 14 = tp' ∧ 0 ≤ tp' ∧ tp' ≤ 400) (v : 0 ≤ I1 209 19 ∧ I1 209 19 ≤ 9999) (hB : I1 219 = B') (ho : ∀ c, c ∈ l → c ∈ oL → okR (I1 c)) (oP : okP (I1 221)) (k : kOk I1 K') (g : mGs n L I1) : rI D T nt n L K' B' tp' rf I1 := by
  obtain ⟨h1, h2, h3, h4, h5, h6, h7, h8, h9, h10, h11⟩ := h
  have o := rO_k h10 f ho
  have c := fun c hc => f c (hl c hc)
  have m : mvOk I1 := ⟨by unfold mD; rw [s9 1 (by decide)]; exact h1.1.1, mMon_c h1.1.2.1 (s9 1 (by decide)) (c 210 (by decide)) (c 211 (by decide)) (c 212 (by decide)), o 216 (by decide), o 217 (by decide), o 218 (by decide), o 224 (by decide)⟩
  have b : bsOk T nt I1 := bsOk_fr h1.2.2.2.2.1 f (hl 228 (by decide)) (hl 229 (by decide)) (hl 230 (by decide)) (s9 1 (by decide)) (s9 37 (by decide)) (o 226 (by decide))
  refine ⟨pmIn_k h1 m (c 217 (by decide)) b (o 214 (by decide)) (o 233 (by decide)) (fun x hx => c x ?_) (fun x hx => s9 x ?_) (by rw [s9 37 (by decide)]; exact Int.le_refl _), g, k, rwOk_k h4 (fun x hx => s9 x ?_) (c 245 (by decide)), by rw [s9 1 (by decide)]; exact h5, hB, t, v, h9, o, oP⟩
  · simp at hx ⊢; omega
  · simp at hx ⊢; omega
  · simp at hx ⊢; omega
/-- a call that puts nothing but slot 0 of the object -/
theorem rI_k1 (h : rI D T nt n L K B tp rf I) (f : fr l I I1) (hl : ∀ c, c ∈ [210, 211, 212, 217, 219, 221, 228, 229, 230, 234, 235, 236, 239, 240, 245] → c ∉ l) (e9 : I1 209 = st1 (I 209) 0 0) (ho : ∀ c, c ∈ l → c ∈ oL → okR (I1 c)) (k : kOk I1 K') (g : mGs n L I1) : rI D T nt n L K' B tp rf I1 := by
  have s9 : ∀ s : Int, s ≠ 0 → I1 209 s = I 209 s := fun s hs => by rw [e9]; unfold st1; rw [if_neg hs]
  refine rI_k h f (fun c hc => hl c (by simp at hc ⊢; omega)) (fun s hs => s9 s (by simp at hs; omega)) ?_ ?_ ?_ ho ?_ k g
  · rw [s9 14 (by decide)]; exact h.2.2.2.2.2.2.1
  · rw [s9 19 (by decide)]; exact h.2.2.2.2.2.2.2.1
  · rw [f 219 (hl 219 (by decide))]; exact h.2.2.2.2.2.1
  · rw [f 221 (hl 221 (by decide))]; exact h.2.2.2.2.2.2.2.2.2.2
/-- a call that lays bases, primary or secondary ones, or rewrites -/
theorem rI_k2 {rf' : Option (Int → Int)} (h : rI D T nt n L K B tp rf I) (f : fr l I I1) (hl : ∀ c, c ∈ [210, 211, 212, 217, 218, 219, 220, 221, 223, 225] → c ∉ l) (s9 : ∀ s : Int, s ∈ [1, 11, 14, 19] → I1 209 s = I 209 s) (p : pmIn T nt n L I1) (k : kOk I1 K') (r : rwOk T nt n rf' I1) (o15 : okR (I1 215)) : rI D T nt n L K' B tp rf' I1 := by
  obtain ⟨h1, h2, h3, h4, h5, h6, h7, h8, h9, h10, h11⟩ := h
  have c := fun c hc => f c (hl c hc)
  refine ⟨p, mGs_fr h2 (s9 1 (by decide)) (s9 11 (by decide)) (c 218 (by decide)), k, r, by rw [s9 1 (by decide)]; exact h5, by rw [c 219 (by decide)]; exact h6, by rw [s9 14 (by decide)]; exact h7, by rw [s9 19 (by decide)]; exact h8, h9, fun x hx => ?_, by rw [c 221 (by decide)]; exact h11⟩
  simp [oL] at hx
  rcases hx with e | e | e | e | e | e | e | e | e | e | e | e | e
  · rw [e]; exact p.2.2.2.2.2.1
  · rw [e]; exact o15
  · rw [e]; exact p.1.2.2.1
  · rw [e]; exact p.1.2.2.2.1
  · rw [e]; exact p.1.2.2.2.2.1
  · rw [e, c 220 (by decide)]; exact h10 220 (by decide)
  · rw [e, c 223 (by decide)]; exact h10 223 (by decide)
  · rw [e]; exact p.1.2.2.2.2.2
  · rw [e, c 225 (by decide)]; exact h10 225 (by decide)
  · rw [e]; exact p.2.2.2.2.1.2.2.1
  · rw [e]; exact p.2.2.2.2.1.2.2.2.1
  · rw [e]; exact p.2.2.2.2.2.2.1
  · rw [e]; exact p.2.2.2.2.2.2.2.1
end RIV
