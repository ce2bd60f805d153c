/-! the calls of the reference, with its invariant: tables -/
section RC5
variable {d : Nat} {z : cm_Z} {I I1 I2 : cm_I} {T : Nat → cMat} {nt n : Nat} {L : Nat → cMat} {D : Int} {K : Int → Int → Int} {B : Int → Int} {tp : Int} {rf : Option (Int → Int)}
theorem rI_same (h : rI D T nt n L K B tp rf I) (p : tkSame (n, L) I I1) : fr [209, 218, 222] I I1 ∧ rI D T nt n L K B tp rf I1 := by
  obtain ⟨f, o18, e17, s9, m⟩ := p
  have f' : fr [209, 218, 222] I I1 := fun a ha => by
    by_cases e : a = 217
    · rw [e]; exact e17
    · exact f a (by simp at ha ⊢; omega)
  refine ⟨f', rI_k h f' (by decide) (fun s hs => ?_) ?_ ?_ ?_ (fun c hc ho => ?_) ?_ (kOk_fr h.2.2.1 (f 213 (by decide)) (s9 1 (by decide))) ?_⟩
  · by_cases e : s = 11
    · rw [e, m.1]; exact h.2.1.2.1.symm
    · exact s9 s e
  · rw [s9 14 (by decide)]; exact h.2.2.2.2.2.2.1
  · rw [s9 19 (by decide)]; exact h.2.2.2.2.2.2.2.1
  · rw [f 219 (by decide)]; exact h.2.2.2.2.2.1
  · simp at hc
    rcases hc with w | w | w
    · rw [w] at ho; exact absurd ho (by decide)
    · rw [w]; exact o18
    · rw [w] at ho; exact absurd ho (by decide)
  · rw [f 221 (by decide)]; exact h.2.2.2.2.2.2.2.2.2.2
  · obtain ⟨g1, g2, g3, g4, g5, g6⟩ := h.2.1
    exact ⟨by unfold mD; rw [s9 1 (by decide)]; exact g1, m.1, g3, m.2, o18, g6⟩
theorem rI_new (h : rI D T nt n L K B tp rf I) {s : Nat × (Nat → cMat)} {nt' : Nat} (h23 : I 209 23 = 2 ∨ I 209 23 = 3) (h24 : I 209 24 = (nt' : Int)) (h4 : nt' ≤ 4) (hT : ∀ t, t < nt' → mDet (tkT I t) ≠ 0) (hg : gAll (tkT I) nt' 48 = some s) (s48 : s.1 ≤ 48) (p : tkNew s I I1) : rI (I 209 23) (tkT I) nt' s.1 s.2 (if I 209 23 = D then K else fun _ _ => 0) B tp none I1 := by
  obtain ⟨f, o18, e17, e1, e9, m, e37, e41, e58, s9, same, new⟩ := p
  obtain ⟨eD, hD, _⟩ := rI_D h
  have o := h.2.2.2.2.2.2.2.2.2.1
  have mD1 : mD I1 := by unfold mD; rw [e1]; exact h23
  have o17 : okR (I1 217) := by
    rw [e17]
    intro j
    unfold tk217
    split
    · exact o 220 (by decide) j
    · exact o 217 (by decide) j
  have mM : mMon I1 := by
    by_cases q : I 209 23 = I 209 1
    · obtain ⟨a, b, c, _⟩ := same q
      exact mMon_c h.1.1.2.1 (by rw [e1]; exact q) a b c
    · exact (new q).1
  have ok : ∀ c, c ∈ oL → okR (I1 c) := fun c hc => by
    by_cases q : c ∈ [209, 210, 211, 212, 213, 217, 218, 222]
    · by_cases q7 : c = 217
      · rw [q7]; exact o17
      · by_cases q8 : c = 218
        · rw [q8]; exact o18
        · exfalso
          simp at q
          simp [oL] at hc
          omega
    · rw [f c q]; exact o c hc
  have G := isG_all hg
  have Gr := isGrp_gm G hT
  refine ⟨⟨⟨mD1, mM, ok 216 (by decide), o17, o18, ok 224 (by decide)⟩, ?_, by rw [e9]; exact h24, h4, ?_, ok 214 (by decide), ok 233 (by decide), ok 236 (by decide), G, hT, m.1, Or.inl e41⟩, ⟨mD1, m.1, s48, m.2, o18, Gr⟩, ?_, Or.inl ⟨rfl, e58⟩, e1, by rw [f 219 (by decide)]; exact h.2.2.2.2.2.1, ?_, ?_, hg, ok, by rw [f 221 (by decide)]; exact h.2.2.2.2.2.2.2.2.2.2⟩
  · unfold mTab tkT
    rw [e1, e17]
  · have eE : bsEnd (I1 209 1) I1 = 0 := by unfold bsEnd; rw [if_pos e37]
    refine ⟨by omega, by omega, ok 226 (by decide), ok 230 (by decide), by omega, ?_, fun t t0 t1 => by omega⟩
    rw [eE, e37]
    exact Int.le_refl _
  · by_cases q : I 209 23 = I 209 1
    · obtain ⟨_, _, _, e13⟩ := same q
      rw [if_pos (by rw [q]; exact eD)]
      exact kOk_fr h.2.2.1 e13 (by rw [e1]; exact q)
    · rw [if_neg (by rw [← eD]; exact q)]
      have e13 := (new q).2
      refine ⟨by rw [e13]; exact okR_fill h.2.2.1.1 _ _, fun k k0 k1 => ⟨fun j j0 j1 => ?_, vOk_zero mD1⟩⟩
      rw [e13]
      unfold fillF
      rw [if_pos (by omega)]
  · rw [s9 14 (by decide) (by decide) (by decide) (by decide) (by decide) (by decide)]; exact h.2.2.2.2.2.2.1
  · rw [s9 19 (by decide) (by decide) (by decide) (by decide) (by decide) (by decide)]; exact h.2.2.2.2.2.2.2.1
def trA (D : Int) (T : Nat → cMat) (nt n : Nat) (L : Nat → cMat) (K : Int → Int → Int) (B : Int → Int) (rf : Option (Int → Int)) (R : Bool × (Int → Int) × (Int → Int) × (Int → Int)) (T' : Nat → cMat) (r : Int) (I1 : cm_I) : Prop :=
  (R.1 = false ∧ r = -2 - R.2.1 20 ∧ rI D T nt n L K B 0 rf I1) ∨ (R.1 = true ∧ ((∃ t, t < (R.2.1 24).toNat ∧ mDet (T' t) = 0 ∧ (∀ t', t' < t → mDet (T' t') ≠ 0) ∧ r = -2 - (8 * R.2.2.2 (t : Int) + 3) ∧ rI D T nt n L K B 0 rf I1) ∨ ((∀ t, t < (R.2.1 24).toNat → mDet (T' t) ≠ 0) ∧ gAll T' (R.2.1 24).toNat 48 = none ∧ r = -6 ∧ rI D T nt n L K B 0 rf I1) ∨ ((∀ t, t < (R.2.1 24).toNat → mDet (T' t) ≠ 0) ∧ ∃ s, gAll T' (R.2.1 24).toNat 48 = some s ∧ r = (s.1 : Int) ∧ rI (R.2.1 23) T' (R.2.1 24).toNat s.1 s.2 (if R.2.1 23 = D then K else fun _ _ => 0) B 0 none I1)))
/-- the tables that are told -/
def tdT (R : Bool × (Int → Int) × (Int → Int) × (Int → Int)) (f : Int → Int) : Nat → cMat := fun k => mat (R.2.1 23) (fun j => if 0 ≤ j ∧ j < 36 then R.2.2.1 j else f j) k
theorem q_tables (h : rI D T nt n L K B tp rf I) (hz : mz z) (m : Int) {R : Bool × (Int → Int) × (Int → Int) × (Int → Int)} (eR : R = pTabs B (tb0 B m (I 209)) (I 220) (I 221)) : mI (d + 6) m_Model_tables [vR 12 209, vI m] z I fun r I1 => mdF I I1 ∧ (((0 ≤ m ∧ m ≤ tp) ∧ trA D T nt n L K B rf R (tdT R (I 217)) r I1) ∨ (¬ (0 ≤ m ∧ m ≤ tp) ∧ r = -1 ∧ rI D T nt n L K B tp rf I1)) := by
  obtain ⟨t1, t2, t3⟩ := id h.2.2.2.2.2.2.1
  obtain ⟨eD, hD, _⟩ := rI_D h
  have eB := h.2.2.2.2.2.1
  have o := h.2.2.2.2.2.2.2.2.2.1
  have oP := h.2.2.2.2.2.2.2.2.2.2
  have v := h.2.2.2.2.2.2.2.1
  refine mI_mono (s_tables hz h.1.1.1 h.1.1.2.2.2.1 h.1.1.2.2.2.2.1 (o 220 (by decide)) oP v (by rw [t1]; exact ⟨t2, t3⟩) h.1.2.2.1 h.1.2.2.2.1 (s := (n, L)) (by rw [h.1.2.1]; exact h.2.2.2.2.2.2.2.2.1) m) fun r I1 p => ?_
  unfold tbPost at p
  rw [t1, eB, ← eR] at p
  by_cases q : 0 ≤ m ∧ m ≤ tp
  · rw [if_pos q] at p
    obtain ⟨I2, f, e9, e20, e21, p⟩ := p
    obtain ⟨b1, b2, _, _, b0, b5⟩ := tb0_ok (B := B) (f := I 209) q.1 (by omega) v.1 v.2
    have tk := (pTabs_ok (B := B) (f := tb0 B m (I 209)) (RT := I 220) (RP := I 221) b1 (o 220 (by decide)) oP rfl rfl).2
    rw [← eR] at tk
    obtain ⟨k1, k2, k3, k4, k5, k6, k7⟩ := tk
    have s9 : ∀ s, (s < 14 ∨ 20 < s) → s ≠ 0 → s ≠ 23 → s ≠ 24 → I2 209 s = I 209 s := fun s h1 h2 h3 h4 => by rw [e9, k4 s (by omega) h3 h4, b5 s h1 h2 h3 h4]
    have h2 : rI D T nt n L K B 0 rf I2 := rI_k h f (by decide) (fun s hs => by simp at hs; exact s9 s (by omega) (by omega) (by omega) (by omega)) ⟨by rw [e9, k4 14 (by decide) (by decide) (by decide)]; exact b2, by decide, by decide⟩ (by rw [e9]; exact ⟨k1.2.2.2.2.1, k1.2.2.2.2.2⟩) (by rw [f 219 (by decide)]; exact eB) (fun c hc ho => by
      simp at hc
      rcases hc with w | w | w
      · rw [w] at ho; exact absurd ho (by decide)
      · rw [w, e20]; exact k2
      · rw [w] at ho; exact absurd ho (by decide)) (by rw [e21]; exact k3) (kOk_fr h.2.2.1 (f 213 (by decide)) (s9 1 (by decide) (by decide) (by decide) (by decide))) (mGs_fr h.2.1 (s9 1 (by decide) (by decide) (by decide) (by decide)) (s9 11 (by decide) (by decide) (by decide) (by decide)) (f 218 (by decide)))
    have eT : tkT I2 = tdT R (I 217) := by
      unfold tkT tk217 tdT
      rw [e9, e20, f 217 (by decide)]
    have fm : mdF I I2 := mdF_of f (by decide)
    rcases p with ⟨p1, p2, p3⟩ | ⟨p1, p2⟩
    · rw [p2]
      exact ⟨fm, Or.inl ⟨q, Or.inl ⟨p1, by rw [p3, e9], h2⟩⟩⟩
    · unfold tkPost at p2
      rw [eT, e9, e21] at p2
      rcases p2 with ⟨t, a, b, c, e, g⟩ | ⟨a, b, e, g⟩ | ⟨a, s', b, c, e, g⟩
      · have := rI_same h2 g
        exact ⟨fun x hx => (mdF_of this.1 (by decide) x hx).trans (fm x hx), Or.inl ⟨q, Or.inr ⟨p1, Or.inl ⟨t, a, b, c, e, this.2⟩⟩⟩⟩
      · have := rI_same h2 g
        exact ⟨fun x hx => (mdF_of this.1 (by decide) x hx).trans (fm x hx), Or.inl ⟨q, Or.inr ⟨p1, Or.inr (Or.inl ⟨a, b, e, this.2⟩)⟩⟩⟩
      · have := rI_new h2 (s := s') (nt' := (R.2.1 24).toNat) (by rw [e9]; exact k7 p1) (by rw [e9]; omega) (by omega) (by rw [eT]; exact a) (by rw [eT]; exact b) c g
        rw [eT, e9] at this
        exact ⟨fun x hx => (mdF_of g.1 (by decide) x hx).trans (fm x hx), Or.inl ⟨q, Or.inr ⟨p1, Or.inr (Or.inr ⟨a, s', b, e, this⟩)⟩⟩⟩
  · rw [if_neg q] at p
    exact ⟨(rI_0 h p.1).1, Or.inr ⟨q, p.2, (rI_0 h p.1).2⟩⟩
end RC5
