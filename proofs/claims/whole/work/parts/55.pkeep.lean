/-! READING of polynomials: what is kept -/
def pKp (D : Int) (f : Int → Int) (lo e : Int) (r : pQ) : Prop := rOk r.2.1 ∧ (∀ s, (s < 16 ∨ 20 < s) → s ≠ 27 → s ≠ 28 → s ≠ 29 → r.2.1 s = f s) ∧ (r.2.1 28 = 0 ∨ r.2.1 28 = 1) ∧ F20 r.1 r.2.1 ∧ r.2.1 29 = f 29 ∧ (r.1 = true → rOk2 r.2.1 ∧ lo ≤ r.2.1 16 ∧ r.2.1 27 = e ∧ (f 28 ≠ 0 → r.2.1 28 ≠ 0) ∧ (r.2.1 28 = 0 → vOk D r.2.2))
def pIn (f : Int → Int) : Prop := rOk2 f ∧ f 20 = 0 ∧ (f 28 = 0 ∨ f 28 = 1)
theorem pKp_mk {D : Int} {f f' v : Int → Int} {lo e : Int} (h : rOk2 f') (h1 : ∀ s, (s < 16 ∨ 20 < s) → s ≠ 27 → s ≠ 28 → s ≠ 29 → f' s = f s) (h2 : f' 28 = 0 ∨ f' 28 = 1) (h3 : f' 20 = 0) (h4 : f' 29 = f 29) (h5 : lo ≤ f' 16) (h6 : f' 27 = e) (h7 : f 28 ≠ 0 → f' 28 ≠ 0) (h8 : f' 28 = 0 → vOk D v) : pKp D f lo e (true, f', v) := ⟨h.1, h1, h2, good20 _ h3, h4, fun _ => ⟨h, h5, h6, h7, h8⟩⟩
theorem pKp_bad {D : Int} {f f' v : Int → Int} {lo e k : Int} (h : rOk f') (h1 : ∀ s, (s < 16 ∨ 20 < s) → s ≠ 27 → s ≠ 28 → s ≠ 29 → f' s = f s) (h2 : f' 28 = 0 ∨ f' 28 = 1) (h3 : f' 20 = 0) (h4 : f' 29 = f 29) (k0 : 0 ≤ k) (k1 : k ≤ 7) : pKp D f lo e (false, rBad f' k, v) := by
  obtain ⟨b1, b2⟩ := rBad_ok k h
  exact ⟨b1, fun s hs a b c => (b2 s hs).trans (h1 s hs a b c), by show rBad f' k 28 = 0 ∨ rBad f' k 28 = 1; rw [b2 28 (by omega)]; exact h2, bad20 h h3 k0 k1, by show rBad f' k 29 = _; rw [b2 29 (by omega)]; exact h4, fun q => ff q⟩
theorem pKp_fail {D : Int} {f f' v w : Int → Int} {lo e lo' e' : Int} (h : pKp D f lo e (false, f', v)) : pKp D f lo' e' (false, f', w) := ⟨h.1, h.2.1, h.2.2.1, h.2.2.2.1, h.2.2.2.2.1, fun q => ff q⟩
theorem pKp_no {D : Int} {f : Int → Int} {lo e lo' e' : Int} {r : pQ} {w : Int → Int} (h : pKp D f lo e r) : pKp D f lo' e' (false, r.2.1, w) := ⟨h.1, h.2.1, h.2.2.1, ⟨fun q => ff q, h.2.2.2.1.2⟩, h.2.2.2.2.1, fun q => ff q⟩
/-- from one place on to another -/
theorem pKp_tr {D : Int} {f g : Int → Int} {lo e lo' : Int} {r : pQ} (hg : ∀ s, (s < 16 ∨ 20 < s) → s ≠ 27 → s ≠ 28 → s ≠ 29 → g s = f s) (h29 : g 29 = f 29) (h28 : f 28 ≠ 0 → g 28 ≠ 0) (hl : lo ≤ lo') (h : pKp D g lo' e r) : pKp D f lo e r := by
  obtain ⟨a1, a2, a3, a4, a5, a6⟩ := h
  refine ⟨a1, fun s hs x y w => (a2 s hs x y w).trans (hg s hs x y w), a3, a4, a5.trans h29, fun q => ?_⟩
  obtain ⟨b1, b2, b3, b4, b5⟩ := a6 q
  exact ⟨b1, by omega, b3, fun q => b4 (h28 q), b5⟩
theorem pClose_kp {D : Int} {B f g : Int → Int} {lo e : Int} {r : pQ} (hg : ∀ s, (s < 16 ∨ 20 < s) → s ≠ 27 → s ≠ 28 → s ≠ 29 → g s = f s) (h29 : g 29 = f 29 + 1) (h28 : f 28 ≠ 0 → g 28 ≠ 0) (h : pKp D g lo e r) : pKp D f lo e (pClose B r) := by
  obtain ⟨a1, a2, a3, a4, a5, a6⟩ := h
  unfold pClose
  by_cases c : r.1 = true
  · rw [if_pos c]
    obtain ⟨b1, b2, b3, b4, b5⟩ := a6 c
    have z20 := a4.1 c
    by_cases c2 : r.2.1 18 = 2 ∧ r.2.1 19 = 41
    · rw [if_pos c2]
      obtain ⟨t1, t2, t3⟩ := tok_ok2 B b1.1
      have r1 := b1.2 (by omega)
      refine pKp_mk (f' := st1 (tok r.2.1 B) 29 (r.2.1 29 - 1)) t1 (fun s hs x y w => ?_) ?_ ?_ ?_ ?_ ?_ ?_ ?_
      · unfold st1
        rw [if_neg w, t3 s (by omega), a2 s hs x y w, hg s hs x y w]
      · show tok r.2.1 B 28 = 0 ∨ tok r.2.1 B 28 = 1
        rw [t3 28 (by omega)]; exact a3
      · show tok r.2.1 B 20 = 0
        rw [t3 20 (by omega)]; exact z20
      · show r.2.1 29 - 1 = f 29
        omega
      · show lo ≤ tok r.2.1 B 16
        omega
      · show tok r.2.1 B 27 = e
        rw [t3 27 (by omega)]; exact b3
      · show f 28 ≠ 0 → tok r.2.1 B 28 ≠ 0
        rw [t3 28 (by omega)]; exact fun q => b4 (h28 q)
      · show tok r.2.1 B 28 = 0 → _
        rw [t3 28 (by omega)]; exact b5
    · rw [if_neg c2]
      obtain ⟨x1, x2⟩ := rBad_ok 1 a1
      refine ⟨x1, fun s hs x y w => ?_, ?_, ?_, ?_, fun q => ff q⟩
      · show st1 (rBad r.2.1 1) 29 (r.2.1 29 - 1) s = f s
        unfold st1
        rw [if_neg w, x2 s hs, a2 s hs x y w, hg s hs x y w]
      · show rBad r.2.1 1 28 = 0 ∨ rBad r.2.1 1 28 = 1
        rw [x2 28 (by omega)]; exact a3
      · exact bad20 a1 z20 (by omega) (by omega)
      · show r.2.1 29 - 1 = f 29
        omega
  · rw [if_neg c]
    refine ⟨a1, fun s hs x y w => ?_, a3, ⟨fun q => ff q, a4.2⟩, ?_, fun q => ff q⟩
    · show st1 r.2.1 29 (r.2.1 29 - 1) s = f s
      unfold st1
      rw [if_neg w, a2 s hs x y w, hg s hs x y w]
    · show r.2.1 29 - 1 = f 29
      omega
section PKP
variable {D : Int} {B : Int → Int} {S : (Int → Int) → pQ}
theorem pPart_kp (hD : D = 2 ∨ D = 3) (hS : ∀ g, pIn g → pKp D g (g 16 + 1) (g 27 + 1) (S g)) {f : Int → Int} (h : pIn f) : pKp D f (f 16 + 1) (f 27 + 1) (pPart D B S f) := by
  obtain ⟨h1, h2, h3⟩ := id h
  have tk : f 18 ≠ 0 → ∀ v : Int → Int, vOk D v → pKp D f (f 16 + 1) (f 27 + 1) (true, tok (st1 f 27 (f 27 + 1)) B, v) := by
    intro q v hv
    obtain ⟨t1, t2, t3⟩ := tok_ok2 B (f := st1 f 27 (f 27 + 1)) h1.1
    have r1 := h1.2 q
    have t2 : f 17 ≤ tok (st1 f 27 (f 27 + 1)) B 16 := t2
    refine pKp_mk t1 (fun s hs x y w => ?_) ?_ ?_ ?_ (by omega) ?_ ?_ (fun _ => hv)
    · rw [t3 s (by omega)]
      unfold st1
      rw [if_neg x]
    · rw [t3 28 (by omega)]; exact h3
    · rw [t3 20 (by omega)]; exact h2
    · rw [t3 29 (by omega)]; rfl
    · rw [t3 27 (by omega)]; rfl
    · rw [t3 28 (by omega)]; exact fun q => q
  have bd : ∀ k : Int, 0 ≤ k → k ≤ 7 → pKp D f (f 16 + 1) (f 27 + 1) (false, rBad f k, vK 1) := fun k k0 k1 => pKp_bad h1.1 (fun _ _ _ _ _ => rfl) h3 h2 rfl k0 k1
  unfold pPart
  by_cases c1 : f 18 = 1
  · rw [if_pos c1]
    by_cases c2 : f 17 - f 16 ≤ 4
    · rw [if_pos c2]
      exact tk (by omega) _ (vOk_K hD (by omega) (by omega))
    · rw [if_neg c2]
      exact bd 1 (by omega) (by omega)
  · rw [if_neg c1]
    by_cases c2 : f 18 = 2 ∧ 120 ≤ f 19 ∧ f 19 - 120 ≤ D - 1
    · rw [if_pos c2]
      exact tk (by omega) _ (vOk_var hD (by omega) (by omega))
    · rw [if_neg c2]
      by_cases c3 : f 18 = 2 ∧ f 19 = 40
      · rw [if_pos c3]
        by_cases c4 : f 29 = 8
        · rw [if_pos c4]
          exact bd 2 (by omega) (by omega)
        · rw [if_neg c4]
          obtain ⟨t1, t2, t3⟩ := tok_ok2 B (f := st1 f 29 (f 29 + 1)) h1.1
          have t2 : f 17 ≤ tok (st1 f 29 (f 29 + 1)) B 16 := t2
          have r1 := h1.2 (by omega)
          have x := hS (tok (st1 f 29 (f 29 + 1)) B) ⟨t1, by rw [t3 20 (by omega)]; exact h2, by rw [t3 28 (by omega)]; exact h3⟩
          rw [show tok (st1 f 29 (f 29 + 1)) B 27 = f 27 by rw [t3 27 (by omega)]; rfl] at x
          have y := pKp_tr (lo := f 16 + 1) (f := tok (st1 f 29 (f 29 + 1)) B) (fun _ _ _ _ _ => rfl) rfl (fun q => q) (by omega) x
          refine pClose_kp (fun s hs a b c => ?_) ?_ ?_ y
          · rw [t3 s (by omega)]
            unfold st1
            rw [if_neg c]
          · rw [t3 29 (by omega)]; rfl
          · rw [t3 28 (by omega)]; exact fun q => q
      · rw [if_neg c3]
        exact bd 1 (by omega) (by omega)
theorem pRaise_kp (hD : D = 2 ∨ D = 3) {e : Int} (e0 : 0 ≤ e) {f v : Int → Int} (h3 : f 28 = 0 ∨ f 28 = 1) (hv : f 28 = 0 → vOk D v) : (∀ s, s ≠ 28 → (pRaise D e f v).1 s = f s) ∧ ((pRaise D e f v).1 28 = 0 ∨ (pRaise D e f v).1 28 = 1) ∧ (f 28 ≠ 0 → (pRaise D e f v).1 28 ≠ 0) ∧ ((pRaise D e f v).1 28 = 0 → vOk D (pRaise D e f v).2) := by
  have st : ∀ (x : Int) s, s ≠ 28 → st1 f 28 x s = f s := fun x s hs => by unfold st1; rw [if_neg hs]
  unfold pRaise
  split
  · exact ⟨st 1, Or.inr rfl, fun _ => (by decide : (1 : Int) ≠ 0), fun q => absurd (show (1 : Int) = 0 from q) (by decide)⟩
  · refine ⟨st 0, Or.inl rfl, fun q => by omega, fun _ => ?_⟩
    exact (vOk_pow hD (hv (by omega)) e.toNat (by rw [show ((e.toNat : Nat) : Int) = e by omega]; omega)).1
theorem pPower_kp (hD : D = 2 ∨ D = 3) (hS : ∀ g, pIn g → pKp D g (g 16 + 1) (g 27 + 1) (S g)) {f : Int → Int} (h : pIn f) : pKp D f (f 16 + 1) (f 27 + 1) (pPower D B S f) := by
  have hp := pPart_kp (B := B) hD hS h
  unfold pPower pPow2
  generalize pPart D B S f = r at hp
  by_cases c : r.1 = true
  · rw [if_pos c]
    obtain ⟨a1, a2, a3, a4, a5, a6⟩ := id hp
    obtain ⟨b1, b2, b3, b4, b5⟩ := a6 c
    have z20 := a4.1 c
    by_cases c2 : r.2.1 18 = 2 ∧ r.2.1 19 = 94
    · rw [if_pos c2]
      obtain ⟨t1, t2, t3⟩ := tok_ok2 B b1.1
      have r1 := b1.2 (by omega)
      have u : ∀ s, (s < 16 ∨ 20 < s) → s ≠ 27 → s ≠ 28 → s ≠ 29 → tok r.2.1 B s = f s := fun s hs x y w => (t3 s (by omega)).trans (a2 s hs x y w)
      have u28 := t3 28 (by omega)
      have u20 := t3 20 (by omega)
      have u29 := t3 29 (by omega)
      have u27 := t3 27 (by omega)
      unfold pExp
      by_cases c3 : tok r.2.1 B 18 = 1 ∧ tok r.2.1 B 17 - tok r.2.1 B 16 ≤ 2
      · rw [if_pos c3]
        obtain ⟨q1, q2, q3, q4, q5, q6⟩ := id t1.1
        by_cases c4 : tok r.2.1 B 19 ≤ 15
        · rw [if_pos c4]
          obtain ⟨g1, g2, g3, g4⟩ := pRaise_kp hD (e := tok r.2.1 B 19) q5 (f := tok r.2.1 B) (v := r.2.2) (by rw [u28]; exact a3) (by rw [u28]; exact b5)
          generalize hg : pRaise D (tok r.2.1 B 19) (tok r.2.1 B) r.2.2 = y at g1 g2 g3 g4
          have o1 : rOk y.1 := by
            refine ⟨?_, ?_, ?_, ?_, ?_, ?_⟩ <;> simp only [g1 15 (by decide), g1 16 (by decide), g1 17 (by decide), g1 19 (by decide)] <;> assumption
          obtain ⟨w1, w2, w3⟩ := tok_ok2 B o1
          have e17 := g1 17 (by decide)
          refine pKp_mk w1 (fun s hs x y2 w => ?_) ?_ ?_ ?_ (by omega) ?_ ?_ ?_
          · rw [w3 s (by omega), g1 s y2, u s hs x y2 w]
          · rw [w3 28 (by omega)]; exact g2
          · rw [w3 20 (by omega), g1 20 (by decide), u20]; exact z20
          · rw [w3 29 (by omega), g1 29 (by decide), u29]; exact a5
          · rw [w3 27 (by omega), g1 27 (by decide), u27]; exact b3
          · rw [w3 28 (by omega)]; exact fun q => g3 (by rw [u28]; exact b4 q)
          · rw [w3 28 (by omega)]; exact g4
        · rw [if_neg c4]
          exact pKp_bad t1.1 u (by rw [u28]; exact a3) (by rw [u20]; exact z20) (by rw [u29]; exact a5) (by omega) (by omega)
      · rw [if_neg c3]
        exact pKp_bad t1.1 u (by rw [u28]; exact a3) (by rw [u20]; exact z20) (by rw [u29]; exact a5) (by omega) (by omega)
    · rw [if_neg c2]
      exact hp
  · rw [if_neg c]
    exact pKp_no hp
theorem pJoin_kp (hD : D = 2 ∨ D = 3) {f v w : Int → Int} (h3 : f 28 = 0 ∨ f 28 = 1) : (∀ s, s ≠ 28 → s ≠ 27 → (pJoin D f v w).1 s = f s) ∧ (pJoin D f v w).1 27 = f 27 - 1 ∧ ((pJoin D f v w).1 28 = 0 ∨ (pJoin D f v w).1 28 = 1) ∧ (f 28 ≠ 0 → (pJoin D f v w).1 28 ≠ 0) ∧ ((pJoin D f v w).1 28 = 0 → vOk D (pJoin D f v w).2) := by
  have st : ∀ (x : Int) s, s ≠ 28 → s ≠ 27 → st1 (st1 f 28 x) 27 (f 27 - 1) s = f s := fun x s hs h7 => by unfold st1; rw [if_neg h7, if_neg hs]
  unfold pJoin
  split
  · exact ⟨st 1, rfl, Or.inr rfl, fun _ => (by decide : (1 : Int) ≠ 0), fun q => absurd (show (1 : Int) = 0 from q) (by decide)⟩
  · exact ⟨st 0, rfl, Or.inl rfl, fun q => by omega, fun _ => (vOk_mul hD (by omega)).1⟩
theorem pProdF_kp (hD : D = 2 ∨ D = 3) (hS : ∀ g, pIn g → pKp D g (g 16 + 1) (g 27 + 1) (S g)) : ∀ (n : Nat) (f v : Int → Int), pIn f → (f 28 = 0 → vOk D v) → pKp D f (f 16) (f 27) (pProdF D B S n f v) := by
  intro n
  induction n with
  | zero => intro f v h hv; exact ⟨h.1.1, fun _ _ _ _ _ => rfl, h.2.2, good20 _ h.2.1, rfl, fun q => ff q⟩
  | succ n ih =>
    intro f v h hv
    obtain ⟨h1, h2, h3⟩ := id h
    rw [pProdF]
    by_cases c : f 18 = 2 ∧ f 19 = 42
    · rw [if_pos c]
      obtain ⟨t1, t2, t3⟩ := tok_ok2 B h1.1
      have r1 := h1.2 (by omega)
      have hp := pPower_kp (B := B) hD hS (f := tok f B) ⟨t1, by rw [t3 20 (by omega)]; exact h2, by rw [t3 28 (by omega)]; exact h3⟩
      have u27 := t3 27 (by omega)
      have u28 := t3 28 (by omega)
      have u29 := t3 29 (by omega)
      generalize pPower D B S (tok f B) = r at hp
      have tr : ∀ {r : pQ} {lo e : Int}, pKp D (tok f B) lo e r → pKp D f lo e r := fun hx => pKp_tr (fun s hs _ _ _ => t3 s (by omega)) u29 (by rw [u28]; exact fun q => q) (Int.le_refl _) hx
      by_cases c2 : r.1 = true
      · rw [if_pos c2]
        obtain ⟨a1, a2, a3, a4, a5, a6⟩ := id hp
        obtain ⟨b1, b2, b3, b4, b5⟩ := a6 c2
        obtain ⟨g1, g2, g3, g4, g5⟩ := pJoin_kp hD (f := r.2.1) (v := v) (w := r.2.2) a3
        generalize pJoin D r.2.1 v r.2.2 = y at g1 g2 g3 g4 g5
        have o1 : rOk2 y.1 := by
          obtain ⟨⟨q1, q2, q3, q4, q5, q6⟩, q7⟩ := b1
          refine ⟨⟨?_, ?_, ?_, ?_, ?_, ?_⟩, ?_⟩ <;> simp only [g1 15 (by decide) (by decide), g1 16 (by decide) (by decide), g1 17 (by decide) (by decide), g1 18 (by decide) (by decide), g1 19 (by decide) (by decide)] <;> assumption
        have e16 := g1 16 (by decide) (by decide)
        have x := ih y.1 y.2 ⟨o1, by rw [g1 20 (by decide) (by decide)]; exact a4.1 c2, g3⟩ g5
        rw [show y.1 27 = f 27 by omega] at x
        refine pKp_tr (fun s hs x y2 w => ?_) ?_ ?_ (by omega) x
        · rw [g1 s y2 x, a2 s hs x y2 w, t3 s (by omega)]
        · rw [g1 29 (by decide) (by decide), a5, u29]
        · exact fun q => g4 (b4 (by rw [u28]; exact q))
      · rw [if_neg c2]
        exact pKp_no (tr hp)
    · rw [if_neg c]
      exact pKp_mk h1 (fun _ _ _ _ _ => rfl) h3 h2 rfl (Int.le_refl _) rfl (fun q => q) hv
theorem pProd_kp (hD : D = 2 ∨ D = 3) (hS : ∀ g, pIn g → pKp D g (g 16 + 1) (g 27 + 1) (S g)) {f : Int → Int} (h : pIn f) : pKp D f (f 16 + 1) (f 27 + 1) (pProd D B S f) := by
  have hp := pPower_kp (B := B) hD hS h
  unfold pProd
  generalize pPower D B S f = r at hp
  by_cases c : r.1 = true
  · rw [if_pos c]
    obtain ⟨a1, a2, a3, a4, a5, a6⟩ := id hp
    obtain ⟨b1, b2, b3, b4, b5⟩ := a6 c
    have x := pProdF_kp (B := B) hD hS 401 r.2.1 r.2.2 ⟨b1, a4.1 c, a3⟩ b5
    rw [b3] at x
    exact pKp_tr a2 a5 b4 b2 x
  · rw [if_neg c]
    exact pKp_no hp
theorem pSumF_kp (hD : D = 2 ∨ D = 3) (hS : ∀ g, pIn g → pKp D g (g 16 + 1) (g 27 + 1) (S g)) : ∀ (n : Nat) (f v : Int → Int), pIn f → (f 28 = 0 → vOk D v) → pKp D f (f 16) (f 27) (pSumF D B S n f v) := by
  intro n
  induction n with
  | zero => intro f v h hv; exact ⟨h.1.1, fun _ _ _ _ _ => rfl, h.2.2, good20 _ h.2.1, rfl, fun q => ff q⟩
  | succ n ih =>
    intro f v h hv
    obtain ⟨h1, h2, h3⟩ := id h
    rw [pSumF]
    by_cases c : f 18 = 2 ∧ (f 19 = 43 ∨ f 19 = 45)
    · rw [if_pos c]
      obtain ⟨t1, t2, t3⟩ := tok_ok2 B h1.1
      have r1 := h1.2 (by omega)
      have hp := pProd_kp (B := B) hD hS (f := tok f B) ⟨t1, by rw [t3 20 (by omega)]; exact h2, by rw [t3 28 (by omega)]; exact h3⟩
      have u27 := t3 27 (by omega)
      have u28 := t3 28 (by omega)
      have u29 := t3 29 (by omega)
      generalize pProd D B S (tok f B) = r at hp
      have tr : ∀ {r : pQ} {lo e : Int}, pKp D (tok f B) lo e r → pKp D f lo e r := fun hx => pKp_tr (fun s hs _ _ _ => t3 s (by omega)) u29 (by rw [u28]; exact fun q => q) (Int.le_refl _) hx
      by_cases c2 : r.1 = true
      · rw [if_pos c2]
        obtain ⟨a1, a2, a3, a4, a5, a6⟩ := id hp
        obtain ⟨b1, b2, b3, b4, b5⟩ := a6 c2
        have x := ih (dn27 r.2.1) (vAdd (if f 19 = 43 then 1 else -1) v r.2.2) ⟨b1, a4.1 c2, a3⟩ (fun q => vOk_add hD _ (hv (Classical.byContradiction fun q2 => b4 (by rw [u28]; exact q2) q)) (b5 q))
        rw [show dn27 r.2.1 27 = f 27 by show r.2.1 27 - 1 = f 27; omega] at x
        refine pKp_tr (fun s hs x y2 w => ?_) ?_ ?_ (by show f 16 ≤ r.2.1 16; omega) x
        · show st1 r.2.1 27 _ s = f s
          unfold st1
          rw [if_neg x, a2 s hs x y2 w, t3 s (by omega)]
        · show r.2.1 29 = f 29
          rw [a5, u29]
        · exact fun q => b4 (by rw [u28]; exact q)
      · rw [if_neg c2]
        exact pKp_no (tr hp)
    · rw [if_neg c]
      exact pKp_mk h1 (fun _ _ _ _ _ => rfl) h3 h2 rfl (Int.le_refl _) rfl (fun q => q) hv
theorem pSum1_ok {f : Int → Int} (h : pIn f) : pIn (pSum1 B f) ∧ f 16 ≤ pSum1 B f 16 ∧ (∀ s, s < 16 ∨ 19 < s → pSum1 B f s = f s) := by
  obtain ⟨h1, h2, h3⟩ := id h
  unfold pSum1
  split
  · obtain ⟨t1, t2, t3⟩ := tok_ok2 B h1.1
    obtain ⟨q1, q2, q3, q4, q5, q6⟩ := id h1.1
    exact ⟨⟨t1, by rw [t3 20 (by omega)]; exact h2, by rw [t3 28 (by omega)]; exact h3⟩, by omega, t3⟩
  · exact ⟨h, Int.le_refl _, fun _ _ => rfl⟩
theorem pSum_kp (hD : D = 2 ∨ D = 3) (hS : ∀ g, pIn g → pKp D g (g 16 + 1) (g 27 + 1) (S g)) {f : Int → Int} (h : pIn f) : pKp D f (f 16 + 1) (f 27 + 1) (pSum D B S f) := by
  obtain ⟨s1, s2, s3⟩ := pSum1_ok (B := B) h
  have u27 := s3 27 (by omega)
  have u28 := s3 28 (by omega)
  have u29 := s3 29 (by omega)
  have hp := pProd_kp (B := B) hD hS (f := pSum0 B f) ⟨s1.1, s1.2.1, s1.2.2⟩
  have e0 : pSum0 B f 27 = f 27 + 1 := by show pSum1 B f 27 + 1 = f 27 + 1; omega
  have e16 : pSum0 B f 16 = pSum1 B f 16 := rfl
  have u : ∀ s, (s < 16 ∨ 20 < s) → s ≠ 27 → s ≠ 28 → s ≠ 29 → pSum0 B f s = f s := fun s hs x _ _ => by
    unfold pSum0 st1
    rw [if_neg x, s3 s (by omega)]
  have v28 : pSum0 B f 28 = f 28 := u28
  have v29 : pSum0 B f 29 = f 29 := u29
  unfold pSum
  rw [e0] at hp
  generalize pProd D B S (pSum0 B f) = r at hp
  by_cases c : r.1 = true
  · rw [if_pos c]
    obtain ⟨a1, a2, a3, a4, a5, a6⟩ := id hp
    obtain ⟨b1, b2, b3, b4, b5⟩ := a6 c
    have x := pSumF_kp (B := B) hD hS 401 (dn27 r.2.1) (vAdd (if f 18 = 2 ∧ f 19 = 45 then -1 else 1) (vK 0) r.2.2) ⟨b1, a4.1 c, a3⟩ (fun q => vOk_add hD _ (vOk_K hD (by omega) (by omega)) (b5 q))
    rw [show dn27 r.2.1 27 = f 27 + 1 by show r.2.1 27 - 1 = f 27 + 1; omega] at x
    refine pKp_tr (fun s hs x y2 w => ?_) ?_ ?_ (by show f 16 + 1 ≤ r.2.1 16; omega) x
    · show st1 r.2.1 27 _ s = f s
      unfold st1
      rw [if_neg x, a2 s hs x y2 w, u s hs x y2 w]
    · show r.2.1 29 = f 29
      rw [a5, v29]
    · exact fun q => b4 (by rw [v28]; exact q)
  · rw [if_neg c]
    exact pKp_no (pKp_tr (lo := f 16 + 1) u v29 (by rw [v28]; exact fun q => q) (by omega) hp)
end PKP
theorem pLev_kp {D : Int} {B : Int → Int} (hD : D = 2 ∨ D = 3) : ∀ (l : Nat) (f : Int → Int), pIn f → pKp D f (f 16 + 1) (f 27 + 1) (pLev D B l f) := by
  intro l
  induction l with
  | zero => intro f h; exact ⟨h.1.1, fun _ _ _ _ _ => rfl, h.2.2, good20 _ h.2.1, rfl, fun q => ff q⟩
  | succ l ih => intro f h; exact pSum_kp hD ih h
