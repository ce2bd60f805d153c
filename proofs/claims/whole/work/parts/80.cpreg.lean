/-! SERIES: three of one degree each, in whose ideal lie powers of the variables, are regular -/
def inI (t1 t2 t3 P : cP) : Prop := ∃ a b c, P = cAdd (cAdd (cMul t1 a) (cMul t2 b)) (cMul t3 c)
def cPow (t : cP) : Nat → cP
  | 0 => cOne
  | n + 1 => cMul (cPow t n) t
def cNeg (P : cP) : cP := fun a b c => - P a b c
/-- three that make a system, as series -/
def sysP (t1 t2 t3 : cP) : Prop := (∃ d1, 1 ≤ d1 ∧ hom d1 t1) ∧ (∃ d2, 1 ≤ d2 ∧ hom d2 t2) ∧ (∃ d3, 1 ≤ d3 ∧ hom d3 t3) ∧ t1 ≠ c0 ∧ ∃ s, inI t1 t2 t3 (xs s) ∧ inI t1 t2 t3 (ys s) ∧ inI t1 t2 t3 (zs s)
theorem cOne_eq : cOne = (@OfNat.ofNat cP 1 (cPr.toRing.toSemiring.ofNat 1) : cP) := by
  funext a b c
  show cOne a b c = (@psK (Nat → Nat → cF) cPr2 (@psK (Nat → cF) cPr1 (psK (1 : cF)))) a b c
  have z1 : ∀ c : Nat, (@psK (Nat → cF) cPr1 (psK (1 : cF))) (b + 1) c = 0 := fun c => by
    show (if b + 1 = 0 then psK (1 : cF) else psK (0 : cF)) c = 0
    rw [if_neg (by omega)]
    unfold psK
    split <;> rfl
  unfold cOne
  by_cases ha : a = 0
  · have e : (@psK (Nat → Nat → cF) cPr2 (@psK (Nat → cF) cPr1 (psK (1 : cF)))) a = @psK (Nat → cF) cPr1 (psK (1 : cF)) := if_pos ha
    rw [e]
    by_cases hb : b = 0
    · have e2 : @psK (Nat → cF) cPr1 (psK (1 : cF)) b = psK (1 : cF) := if_pos hb
      rw [e2]
      unfold psK
      by_cases hc : c = 0
      · rw [if_pos ⟨ha, hb, hc⟩, if_pos hc]
      · rw [if_neg (fun q => hc q.2.2), if_neg hc]
    · have e2 : @psK (Nat → cF) cPr1 (psK (1 : cF)) b = psK (0 : cF) := if_neg hb
      rw [e2, if_neg (fun q => hb q.2.1)]
      unfold psK
      split <;> rfl
  · have e : (@psK (Nat → Nat → cF) cPr2 (@psK (Nat → cF) cPr1 (psK (1 : cF)))) a = (@OfNat.ofNat (Nat → Nat → cF) 0 (cPr2.toRing.toSemiring.ofNat 0)) := if_neg ha
    rw [e, if_neg (fun q => ha q.1)]
    show (0 : cF) = (@psK (Nat → cF) cPr1 (psK (0 : cF))) b c
    by_cases hb : b = 0
    · have e2 : @psK (Nat → cF) cPr1 (psK (0 : cF)) b = psK (0 : cF) := if_pos hb
      rw [e2]
      unfold psK
      split <;> rfl
    · have e2 : @psK (Nat → cF) cPr1 (psK (0 : cF)) b = psK (0 : cF) := if_neg hb
      rw [e2]
      unfold psK
      split <;> rfl
theorem cPow_eq (t : cP) (n : Nat) : cPow t n = cPr.toRing.toSemiring.npow.hPow t n := by
  induction n with
  | zero => exact cOne_eq
  | succ n ih =>
    show cMul (cPow t n) t = @psMul (Nat → Nat → cF) cPr2 (cPr.toRing.toSemiring.npow.hPow t n) t
    rw [← ih]
    rfl
theorem cMul_comm (P Q : cP) : cMul P Q = cMul Q P := @psMul_comm (Nat → Nat → cF) cPr2 P Q
theorem cGs_at (n : Nat) (f : Nat → cP) (a b c : Nat) : @gs cP cPr n f a b c = gs n (fun i => f i a b c) := by
  rw [@gs_at (Nat → Nat → cF) cPr2 n, @gs_at (Nat → cF) cPr1 n, @gs_at cF _ n]
theorem gen_r3 {R : Type} [Lean.Grind.CommRing R] (t1 t2 v w : R) : t1 * (- v) + t2 * (- w) + (t1 * v + t2 * w) = 0 := by grind
theorem gen_r3b {R : Type} [Lean.Grind.CommRing R] (t1 t2 w1 w2 : R) : t2 * w1 + - (t1 * w2) = t1 * (- w2) + t2 * w1 := by grind
theorem gen_r2 {R : Type} [Lean.Grind.CommRing R] (t1 v : R) : t1 * (- v) + t1 * v = 0 := by grind
section CPR
variable {t1 t2 t3 : cP}
theorem cp_kz (h : sysP t1 t2 t3) (u1 u2 u3 : cP) (e : cAdd (cAdd (cMul t1 u1) (cMul t2 u2)) (cMul t3 u3) = c0) : ∃ w1 w2 w3 : cP, u1 = cAdd (cMul t3 w2) (cNeg (cMul t2 w3)) ∧ u2 = cAdd (cMul t1 w3) (cNeg (cMul t3 w1)) ∧ u3 = cAdd (cMul t2 w1) (cNeg (cMul t1 w2)) := by
  obtain ⟨_, _, _, _, s, ⟨a1, a2, a3, eX⟩, ⟨b1, b2, b3, eY⟩, ⟨g1, g2, g3, eZ⟩⟩ := h
  have cm := cMul_comm
  rw [cm t1 a1, cm t2 a2, cm t3 a3] at eX
  rw [cm t1 b1, cm t2 b2, cm t3 b3] at eY
  rw [cm t1 g1, cm t2 g2, cm t3 g3] at eZ
  exact @kz_h1 cP cPr t1 t2 t3 (xs s) (ys s) (zs s) g1 g2 g3 b1 b2 b3 a1 a2 a3 eZ eY eX (fun u v w q => zs_reg s u v w q) (fun u v q => ys_reg s u v q) (fun u q => (xs_reg s u (q.trans c0_eq.symm)).trans c0_eq) u1 u2 u3 (e.trans c0_eq)
theorem cp_r1 (h : sysP t1 t2 t3) (u : cP) (e : cMul t1 u = c0) : u = c0 := by
  rcases cP_dom t1 u e with x | x
  · exact absurd x h.2.2.2.1
  · exact x
theorem cp_r3 (h : sysP t1 t2 t3) (u v w : cP) (e : cMul t3 u = cAdd (cMul t1 v) (cMul t2 w)) : ∃ a b, u = cAdd (cMul t1 a) (cMul t2 b) := by
  have q : cAdd (cAdd (cMul t1 (cNeg v)) (cMul t2 (cNeg w))) (cMul t3 u) = c0 := by
    rw [e, c0_eq]
    exact @gen_r3 cP cPr t1 t2 v w
  obtain ⟨w1, w2, w3, _, _, e3⟩ := cp_kz h (cNeg v) (cNeg w) u q
  refine ⟨cNeg w2, w1, e3.trans ?_⟩
  exact @gen_r3b cP cPr t1 t2 w1 w2
theorem cp_r2 (h : sysP t1 t2 t3) (u v : cP) (e : cMul t2 u = cMul t1 v) : ∃ w, u = cMul t1 w := by
  obtain ⟨⟨d1, p1, h1⟩, _, ⟨d3, p3, h3⟩, _, _⟩ := id h
  refine @reg2b cP cPr t1 t2 t3 d1 d3 hc (fun n a b => ?_) (fun n a => ?_) (fun n a => ?_) (fun a b hab => ?_) (fun V => ?_) (fun n P => hc_mul h1 P n) (fun n P q => (hc_low h1 P q).trans c0_eq) (fun n P => hc_mul h3 P n) (fun n P q => (hc_low h3 P q).trans c0_eq) p3 (fun u1 u2 u3 q => cp_kz h u1 u2 u3 (q.trans c0_eq.symm)) (cNeg v) u ?_
  · funext x y w
    show (if x + y + w = n then a x y w + b x y w else 0) = (if x + y + w = n then a x y w else 0) + (if x + y + w = n then b x y w else 0)
    by_cases q : x + y + w = n
    · rw [if_pos q, if_pos q, if_pos q]
    · rw [if_neg q, if_neg q, if_neg q]
      exact (Lean.Grind.Semiring.add_zero (0 : cF)).symm
  · funext x y w
    show (if x + y + w = n then - a x y w else 0) = - (if x + y + w = n then a x y w else 0)
    by_cases q : x + y + w = n
    · rw [if_pos q, if_pos q]
    · rw [if_neg q, if_neg q]
      decide
  · exact hc_self (hom_hc n a)
  · funext x y w
    have := congrFun (congrFun (congrFun (hab (x + y + w)) x) y) w
    unfold hc at this
    rw [if_pos rfl, if_pos rfl] at this
    exact this
  · refine ⟨fun x y w => V (x + y + w) x y w, fun n => ?_⟩
    funext x y w
    show (if x + y + w = n then V (x + y + w) x y w else 0) = if x + y + w = n then V n x y w else 0
    by_cases q : x + y + w = n
    · rw [if_pos q, if_pos q, q]
    · rw [if_neg q, if_neg q]
  · refine Eq.trans ?_ c0_eq
    show cAdd (cMul t1 (cNeg v)) (cMul t2 u) = c0
    rw [e, c0_eq]
    exact @gen_r2 cP cPr t1 v
/-- what is apart from the ideal, times powers: nothing but the plain zero -/
theorem cp_indep (h : sysP t1 t2 t3) {V : cP → Prop} (hV : ∀ v, V v → inI t1 t2 t3 v → v = c0) (n : Nat) (v : Nat → Nat → Nat → cP) (hv : ∀ i j k, i < n → j < n → k < n → V (v i j k)) (e : ∀ a b c, gs n (fun i => cMul (cPow t1 i) (fun x y w => gs n (fun j => cMul (cPow t2 j) (fun x y w => gs n (fun k => cMul (cPow t3 k) (v i j k) x y w)) x y w)) a b c) = 0) : ∀ i j k, i < n → j < n → k < n → v i j k = c0 := by
  intro i j k hi hj hk
  refine (@indep3 cP cPr t1 t2 t3 (fun u q => (cp_r1 h u (q.trans c0_eq.symm)).trans c0_eq) (fun u w q => cp_r2 h u w q) (fun u w x q => cp_r3 h u w x q) V (fun w hw q => (hV w hw q).trans c0_eq) n v hv ?_ i j k hi hj hk).trans c0_eq.symm
  refine Eq.trans ?_ c0_eq
  funext a b c
  rw [cGs_at]
  refine Eq.trans (gs_congr fun i _ => ?_) (e a b c)
  have e1 : ∀ (t P Q : cP) (m : Nat), P = Q → cPr.toMul.mul (cPr.toRing.toSemiring.npow.hPow t m) P = cMul (cPow t m) Q := fun t P Q m q => by
    rw [q, cPow_eq]
    rfl
  refine congrFun (congrFun (congrFun (e1 t1 _ _ i ?_) a) b) c
  funext x y w
  rw [cGs_at]
  refine gs_congr fun j _ => ?_
  refine congrFun (congrFun (congrFun (e1 t2 _ _ j ?_) x) y) w
  funext x y w
  rw [cGs_at]
  refine gs_congr fun k _ => ?_
  exact congrFun (congrFun (congrFun (e1 t3 _ _ k rfl) x) y) w
end CPR
