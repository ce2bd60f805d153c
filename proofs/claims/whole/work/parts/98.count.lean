/-! HOW MANY secondary ones there can be -/
theorem nm_1 (K : Int) (h : 1 ≤ K) (e : (K + 1) * ((7 * K) * (7 * K) * (7 * K)) ≤ K * ((7 * K + 1) * (7 * K + 1) * (7 * K + 1))) : False := by
  have a : K ≤ K * K := by
    have := Int.mul_le_mul_of_nonneg_right h (show (0 : Int) ≤ K by omega)
    rw [Int.one_mul] at this
    exact this
  have b : K * K ≤ K * K * K := by
    have := Int.mul_le_mul_of_nonneg_left h (show (0 : Int) ≤ K * K by omega)
    rw [Int.mul_one] at this
    exact this
  have c : (K + 1) * ((7 * K) * (7 * K) * (7 * K)) = 343 * (K * K * K * K) + 343 * (K * K * K) := by grind
  have d : K * ((7 * K + 1) * (7 * K + 1) * (7 * K + 1)) = 343 * (K * K * K * K) + 147 * (K * K * K) + 21 * (K * K) + K := by grind
  omega
theorem nm_2 (Q R m K x : Int) (h1 : x * Q ≤ K * R) (h2 : R * (m * m * m) ≤ Q * ((m + 1) * (m + 1) * (m + 1))) (hx : K + 1 ≤ x) (hQ : 0 < Q) (hK : 0 ≤ K) (hm : 0 ≤ m) : (K + 1) * (m * m * m) ≤ K * ((m + 1) * (m + 1) * (m + 1)) := by
  have m3 : 0 ≤ m * m * m := Int.mul_nonneg (Int.mul_nonneg hm hm) hm
  have a : (K + 1) * Q ≤ K * R := Int.le_trans (Int.mul_le_mul_of_nonneg_right hx (by omega)) h1
  have b := Int.mul_le_mul_of_nonneg_right a m3
  have c := Int.mul_le_mul_of_nonneg_left h2 hK
  have e1 : (K + 1) * Q * (m * m * m) = Q * ((K + 1) * (m * m * m)) := by grind
  have e2 : K * R * (m * m * m) = K * (R * (m * m * m)) := by grind
  have e3 : K * (Q * ((m + 1) * (m + 1) * (m + 1))) = Q * (K * ((m + 1) * (m + 1) * (m + 1))) := by grind
  rw [e1, e2] at b
  rw [e3] at c
  exact Int.le_of_mul_le_mul_left (Int.le_trans b c) hQ
theorem nm_3 (q1 q2 q3 r1 r2 r3 m u : Int) (p1 : 0 ≤ r1) (p2 : 0 ≤ r2) (p3 : 0 ≤ r3) (hm : 0 ≤ m) (h1 : r1 * m ≤ q1 * u) (h2 : r2 * m ≤ q2 * u) (h3 : r3 * m ≤ q3 * u) : r1 * r2 * r3 * (m * m * m) ≤ q1 * q2 * q3 * (u * u * u) := by
  have z1 : 0 ≤ r1 * m := Int.mul_nonneg p1 hm
  have z2 : 0 ≤ r2 * m := Int.mul_nonneg p2 hm
  have z3 : 0 ≤ r3 * m := Int.mul_nonneg p3 hm
  have a : r1 * m * (r2 * m) ≤ q1 * u * (q2 * u) := Int.mul_le_mul h1 h2 z2 (by omega)
  have b : r1 * m * (r2 * m) * (r3 * m) ≤ q1 * u * (q2 * u) * (q3 * u) := Int.mul_le_mul a h3 z3 (Int.le_trans (Int.mul_nonneg z1 z2) a)
  have e1 : r1 * r2 * r3 * (m * m * m) = r1 * m * (r2 * m) * (r3 * m) := by grind
  have e2 : q1 * q2 * q3 * (u * u * u) = q1 * u * (q2 * u) * (q3 * u) := by grind
  rw [e1, e2]
  exact b
theorem num_le {x K C : Int} (hK : 1 ≤ K) (hC : 1 ≤ C) (h : ∀ M : Int, 0 ≤ M → x * ((M + 1) * (M + 2) * (M + 3)) ≤ K * ((M + C + 1) * (M + C + 2) * (M + C + 3))) : x ≤ K := by
  apply Classical.byContradiction
  intro no
  have c7 : 1 ≤ C * (7 * K) := by
    have := Int.mul_le_mul hC (show (1 : Int) ≤ 7 * K by omega) (by omega) (by omega)
    omega
  have hM := h (C * (7 * K) - 1) (by omega)
  generalize hMM : C * (7 * K) - 1 = M at hM
  have M0 : 0 ≤ M := by omega
  have ck : C * (7 * K) = M + 1 := by omega
  have st : ∀ i : Int, 1 ≤ i → (M + C + i) * (7 * K) ≤ (M + i) * (7 * K + 1) := by
    intro i hi
    have e1 : (M + C + i) * (7 * K) = (M + i) * (7 * K) + C * (7 * K) := by grind
    have e2 : (M + i) * (7 * K + 1) = (M + i) * (7 * K) + (M + i) := by grind
    rw [e1, e2, ck]
    omega
  have k3 := nm_3 (M + 1) (M + 2) (M + 3) (M + C + 1) (M + C + 2) (M + C + 3) (7 * K) (7 * K + 1) (by omega) (by omega) (by omega) (by omega) (st 1 (by omega)) (st 2 (by omega)) (st 3 (by omega))
  have pos : 0 < (M + 1) * (M + 2) * (M + 3) := Int.mul_pos (Int.mul_pos (by omega) (by omega)) (by omega)
  exact nm_1 K hK (nm_2 _ _ (7 * K) K x hM k3 (by omega) pos (by omega) (by omega))
theorem hom_lin (l : Nat → cF) : hom 1 (linP l) := by
  have := hom_lm (n := 0) (P := cOne) l fun a b c h => if_neg fun r => h (by omega)
  rw [lm_eq] at this
  rw [cMul_comm] at this
  have e : cMul cOne (linP l) = linP l := by
    funext a b c
    show cMul (fun i j k => if i = 0 ∧ j = 0 ∧ k = 0 then 1 else 0) (linP l) a b c = _
    rw [mon_mul, if_pos ⟨by omega, by omega, by omega⟩]
    rfl
  rw [e] at this
  exact this
theorem hom_pow {d : Nat} {t : cP} (h : hom d t) (m : Nat) : hom (m * d) (cPow t m) := by
  induction m with
  | zero =>
    intro a b c q
    exact if_neg fun r => q (by rw [Nat.zero_mul]; omega)
  | succ m ih =>
    rw [Nat.succ_mul]
    exact hom_mul ih h
section CT
variable {T : Nat → cMat} {nt n : Nat} {L : Nat → cMat} {t1 t2 t3 : cP} {et : Nat → cP} {de : Nat → Nat} {d1 d2 d3 : Nat}
theorem sec_count (G : isG T nt n L) (hT : ∀ t, t < nt → mDet (T t) ≠ 0) (h : sysP t1 t2 t3) (h1 : hom d1 t1) (h2 : hom d2 t2) (h3 : hom d3 t3) (p1 : 1 ≤ d1) (p2 : 1 ≤ d2) (p3 : 1 ≤ d3) {s top : Nat} (i1 : InvP T nt t1) (i2 : InvP T nt t2) (i3 : InvP T nt t3) (ie : ∀ j, j < s → InvP T nt (et j)) (he : ∀ j, j < s → hom (de j) (et j)) (ht : ∀ j, j < s → de j ≤ top) (hE : ∀ e : Nat → cF, inI t1 t2 t3 (cSm s fun j => cS (e j) (et j)) → ∀ j, j < s → e j = 0) : (n : Int) * s ≤ d1 * d2 * d3 := by
  obtain ⟨l, inj⟩ := form_ex G hT
  have ineq : ∀ M : Nat, (n : Int) * (s * nA d1 d2 d3 M) ≤ nB (M + (n + top + 1)) (M + (n + top + 1) + 1) := by
    intro M
    have := ind_tuple (n := n) (s := s) (N := M + 1) (B := M + (n + top + 1) + 1) (fun a b k => decide (a * d1 + b * d2 + k * d3 ≤ M)) (fun x y w => decide (x + y + w ≤ M + (n + top + 1))) (fun i j a b k => cMul (cPow (linP l) i) (prP t1 t2 t3 et j a b k)) (fun i j a b k hi hj ha hb hk hp x y w hq => ?_) fun c e => all_free G h i1 i2 i3 ie hE inj (M + 1) c e
    · simp only [decide_eq_true_eq] at this
      exact this
    · have hp' := of_decide_eq_true hp
      have hh : hom (i * 1 + (a * d1 + (b * d2 + (k * d3 + de j)))) (cMul (cPow (linP l) i) (prP t1 t2 t3 et j a b k)) := hom_mul (hom_pow (hom_lin l) i) (hom_mul (hom_pow h1 a) (hom_mul (hom_pow h2 b) (hom_mul (hom_pow h3 k) (he j hj))))
      refine hh x y w fun eq => hq ?_
      have := ht j hj
      refine ⟨by omega, by omega, by omega, decide_eq_true (by omega)⟩
  have pK : (1 : Int) ≤ (d1 : Int) * d2 * d3 := by
    have a : 0 < (d1 : Int) * d2 * d3 := Int.mul_pos (Int.mul_pos (by omega) (by omega)) (by omega)
    omega
  refine num_le (C := ((n + top + 1 : Nat) : Int)) pK (by omega) fun M hM => ?_
  obtain ⟨M, rfl⟩ : ∃ m : Nat, M = m := ⟨M.toNat, by omega⟩
  have a := ineq M
  have b := nB_nA p1 p2 p3 M
  have c := nB_eq M
  have e := nB_eq (M + (n + top + 1))
  rw [← c, show (M : Int) + ((n + top + 1 : Nat) : Int) = ((M + (n + top + 1) : Nat) : Int) by omega, ← e]
  have ns : (0 : Int) ≤ (n : Int) * s := Int.mul_nonneg (by omega) (by omega)
  have x1 := Int.mul_le_mul_of_nonneg_left b ns
  have x2 := Int.mul_le_mul_of_nonneg_left a (show (0 : Int) ≤ (d1 : Int) * d2 * d3 by omega)
  have e1 : (n : Int) * s * (d1 * (d2 * (d3 * nA d1 d2 d3 M))) = d1 * d2 * d3 * (n * (s * nA d1 d2 d3 M)) := by grind
  rw [e1] at x1
  have x3 := Int.le_trans x1 x2
  have x4 := Int.mul_le_mul_of_nonneg_left x3 (show (0 : Int) ≤ 6 by omega)
  have e2 : 6 * ((n : Int) * s * nB M (M + 1)) = n * s * (6 * nB M (M + 1)) := by grind
  have e3 : 6 * ((d1 : Int) * d2 * d3 * nB (M + (n + top + 1)) (M + (n + top + 1) + 1)) = d1 * d2 * d3 * (6 * nB (M + (n + top + 1)) (M + (n + top + 1) + 1)) := by grind
  rw [e2, e3] at x4
  exact x4
end CT
