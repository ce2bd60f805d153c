/-! SECONDARY ones are free -/
theorem gen_lp2 {R : Type} [Lean.Grind.CommRing R] (t p u : R) : p * t * u = t * (p * u) := by grind
section SF
variable {D : Int} {T : Nat → cMat} {nt n : Nat} {L : Nat → cMat} {v : Nat → Int → Int} {dg : Nat → Int}
theorem sx_T (S : sx_S D T nt n L v dg) : ∀ t, t < nt → isD D (T t) := fun t ht => isZ_D (S.2.2.2.1 t ht)
theorem sx_hom (S : sx_S D T nt n L v dg) : hom (dg 0).toNat (toP D (v 0)) ∧ hom (dg 1).toNat (toP D (v 1)) ∧ hom (sx_3 D dg) (th3 D v) := by
  obtain ⟨hD, -, -, -, hv, h2, -⟩ := S
  refine ⟨hom_toP hD (by have := hv 0 (by omega); omega) (hv 0 (by omega)).2.2.1, hom_toP hD (by have := hv 1 (by omega); omega) (hv 1 (by omega)).2.2.1, ?_⟩
  unfold sx_3 th3
  rcases hD with e | e
  · rw [if_pos e, if_pos e]; exact hom_zs 1
  · rw [if_neg (by omega), if_neg (by omega)]
    exact hom_toP (Or.inr e) (by have := hv 2 (by omega); omega) (hv 2 (by omega)).2.2.1
theorem sx_pos (S : sx_S D T nt n L v dg) : 1 ≤ (dg 0).toNat ∧ 1 ≤ (dg 1).toNat ∧ 1 ≤ sx_3 D dg := by
  obtain ⟨hD, -, -, -, hv, h2, -⟩ := S
  refine ⟨by have := hv 0 (by omega); omega, by have := hv 1 (by omega); omega, ?_⟩
  unfold sx_3
  split <;> omega
theorem sx_inv (S : sx_S D T nt n L v dg) : InvP T nt (toP D (v 0)) ∧ InvP T nt (toP D (v 1)) ∧ InvP T nt (th3 D v) := by
  have hT := sx_T S
  obtain ⟨hD, -, -, hz, hv, h2, -⟩ := S
  have one : ∀ i : Nat, (i : Int) < D → InvP T nt (toP D (v i)) := fun i hi => (isInv_iff hD hT (hv i hi).1).mp (hv i hi).2.2.2.2.2
  refine ⟨one 0 (by omega), one 1 (by omega), ?_⟩
  unfold th3
  rcases hD with e | e
  · rw [if_pos e]
    intro t ht
    have := hz t ht
    rw [e] at this
    exact mv_zs1 this
  · rw [if_neg (by omega)]
    exact one 2 (by omega)
theorem sx_einv (S : sx_S D T nt n L v dg) {l : List (Int × Nat)} (hl : sx_L D T nt l) {j : Nat} (hj : j < l.length) : InvP T nt (sx_e D T nt l j) ∧ sv_z D (sx_d l j) (sx_e D T nt l j) := by
  obtain ⟨x0, x1, x2⟩ := hl _ (sx_at hj).1
  have e : ((sx_x l j).1.toNat : Int) = (sx_x l j).1 := by omega
  have a := sv_binv S.1 (sx_T S) (t := (sx_x l j).1.toNat) (by omega) (r := bsRows D T nt (sx_x l j).1) (B := (bsX D T nt (sx_x l j).1).2) (by rw [e]; exact S.2.2.2.2.2.2.2 _ x0 x1) x2
  have b := sv_zrow S.1 (t := (sx_x l j).1.toNat) (by omega) ((bsX D T nt (sx_x l j).1).2 (sx_x l j).2)
  rw [e] at a b
  exact ⟨a, b⟩
/-- powers of primary ones -/
theorem sx_pw1 {t1 t2 t3 : cP} {d1 d2 d3 J m : Nat} {et : Nat → cP} {de : Nat → Nat} {u : cP} (h : pSp t1 t2 t3 d1 d2 d3 et de J m u) (a : Nat) : pSp t1 t2 t3 d1 d2 d3 et de J (a * d1 + m) (cMul (cPow t1 a) u) := by
  induction a with
  | zero =>
    have e : cMul (cPow t1 0) u = u := by
      show cMul cOne u = u
      rw [cOne_eq]
      exact (@tp_g2 cP cPr u).symm
    rw [e, Nat.zero_mul, Nat.zero_add]
    exact h
  | succ a ih =>
    have e : cMul (cPow t1 (a + 1)) u = cMul t1 (cMul (cPow t1 a) u) := @gen_lp2 cP cPr t1 (cPow t1 a) u
    rw [e, show (a + 1) * d1 + m = d1 + (a * d1 + m) by rw [Nat.add_mul]; omega]
    exact pSp_t1 ih
theorem sx_pw2 {t1 t2 t3 : cP} {d1 d2 d3 J m : Nat} {et : Nat → cP} {de : Nat → Nat} {u : cP} (h : pSp t1 t2 t3 d1 d2 d3 et de J m u) (a : Nat) : pSp t1 t2 t3 d1 d2 d3 et de J (a * d2 + m) (cMul (cPow t2 a) u) := by
  induction a with
  | zero =>
    have e : cMul (cPow t2 0) u = u := by
      show cMul cOne u = u
      rw [cOne_eq]
      exact (@tp_g2 cP cPr u).symm
    rw [e, Nat.zero_mul, Nat.zero_add]
    exact h
  | succ a ih =>
    have e : cMul (cPow t2 (a + 1)) u = cMul t2 (cMul (cPow t2 a) u) := @gen_lp2 cP cPr t2 (cPow t2 a) u
    rw [e, show (a + 1) * d2 + m = d2 + (a * d2 + m) by rw [Nat.add_mul]; omega]
    exact pSp_t2 ih
theorem sx_pw3 {t1 t2 t3 : cP} {d1 d2 d3 J m : Nat} {et : Nat → cP} {de : Nat → Nat} {u : cP} (h : pSp t1 t2 t3 d1 d2 d3 et de J m u) (a : Nat) : pSp t1 t2 t3 d1 d2 d3 et de J (a * d3 + m) (cMul (cPow t3 a) u) := by
  induction a with
  | zero =>
    have e : cMul (cPow t3 0) u = u := by
      show cMul cOne u = u
      rw [cOne_eq]
      exact (@tp_g2 cP cPr u).symm
    rw [e, Nat.zero_mul, Nat.zero_add]
    exact h
  | succ a ih =>
    have e : cMul (cPow t3 (a + 1)) u = cMul t3 (cMul (cPow t3 a) u) := @gen_lp2 cP cPr t3 (cPow t3 a) u
    rw [e, show (a + 1) * d3 + m = d3 + (a * d3 + m) by rw [Nat.add_mul]; omega]
    exact pSp_t3 ih
theorem zs_cpow (k : Nat) : zs k = cPow (zs 1) k := by
  induction k with
  | zero => rfl
  | succ k ih => rw [zs_pow, cMul_comm, ih]; rfl
/-- all that is left alone is there -/
theorem sx_cpl (S : sx_S D T nt n L v dg) {t : Nat} (t1 : t ≤ 16) {l : List (Int × Nat)} (h : ∀ t', t' < t → ∀ r', r' < bsRows D T nt t' → sx_p D T nt v dg l t' (toP D (sx_b D T nt ((t' : Int), r')))) {m : Nat} (hm : m < t) {u : cP} (hu : InvP T nt u) (hh : hom m u) : sx_p D T nt v dg l m u := by
  have hT := sx_T S
  have base : ∀ m', m' < t → ∀ w, InvP T nt w → sv_z D m' w → sx_p D T nt v dg l m' w := by
    intro m' hm' w iw hw
    obtain ⟨c, e⟩ := sv_base S.1 hT (t := m') (by omega) (S.2.2.2.2.2.2.2 (m' : Int) (by omega) (by omega)) hw iw
    rw [e]
    exact pSp_Sm _ _ fun i hi => pSp_S _ (h m' hm' i hi)
  by_cases e : D = 2
  · have e3 : th3 D v = zs 1 := if_pos e
    have d3 : sx_3 D dg = 1 := if_pos e
    rw [sv_split hh]
    refine pSp_Sm _ _ fun k hk => ?_
    have z := sv_khom (k := k) hh (by omega)
    have iz : InvP T nt (sv_k k u) := fun t ht => by
      have := S.2.2.2.1 t ht
      rw [e] at this
      exact sv_kinv this hh (hu t ht) (by omega)
    have b := sx_pw3 (base (m - k) (by omega) (sv_k k u) iz (by rw [e]; exact z)) k
    rw [e3, d3, ← zs_cpow, show k * 1 + (m - k) = m by omega] at b
    rw [e3, d3]
    exact b
  · exact base m hm u hu ⟨hh, fun e' => absurd e' e⟩
/-- independent modulo the primary ones -/
theorem sx_hE (S : sx_S D T nt n L v dg) {t : Nat} (t1 : t ≤ 16) {l : List (Int × Nat)} (h : seOk D T nt v dg t 0 l) (lo : seLow l t) (e : Nat → cF) (hI : inI (toP D (v 0)) (toP D (v 1)) (th3 D v) (cSm l.length fun j => cS (e j) (sx_e D T nt l j))) : ∀ j, j < l.length → e j = 0 := by
  obtain ⟨a1, a2, a3, a4, a5, a6⟩ := h
  obtain ⟨i1, i2, i3⟩ := sx_inv S
  obtain ⟨h1, h2, h3⟩ := sx_hom S
  obtain ⟨p1, p2, p3⟩ := sx_pos S
  by_cases t0 : t = 0
  · intro j hj
    have := lo j hj
    omega
  · exact sec_free S.2.1 S.2.2.1 i1 i2 i3 h1 h2 h3 p1 p2 p3 (top := t - 1) (fun j hj => (sx_einv S a1 hj).1) (fun j hj => (sx_einv S a1 hj).2.1) (fun j hj => by have := lo j hj; omega) a3 (fun m u hm iu hu => sx_cpl S t1 a5 (by omega) iu hu) a2 e hI
/-- how many there are -/
theorem sx_cnt (S : sx_S D T nt n L v dg) {t : Nat} (t1 : t ≤ 16) {l : List (Int × Nat)} (h : seOk D T nt v dg t 0 l) (lo : seLow l t) : (n : Int) * l.length ≤ dg 0 * dg 1 * (if D = 2 then 1 else dg 2) := by
  obtain ⟨i1, i2, i3⟩ := sx_inv S
  obtain ⟨h1, h2, h3⟩ := sx_hom S
  obtain ⟨p1, p2, p3⟩ := sx_pos S
  have c := sec_count S.2.1 S.2.2.1 S.2.2.2.2.2.2.1 h1 h2 h3 p1 p2 p3 (top := t) i1 i2 i3 (fun j hj => (sx_einv S h.1 hj).1) (fun j hj => (sx_einv S h.1 hj).2.1) (fun j hj => by have := lo j hj; omega) (sx_hE S t1 h lo)
  have e0 : (((dg 0).toNat : Nat) : Int) = dg 0 := by omega
  have e1 : (((dg 1).toNat : Nat) : Int) = dg 1 := by omega
  have e2 : ((sx_3 D dg : Nat) : Int) = if D = 2 then 1 else dg 2 := by
    unfold sx_3
    have := S.2.2.2.2.2.1
    split <;> omega
  rw [e0, e1, e2] at c
  exact c
theorem sx_216 (S : sx_S D T nt n L v dg) {t : Nat} (t1 : t ≤ 16) {l : List (Int × Nat)} (h : seOk D T nt v dg t 0 l) (lo : seLow l t) : l.length ≤ 216 := by
  have c := sx_cnt S t1 h lo
  obtain ⟨hD, G, -, -, hv, h2, -⟩ := S
  have n1 := G.1
  have v0 := hv 0 (by omega)
  have v1 := hv 1 (by omega)
  have b1 := mul_bd (x := dg 0) (y := dg 1) (X := 6) (Y := 6) (by omega) (by omega) (by omega) (by omega)
  have b2 : dg 0 * dg 1 * (if D = 2 then 1 else dg 2) ≤ 216 := by
    rcases hD with e | e
    · rw [if_pos e]; omega
    · rw [if_neg (by omega)]
      have v2 := hv 2 (by omega)
      have := mul_bd (x := dg 0 * dg 1) (y := dg 2) (X := 36) (Y := 6) (by omega) (by omega) (by omega) (by omega)
      omega
  have b3 : (l.length : Int) ≤ n * l.length := by
    have := Int.mul_le_mul_of_nonneg_right (show (1 : Int) ≤ n by omega) (show (0 : Int) ≤ l.length by omega)
    omega
  omega
end SF
