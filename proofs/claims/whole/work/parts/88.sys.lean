/-! THE system as series -/
def th3 (D : Int) (P : Nat → Int → Int) : cP := if D = 2 then zs 1 else toP D (P 2)
theorem vOk_nil {D : Int} (hD : D = 2 ∨ D = 3) : vOk D (fun _ => 0) ∧ mDeg D (fun _ => 0) 0 = 0 := by
  have h := mDeg_nil hD (f := fun _ => 0) (x := 0) fun _ _ _ => rfl
  exact ⟨⟨fun k => by simp, fun _ _ => rfl, by omega⟩, h⟩
theorem toP_nz {D : Int} (hD : D = 2 ∨ D = 3) {v : Int → Int} (hv : vOk D v) (h : 1 ≤ mDeg D v 0) : toP D v ≠ c0 := by
  intro e
  have z : toP D (fun _ => 0) = c0 := by
    funext a b c
    unfold toP
    show (if _ then toF 0 else 0) = 0
    rw [show toF 0 = 0 from rfl]
    exact ite_self _
  have := toP_inj hD hv (vOk_nil hD).1 (e.trans z.symm)
  rw [this, (vOk_nil hD).2] at h
  omega
theorem gen_in3 {R : Type} [Lean.Grind.CommRing R] (t1 t2 t3 q0 q1 q2 : R) : 0 + t1 * q0 + t2 * q1 + t3 * q2 = t1 * q0 + t2 * q1 + t3 * q2 := by grind
theorem gen_in2 {R : Type} [Lean.Grind.CommRing R] (t1 t2 t3 q0 q1 : R) : 0 + t1 * q0 + t2 * q1 = t1 * q0 + t2 * q1 + t3 * 0 := by grind
theorem gen_inz {R : Type} [Lean.Grind.CommRing R] (t1 t2 t3 q : R) : t3 * q = t1 * 0 + t2 * 0 + t3 * q := by grind
theorem all_in {D : Int} (hD : D = 2 ∨ D = 3) (P : Nat → Int → Int) {u : cP} (h : ∃ q : Nat → cP, u = cSm D.toNat fun i => cMul (toP D (P i)) (q i)) : inI (toP D (P 0)) (toP D (P 1)) (th3 D P) u := by
  obtain ⟨q, h⟩ := h
  rcases hD with e | e
  · subst e
    refine ⟨q 0, q 1, c0, h.trans ?_⟩
    rw [cSm_eq, c0_eq]
    exact @gen_in2 cP cPr (toP 2 (P 0)) (toP 2 (P 1)) (th3 2 P) (q 0) (q 1)
  · subst e
    refine ⟨q 0, q 1, q 2, h.trans ?_⟩
    have : th3 3 P = toP 3 (P 2) := if_neg (by omega)
    rw [cSm_eq, this]
    exact @gen_in3 cP cPr (toP 3 (P 0)) (toP 3 (P 1)) (toP 3 (P 2)) (q 0) (q 1) (q 2)
theorem zs_pow (s : Nat) : zs (s + 1) = cMul (zs 1) (zs s) := by
  funext a b c
  rw [zs_mul]
  unfold zs
  by_cases h : 1 ≤ c
  · rw [if_pos h]
    by_cases q : a = 0 ∧ b = 0 ∧ c = s + 1
    · rw [if_pos q, if_pos ⟨q.1, q.2.1, by omega⟩]
    · rw [if_neg q, if_neg fun r => q ⟨r.1, r.2.1, by omega⟩]
  · rw [if_neg h, if_neg fun r => h (by omega)]
theorem hom_zs (s : Nat) : hom s (zs s) := fun a b c h => if_neg fun r => h (by omega)
theorem all_sys {D : Int} (hD : D = 2 ∨ D = 3) {P : Nat → Int → Int} {dg : Nat → Int} (hP : ∀ i : Nat, (i : Int) < D → mDeg D (P i) 0 = dg i ∧ vOne1 D (P i) ∧ 1 ≤ dg i ∧ dg i ≤ 15) (hs : sDg D dg ≤ 17) (h0 : vOk D (P 0)) (h : isAll D P dg) : sysP (toP D (P 0)) (toP D (P 1)) (th3 D P) := by
  have p0 := hP 0 (by omega)
  have p1 := hP 1 (by omega)
  have hge := sDg_ge hD (fun j hj => (hP j hj).2.2.1) (i := 0) (by omega)
  refine ⟨⟨(dg 0).toNat, by omega, hom_toP hD (by omega) p0.2.1⟩, ⟨(dg 1).toNat, by omega, hom_toP hD (by omega) p1.2.1⟩, ?_, toP_nz hD h0 (by omega), (sDg D dg).toNat, ?_, ?_, ?_⟩
  · rcases hD with e | e
    · refine ⟨1, by omega, ?_⟩
      rw [th3, if_pos e]
      exact hom_zs 1
    · have p2 := hP 2 (by omega)
      refine ⟨(dg 2).toNat, by omega, ?_⟩
      rw [th3, if_neg (by omega)]
      exact hom_toP (Or.inr e) (by omega) p2.2.1
  · exact all_in hD P (isAll_mon hD hP hs h (x := (sDg D dg).toNat) (y := 0) (w := 0) (by omega) fun _ => rfl)
  · exact all_in hD P (isAll_mon hD hP hs h (x := 0) (y := (sDg D dg).toNat) (w := 0) (by omega) fun _ => rfl)
  · by_cases e : D = 2
    · have : th3 D P = zs 1 := if_pos e
      refine ⟨c0, c0, zs ((sDg D dg).toNat - 1), ?_⟩
      have zp := zs_pow ((sDg D dg).toNat - 1)
      rw [show (sDg D dg).toNat - 1 + 1 = (sDg D dg).toNat by omega] at zp
      rw [this, zp, c0_eq]
      exact @gen_inz cP cPr _ _ _ _
    · exact all_in hD P (isAll_mon hD hP hs h (x := 0) (y := 0) (w := (sDg D dg).toNat) (by omega) fun e' => absurd e' e)
