/-! THE CLASS: the mover's state; powers of the last form -/
theorem cr_0a {R : Type} [Lean.Grind.CommRing R] (a : R) : 0 + a = a := by grind
theorem cr_a0 {R : Type} [Lean.Grind.CommRing R] (a : R) : a + 0 = a := by grind
theorem lm_Sm (l : Nat → cF) (n : Nat) (F : Nat → cP) : lm l (cSm n F) = cSm n fun i => lm l (F i) := by
  rw [lm_eq, cMul_Sm]
  congr 1
  funext i
  rw [lm_eq]
theorem lm_S (l : Nat → cF) (k : cF) (P : cP) : lm l (cS k P) = cS k (lm l P) := by rw [lm_eq, lm_eq, cMul_S2]
theorem cSm_succ (n : Nat) (F : Nat → cP) : cSm (n + 1) F = cAdd (cSm n F) (F n) := rfl
theorem cSm_split (n m : Nat) (F : Nat → cP) : cSm (n + m) F = cAdd (cSm n F) (cSm m fun i => F (n + i)) := by
  funext a b c
  exact gs_split n m _
theorem cSm_zero {n : Nat} {F : Nat → cP} (h : ∀ i, i < n → F i = c0) : cSm n F = c0 := by
  funext a b c
  exact gs_zero fun i hi => by rw [h i hi]; rfl
theorem cAdd_0l (P : cP) : cAdd c0 P = P := by
  funext a b c
  exact cr_0a _
theorem cAdd_0r (P : cP) : cAdd P c0 = P := by
  funext a b c
  exact cr_a0 _
theorem lcP_add {D t : Int} (hD : D = 2 ∨ D = 3) (t0 : 0 ≤ t) (t1 : t ≤ 15) {f g h : Int → Int} {k : Int} (H : ∀ p, 0 ≤ p → p < fF D (t + 1) → toF (h p) = toF (f p) + toF k * toF (g p)) : lcP D t h = cAdd (lcP D t f) (cS (toF k) (lcP D t g)) := by
  funext a b c
  show lcP D t h a b c = lcP D t f a b c + toF k * lcP D t g a b c
  by_cases q : ((a + b + c : Nat) : Int) = t ∧ (D = 2 → c = 0)
  · rw [lcP_in q, lcP_in q, lcP_in q]
    have fb := fF_bd hD (s := ((b + c : Nat) : Int)) (by omega) (by omega)
    have w := (wid_eq hD (s := ((b + c : Nat) : Int)) (c := (c : Int)) (by omega) (by omega) (by omega)).mpr ⟨by omega, fun e => by have := q.2 e; omega⟩
    have m := fF_mono hD (s := ((b + c : Nat) : Int) + 1) (t := t + 1) (by omega) (by omega) (by omega)
    exact H _ (by omega) (by omega)
  · rw [lcP_out q, lcP_out q, lcP_out q, gs_z3, cr_00]
theorem lcP_0 (D t : Int) : lcP D t (fun _ => 0) = c0 := by
  funext a b c
  unfold lcP
  split <;> rfl
/-- the mover moves by A: powers of the last form stand up to T -/
def mvS (D : Int) (A : cMat) (T : Int) (J : cm_I) : Prop := okR (J 54) ∧ okR (J 58) ∧ okR (J 59) ∧ okR (J 60) ∧ (∀ i j : Nat, i < 3 → j < 3 → toF (J 54 (3 * (i : Int) + j)) = A i j) ∧ (D = 2 → A 0 2 = 0 ∧ A 1 2 = 0) ∧ J 53 10 = T ∧ 0 ≤ T ∧ T ≤ 15 ∧ ∀ k : Nat, (k : Int) ≤ T → lcP D k (fun p => J 60 (mFrom D k + p)) = lpow (A (D - 1).toNat) k cOne
theorem mvS_form {D : Int} {A : cMat} {T : Int} {J : cm_I} (h : mvS D A T J) {i : Nat} (hi : i < 3) (P : cP) : lm (fun j => toF (J 54 (3 * (i : Int) + (j : Int)))) P = lm (A i) P := by
  have e := h.2.2.2.2.1 i
  have e0 : toF (J 54 (3 * (i : Int) + ((0 : Nat) : Int))) = A i 0 := e 0 hi (by decide)
  have e1 : toF (J 54 (3 * (i : Int) + ((1 : Nat) : Int))) = A i 1 := e 1 hi (by decide)
  have e2 : toF (J 54 (3 * (i : Int) + ((2 : Nat) : Int))) = A i 2 := e 2 hi (by decide)
  funext a b c
  show (if a = 0 then 0 else toF (J 54 (3 * (i : Int) + ((0 : Nat) : Int))) * P (a - 1) b c) + (if b = 0 then 0 else toF (J 54 (3 * (i : Int) + ((1 : Nat) : Int))) * P a (b - 1) c) + (if c = 0 then 0 else toF (J 54 (3 * (i : Int) + ((2 : Nat) : Int))) * P a b (c - 1)) = _
  rw [e0, e1, e2]
  rfl
theorem mvS_2 {D : Int} {A : cMat} {T : Int} {J : cm_I} (h : mvS D A T J) {i : Nat} (hi : i < 2) (e : D = 2) : J 54 (3 * (i : Int) + 2) = 0 := by
  have a := h.2.2.2.2.1 i 2 (by omega) (by decide)
  have o := h.1 (3 * (i : Int) + 2)
  have hz : A i 2 = 0 := by
    have : i = 0 ∨ i = 1 := by omega
    rcases this with w | w <;> rw [w]
    · exact (h.2.2.2.2.2.1 e).1
    · exact (h.2.2.2.2.2.1 e).2
  rw [hz] at a
  exact (toF_eq_zero o.1 o.2).mp a
section WGL
variable {d : Nat} {z : cm_Z} {I : cm_I} {D : Int} {sh : Nat} {A : cMat} {T : Int}
/-- the power of the last variable at a place -/
def lv (D p : Int) : Int := if D = 3 then lst D p else blk D p
theorem t_growLast (hz : wz z) (hS : shOk D sh I) (y0 : z.1 53 0 = sh) (hM : mvS D A T I) {a1 q : Nat} (h1 : 0 < a1) (n1 : a1 ≠ 53 ∧ a1 ≠ 60) (y1 : z.1 a1 0 = q) (q0 : 0 < q) (nq : q ≠ 53 ∧ q ≠ 60) {xf t : Int} (ef : I a1 1 = xf) (et : I a1 2 = t) (t0 : 0 ≤ t) (t1 : t ≤ 15) (xf0 : 0 ≤ xf ∧ xf ≤ 1000000) (xfl : xf + fF D (t + 1) ≤ z.2.1 q) : mU (d + 4) m_Mover_growLastPowers [vR 4 53, vR 5 a1] z I fun I1 => fr [53, 60] I I1 ∧ (∀ j, j ≠ 10 → I1 53 j = I 53 j) ∧ ∃ T', mvS D A T' I1 ∧ ∀ p, 0 ≤ p → p < fF D (t + 1) → I q (xf + p) ≠ 0 → lv D p ≤ T' := by
  have hD := shOk_D hS
  have hs := sh_lt hS
  have fi := hS.2.2.2.1
  have st := hS.2.2.2.2.1
  have ft := fF_bd hD (s := t + 1) (by omega) (by omega)
  have f16 := fF_mono hD (s := t + 1) (t := 16) (by omega) (by omega) (by omega)
  have D1 : (D - 1).toNat < 3 := by omega
  -- powers, one by one
  have L91 : ∀ (n : Nat) (k need : Int) (J : cm_I) (z1 z4 z5 : Option cm_V), 0 ≤ k → (k + n = need ∨ (n = 0 ∧ need ≤ k)) → need ≤ 15 → T ≤ k → k ≤ 15 → fr [53, 60] I J → J 53 = I 53 → okR (J 60) → (∀ k' : Nat, (k' : Int) ≤ k → lcP D k' (fun p => J 60 (mFrom D k' + p)) = lpow (A (D - 1).toNat) k' cOne) → (k ≤ max T need) → (∀ p, 0 ≤ p → p < fF D (t + 1) → I q (xf + p) ≠ 0 → lv D p ≤ need) → cw (d + 3) cd_Mover_growLastPowers (qU z fun I1 => fr [53, 60] I I1 ∧ (∀ j, j ≠ 10 → I1 53 j = I 53 j) ∧ ∃ T', mvS D A T' I1 ∧ ∀ p, 0 ≤ p → p < fF D (t + 1) → I q (xf + p) ≠ 0 → lv D p ≤ T') 91 [some (vR 4 53), z1, some (vI need), some (vI k), z4, z5] [] (J, z) := by
    intro n
    induction n with
    | zero =>
      intro k need J z1 z4 z5 k0 en n15 Tk k15 hf h53 oJ hp km hneed
      obtain ⟨m1, m2, m3, m4, m5, m6, m7, m8, m9, m10⟩ := id hM
      refine wr_Mover_growLastPowers_91 hz y0 (shOk_sh hS) ⟨fun _ J1 e1 => qU_mk ?_, fun w => by omega⟩
      obtain ⟨f1, g1⟩ := fr_eq_iu e1
      rw [h53, m7] at g1
      refine ⟨fr_trans hf (fr_mono f1 (by simp)), fun j hj => by rw [g1]; simp [hj], max T need, ⟨?_, ?_, ?_, ?_, ?_, m6, ?_, by omega, by omega, fun k' hk' => ?_⟩, fun p p0 p1 nz => ?_⟩
      · rw [f1 54 (by simp), hf 54 (by simp)]; exact m1
      · rw [f1 58 (by simp), hf 58 (by simp)]; exact m2
      · rw [f1 59 (by simp), hf 59 (by simp)]; exact m3
      · rw [f1 60 (by simp)]; exact oJ
      · rw [f1 54 (by simp), hf 54 (by simp)]; exact m5
      · rw [g1]; simp
      · rw [f1 60 (by simp)]; exact hp k' (by omega)
      · have := hneed p p0 p1 nz; omega
    | succ n ih =>
      intro k need J z1 z4 z5 k0 en n15 Tk k15 hf h53 oJ hp km hneed
      obtain ⟨m1, m2, m3, m4, m5, m6, m7, m8, m9, m10⟩ := id hM
      have fk := from_bds hD (t := k) k0 (by omega)
      have fk1 := from_bds hD (t := k + 1) (by omega) (by omega)
      have mn1 := fF_many D k
      have mn2 := fF_many D (k + 1)
      have kk := st k k0 (by omega)
      have kk1 := st (k + 1) (by omega) (by omega)
      have mm := fF_mono hD (s := k + 1) (t := k + 2) (by omega) (by omega) (by omega)
      rw [show k + 1 + 1 = k + 2 by omega] at mn2 fk1
      have l60 : z.2.1 60 = 816 := wz_L hz 60 816 rfl (by decide)
      refine wr_Mover_growLastPowers_91 hz y0 (shOk_sh hS) ⟨fun w => by omega, fun _ => ?_⟩
      rw [hf (sh + 2) (by simp; omega), kk, kk1]
      refine ⟨⟨by omega, by omega⟩, ⟨by omega, by omega⟩, ⟨by omega, by omega⟩, ⟨by omega, by omega⟩, ⟨by omega, by omega, by omega, by omega, by omega⟩, fun J7 e7 => ?_⟩
      obtain ⟨f7, g7⟩ := fr_eq_iw e7
      have ff7 : fr [53, 60] I J7 := fr_trans hf (fr_mono f7 (by simp))
      have s7 : shOk D sh J7 := shOk_fr hS (ff7 _ (by simp; omega)) (ff7 _ (by simp; omega)) (ff7 _ (by simp; omega)) (ff7 _ (by simp; omega)) (ff7 _ (by simp; omega))
      have o7 : okR (J7 60) := by rw [g7]; exact okR_cpyF oJ oJ _ _ _
      have h54 : J7 54 = I 54 := ff7 54 (by simp)
      rw [s7.2.1]
      refine ⟨⟨by omega, by omega⟩, mU_mono (t_timesForm (d := d) hz s7 y0 (a := 60) (by decide) (by simp; omega) (x := mFrom D (k + 1)) (t := k) (row := D - 1) (by omega) (by omega) k0 (by omega) (by omega) (by omega) (by rw [l60, mn2]; omega) (by rw [h54]; exact m1) (fun e => by rw [h54, e]; exact mvS_2 hM (i := 1) (by decide) e) o7) fun I9 ⟨x1, x2, x3, x4⟩ => ?_⟩
      have c53 : I9 53 = I 53 := by rw [x1 53 (by simp), f7 53 (by simp), h53]
      have low : ∀ j, j < mFrom D (k + 1) → I9 60 j = J 60 j := fun j hj => by
        rw [x3 j (by omega), g7]
        unfold cpyF
        rw [if_neg (by omega)]
      refine ih (k + 1) need I9 _ _ _ (by omega) (by omega) n15 (by omega) (by omega) (fr_trans ff7 (fr_mono x1 (by simp))) c53 x2 (fun k' hk' => ?_) (by omega) hneed
      by_cases w : (k' : Int) = k + 1
      · have e1 : lcP D k (fun p => J7 60 (mFrom D (k + 1) + p)) = lcP D k (fun p => J 60 (mFrom D k + p)) := by
          refine lcP_congr hD k0 (by omega) fun p p0 p1 => ?_
          rw [g7]
          unfold cpyF
          rw [if_pos (by omega)]
          congr 1
          omega
        have e2 := hp k.toNat (by omega)
        rw [show ((k.toNat : Nat) : Int) = k by omega] at e2
        have e3 : lm (fun j => toF (J7 54 (3 * (D - 1) + (j : Int)))) (lcP D k (fun p => J7 60 (mFrom D (k + 1) + p))) = lm (A (D - 1).toNat) (lcP D k (fun p => J7 60 (mFrom D (k + 1) + p))) := by
          rw [h54]
          have := mvS_form hM D1 (lcP D k (fun p => J7 60 (mFrom D (k + 1) + p)))
          rw [show (((D - 1).toNat : Nat) : Int) = D - 1 by omega] at this
          exact this
        rw [e3, e1, e2] at x4
        rw [w, x4, show k' = k.toNat + 1 by omega]
        rfl
      · have fk' := from_bds hD (t := (k' : Int)) (by omega) (by omega)
        have mk := mFrom_mono D (s := (k' : Int) + 1) (t := k + 1) (by omega) (by omega)
        have mn := fF_many D (k' : Int)
        rw [← hp k' (by omega)]
        refine lcP_congr hD (by omega) (by omega) fun p p0 p1 => low _ (by omega)
  have L4 : ∀ (n : Nat) (i need : Int) (z4 z5 : Option cm_V), 0 ≤ i → i + n = fF D (t + 1) → 0 ≤ need → need ≤ t → (∀ p, 0 ≤ p → p < i → I q (xf + p) ≠ 0 → lv D p ≤ need) → cw (d + 3) cd_Mover_growLastPowers (qU z fun I1 => fr [53, 60] I I1 ∧ (∀ j, j ≠ 10 → I1 53 j = I 53 j) ∧ ∃ T', mvS D A T' I1 ∧ ∀ p, 0 ≤ p → p < fF D (t + 1) → I q (xf + p) ≠ 0 → lv D p ≤ T') 4 [some (vR 4 53), some (vR 5 a1), some (vI need), some (vI i), z4, z5] [] (I, z) := by
    intro n
    induction n with
    | zero =>
      intro i need z4 z5 i0 ei n0 nt al
      obtain ⟨m1, m2, m3, m4, m5, m6, m7, m8, m9, m10⟩ := id hM
      refine wr_Mover_growLastPowers_4 hz y0 (shOk_sh hS) h1 y1 q0 ?_
      rw [et, fi (t + 1) (by omega) (by omega), m7]
      refine ⟨⟨by omega, by omega⟩, ⟨by omega, by omega⟩, fun _ => ?_, fun w => by omega⟩
      exact L91 (need - T).toNat T need I _ _ _ m8 (by omega) (by omega) (Int.le_refl T) m9 (fr_refl _ _) rfl m4 m10 (by omega) fun p p0 p1 nz => al p p0 (by omega) nz
    | succ n ih =>
      intro i need z4 z5 i0 ei n0 nt al
      obtain ⟨bt, i16⟩ := blk_lt hD (t := t) i0 (by omega) t0 t1
      obtain ⟨b1, b2, b3, b4, b5, b6, b7, b8⟩ := blk_ok hD i0 i16
      refine wr_Mover_growLastPowers_4 hz y0 (shOk_sh hS) h1 y1 q0 ?_
      rw [et, ef, fi (t + 1) (by omega) (by omega), (shOk_blk hS i0 i16).1, (wz_shL7 hz hS).1, hS.2.1, fi (blk D i) b1 (by omega)]
      refine ⟨⟨by omega, by omega⟩, ⟨by omega, by omega⟩, fun w => by omega, fun _ => ⟨⟨by omega, by omega⟩, ⟨by omega, by omega⟩, fun ez => ⟨⟨by omega, by omega⟩, ih (i + 1) need _ _ (by omega) (by omega) n0 nt fun p p0 p1 nz => ?_⟩, fun nz => ⟨⟨by omega, by omega⟩, fun n3 => ⟨⟨by omega, by omega⟩, ih (i + 1) (max need (blk D i)) _ _ (by omega) (by omega) (by omega) (by omega) fun p p0 p1 nzp => ?_⟩, fun e3 => ⟨⟨by omega, by omega⟩, ⟨by omega, by omega⟩, ⟨by omega, by omega⟩, ?_⟩⟩⟩⟩
      · by_cases w : p = i
        · rw [w] at nz; exact absurd ez nz
        · exact al p p0 (by omega) nz
      · by_cases w : p = i
        · rw [w]; unfold lv; rw [if_neg n3]; omega
        · have := al p p0 (by omega) nzp; omega
      · rw [show i - fF D (blk D i) = lst D i by omega]
        refine ih (i + 1) (max need (lst D i)) _ _ (by omega) (by omega) (by omega) (by omega) fun p p0 p1 nzp => ?_
        by_cases w : p = i
        · rw [w]; unfold lv; rw [if_pos e3]; omega
        · have := al p p0 (by omega) nzp; omega
  refine wr_Mover_growLastPowers hz ?_
  exact L4 (fF D (t + 1)).toNat 0 0 _ _ (by omega) (by omega) (Int.le_refl 0) t0 fun p p0 p1 => by omega
end WGL
