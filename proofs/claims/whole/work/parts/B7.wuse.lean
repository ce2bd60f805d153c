/-! THE CLASS: Mover.use; whole polynomials are moved -/
theorem dt_01 {R : Type} [Lean.Grind.CommRing R] (A : Nat → Nat → R) (v : Nat) (x y : R) (hv : v = 0 ∨ v = 1 ∨ v = 2) (a0 : A 0 0 = if 0 = v then x else 0) (a1 : A 0 1 = if 1 = v then x else 0) (a2 : A 0 2 = if 2 = v then x else 0) (b0 : A 1 0 = if 0 = v then y else 0) (b1 : A 1 1 = if 1 = v then y else 0) (b2 : A 1 2 = if 2 = v then y else 0) : A 0 0 * (A 1 1 * A 2 2 - A 1 2 * A 2 1) + A 0 1 * (A 1 2 * A 2 0 - A 1 0 * A 2 2) + A 0 2 * (A 1 0 * A 2 1 - A 1 1 * A 2 0) = 0 := by
  rcases hv with e | e | e <;> subst e <;> simp at a0 a1 a2 b0 b1 b2 <;> grind
theorem dt_02 {R : Type} [Lean.Grind.CommRing R] (A : Nat → Nat → R) (v : Nat) (x y : R) (hv : v = 0 ∨ v = 1 ∨ v = 2) (a0 : A 0 0 = if 0 = v then x else 0) (a1 : A 0 1 = if 1 = v then x else 0) (a2 : A 0 2 = if 2 = v then x else 0) (b0 : A 2 0 = if 0 = v then y else 0) (b1 : A 2 1 = if 1 = v then y else 0) (b2 : A 2 2 = if 2 = v then y else 0) : A 0 0 * (A 1 1 * A 2 2 - A 1 2 * A 2 1) + A 0 1 * (A 1 2 * A 2 0 - A 1 0 * A 2 2) + A 0 2 * (A 1 0 * A 2 1 - A 1 1 * A 2 0) = 0 := by
  rcases hv with e | e | e <;> subst e <;> simp at a0 a1 a2 b0 b1 b2 <;> grind
theorem dt_12 {R : Type} [Lean.Grind.CommRing R] (A : Nat → Nat → R) (v : Nat) (x y : R) (hv : v = 0 ∨ v = 1 ∨ v = 2) (a0 : A 1 0 = if 0 = v then x else 0) (a1 : A 1 1 = if 1 = v then x else 0) (a2 : A 1 2 = if 2 = v then x else 0) (b0 : A 2 0 = if 0 = v then y else 0) (b1 : A 2 1 = if 1 = v then y else 0) (b2 : A 2 2 = if 2 = v then y else 0) : A 0 0 * (A 1 1 * A 2 2 - A 1 2 * A 2 1) + A 0 1 * (A 1 2 * A 2 0 - A 1 0 * A 2 2) + A 0 2 * (A 1 0 * A 2 1 - A 1 1 * A 2 0) = 0 := by
  rcases hv with e | e | e <;> subst e <;> simp at a0 a1 a2 b0 b1 b2 <;> grind
theorem st_perm {A : cMat} (hd : mDet A ≠ 0) {t0 t1 t2 : Nat} {k0 k1 k2 : cF} (h0 : t0 < 3) (h1 : t1 < 3) (h2 : t2 < 3) (a : ∀ j, j < 3 → A 0 j = sg1 t0 k0 j) (b : ∀ j, j < 3 → A 1 j = sg1 t1 k1 j) (c : ∀ j, j < 3 → A 2 j = sg1 t2 k2 j) : stA t0 t1 t2 k0 k1 k2 A := by
  refine ⟨h0, h1, h2, fun e => hd ?_, fun e => hd ?_, fun e => hd ?_, a, b, c⟩
  · subst e
    exact dt_01 A t0 k0 k1 (by omega) (a 0 (by decide)) (a 1 (by decide)) (a 2 (by decide)) (b 0 (by decide)) (b 1 (by decide)) (b 2 (by decide))
  · subst e
    exact dt_02 A t0 k0 k2 (by omega) (a 0 (by decide)) (a 1 (by decide)) (a 2 (by decide)) (c 0 (by decide)) (c 1 (by decide)) (c 2 (by decide))
  · subst e
    exact dt_12 A t1 k1 k2 (by omega) (b 0 (by decide)) (b 1 (by decide)) (b 2 (by decide)) (c 0 (by decide)) (c 1 (by decide)) (c 2 (by decide))
/-- the mover stands for A -/
def mvR (D : Int) (A : cMat) (J : cm_I) : Prop := (∃ T, mvS D A T J) ∧ (J 53 3 = 0 ∨ J 53 3 = 1) ∧ (J 53 3 ≠ 0 → stS D A J)
def mvO (J : cm_I) : Prop := okR (J 54) ∧ okR (J 58) ∧ okR (J 59) ∧ okR (J 60)
/-- one row: one number, of variable v -/
def ro1 (A : cMat) (J : cm_I) (r : Nat) : Prop := ∃ v : Nat, v < 3 ∧ J 55 (r : Int) = v ∧ 0 ≤ J 56 (r : Int) ∧ J 56 (r : Int) < 2521 ∧ ∀ j, j < 3 → A r j = sg1 v (toF (J 56 (r : Int))) j
section WUS
variable {d : Nat} {z : cm_Z} {I : cm_I} {D : Int} {sh mb : Nat} {A : cMat}
theorem t_use (hz : wz z) (hS : shOk D sh I) (y0 : z.1 53 0 = sh) (y1 : z.1 53 1 = mb) (pm : isMb mb) (oc : okR (I (mb + 2))) {g : Int} (g0 : 0 ≤ g) (g1 : g < 48) (hA : wmat D (I (mb + 2)) g = A) (hd : mDet A ≠ 0) (hO : mvO I) : mU (d + 1) m_Mover_use [vR 4 53, vI g] z I fun I1 => fr [53, 54, 55, 56, 60] I I1 ∧ (∀ j, j ≠ 3 → j ≠ 10 → I1 53 j = I 53 j) ∧ mvR D A I1 := by
  have hD := shOk_D hS
  have hs := sh_lt hS
  have hmb := isMb_ge pm
  obtain ⟨o4, o8, o9, o60⟩ := hO
  -- the rows so far
  have done : ∀ (J : cm_I), fr [53, 54, 55, 56] I J → (∀ j, j ≠ 3 → J 53 j = I 53 j) → okR (J 54) → (∀ i j : Nat, i < 3 → j < 3 → toF (J 54 (3 * (i : Int) + j)) = A i j) → (J 53 3 = 0 ∨ (J 53 3 = 1 ∧ ∀ r, r < 3 → ro1 A J r)) → ∀ J1, J1 = iu J 60 0 1 → ∀ J2, J2 = iu J1 53 10 0 → fr [53, 54, 55, 56, 60] I J2 ∧ (∀ j, j ≠ 3 → j ≠ 10 → J2 53 j = I 53 j) ∧ mvR D A J2 := by
    intro J hf h53 oJ hj hst J1 e1 J2 e2
    obtain ⟨f1, q1⟩ := fr_eq_iu e1
    obtain ⟨f2, q2⟩ := fr_eq_iu e2
    have f12 : fr [53, 60] J J2 := fr_trans (fr_mono f1 (by simp)) (fr_mono f2 (by simp))
    have c53 : J2 53 = fun j => if j = 10 then 0 else J 53 j := by rw [q2, f1 53 (by simp)]
    have c54 : J2 54 = J 54 := f12 54 (by simp)
    have c3 : J2 53 3 = J 53 3 := by rw [c53]; simp
    refine ⟨fr_trans (fr_mono hf (by simp)) (fr_mono f12 (by simp)), fun j j3 j10 => by rw [c53]; simp [j10]; exact h53 j j3, ⟨0, ?_, ?_, ?_, ?_, ?_, fun e => ?_, by rw [c53]; simp, Int.le_refl 0, by decide, fun k hk => ?_⟩, by rw [c3]; omega, fun n3 => ?_⟩
    · rw [c54]; exact oJ
    · rw [f12 58 (by simp), hf 58 (by simp)]; exact o8
    · rw [f12 59 (by simp), hf 59 (by simp)]; exact o9
    · rw [f2 60 (by simp), q1, hf 60 (by simp)]; exact okR_put o60 _ (by decide) (by decide)
    · rw [c54]; exact hj
    · rw [← hA]
      exact ⟨by rw [wmat_out (by omega)]; rfl, by rw [wmat_out (by omega)]; rfl⟩
    · have k0 : k = 0 := by omega
      subst k0
      show lcP D 0 _ = cOne
      refine lcP_ext hD (Int.le_refl 0) (by decide) (fun a b c h => ?_) fun p p0 p1 => ?_
      · unfold cOne
        rw [if_neg]
        intro w
        exact h ⟨by omega, fun _ => w.2.2⟩
      · have f01 : fF D (0 + 1) = 1 := by rcases hD with e | e <;> rw [e] <;> decide
        have pz : p = 0 := by omega
        subst pz
        have bz := blk_ok hD (p := 0) (Int.le_refl 0) (by rcases hD with e | e <;> rw [e] <;> decide)
        have b0 := (blk_lt hD (p := 0) (t := 0) (Int.le_refl 0) (by omega) (Int.le_refl 0) (by decide)).1
        show toF (J2 60 (mFrom D 0 + 0)) = _
        rw [mFrom_0 hD, f2 60 (by simp), q1]
        unfold cOne
        rw [if_pos (by omega)]
        rfl
    · rcases hst with w | ⟨w1, w2⟩
      · rw [c3] at n3; exact absurd w n3
      · obtain ⟨t0, l0, a0, s0, s0', m0⟩ := w2 0 (by decide)
        obtain ⟨t1, l1, a1, s1, s1', m1⟩ := w2 1 (by decide)
        obtain ⟨t2, l2, a2, s2, s2', m2⟩ := w2 2 (by decide)
        have c55 : J2 55 = J 55 := f12 55 (by simp)
        have c56 : J2 56 = J 56 := f12 56 (by simp)
        refine ⟨t0, t1, t2, by rw [c55]; exact a0, by rw [c55]; exact a1, by rw [c55]; exact a2, fun i i0 i1 => ?_, ?_, fun e => ?_⟩
        · rw [c56]
          have : i = 0 ∨ i = 1 ∨ i = 2 := by omega
          rcases this with w | w | w <;> subst w
          · exact ⟨s0, s0'⟩
          · exact ⟨s1, s1'⟩
          · exact ⟨s2, s2'⟩
        · rw [c56]
          exact st_perm hd l0 l1 l2 m0 m1 m2
        · have : A 2 2 = 1 := by
            rw [← hA, wmat_out (by omega)]
            rfl
          have h := m2 2 (by decide)
          rw [this] at h
          unfold sg1 at h
          by_cases w : 2 = t2
          · exact w.symm
          · rw [if_neg w] at h
            exact absurd h (by decide)
  have L15 : ∀ (c r : Nat) (J : cm_I) (z4 z5 z6 : Option cm_V), r + c = 3 → fr [53, 54, 55, 56] I J → (∀ j, j ≠ 3 → J 53 j = I 53 j) → okR (J 54) → (∀ i j : Nat, i < r → j < 3 → toF (J 54 (3 * (i : Int) + j)) = A i j) → (J 53 3 = 0 ∨ (J 53 3 = 1 ∧ ∀ i, i < r → ro1 A J i)) → cw d cd_Mover_use (qU z fun I1 => fr [53, 54, 55, 56, 60] I I1 ∧ (∀ j, j ≠ 3 → j ≠ 10 → I1 53 j = I 53 j) ∧ mvR D A I1) 15 [some (vR 4 53), some (vI g), some (vI D), some (vI (r : Int)), z4, z5, z6] [] (J, z) := by
    intro c
    induction c with
    | zero =>
      intro r J z4 z5 z6 er hf h53 oJ hj hst
      have r3 : r = 3 := by omega
      subst r3
      exact wr_Mover_use_15 hz ⟨fun _ J1 e1 J2 e2 => qU_mk (done J hf h53 oJ hj hst J1 e1 J2 e2), fun w => by omega⟩
    | succ c ih =>
      intro r J z4 z5 z6 er hf h53 oJ hj hst
      have L26 : ∀ (u k : Nat) (n : Int) (J : cm_I) (z6 : Option cm_V), k + u = 3 → fr [53, 54, 55, 56] I J → (∀ j, j ≠ 3 → J 53 j = I 53 j) → okR (J 54) → (∀ i j : Nat, i < r → j < 3 → toF (J 54 (3 * (i : Int) + j)) = A i j) → (∀ j : Nat, j < k → toF (J 54 (3 * (r : Int) + j)) = A r j) → (J 53 3 = 0 ∨ (J 53 3 = 1 ∧ ∀ i, i < r → ro1 A J i)) → 0 ≤ n → n ≤ k → (n = 0 → ∀ j, j < k → A r j = 0) → (n = 1 → ∃ v : Nat, v < k ∧ J 55 (r : Int) = v ∧ 0 ≤ J 56 (r : Int) ∧ J 56 (r : Int) < 2521 ∧ ∀ j, j < k → A r j = sg1 v (toF (J 56 (r : Int))) j) → cw d cd_Mover_use (qU z fun I1 => fr [53, 54, 55, 56, 60] I I1 ∧ (∀ j, j ≠ 3 → j ≠ 10 → I1 53 j = I 53 j) ∧ mvR D A I1) 26 [some (vR 4 53), some (vI g), some (vI D), some (vI (r : Int)), some (vI n), some (vI (k : Int)), z6] [] (J, z) := by
        intro u
        induction u with
        | zero =>
          intro k n J z6 ek hf h53 oJ hj hrow hst n0 nk w0 w1
          have k3 : k = 3 := by omega
          subst k3
          have fin : ∀ (b : Int) (J1 : cm_I), J1 = iu J 53 3 b → (b = 0 ∨ (b = 1 ∧ J 53 3 = 1 ∧ n = 1)) → cw d cd_Mover_use (qU z fun I1 => fr [53, 54, 55, 56, 60] I I1 ∧ (∀ j, j ≠ 3 → j ≠ 10 → I1 53 j = I 53 j) ∧ mvR D A I1) 15 [some (vR 4 53), some (vI g), some (vI D), some (vI ((r : Int) + 1)), some (vI n), some (vI ((3 : Nat) : Int)), z6] [] (J1, z) := by
            intro b J1 e1 hb
            obtain ⟨f1, q1⟩ := fr_eq_iu e1
            have c54 : J1 54 = J 54 := f1 54 (by simp)
            refine ih (r + 1) J1 _ _ _ (by omega) (fr_trans hf (fr_mono f1 (by simp))) (fun j hj' => by rw [q1]; simp [hj']; exact h53 j hj') (by rw [c54]; exact oJ) (fun i j hi hj' => ?_) ?_
            · rw [c54]
              by_cases w : i = r
              · rw [w]; exact hrow j hj'
              · exact hj i j (by omega) hj'
            · rcases hb with w | ⟨w, w2, w3⟩
              · left; rw [q1, w]; simp
              · right
                refine ⟨by rw [q1, w]; simp, fun i hi => ?_⟩
                unfold ro1
                rw [f1 55 (by simp), f1 56 (by simp)]
                by_cases e : i = r
                · rw [e]; exact w1 w3
                · rcases hst with x | ⟨x1, x2⟩
                  · omega
                  · exact x2 i (by omega)
          refine wr_Mover_use_26 hz ⟨fun _ => ⟨fun e0 J1 e1 => ⟨⟨by omega, by omega⟩, fin 0 J1 e1 (Or.inl rfl)⟩, fun n03 => ⟨fun nn J1 e1 => ⟨⟨by omega, by omega⟩, fin 0 J1 e1 (Or.inl rfl)⟩, fun en J1 e1 => ⟨⟨by omega, by omega⟩, fin 1 J1 e1 (Or.inr ⟨rfl, hst.elim (fun w => absurd w n03) fun w => w.1, en⟩)⟩⟩⟩, fun w => by omega⟩
        | succ u ihu =>
          intro k n J z6 ek hf h53 oJ hj hrow hst n0 nk w0 w1
          have at82 : ∀ x6 : Int, 0 ≤ x6 → x6 < 2521 → toF x6 = A r k → cw d cd_Mover_use (qU z fun I1 => fr [53, 54, 55, 56, 60] I I1 ∧ (∀ j, j ≠ 3 → j ≠ 10 → I1 53 j = I 53 j) ∧ mvR D A I1) 82 [some (vR 4 53), some (vI g), some (vI D), some (vI (r : Int)), some (vI n), some (vI (k : Int)), some (vI x6)] [] (J, z) := by
            intro x6 x0 x1 ex
            refine wr_Mover_use_82 hz ⟨⟨by omega, by omega⟩, ⟨by omega, by omega⟩, ⟨by omega, by omega⟩, fun J4 e4 => ?_⟩
            obtain ⟨f4, q4⟩ := fr_eq_iu e4
            have o4' : okR (J4 54) := by rw [q4]; exact okR_put oJ _ x0 x1
            have hj4 : ∀ i j : Nat, i < r → j < 3 → toF (J4 54 (3 * (i : Int) + j)) = A i j := fun i j hi hj' => by
              rw [q4]
              show toF (if 3 * (i : Int) + j = 3 * (r : Int) + k then _ else _) = _
              rw [if_neg (by omega)]; exact hj i j hi hj'
            have hr4 : ∀ j : Nat, j < k + 1 → toF (J4 54 (3 * (r : Int) + j)) = A r j := fun j hj' => by
              rw [q4]
              show toF (if 3 * (r : Int) + j = 3 * (r : Int) + k then _ else _) = _
              by_cases w : j = k
              · rw [w, if_pos rfl]; exact ex
              · rw [if_neg (by omega)]; exact hrow j (by omega)
            have xz := toF_eq_zero x0 x1
            refine ⟨fun ez => ⟨⟨by omega, by omega⟩, ?_⟩, fun nz => ⟨⟨by omega, by omega⟩, ⟨by omega, by omega⟩, fun J8 e8 J9 e9 => ⟨⟨by omega, by omega⟩, ?_⟩⟩⟩
            · have Az : A r k = 0 := by rw [← ex]; exact xz.mpr ez
              refine ihu (k + 1) n J4 _ (by omega) (fr_trans hf (fr_mono f4 (by simp))) (by rw [f4 53 (by simp)]; exact h53) o4' hj4 hr4 ?_ n0 (by omega) (fun e j hj' => ?_) fun e => ?_
              · unfold ro1
                rw [f4 53 (by simp), f4 55 (by simp), f4 56 (by simp)]
                exact hst
              · by_cases w : j = k
                · rw [w]; exact Az
                · exact w0 e j (by omega)
              · obtain ⟨v, v1, v2, v3, v4, v5⟩ := w1 e
                rw [f4 55 (by simp), f4 56 (by simp)]
                refine ⟨v, by omega, v2, v3, v4, fun j hj' => ?_⟩
                by_cases w : j = k
                · rw [w, Az]; unfold sg1; rw [if_neg (by omega)]
                · exact v5 j (by omega)
            · obtain ⟨f8, q8⟩ := fr_eq_iu e8
              obtain ⟨f9, q9⟩ := fr_eq_iu e9
              have c54 : J9 54 = J4 54 := by rw [f9 54 (by simp), f8 54 (by simp)]
              have c53 : J9 53 = J 53 := by rw [f9 53 (by simp), f8 53 (by simp), f4 53 (by simp)]
              have c55 : J9 55 = fun j => if j = (r : Int) then (k : Int) else J 55 j := by rw [f9 55 (by simp), q8, f4 55 (by simp)]
              have c56 : J9 56 = fun j => if j = (r : Int) then x6 else J 56 j := by rw [q9, f8 56 (by simp), f4 56 (by simp)]
              refine ihu (k + 1) (n + 1) J9 _ (by omega) (fr_trans hf (fr_trans (fr_mono f4 (by simp)) (fr_trans (fr_mono f8 (by simp)) (fr_mono f9 (by simp))))) (by rw [c53]; exact h53) (by rw [c54]; exact o4') (by rw [c54]; exact hj4) (by rw [c54]; exact hr4) ?_ (by omega) (by omega) (fun e => by omega) fun e => ?_
              · rw [c53]
                rcases hst with x | ⟨x1', x2'⟩
                · exact Or.inl x
                · refine Or.inr ⟨x1', fun i hi => ?_⟩
                  unfold ro1
                  rw [c55, c56]
                  show ∃ v : Nat, v < 3 ∧ (if (i : Int) = r then (k : Int) else J 55 i) = v ∧ 0 ≤ (if (i : Int) = r then x6 else J 56 i) ∧ (if (i : Int) = r then x6 else J 56 i) < 2521 ∧ ∀ j, j < 3 → A i j = sg1 v (toF (if (i : Int) = r then x6 else J 56 i)) j
                  rw [if_neg (by omega), if_neg (by omega)]
                  exact x2' i hi
              · rw [c55, c56]
                show ∃ v : Nat, v < k + 1 ∧ (if (r : Int) = r then (k : Int) else J 55 r) = v ∧ 0 ≤ (if (r : Int) = r then x6 else J 56 r) ∧ (if (r : Int) = r then x6 else J 56 r) < 2521 ∧ ∀ j, j < k + 1 → A r j = sg1 v (toF (if (r : Int) = r then x6 else J 56 r)) j
                rw [if_pos rfl, if_pos rfl]
                refine ⟨k, by omega, rfl, x0, x1, fun j hj' => ?_⟩
                unfold sg1
                by_cases w : j = k
                · rw [if_pos w, w]; exact ex.symm
                · rw [if_neg w]; exact w0 (by omega) j (by omega)
          -- the cell
          have cellOut : ¬ ((r : Int) < D ∧ (k : Int) < D) → ∀ s0 : Int, s0 = (if r = k then 1 else 0) → toF s0 = A r k := by
            intro ho s0 es
            rw [← hA, wmat_out ho, es]
            by_cases w : r = k
            · rw [if_pos w, if_pos ⟨w, by omega⟩]; rfl
            · rw [if_neg w, if_neg (by omega)]; rfl
          have at61 : (r : Int) < D → (k : Int) < D → ∀ z6 : Option cm_V, cw d cd_Mover_use (qU z fun I1 => fr [53, 54, 55, 56, 60] I I1 ∧ (∀ j, j ≠ 3 → j ≠ 10 → I1 53 j = I 53 j) ∧ mvR D A I1) 61 [some (vR 4 53), some (vI g), some (vI D), some (vI (r : Int)), some (vI n), some (vI (k : Int)), z6] [] (J, z) := by
            intro hr hk z6
            have dr : 0 ≤ D * (r : Int) ∧ D * (r : Int) + D ≤ 9 := by rcases hD with w | w <;> rw [w] at hr ⊢ <;> omega
            refine wr_Mover_use_61 hz y1 pm ⟨⟨by omega, by omega⟩, ⟨by omega, by omega⟩, ⟨by omega, by omega⟩, ⟨by omega, by omega⟩, ⟨by omega, by omega⟩, ?_⟩
            rw [hf (mb + 2) (by clear w0 w1 hst; simp; omega)]
            have o := oc (9 * g + D * (r : Int) + k)
            refine at82 _ o.1 o.2 ?_
            rw [← hA, wmat_in ⟨hr, hk⟩]
          have at43 : ∀ (s0 : Int) (z6 : Option cm_V), s0 = (if r = k then 1 else 0) → cw d cd_Mover_use (qU z fun I1 => fr [53, 54, 55, 56, 60] I I1 ∧ (∀ j, j ≠ 3 → j ≠ 10 → I1 53 j = I 53 j) ∧ mvR D A I1) 43 [some (vR 4 53), some (vI g), some (vI D), some (vI (r : Int)), some (vI n), some (vI (k : Int)), z6] [vI s0] (J, z) := by
            intro s0 z6 es
            have sb : 0 ≤ s0 ∧ s0 < 2521 := by rw [es]; split <;> omega
            exact wr_Mover_use_43 hz ⟨fun e3 => at61 (by clear w0 w1 hst; omega) (by clear w0 w1 hst; omega) _, fun n3 => ⟨fun r2 => at82 s0 sb.1 sb.2 (cellOut (by clear w0 w1 hst; omega) s0 es), fun r2 => ⟨fun k2 => at82 s0 sb.1 sb.2 (cellOut (by clear w0 w1 hst; omega) s0 es), fun k2 => at61 (by clear w0 w1 hst; omega) (by clear w0 w1 hst; omega) _⟩⟩⟩
          exact wr_Mover_use_26 hz ⟨fun w => by omega, fun _ => ⟨fun ne => at43 0 _ (by rw [if_neg (by omega)]), fun e => at43 1 _ (by rw [if_pos (by omega)])⟩⟩
      refine wr_Mover_use_15 hz ⟨fun w => by omega, fun _ => ?_⟩
      exact L26 3 0 0 J _ (by omega) hf h53 oJ hj (fun j h => absurd h (Nat.not_lt_zero j)) hst (Int.le_refl 0) (Int.le_refl 0) (fun _ j h => absurd h (Nat.not_lt_zero j)) fun e => by omega
  refine wr_Mover_use hz y0 (shOk_sh hS) fun J1 e1 => ?_
  obtain ⟨f1, q1⟩ := fr_eq_iu e1
  rw [hS.2.1]
  exact L15 3 0 J1 _ _ _ (by omega) (fr_mono f1 (by simp)) (fun j hj => by rw [q1]; simp [hj]) (by rw [f1 54 (by simp)]; exact o4) (fun i j h => absurd h (Nat.not_lt_zero i)) (Or.inr ⟨by rw [q1]; simp, fun i h => absurd h (Nat.not_lt_zero i)⟩)
end WUS
