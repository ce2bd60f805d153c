/-! THE REFERENCE finds the secondary ones: one degree -/
/-- what lies about while they are found -/
def slFr (I I1 : cm_I) : Prop := fr [209, 214, 216, 224, 226, 227, 228, 229, 230, 231, 232, 239, 240, 241, 242, 243, 244] I I1 ∧ (∀ s, s ≠ 37 → s ≠ 50 → s ≠ 53 → I1 209 s = I 209 s) ∧ (okR (I1 214) ∧ okR (I1 216)) ∧ okR (I1 226)
/-- the state between degrees -/
def slSt (D : Int) (T : Nat → cMat) (nt : Nat) (l : List (Int × Nat)) (I0 I : cm_I) : Prop := slFr I0 I ∧ bsOk T nt I ∧ 16 ≤ I 209 37 ∧ seSt l I ∧ okR (I 224)
section SL
variable {d : Nat} {z : cm_Z} {D : Int} {T : Nat → cMat} {nt n : Nat} {L : Nat → cMat} {v : Nat → Int → Int} {dg : Nat → Int} {I : cm_I}
theorem slSt_D {l : List (Int × Nat)} {I0 I : cm_I} (h : slSt D T nt l I0 I) : I 209 1 = I0 209 1 := h.1.2.1 1 (by decide) (by decide) (by decide)
theorem slSt_mon {l : List (Int × Nat)} {I0 I : cm_I} (h : slSt D T nt l I0 I) (hm : mMon I0) : mMon I := by
  unfold mMon at hm ⊢
  rw [slSt_D h, h.1.1 210 (by decide), h.1.1 211 (by decide), h.1.1 212 (by decide)]
  exact hm
theorem slSt_pr {l : List (Int × Nat)} {I0 I : cm_I} (h : slSt D T nt l I0 I) (hP : prSt D v dg I0) : prSt D v dg I := by
  unfold prSt at hP ⊢
  rw [h.1.1 234 (by decide), h.1.1 236 (by decide)]
  exact hP
/-- the matrix spans what the list spans, by independent rows -/
def slMx (D : Int) (T : Nat → cMat) (nt : Nat) (v : Nat → Int → Int) (dg : Nat → Int) (t r : Nat) (l : List (Int × Nat)) (I : cm_I) : Prop := (∀ w, inS (mMany D t).toNat r (mx (I 226)) w ↔ sx_p D T nt v dg l t (toP D (bRow D t w))) ∧ rInd (mMany D t).toNat r (mx (I 226)) ∧ r ≤ (mMany D t).toNat
theorem slMx_le {t r : Nat} {M : Nat → Nat → cF} (h : rInd t r M) : r ≤ t := indep_le h
/-- the row of the base is copied -/
theorem s_ls62 (hz : mz z) {Q : cm_Q} {t r rank : Nat} (t1 : t ≤ 15) (hD : I 209 1 = 2 ∨ I 209 1 = 3) (hr : r < bsRows (I 209 1) T nt t) (rk : rank ≤ 136) {I0 : cm_I} (hB : bsOk T nt I0) (b16 : 16 ≤ I0 209 37) (e1 : I0 209 1 = I 209 1) {zz : cm_I → Prop} (K : ∀ J : cm_I, fr [226] I0 J → J 226 = rowF (I0 226) rank (mMany (I 209 1) t) (fun c => fi ((bsX (I 209 1) T nt t).2 r c.toNat)) → cw d cd_Model_laysSecondary Q 62 [some (vR 12 209), some (vI (t : Int)), some (vI (mMany (I 209 1) t)), some (vI (rank : Int)), some (vI (r : Int)), some (vI (mMany (I 209 1) t))] [] (J, z)) : cw d cd_Model_laysSecondary Q 62 [some (vR 12 209), some (vI (t : Int)), some (vI (mMany (I 209 1) t)), some (vI (rank : Int)), some (vI (r : Int)), some (vI 0)] [] (I0, z) := by
  have fb := from_bds hD (t := (t : Int)) (by omega) (by omega)
  have hD0 : mD I0 := by unfold mD; rw [e1]; exact hD
  obtain ⟨g1, g2, g3, g4, g5, g6⟩ := bs_get hD0 hB (t := (t : Int)) (by omega) (by omega)
  rw [e1] at g2 g3 g5 g6
  have mr := mul_bd (x := mMany (I 209 1) t) (y := (r : Int)) (X := 136) (Y := 136) (by omega) (by omega) (by omega) (by omega)
  have mr2 : mMany (I 209 1) t * (r : Int) + mMany (I 209 1) t ≤ mMany (I 209 1) t * (bsRows (I 209 1) T nt t : Int) := by
    have := Int.mul_le_mul_of_nonneg_left (show (r : Int) + 1 ≤ (bsRows (I 209 1) T nt t : Int) by omega) (show 0 ≤ mMany (I 209 1) t by omega)
    rw [Int.mul_add, Int.mul_one] at this
    exact this
  have key : ∀ (k : Nat) (c : Int) (J : cm_I), 0 ≤ c → c + k = mMany (I 209 1) t → fr [226] I0 J → J 226 = rowF (I0 226) rank c (fun c => fi ((bsX (I 209 1) T nt t).2 r c.toNat)) → cw d cd_Model_laysSecondary Q 62 [some (vR 12 209), some (vI (t : Int)), some (vI (mMany (I 209 1) t)), some (vI (rank : Int)), some (vI (r : Int)), some (vI c)] [] (J, z) := by
    intro k
    induction k with
    | zero =>
      intro c J c0 ec f g
      have : c = mMany (I 209 1) t := by omega
      subst this
      exact K J f g
    | succ k ih =>
      intro c J c0 ec f g
      refine mr_laysSecondary_62 hz ⟨fun q => by omega, fun _ => ?_⟩
      rw [f 229 (by decide), f 230 (by decide)]
      refine ⟨⟨by omega, by omega⟩, ⟨by omega, by omega⟩, ⟨by omega, by omega⟩, ⟨by omega, by omega⟩, ⟨by omega, by omega⟩, ⟨by omega, by omega⟩, ⟨by omega, by omega⟩, ⟨by omega, by omega⟩, fun J2 e2 => ⟨⟨by omega, by omega⟩, ?_⟩⟩
      obtain ⟨f2, h2⟩ := fr_eq_iu e2
      refine ih (c + 1) J2 (by omega) (by omega) (fr_trans f f2) ?_
      rw [h2, g]
      have gv := g6 r c.toNat hr (by omega)
      rw [show ((c.toNat : Nat) : Int) = c by omega] at gv
      rw [gv]
      exact rowF_st _ _ c0 _
  exact key (mMany (I 209 1) t).toNat 0 I0 (by omega) (by omega) (fr_refl _ _) (rowF_0 _ _ _).symm
end SL
