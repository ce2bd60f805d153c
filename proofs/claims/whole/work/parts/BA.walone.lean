/-! THE CLASS: what is left alone -/
def mvl : List Nat := [10, 53, 54, 55, 56, 57, 58, 59, 60, 61]
/-- shape, members and mover stand -/
def mvE (D : Int) (sh mb : Nat) (T : Nat → cMat) (nt n : Nat) (L : Nat → cMat) (z : cm_Z) (J : cm_I) : Prop := wz z ∧ shOk D sh J ∧ z.1 1 6 = sh ∧ z.1 1 7 = mb ∧ z.1 53 0 = sh ∧ z.1 53 1 = mb ∧ isMb mb ∧ mbOk D T nt n L mb J ∧ (∀ t, t < nt → mDet (T t) ≠ 0) ∧ (∀ t, t < nt → isM (T t)) ∧ mvO J
theorem mbOk_fr {D : Int} {T : Nat → cMat} {nt n : Nat} {L : Nat → cMat} {mb : Nat} {I I1 : cm_I} (h : mbOk D T nt n L mb I) (e : ∀ c, mb ≤ c → c ≤ mb + 8 → I1 c = I c) : mbOk D T nt n L mb I1 := by
  obtain ⟨a1, a2, a3, a4, a5, a6, a7, a8, b1, b2, b3, b4, b5, b6⟩ := h
  refine ⟨a1, by rw [e mb (by omega) (by omega)]; exact a2, by rw [e mb (by omega) (by omega)]; exact a3, a4, by rw [e (mb + 2) (by omega) (by omega)]; exact a5, by rw [e (mb + 2) (by omega) (by omega)]; exact a6, a7, mbS_fr a8 (e _ (by omega) (by omega)) (e _ (by omega) (by omega)) (e _ (by omega) (by omega)), b1, b2, by rw [e mb (by omega) (by omega)]; exact b3, by rw [e (mb + 4) (by omega) (by omega)]; exact b4, by rw [e (mb + 5) (by omega) (by omega)]; exact b5, by rw [e (mb + 6) (by omega) (by omega)]; exact b6⟩
theorem mvE_fr {D : Int} {sh mb : Nat} {T : Nat → cMat} {nt n : Nat} {L : Nat → cMat} {z z1 : cm_Z} {I I1 : cm_I} (h : mvE D sh mb T nt n L z I) (hz : zf [61] z z1) (hf : fr mvl I I1) (hO : mvO I1) : mvE D sh mb T nt n L z1 I1 := by
  obtain ⟨a1, a2, a3, a4, a5, a6, a7, a8, a9, a10, a11⟩ := h
  have hs := sh_lt a2
  have hm := isMb_ge a7
  refine ⟨wz_zf a1 hz fun a m => by rw [List.mem_singleton] at m; rw [m]; decide, shOk_fr a2 (hf _ (by simp [mvl]; omega)) (hf _ (by simp [mvl]; omega)) (hf _ (by simp [mvl]; omega)) (hf _ (by simp [mvl]; omega)) (hf _ (by simp [mvl]; omega)), by rw [hz.1 1 (by simp)]; exact a3, by rw [hz.1 1 (by simp)]; exact a4, by rw [hz.1 53 (by simp)]; exact a5, by rw [hz.1 53 (by simp)]; exact a6, a7, mbOk_fr a8 fun c c0 c1 => hf c (by simp [mvl]; omega), a9, a10, hO⟩
theorem isD_wmat {D : Int} (f : Int → Int) (g : Int) : isD D (wmat D f g) := fun e => ⟨by rw [wmat_out (by omega)]; rfl, by rw [wmat_out (by omega)]; rfl⟩
section WAL
variable {d : Nat} {z : cm_Z} {I : cm_I} {D : Int} {sh mb : Nat} {T : Nat → cMat} {nt n : Nat} {L : Nat → cMat}
theorem mvE_D (h : mvE D sh mb T nt n L z I) : ∀ k, k < n → isD D (L k) := fun k hk => by
  have := h.2.2.2.2.2.2.2.1.2.2.2.2.1 k hk
  rw [← this]
  exact isD_wmat _ _
theorem fr_l8 (h : isSh sh) : (10 : Nat) ∉ mvN8 sh := by rcases h with e | e <;> subst e <;> decide
/-- a polynomial is moved and added -/
theorem t_moveIt (hE : mvE D sh mb T nt n L z I) {f : Nat} (f0 : 0 < f) (nf : f ∉ mvl) (lf : mFrom D 16 ≤ z.2.1 f) {v : Int → Int} (hv : wRow D (I f) v) (ov : vOk D v) (ob : ∀ k, 0 ≤ k → k < mFrom D 16 → 0 ≤ I 10 k ∧ I 10 k ≤ 1000000000) {g : Nat} (hg : g < n) : mU (d + 7) m_Mover_use [vR 4 53, vI (g : Int)] z I fun I2 => I2 10 = I 10 ∧ zcU (d + 7) m_Mover_addAllMoved [vR 4 53, vR 20 f, vR 20 10] z I2 fun I3 z3 => zf [61] z z3 ∧ fr mvl I I3 ∧ mvE D sh mb T nt n L z3 I3 ∧ (∀ k, 0 ≤ k → k < mFrom D 16 → I3 10 k = I 10 k + mv D (L g) v k) ∧ ∀ k, ¬ (0 ≤ k ∧ k < mFrom D 16) → I3 10 k = I 10 k := by
  obtain ⟨a1, a2, a3, a4, a5, a6, a7, a8, a9, a10, a11⟩ := id hE
  obtain ⟨hD, b2, b3, b4, b5, b6, G, b8, Gr, n48, b9⟩ := id a8
  obtain ⟨s1, s2, s3⟩ := m16_bd hD
  have hs := sh_lt a2
  have hm := isMb_ge a7
  refine mU_mono (t_use (d := d + 6) a1 a2 a5 a6 a7 b6 (by omega) (by omega) (b5 g hg) (mDet_mem G a9 hg) a11) fun I2 ⟨p1, p2, p3⟩ => ⟨p1 10 (by simp), ?_⟩
  have s2' : shOk D sh I2 := shOk_fr a2 (p1 _ (by simp; omega)) (p1 _ (by simp; omega)) (p1 _ (by simp; omega)) (p1 _ (by simp; omega)) (p1 _ (by simp; omega))
  have e10 : I2 10 = I 10 := p1 10 (by simp)
  have ef : I2 f = I f := p1 f (nin_sub nf (by simp [mvl]))
  have l10 : z.2.1 10 = 816 := wz_L a1 10 816 rfl (by decide)
  refine zcU_mono (t_addAll (d := d) a1 s2' a5 p3 f0 (o := 10) (by decide) (nin_sub nf (by simp [mvl])) (fr_l8 (shOk_sh a2)) (by decide) lf (by rw [l10]; omega) (by rw [ef]; exact hv) ov (by rw [e10]; exact ob)) fun I3 z3 ⟨q1, q2, q3, q4, q5, q6⟩ => ?_
  have hf : fr mvl I I3 := fr_trans (fr_mono p1 (by simp [mvl])) (fr_mono q2 (by simp [mvl]))
  exact ⟨q1, hf, mvE_fr hE q1 hf (mvR_O q4), by rw [← e10]; exact q5, by rw [← e10]; exact q6⟩
theorem t_isMovedTo (hE : mvE D sh mb T nt n L z I) {f : Nat} (f0 : 0 < f) (nf : f ∉ mvl) (lf : mFrom D 16 ≤ z.2.1 f) {v : Int → Int} (hv : wRow D (I f) v) (ov : vOk D v) {g : Nat} (hg : g < n) : zcI (d + 8) m_Works_isMovedToItself [vR 11 1, vR 20 f, vI (g : Int)] z I fun r I1 z1 => zf [61] z z1 ∧ fr mvl I I1 ∧ mvE D sh mb T nt n L z1 I1 ∧ (r = 0 ∨ r = 1) ∧ (r = 1 ↔ mv D (L g) v = v) := by
  have a1 := hE.1
  have a2 := hE.2.1
  have hD := shOk_D a2
  obtain ⟨s1, s2, s3⟩ := m16_bd hD
  have l10 : z.2.1 10 = 816 := wz_L a1 10 816 rfl (by decide)
  refine wr_Works_isMovedToItself a1 (mU_mono (t_fill (d := d + 6) a1 (by decide) l10 (by decide) (by decide)) fun I1 e1 => ?_)
  obtain ⟨f1, g1⟩ := fr_eq_iw e1
  have hf1 : fr mvl I I1 := fr_mono f1 (by simp [mvl])
  have z0 : ∀ k, 0 ≤ k → k < mFrom D 16 → I1 10 k = 0 := fun k k0 k1 => by
    rw [g1]
    unfold fillF
    rw [if_pos (by omega)]
  have O1 : mvO I1 := by
    have o := hE.2.2.2.2.2.2.2.2.2.2
    unfold mvO
    rw [f1 54 (by simp), f1 58 (by simp), f1 59 (by simp), f1 60 (by simp)]
    exact o
  have hE1 := mvE_fr hE (zf_refl _ _) hf1 O1
  refine mU_mono (t_moveIt (d := d) hE1 f0 nf lf (by rw [hf1 f nf]; exact hv) ov (fun k k0 k1 => by rw [z0 k k0 k1]; omega) hg) fun I2 ⟨_, hI2⟩ => zcU_mono hI2 fun I3 Z4 ⟨q1, q2, q3, q4, q5⟩ => ?_
  have hf3 : fr mvl I I3 := fr_trans hf1 q2
  have l3 : ∀ a, Z4.2.1 a = z.2.1 a := fun a => by rw [q1.2]
  have L30 : ∀ (c : Nat) (k : Int) (z2 : Option cm_V), 0 ≤ k → k + c = mFrom D 16 → (∀ j, 0 ≤ j → j < k → mv D (L g) v j = v j) → cw (d + 7) cd_Works_isMovedToItself (kI fun r I1 z1 => zf [61] z z1 ∧ fr mvl I I1 ∧ mvE D sh mb T nt n L z1 I1 ∧ (r = 0 ∨ r = 1) ∧ (r = 1 ↔ mv D (L g) v = v)) 30 [some (vR 11 1), some (vR 20 f), z2, some (vI k)] [] (I3, Z4) := by
    intro c
    induction c with
    | zero =>
      intro k z2 k0 ek al
      refine wr_Works_isMovedToItself_30 q3.1 q3.2.2.1 (shOk_sh a2) f0 ?_
      rw [q3.2.1.2.2.1]
      refine ⟨fun _ => kI_mk ⟨q1, hf3, q3, Or.inr rfl, ⟨fun _ => ?_, fun _ => rfl⟩⟩, fun w => by omega⟩
      funext j
      by_cases q : 0 ≤ j ∧ j < mFrom D 16
      · exact al j q.1 (by omega)
      · rw [vOk_16 hD (vOk_mv hD (L g) v) q, vOk_16 hD ov q]
    | succ c ih =>
      intro k z2 k0 ek al
      refine wr_Works_isMovedToItself_30 q3.1 q3.2.2.1 (shOk_sh a2) f0 ?_
      rw [q3.2.1.2.2.1, l3, q4 k k0 (by omega), z0 k k0 (by omega), hf3 f nf, hv k k0 (by omega), Int.zero_add]
      refine ⟨fun w => by omega, fun _ => ⟨⟨by omega, by omega⟩, ⟨by omega, by omega⟩, fun e => ⟨⟨by omega, by omega⟩, ih (k + 1) _ (by omega) (by omega) fun j j0 j1 => ?_⟩, fun ne => kI_mk ⟨q1, hf3, q3, Or.inl rfl, ⟨fun w => absurd w (by decide), fun w => absurd (congrFun w k) ne⟩⟩⟩⟩
      by_cases w : j = k
      · rw [w]; exact e
      · exact al j j0 (by omega)
  exact L30 (mFrom D 16).toNat 0 _ (Int.le_refl 0) (by omega) fun j j0 j1 => by omega
theorem t_isLeftAlone (hE : mvE D sh mb T nt n L z I) {f : Nat} (f0 : 0 < f) (nf : f ∉ mvl) (lf : mFrom D 16 ≤ z.2.1 f) {v : Int → Int} (hv : wRow D (I f) v) (ov : vOk D v) : zcI (d + 9) m_Works_isLeftAlone [vR 11 1, vR 20 f] z I fun r I1 z1 => zf [61] z z1 ∧ fr mvl I I1 ∧ mvE D sh mb T nt n L z1 I1 ∧ (r = 0 ∨ r = 1) ∧ (r = 1 ↔ isInv D T nt v) := by
  have L2 : ∀ (c t : Nat) (J : cm_I) (zz : cm_Z), t + c = nt → zf [61] z zz → fr mvl I J → mvE D sh mb T nt n L zz J → (∀ t', t' < t → mv D (T t') v = v) → cw (d + 8) cd_Works_isLeftAlone (kI fun r I1 z1 => zf [61] z z1 ∧ fr mvl I I1 ∧ mvE D sh mb T nt n L z1 I1 ∧ (r = 0 ∨ r = 1) ∧ (r = 1 ↔ isInv D T nt v)) 2 [some (vR 11 1), some (vR 20 f), some (vI (t : Int))] [] (J, zz) := by
    intro c
    induction c with
    | zero =>
      intro t J zz et hzf hf hJ al
      refine wr_Works_isLeftAlone_2 hJ.1 hJ.2.2.2.1 hJ.2.2.2.2.2.2.1 ?_
      rw [hJ.2.2.2.2.2.2.2.1.2.2.1]
      exact ⟨fun _ => kI_mk ⟨hzf, hf, hJ, Or.inr rfl, ⟨fun _ t' ht' => al t' (by omega), fun _ => rfl⟩⟩, fun w => by omega⟩
    | succ c ih =>
      intro t J zz et hzf hf hJ al
      have m := hJ.2.2.2.2.2.2.2.1
      have nt4 := m.2.2.2.1
      have G := m.2.2.2.2.2.2.1
      obtain ⟨k, k1, k2, k3⟩ := m.2.2.2.2.2.2.2.1.1 0 t (by have := G.1; omega) (by have := G.1; omega) (by omega)
      rw [G.2.2.1, id_mm (hJ.2.2.2.2.2.2.2.2.2.1 t (by omega))] at k3
      rw [show 4 * ((0 : Nat) : Int) + (t : Int) = t by omega] at k2
      refine wr_Works_isLeftAlone_2 hJ.1 hJ.2.2.2.1 hJ.2.2.2.2.2.2.1 ?_
      rw [m.2.2.1, k2]
      refine ⟨fun w => by omega, fun _ => ⟨⟨by omega, by omega⟩, zcI_mono (t_isMovedTo (d := d) hJ f0 nf (by rw [hzf.2]; exact lf) (by rw [hf f nf]; exact hv) ov k1) fun v4 I2 Z3 ⟨q1, q2, q3, q4, q5⟩ => ?_⟩⟩
      rw [k3] at q5
      refine ⟨fun n0 => ⟨⟨by omega, by omega⟩, ih (t + 1) I2 Z3 (by omega) (zf_trans hzf q1) (fr_trans hf q2) q3 fun t' ht' => ?_⟩, fun e0 => kI_mk ⟨zf_trans hzf q1, fr_trans hf q2, q3, Or.inl rfl, ⟨fun w => absurd w (by decide), fun w => ?_⟩⟩⟩
      · by_cases w : t' = t
        · rw [w]; exact q5.mp (by omega)
        · exact al t' (by omega)
      · have := q5.mpr (w t (by omega))
        omega
  refine wr_Works_isLeftAlone hE.1 ?_
  exact L2 nt 0 I z (by omega) (zf_refl _ _) (fr_refl _ _) hE fun t' h => absurd h (Nat.not_lt_zero t')
theorem t_unlikeMoved (hE : mvE D sh mb T nt n L z I) {f : Nat} (f0 : 0 < f) (nf : f ∉ mvl) (lf : mFrom D 16 ≤ z.2.1 f) {v : Int → Int} (hv : wRow D (I f) v) (ov : vOk D v) : zcI (d + 9) m_Works_unlikeMoved [vR 11 1, vR 20 f] z I fun r I1 z1 => zf [61] z z1 ∧ fr mvl I I1 ∧ mvE D sh mb T nt n L z1 I1 ∧ r = (uq (fun g => mv D (L g) v) n : Int) := by
  have L4 : ∀ (c g : Nat) (J : cm_I) (zz : cm_Z), g + c = n → zf [61] z zz → fr mvl I J → mvE D sh mb T nt n L zz J → cw (d + 8) cd_Works_unlikeMoved (kI fun r I1 z1 => zf [61] z z1 ∧ fr mvl I I1 ∧ mvE D sh mb T nt n L z1 I1 ∧ r = (uq (fun g => mv D (L g) v) n : Int)) 4 [some (vR 11 1), some (vR 20 f), some (vI (aln D L v g)), some (vI (g : Int))] [] (J, zz) := by
    intro c
    induction c with
    | zero =>
      intro g J zz eg hzf hf hJ
      have m := hJ.2.2.2.2.2.2.2.1
      have G := m.2.2.2.2.2.2.1
      have P := m.2.2.2.2.2.2.2.2
      have ob := orbit m.1 G P.1 (mvE_D hJ) ov
      have gn : g = n := by omega
      subst gn
      have ab := aln_bd (D := D) (L := L) v g
      have n1 := G.1
      refine wr_Works_unlikeMoved_4 hJ.1 hJ.2.2.2.1 hJ.2.2.2.2.2.2.1 ?_
      rw [P.2.2.1]
      have apos : 0 < aln D L v g := by
        apply Classical.byContradiction
        intro w
        have : aln D L v g = 0 := by omega
        rw [this, Int.mul_zero] at ob
        omega
      refine ⟨fun _ => ⟨fun _ => ⟨apos, kI_mk ⟨hzf, hf, hJ, ?_⟩⟩, fun e => by omega⟩, fun w => by omega⟩
      rw [Int.tdiv_eq_ediv_of_nonneg (by omega)]
      refine Int.ediv_eq_of_eq_mul_left (by omega) ?_
      exact ob.symm
    | succ c ih =>
      intro g J zz eg hzf hf hJ
      have m := hJ.2.2.2.2.2.2.2.1
      have P := m.2.2.2.2.2.2.2.2
      have ab := aln_bd (D := D) (L := L) v g
      have n48 := P.2.1
      have nx := fun J' zz' h1 h2 h3 => ih (g + 1) J' zz' (by omega) h1 h2 h3
      have es : aln D L v (g + 1) = aln D L v g + @ite Int (mv D (L g) v = v) (Classical.propDecidable _) 1 0 := rfl
      rw [es, show ((g + 1 : Nat) : Int) = (g : Int) + 1 by omega] at nx
      refine wr_Works_unlikeMoved_4 hJ.1 hJ.2.2.2.1 hJ.2.2.2.2.2.2.1 ?_
      rw [P.2.2.1]
      refine ⟨fun w => by omega, fun _ => zcI_mono (t_isMovedTo (d := d) hJ f0 nf (by rw [hzf.2]; exact lf) (by rw [hf f nf]; exact hv) ov (show g < n by omega)) fun v4 I2 Z3 ⟨q1, q2, q3, q4, q5⟩ => ?_⟩
      refine ⟨fun e0 => ⟨⟨by omega, by omega⟩, ?_⟩, fun n0 => ⟨⟨by omega, by omega⟩, ⟨by omega, by omega⟩, ?_⟩⟩
      · have := nx I2 Z3 (zf_trans hzf q1) (fr_trans hf q2) q3
        rw [if_neg (fun w => by have := q5.mpr w; omega), Int.add_zero] at this
        exact this
      · have := nx I2 Z3 (zf_trans hzf q1) (fr_trans hf q2) q3
        rw [if_pos (q5.mp (by omega))] at this
        exact this
  refine wr_Works_unlikeMoved hE.1 ?_
  exact L4 n 0 I z (by omega) (zf_refl _ _) (fr_refl _ _) hE
end WAL
