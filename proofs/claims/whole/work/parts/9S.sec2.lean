/-! THE REFERENCE finds the secondary ones: the rows of a degree -/
section SL
variable {d : Nat} {z : cm_Z} {D : Int} {T : Nat → cMat} {nt n : Nat} {L : Nat → cMat} {v : Nat → Int → Int} {dg : Nat → Int} {I : cm_I}
theorem slSt_fr {l : List (Int × Nat)} {J J1 : cm_I} (h : slSt D T nt l I J) (f : fr [226, 227] J J1) (o : okR (J1 226)) : slSt D T nt l I J1 := by
  obtain ⟨⟨h1, h2, h3, h4⟩, h5, h6, h7, h8⟩ := h
  have e9 : J1 209 = J 209 := f 209 (by decide)
  refine ⟨⟨fr_trans h1 (fr_mono f (by decide)), fun s a b c => by rw [e9]; exact h2 s a b c, by rw [f 214 (by decide), f 216 (by decide)]; exact h3, o⟩, bsOk_fr h5 f (by decide) (by decide) (by decide) (by rw [e9]) (by rw [e9]) o, by rw [e9]; exact h6, ?_, by rw [f 224 (by decide)]; exact h8⟩
  unfold seSt at h7 ⊢
  rw [e9, f 239 (by decide), f 240 (by decide)]
  exact h7
theorem slSt_add {l : List (Int × Nat)} {J J1 J2 J3 : cm_I} (h : slSt D T nt l I J) {t r : Nat} (e1 : J1 = iu J 239 (J 209 50) (t : Int)) (e2 : J2 = iu J1 240 (J1 209 50) (r : Int)) (e3 : J3 = iu J2 209 50 (J2 209 50 + 1)) : slSt D T nt (l ++ [((t : Int), r)]) I J3 ∧ fr [209, 239, 240] J J3 := by
  obtain ⟨⟨h1, h2, h3, h4⟩, h5, h6, h7, h8⟩ := h
  obtain ⟨f1, g1⟩ := fr_eq_iu e1
  obtain ⟨f2, g2⟩ := fr_eq_iu e2
  obtain ⟨f3, g3⟩ := fr_eq_iu e3
  have f : fr [209, 239, 240] J J3 := fr_trans (fr_mono f1 (by decide)) (fr_trans (fr_mono f2 (by decide)) (fr_mono f3 (by decide)))
  have e9 : J2 209 = J 209 := by rw [f2 209 (by decide), f1 209 (by decide)]
  have s9 : ∀ s, s ≠ 50 → J3 209 s = J 209 s := fun s hs => by
    rw [g3]
    show (if s = 50 then _ else _) = _
    rw [if_neg hs, e9]
  have s50 : J3 209 50 = J 209 50 + 1 := by
    rw [g3]
    show (if (50 : Int) = 50 then _ else _) = _
    rw [if_pos rfl, e9]
  refine ⟨⟨⟨fr_trans h1 (fr_mono f (by decide)), fun s a b c => by rw [s9 s b]; exact h2 s a b c, by rw [f 214 (by decide), f 216 (by decide)]; exact h3, by rw [f 226 (by decide)]; exact h4⟩, bsOk_fr h5 f (by decide) (by decide) (by decide) (s9 1 (by decide)) (s9 37 (by decide)) (by rw [f 226 (by decide)]; exact h4), by rw [s9 37 (by decide)]; exact h6, ⟨?_, fun j hj => ?_⟩, by rw [f 224 (by decide)]; exact h8⟩, f⟩
  · rw [s50, h7.1, List.length_append]; rfl
  · have e239 : J3 239 = fun j => if j = (l.length : Int) then (t : Int) else J 239 j := by
      rw [f3 239 (by decide), f2 239 (by decide), g1, h7.1]
    have e240 : J3 240 = fun j => if j = (l.length : Int) then (r : Int) else J 240 j := by
      rw [f3 240 (by decide), g2, f1 240 (by decide), f1 209 (by decide), h7.1]
    rw [e239, e240]
    rw [List.length_append] at hj
    have hj' : j < l.length + 1 := hj
    by_cases e : j = l.length
    · subst e
      show (if (l.length : Int) = _ then _ else _) = _ ∧ (if (l.length : Int) = _ then _ else _) = _
      rw [if_pos rfl, if_pos rfl, sx_last]
      exact ⟨rfl, rfl⟩
    · show (if (j : Int) = _ then _ else _) = _ ∧ (if (j : Int) = _ then _ else _) = _
      rw [if_neg (by omega), if_neg (by omega), sx_ap (by omega)]
      exact h7.2 j (by omega)
theorem s_ls43 (hz : mz z) {Q : cm_Q} (S : sx_S D T nt n L v dg) (eD : I 209 1 = D) {t : Nat} (t1 : t ≤ 15) (H : ∀ (J : cm_I) (x2 x3 x4 : Int) (z5 : Option cm_V), slSt D T nt (seAll D T nt v dg (t + 1)) I J → cw (d + 2) cd_Model_laysSecondary Q 13 [some (vR 12 209), some (vI ((t : Int) + 1)), some (vI x2), some (vI x3), some (vI x4), z5] [] (J, z)) : ∀ (k r rank : Nat) (J : cm_I) (z5 : Option cm_V), r + k = bsRows D T nt t → slSt D T nt (seRow D T nt v dg t r (seAll D T nt v dg t)) I J → slMx D T nt v dg t rank (seRow D T nt v dg t r (seAll D T nt v dg t)) J → cw (d + 2) cd_Model_laysSecondary Q 43 [some (vR 12 209), some (vI (t : Int)), some (vI (mMany D t)), some (vI (rank : Int)), some (vI (r : Int)), z5] [] (J, z) := by
  subst eD
  have hD := S.1
  have fb := from_bds hD (t := (t : Int)) (by omega) (by omega)
  have en : mMany (I 209 1) t = (((mMany (I 209 1) t).toNat : Nat) : Int) := by omega
  have ok1 := seAll_ok (D := I 209 1) (T := T) (nt := nt) (v := v) (dg := dg) (t + 1) (by omega)
  have l216 := sx_216 S (by omega) ok1.1 ok1.2
  have ok0 := (seAll_ok (D := I 209 1) (T := T) (nt := nt) (v := v) (dg := dg) t (by omega)).1
  intro k
  induction k with
  | zero =>
    intro r rank J z5 er hS hM
    have e1 := slSt_D hS
    obtain ⟨g1, -⟩ := bs_get (t := (t : Int)) (by unfold mD; rw [e1]; exact hD) hS.2.1 (by omega) (by have := hS.2.2.1; omega)
    refine mr_laysSecondary_43 hz ⟨⟨by omega, by omega⟩, fun _ => ⟨⟨by omega, by omega⟩, ?_⟩, fun q => ?_⟩
    · rw [show r = bsRows (I 209 1) T nt t by omega] at hS ⊢
      exact H J _ _ _ z5 hS
    · rw [g1, e1] at q; omega
  | succ k ih =>
    intro r rank J z5 er hS hM
    have e1 := slSt_D hS
    obtain ⟨g1, g2, -⟩ := bs_get (t := (t : Int)) (by unfold mD; rw [e1]; exact hD) hS.2.1 (by omega) (by have := hS.2.2.1; omega)
    have rk := hM.2.2
    rw [e1] at g2
    refine mr_laysSecondary_43 hz ⟨⟨by omega, by omega⟩, fun q => by rw [g1, e1] at q; omega, fun _ => ?_⟩
    refine mU_mono (s_clearsRow hz (by omega) (by omega) hS.1.2.2.2) fun J1 h1 => ?_
    obtain ⟨f1, c1, o1⟩ := h1
    have hS1 := slSt_fr hS (fr_mono f1 (by decide)) o1
    refine s_ls62 hz (I := I) (T := T) (nt := nt) t1 hD (by omega) (by omega) hS1.2.1 hS1.2.2.1 (slSt_D hS1) (zz := fun _ => True) fun J2 f2 c2 => ?_
    have o2 : okR (J2 226) := by
      rw [c2]
      intro j
      unfold rowF
      have := fi_bd ((bsX (I 209 1) T nt t).2 r (j - 160 * (rank : Int)).toNat)
      have := o1 j
      split <;> omega
    have hS2 := slSt_fr hS1 (fr_mono f2 (by decide)) o2
    refine mr_laysSecondary_62 hz ⟨fun _ => ⟨⟨by omega, by omega⟩, ?_⟩, fun q => by omega⟩
    have st := s_steps (d := d) (I := J2) hz o2 (m := rank + 1) (cols := (mMany (I 209 1) t).toNat) (by omega) (by omega)
    rw [← en] at st
    refine mI_mono st fun r3 J3 h3 => ?_
    obtain ⟨f3, o3, -, done, p, e3, s3, sp3, -⟩ := h3
    subst e3
    have hS3 := slSt_fr hS2 f3 o3
    have rows : ∀ i, i < rank → ∀ c, c < 160 → mx (J2 226) i c = mx (J 226) i c := by
      intro i hi c hc
      unfold mx
      rw [c2, c1]
      congr 1
      unfold rowF fillF
      rw [if_neg (by omega), if_neg (by omega)]
    have last : ∀ c, c < (mMany (I 209 1) t).toNat → mx (J2 226) rank c = (bsX (I 209 1) T nt t).2 r c := by
      intro c hc
      unfold mx
      rw [c2]
      unfold rowF
      rw [if_pos ⟨by omega, by omega⟩, toF_fi, show (160 * (rank : Int) + (c : Int) - 160 * (rank : Int)).toNat = c by omega]
    have n160 : (mMany (I 209 1) t).toNat ≤ 160 := by omega
    have ind2 : rInd (mMany (I 209 1) t).toNat rank (mx (J2 226)) := fun c hc => hM.2.1 c fun k hk => by
      rw [← hc k hk]
      exact lc_congr (fun _ _ => rfl) fun i hi => (rows i hi k (by omega)).symm
    have sp2 : ∀ w, inS (mMany (I 209 1) t).toNat rank (mx (J2 226)) w ↔ sx_p (I 209 1) T nt v dg (seRow (I 209 1) T nt v dg t r (seAll (I 209 1) T nt v dg t)) t (toP (I 209 1) (bRow (I 209 1) t w)) := fun w => by
      rw [← hM.1 w]
      constructor
      · rintro ⟨c, hc⟩
        exact ⟨c, fun k hk => by rw [hc k hk]; exact lc_congr (fun _ _ => rfl) fun i hi => rows i hi k (by omega)⟩
      · rintro ⟨c, hc⟩
        exact ⟨c, fun k hk => by rw [hc k hk]; exact lc_congr (fun _ _ => rfl) fun i hi => (rows i hi k (by omega)).symm⟩
    obtain ⟨a1, a2, a3⟩ := rank_step n160 ind2 s3 sp3
    have lastp : inS (mMany (I 209 1) t).toNat rank (mx (J2 226)) (mx (J2 226) rank) ↔ sx_p (I 209 1) T nt v dg (seRow (I 209 1) T nt v dg t r (seAll (I 209 1) T nt v dg t)) t (toP (I 209 1) (sx_b (I 209 1) T nt ((t : Int), r))) := by
      refine Iff.trans ?_ (sp2 ((bsX (I 209 1) T nt t).2 r))
      exact ⟨fun h => inS_congr h fun k hk => (last k hk).symm, fun h => inS_congr h fun k hk => last k hk⟩
    have dle := slMx_le a2
    rcases a3 with ⟨ed, yes⟩ | ⟨ed, no⟩
    · refine ⟨fun _ => ⟨⟨by omega, by omega⟩, ?_⟩, fun q => by omega⟩
      have es := seRow_yes (lastp.mp yes)
      refine ih (r + 1) rank J3 _ (by omega) (by rw [es]; exact hS3) ?_
      rw [es]
      refine ⟨fun w => ?_, by rw [← ed]; exact a2, by omega⟩
      rw [← sp2 w]
      refine Iff.trans ?_ (inS_skip yes w)
      have := a1 w
      rw [ed] at this
      exact this
    · have hno : ¬ sx_p (I 209 1) T nt v dg (seRow (I 209 1) T nt v dg t r (seAll (I 209 1) T nt v dg t)) t (toP (I 209 1) (sx_b (I 209 1) T nt ((t : Int), r))) := fun h => no (lastp.mpr h)
      have es := seRow_no hno
      have le := seRow_len (D := I 209 1) (T := T) (nt := nt) (v := v) (dg := dg) (t := t) (l := seAll (I 209 1) T nt v dg t) (r := r) (r' := bsRows (I 209 1) T nt t) (by omega)
      have l2 : (seRow (I 209 1) T nt v dg t r (seAll (I 209 1) T nt v dg t)).length ≤ 216 := Nat.le_trans le l216
      have j50 := hS3.2.2.2.1.1
      refine ⟨fun q => by omega, fun _ => ⟨⟨by omega, by omega⟩, fun J4 e4 => ?_⟩⟩
      have j4 : J4 209 = J3 209 := (fr_eq_iu e4).1 209 (by decide)
      rw [j4]
      refine ⟨⟨by omega, by omega⟩, fun J5 e5 => ?_⟩
      have j5 : J5 209 = J3 209 := ((fr_eq_iu e5).1 209 (by decide)).trans j4
      rw [j5]
      refine ⟨⟨by omega, by omega⟩, fun J6 e6 => ⟨⟨by omega, by omega⟩, ?_⟩⟩
      obtain ⟨hS6, f6⟩ := slSt_add (J2 := J5) (J3 := J6) hS3 e4 (by rw [j4]; exact e5) (by rw [j5]; exact e6)
      rw [ed]
      refine ih (r + 1) (rank + 1) J6 _ (by omega) (by rw [es]; exact hS6) ?_
      rw [es]
      refine ⟨fun w => ?_, by rw [f6 226 (by decide), ← ed]; exact a2, by omega⟩
      rw [f6 226 (by decide), sx_vec S t1, ← ed, a1 w, inS_succ]
      constructor
      · rintro ⟨c, hc⟩
        exact ⟨c, (sp2 _).mp (inS_congr hc fun k hk => by rw [last k hk])⟩
      · rintro ⟨c, hc⟩
        exact ⟨c, inS_congr ((sp2 _).mpr hc) fun k hk => by rw [last k hk]⟩
end SL
