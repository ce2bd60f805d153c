/-! THE CLASS's members: all of them, breadth first -/
def gwL (mb : Nat) : List Nat := [mb, mb + 2, mb + 3, mb + 4, mb + 5, mb + 6, mb + 7, mb + 8, mb + 9]
/-- the class's group stands -/
def mbOk (D : Int) (T : Nat → cMat) (nt n : Nat) (L : Nat → cMat) (mb : Nat) (I : cm_I) : Prop := (D = 2 ∨ D = 3) ∧ I mb 0 = D ∧ I mb 1 = (nt : Int) ∧ nt ≤ 4 ∧ (∀ k : Nat, k < n → wmat D (I (mb + 2)) (k : Int) = L k) ∧ okR (I (mb + 2)) ∧ isG T nt n L ∧ mbS T L nt n mb n 0 I ∧ mbP (gm n L) n mb I
def gwS (D : Int) (T : Nat → cMat) (nt mb : Nat) (I0 : cm_I) (g t : Nat) (s : Nat × (Nat → cMat)) (J : cm_I) : Prop := fr (gwL mb) I0 J ∧ (∀ j, j ≠ 2 → J mb j = I0 mb j) ∧ J mb 2 = (s.1 : Int) ∧ okR (J (mb + 2)) ∧ okR (J (mb + 9)) ∧ (∀ k : Nat, k < s.1 → wmat D (J (mb + 2)) (k : Int) = s.2 k) ∧ mbS T s.2 nt s.1 mb g t J
def gwQ (D : Int) (T : Nat → cMat) (nt mb : Nat) (I0 : cm_I) : Int → cm_I → Prop := fun r I1 => fr (gwL mb) I0 I1 ∧ (∀ j, j ≠ 2 → I1 mb j = I0 mb j) ∧ okR (I1 (mb + 2)) ∧ okR (I1 (mb + 9)) ∧ ((r = 1 ∧ ∃ s, gAll T nt 48 = some s ∧ mbOk D T nt s.1 s.2 mb I1) ∨ (r = 0 ∧ gAll T nt 48 = none))
theorem mbS_fr {T L : Nat → cMat} {nt n mb g t : Nat} {I I1 : cm_I} (h : mbS T L nt n mb g t I) (h3 : I1 (mb + 3) = I (mb + 3)) (h7 : I1 (mb + 7) = I (mb + 7)) (h8 : I1 (mb + 8) = I (mb + 8)) : mbS T L nt n mb g t I1 := by
  unfold mbS
  rw [h3, h7, h8]
  exact h
theorem okR_cpyF {g f : Int → Int} (og : okR g) (of : okR f) (i lo n : Int) : okR (cpyF g i f lo n) := by
  intro x
  unfold cpyF
  split
  · exact og _
  · exact of _
theorem wmat_cpy {D : Int} (hD : D = 2 ∨ D = 3) (F f : Int → Int) (n k : Nat) : wmat D (cpyF F 0 f (9 * (n : Int)) 9) (k : Int) = if k = n then wmat D F 0 else wmat D f (k : Int) := by
  by_cases e : k = n
  · rw [if_pos e]
    funext i j
    by_cases q : (i : Int) < D ∧ (j : Int) < D
    · rw [wmat_in q, wmat_in q]
      unfold cpyF
      congr 1
      rcases hD with w | w <;> subst w
      · rw [if_pos (by omega)]; congr 1; omega
      · rw [if_pos (by omega)]; congr 1; omega
    · rw [wmat_out q, wmat_out q]
  · rw [if_neg e]
    funext i j
    by_cases q : (i : Int) < D ∧ (j : Int) < D
    · rw [wmat_in q, wmat_in q]
      unfold cpyF
      congr 1
      rcases hD with w | w <;> subst w
      · rw [if_neg (by omega)]
      · rw [if_neg (by omega)]
    · rw [wmat_out q, wmat_out q]
def idV (D i : Int) (f : Int → Int) : Int → Int := fun x => if 0 ≤ x ∧ x < 9 then (if x % (D + 1) = 0 ∧ x < (D + 1) * i then 1 else 0) else f x
theorem wmat_idV {D : Int} (hD : D = 2 ∨ D = 3) (f : Int → Int) : wmat D (idV D D f) 0 = mId := by
  funext i j
  unfold mId
  by_cases q : (i : Int) < D ∧ (j : Int) < D
  · rw [wmat_in q]
    unfold idV
    rcases hD with w | w <;> subst w
    · rw [if_pos (by omega)]
      by_cases e : i = j
      · rw [if_pos (by omega), if_pos (by omega)]; rfl
      · rw [if_neg (by omega), if_neg (by omega)]; rfl
    · rw [if_pos (by omega)]
      by_cases e : i = j
      · rw [if_pos (by omega), if_pos (by omega)]; rfl
      · rw [if_neg (by omega), if_neg (by omega)]; rfl
  · rw [wmat_out q]
/-- one more place of the first member is 1 -/
theorem idV_up {D i : Int} (hD : D = 2 ∨ D = 3) (i0 : 0 ≤ i) (i1 : i < D) (f : Int → Int) : (fun x => if x = D * i + i then 1 else idV D i f x) = idV D (i + 1) f := by
  funext x
  unfold idV
  rcases hD with w | w <;> subst w
  · by_cases hx : x = 2 * i + i
    · rw [if_pos hx, if_pos (by omega), if_pos (by omega)]
    · rw [if_neg hx]
      by_cases h : 0 ≤ x ∧ x < 9
      · rw [if_pos h, if_pos h]
        by_cases h2 : x % (2 + 1) = 0 ∧ x < (2 + 1) * i
        · rw [if_pos h2, if_pos (by omega)]
        · rw [if_neg h2, if_neg (by omega)]
      · rw [if_neg h, if_neg h]
  · by_cases hx : x = 3 * i + i
    · rw [if_pos hx, if_pos (by omega), if_pos (by omega)]
    · rw [if_neg hx]
      by_cases h : 0 ≤ x ∧ x < 9
      · rw [if_pos h, if_pos h]
        by_cases h2 : x % (3 + 1) = 0 ∧ x < (3 + 1) * i
        · rw [if_pos h2, if_pos (by omega)]
        · rw [if_neg h2, if_neg (by omega)]
      · rw [if_neg h, if_neg h]
section WGW
variable {d : Nat} {z : cm_Z} {I : cm_I} {D : Int} {mb nt : Nat} {T : Nat → cMat}
theorem t_grow (hz : wz z) (pm : isMb mb) (hD : D = 2 ∨ D = 3) (e0 : I mb 0 = D) (e1 : I mb 1 = (nt : Int)) (nt4 : nt ≤ 4) (oc : okR (I (mb + 2))) (ot : okR (I (mb + 1))) (o9 : okR (I (mb + 9))) (hT : ∀ t : Nat, t < nt → T t = wmat D (I (mb + 1)) (t : Int)) (hI : ∀ t, t < nt → mDet (T t) ≠ 0) : mI (d + 3) m_Members_grow [vR 3 mb] z I (gwQ D T nt mb I) := by
  have fin : ∀ (s : Nat × (Nat → cMat)) (J : cm_I), gAll T nt 48 = some s → gwS D T nt mb I s.1 0 s J → mU (d + 2) m_Members_fillProducts [vR 3 mb] z J fun I1 => mU (d + 2) m_Members_fillOrders [vR 3 mb] z I1 fun I2 => qI z (gwQ D T nt mb I) (some (vI 1)) (I2, z) := by
    intro s J hg hS
    obtain ⟨f0, f1, f2, oc, o9, mem, S⟩ := hS
    have G := isG_all hg
    have Gr := isGrp_gm G hI
    refine mU_mono (t_fillProducts hz pm G nt4 f2 S) fun I1 ⟨p1, p2⟩ => mU_mono (t_fillOrders hz pm Gr G.2.1 (by rw [p1 mb (by simp)]; exact f2) p2) fun I2 ⟨q1, q2, q3⟩ => qI_mk ?_
    have a : ∀ c, c ∉ [mb + 4, mb + 5, mb + 6] → I2 c = J c := fun c hc => by
      simp at hc
      rw [q1 c (by simp; omega), p1 c (by simp; omega)]
    refine ⟨fr_trans f0 (fr_trans (fr_mono p1 (by simp [gwL])) (fr_mono q1 (by simp [gwL]))), fun j hj => by rw [a mb (by simp)]; exact f1 j hj, by rw [a (mb + 2) (by simp)]; exact oc, by rw [a (mb + 9) (by simp)]; exact o9, Or.inl ⟨rfl, s, hg, ?_⟩⟩
    refine ⟨hD, by rw [a mb (by simp), f1 0 (by decide)]; exact e0, by rw [a mb (by simp), f1 1 (by decide)]; exact e1, nt4, by rw [a (mb + 2) (by simp)]; exact mem, by rw [a (mb + 2) (by simp)]; exact oc, G, mbS_fr S (a _ (by simp)) (a _ (by simp)) (a _ (by simp)), Gr, G.2.1, by rw [a mb (by simp)]; exact f2, ?_, q2, q3⟩
    rw [q1 (mb + 4) (by simp)]
    exact p2
  have k64 : ∀ (m t g : Nat) (s0 s : Nat × (Nat → cMat)) (J : cm_I) (z3 : Option cm_V), t + m = nt → g < 48 → gAll T nt g = some s0 → g < s0.1 → gRow T g t s0 = some s → s.1 ≤ 48 → s0.1 ≤ s.1 → gwS D T nt mb I g t s J → (∀ (s' : Nat × (Nat → cMat)) (J3 : cm_I) (z2 z3 : Option cm_V), gAll T nt (g + 1) = some s' → s'.1 ≤ 48 → g < s'.1 → gwS D T nt mb I (g + 1) 0 s' J3 → cw (d + 2) cd_Members_grow (qI z (gwQ D T nt mb I)) 48 [some (vR 3 mb), some (vI ((g : Int) + 1)), z2, z3] [] (J3, z)) → cw (d + 2) cd_Members_grow (qI z (gwQ D T nt mb I)) 64 [some (vR 3 mb), some (vI (g : Int)), some (vI (t : Int)), z3] [] (J, z) := by
    intro m
    induction m with
    | zero =>
      intro t g s0 s J z3 et g48 hg hgs hr hs hs2 hS nxt
      obtain ⟨f0, f1, f2, oc, o9, mem, S⟩ := id hS
      refine wr_Members_grow_64 hz pm ?_
      rw [f1 1 (by decide), e1]
      refine ⟨fun _ => ⟨⟨by omega, by omega⟩, nxt s J _ _ ?_ hs (by omega) ⟨f0, f1, f2, oc, o9, mem, ⟨fun g' t' a b c => S.1 g' t' (by omega) b c, S.2⟩⟩⟩, fun q => by omega⟩
      show (gAll T nt g).bind _ = _
      rw [hg]
      show (if g < s0.1 then gRow T g nt s0 else some s0) = _
      rw [if_pos hgs, ← show t = nt by omega, hr]
    | succ m ih =>
      intro t g s0 s J z3 et g48 hg hgs hr hs hs2 hS nxt
      obtain ⟨f0, f1, f2, oc, o9, mem, S⟩ := id hS
      have hstep : gRow T g (t + 1) s0 = gStep T g t s := by
        show (gRow T g t s0).bind _ = _
        rw [hr]
        rfl
      have s153 : ∀ (s' : Nat × (Nat → cMat)) (J3 : cm_I) (k : Nat), gRow T g (t + 1) s0 = some s' → s'.1 ≤ 48 → s0.1 ≤ s'.1 → gwS D T nt mb I g t s' J3 → k < s'.1 → s'.2 k = mm (s'.2 g) (T t) → cw (d + 2) cd_Members_grow (qI z (gwQ D T nt mb I)) 153 [some (vR 3 mb), some (vI (g : Int)), some (vI (t : Int)), some (vI (k : Int))] [] (J3, z) := by
        intro s' J3 k hr' hs' hs2' hS' hk ek
        obtain ⟨f0', f1', f2', oc', o9', mem', S'⟩ := hS'
        refine wr_Members_grow_153 hz pm ⟨⟨by omega, by omega⟩, ⟨by omega, by omega⟩, ⟨by omega, by omega⟩, fun J4 e4 => ⟨⟨by omega, by omega⟩, ?_⟩⟩
        obtain ⟨f4, g4⟩ := fr_eq_iu e4
        refine ih (t + 1) g s0 s' J4 _ (by omega) g48 hg hgs hr' hs' hs2' ⟨fr_trans f0' (fr_mono f4 (by simp [gwL])), fun j hj => by rw [f4 mb (by simp)]; exact f1' j hj, by rw [f4 mb (by simp)]; exact f2', by rw [f4 (mb + 2) (by simp)]; exact oc', by rw [f4 (mb + 9) (by simp)]; exact o9', by rw [f4 (mb + 2) (by simp)]; exact mem', ⟨fun g' t' a b c => ?_, by rw [f4 (mb + 7) (by simp), f4 (mb + 8) (by simp)]; exact S'.2⟩⟩ nxt
        rw [g4]
        show ∃ k1 : Nat, k1 < s'.1 ∧ (if 4 * (g' : Int) + t' = 4 * (g : Int) + t then (k : Int) else J3 (mb + 3) (4 * (g' : Int) + t')) = k1 ∧ _
        by_cases w : g' = g ∧ t' = t
        · rw [w.1, w.2, if_pos rfl]
          exact ⟨k, hk, rfl, ek⟩
        · rw [if_neg (by omega)]
          exact S'.1 g' t' (by omega) b c
      refine wr_Members_grow_64 hz pm ?_
      rw [f1 1 (by decide), e1]
      refine ⟨fun q => by omega, fun _ => mU_mono (t_mulTable hz pm hD (by rw [f1 0 (by decide)]; exact e0) oc (by rw [f0 (mb + 1) (by simp [gwL])]; exact ot) (by omega) (by omega) (by omega) (by omega)) fun I2 e2 => ?_⟩
      obtain ⟨f2a, g2⟩ := fr_eq_iw e2
      have j2 : I2 mb = J mb := f2a mb (by simp)
      have c2 : I2 (mb + 2) = J (mb + 2) := f2a _ (by simp)
      have o92 : okR (I2 (mb + 9)) := by rw [g2]; exact wTF_ok o9 _ _ _ _
      have cand : wmat D (I2 (mb + 9)) 0 = mm (s.2 g) (T t) := by
        rw [g2, wmat_tF hD, mem g (by omega), f0 (mb + 1) (by simp [gwL]), hT t (by omega)]
      refine mI_mono (t_find (n := s.1) hz pm hD (by rw [j2, f1 0 (by decide)]; exact e0) (by rw [j2]; exact f2) hs (by rw [c2]; exact oc) o92) fun v I3 ⟨e3, ev⟩ => ?_
      subst e3
      rw [cand, c2, gFind_congr (L := fun k : Nat => wmat D (J (mb + 2)) (k : Int)) (L' := s.2) fun k hk => mem k hk] at ev
      have hle := gFind_le s.2 (mm (s.2 g) (T t)) s.1
      rw [j2, f2]
      have base : gwS D T nt mb I g t s I3 := ⟨fr_trans f0 (fr_mono f2a (by simp [gwL])), by rw [j2]; exact f1, by rw [j2]; exact f2, by rw [c2]; exact oc, o92, by rw [c2]; exact mem, mbS_fr S (f2a _ (by simp)) (f2a _ (by simp)) (f2a _ (by simp))⟩
      refine ⟨fun q2 => ?_, fun q2 => ⟨fun q3 => ⟨⟨by omega, by omega⟩, ⟨by omega, by omega, by omega, by omega, by omega⟩, fun I7 e7 => ?_⟩, fun q3 => qI_mk ?_⟩⟩
      · have hlt : gFind s.2 (mm (s.2 g) (T t)) s.1 < s.1 := by omega
        have at_ := gFind_at hlt
        have is := isM_wmat hD (J (mb + 2)) ((gFind s.2 (mm (s.2 g) (T t)) s.1 : Nat) : Int)
        rw [mem _ hlt] at is
        rw [ev]
        refine s153 s I3 _ ?_ hs hs2 base hlt ((mSame_iff is (isM_mm _ _)).mp at_)
        rw [hstep]
        unfold gStep
        rw [if_neg (by omega)]
      · obtain ⟨f7, g7⟩ := fr_eq_iw e7
        have j7 : I7 mb = J mb := by rw [f7 mb (by simp)]; exact j2
        rw [j7, f2]
        refine ⟨⟨by omega, by omega⟩, fun I9 e9 => ?_⟩
        obtain ⟨f9, g9⟩ := fr_eq_iu e9
        have j9 : I9 mb = J mb := by rw [f9 mb (by simp)]; exact j7
        rw [j9, f2]
        refine ⟨⟨by omega, by omega⟩, fun I11 e11 => ?_⟩
        obtain ⟨f11, g11⟩ := fr_eq_iu e11
        have j11 : I11 mb = J mb := by rw [f11 mb (by simp)]; exact j9
        rw [j11, f2]
        refine ⟨⟨by omega, by omega⟩, fun I13 e13 => ?_⟩
        obtain ⟨f13, g13⟩ := fr_eq_iu e13
        rw [j11] at g13
        have m13 : ∀ j, j ≠ 2 → I13 mb j = I mb j := fun j hj => by
          rw [g13]
          show (if j = 2 then _ else _) = _
          rw [if_neg hj]; exact f1 j hj
        have n13 : I13 mb 2 = ((s.1 + 1 : Nat) : Int) := by
          rw [g13]
          show (if (2 : Int) = 2 then (s.1 : Int) + 1 else _) = _
          rw [if_pos rfl]; omega
        have r2 : I13 (mb + 2) = cpyF (I3 (mb + 9)) 0 (J (mb + 2)) (9 * (s.1 : Int)) 9 := by
          rw [f13 (mb + 2) (by simp), f11 (mb + 2) (by simp), f9 (mb + 2) (by simp), g7, c2]
        have r9 : I13 (mb + 9) = I3 (mb + 9) := by
          rw [f13 (mb + 9) (by simp), f11 (mb + 9) (by simp), f9 (mb + 9) (by simp), f7 (mb + 9) (by simp)]
        have r3 : I13 (mb + 3) = J (mb + 3) := by
          rw [f13 (mb + 3) (by simp), f11 (mb + 3) (by simp), f9 (mb + 3) (by simp), f7 (mb + 3) (by simp), f2a (mb + 3) (by simp)]
        have r7 : I13 (mb + 7) = fun j => if j = (s.1 : Int) then (g : Int) else J (mb + 7) j := by
          rw [f13 (mb + 7) (by simp), f11 (mb + 7) (by simp), g9, f7 (mb + 7) (by simp), f2a (mb + 7) (by simp)]
        have r8 : I13 (mb + 8) = fun j => if j = (s.1 : Int) then (t : Int) else J (mb + 8) j := by
          rw [f13 (mb + 8) (by simp), g11, f9 (mb + 8) (by simp), f7 (mb + 8) (by simp), f2a (mb + 8) (by simp)]
        rw [ev, q2.symm.trans ev |> fun w => (show ((gFind s.2 (mm (s.2 g) (T t)) s.1 : Nat) : Int) = (s.1 : Int) by omega)]
        refine s153 (s.1 + 1, fun k => if k = s.1 then mm (s.2 g) (T t) else s.2 k) I13 s.1 ?_ (by show s.1 + 1 ≤ 48; omega) (by show s0.1 ≤ s.1 + 1; omega) ⟨?_, m13, n13, by rw [r2]; exact okR_cpyF o92 oc _ _ _, by rw [r9]; exact o92, fun k hk => ?_, fun g' t' a b c => ?_, fun h h0 h1 => ?_⟩ (by show s.1 < s.1 + 1; omega) ?_
        · rw [hstep]
          unfold gStep
          rw [if_pos (by omega), if_neg (by omega)]
        · exact fr_trans f0 (fr_trans (fr_mono f2a (by simp [gwL])) (fr_trans (fr_mono f7 (by simp [gwL])) (fr_trans (fr_mono f9 (by simp [gwL])) (fr_trans (fr_mono f11 (by simp [gwL])) (fr_mono f13 (by simp [gwL]))))))
        · have hk' : k < s.1 + 1 := hk
          rw [r2, wmat_cpy hD]
          show _ = if k = s.1 then _ else _
          by_cases w : k = s.1
          · rw [if_pos w, if_pos w, cand]
          · rw [if_neg w, if_neg w]; exact mem k (by omega)
        · have b' : g' < s.1 + 1 := b
          obtain ⟨k, k1, k2, k3⟩ := S.1 g' t' a (by omega) c
          refine ⟨k, by show k < s.1 + 1; omega, by rw [r3]; exact k2, ?_⟩
          show (if k = s.1 then _ else _) = mm (if g' = s.1 then _ else _) _
          rw [if_neg (by omega), if_neg (by omega)]
          exact k3
        · have h1' : h < s.1 + 1 := h1
          rw [r7, r8]
          show ∃ a b : Nat, a < h ∧ b < nt ∧ (if (h : Int) = s.1 then (g : Int) else J (mb + 7) h) = a ∧ (if (h : Int) = s.1 then (t : Int) else J (mb + 8) h) = b ∧ (if h = s.1 then _ else s.2 h) = mm (if a = s.1 then _ else s.2 a) (T b)
          by_cases w : h = s.1
          · rw [if_pos (by omega), if_pos (by omega), if_pos w]
            exact ⟨g, t, by omega, by omega, rfl, rfl, by rw [if_neg (by omega)]⟩
          · rw [if_neg (by omega), if_neg (by omega), if_neg w]
            obtain ⟨a, b, a1, b1, ea, eb, eL⟩ := S.2 h h0 (by omega)
            exact ⟨a, b, a1, b1, ea, eb, by rw [if_neg (by omega)]; exact eL⟩
        · show (if s.1 = s.1 then _ else _) = mm (if g = s.1 then _ else _) _
          rw [if_pos rfl, if_neg (by omega)]
      · have h0 : gRow T g (t + 1) s0 = none := by
          rw [hstep]
          unfold gStep
          rw [if_pos (by omega), if_pos (by omega)]
        have h1 := gRow_none h0 m
        rw [show t + 1 + m = nt by omega] at h1
        have h2 : gAll T nt (g + 1) = none := by
          show (gAll T nt g).bind _ = _
          rw [hg]
          show (if g < s0.1 then gRow T g nt s0 else some s0) = _
          rw [if_pos hgs, h1]
        have h3 := gAll_none h2 (47 - g)
        rw [show g + 1 + (47 - g) = 48 by omega] at h3
        obtain ⟨b0, b1, b2, b3, b4, b5, b6⟩ := base
        exact ⟨b0, b1, b3, b4, Or.inr ⟨rfl, h3⟩⟩
  have k48 : ∀ (m g : Nat) (s : Nat × (Nat → cMat)) (J : cm_I) (z2 z3 : Option cm_V), g + m = 48 → gAll T nt g = some s → s.1 ≤ 48 → g ≤ s.1 → gwS D T nt mb I g 0 s J → cw (d + 2) cd_Members_grow (qI z (gwQ D T nt mb I)) 48 [some (vR 3 mb), some (vI (g : Int)), z2, z3] [] (J, z) := by
    intro m
    induction m with
    | zero =>
      intro g s J z2 z3 em hg hs hgs hS
      obtain ⟨f0, f1, f2, oc, o9, mem, S⟩ := id hS
      have eg : g = s.1 := by omega
      have e48 : gAll T nt 48 = some s := by rw [← show g = 48 by omega]; exact hg
      refine wr_Members_grow_48 hz pm ?_
      rw [f2]
      exact ⟨fun _ => fin s J e48 (by rw [← eg]; exact hS), fun q => by omega⟩
    | succ m ih =>
      intro g s J z2 z3 em hg hs hgs hS
      obtain ⟨f0, f1, f2, oc, o9, mem, S⟩ := id hS
      refine wr_Members_grow_48 hz pm ?_
      rw [f2]
      refine ⟨fun q => fin s J ?_ (by rw [show s.1 = g by omega]; exact hS), fun q => ⟨fun q2 => by omega, fun q2 => ?_⟩⟩
      · have := gAll_stay hg (by omega) (48 - g)
        rw [show g + (48 - g) = 48 by omega] at this
        exact this
      · exact k64 nt 0 g s s J _ (by omega) (by omega) hg (by omega) rfl hs (Nat.le_refl _) hS fun s' J3 z2' z3' hg' hs' hgs' hS' => ih (g + 1) s' J3 z2' z3' (by omega) hg' hs' (by omega) hS'
  have k13 : ∀ (m : Nat) (i : Int) (J : cm_I), 0 ≤ i → i + m = D → J = iw I (mb + 2) (idV D i (I (mb + 2))) → cw (d + 2) cd_Members_grow (qI z (gwQ D T nt mb I)) 13 [some (vR 3 mb), some (vI i), none, none] [] (J, z) := by
    intro m
    induction m with
    | zero =>
      intro i J i0 ei hJ
      obtain ⟨fa, ga⟩ := fr_eq_iw hJ
      have j0 : J mb 0 = D := by rw [fa mb (by simp)]; exact e0
      refine wr_Members_grow_13 hz pm ⟨fun _ J1 h1 => ?_, fun q => by rw [j0] at q; omega⟩
      obtain ⟨f1, g1⟩ := fr_eq_iu h1
      rw [show i = D by omega] at ga
      refine k48 48 0 (1, fun _ => mId) J1 _ _ (by omega) rfl (by show 1 ≤ 48; omega) (by show 0 ≤ 1; omega) ⟨fr_trans (fr_mono fa (by simp [gwL])) (fr_mono f1 (by simp [gwL])), fun j hj => ?_, ?_, ?_, ?_, fun k hk => ?_, fun g' t' a b c => ?_, fun h h0 h1 => ?_⟩
      · rw [g1]
        show (if j = 2 then _ else _) = _
        rw [if_neg hj, fa mb (by simp)]
      · rw [g1]
        show (if (2 : Int) = 2 then _ else _) = _
        rw [if_pos rfl]; rfl
      · rw [f1 (mb + 2) (by simp), ga]
        intro x
        unfold idV
        split
        · split <;> omega
        · exact oc x
      · rw [f1 (mb + 9) (by simp), fa (mb + 9) (by simp)]; exact o9
      · have : k = 0 := by have : k < 1 := hk; omega
        subst this
        rw [f1 (mb + 2) (by simp), ga]
        exact wmat_idV hD _
      · omega
      · have : h < 1 := h1; omega
    | succ m ih =>
      intro i J i0 ei hJ
      obtain ⟨fa, ga⟩ := fr_eq_iw hJ
      have j0 : J mb 0 = D := by rw [fa mb (by simp)]; exact e0
      have up : ∀ J5 : cm_I, J5 = iu J (mb + 2) (D * i + i) 1 → J5 = iw I (mb + 2) (idV D (i + 1) (I (mb + 2))) := fun J5 e5 => by
        rw [e5, hJ, iu_iw, idV_up hD i0 (by omega)]
      have bd : cm_i (D * i) ∧ cm_i (D * i + i) ∧ (0:Int) ≤ D * i + i ∧ D * i + i < 432 := by
        unfold cm_i
        rcases hD with w | w
        · rw [w]; omega
        · rw [w]; omega
      refine wr_Members_grow_13 hz pm ⟨fun q => by rw [j0] at q; omega, fun _ => ?_⟩
      rw [j0]
      exact ⟨bd.1, bd.2.1, ⟨bd.2.2.1, bd.2.2.2⟩, fun J5 e5 => ⟨⟨by omega, by omega⟩, ih (i + 1) J5 (by omega) (by omega) (up J5 e5)⟩⟩
  refine wr_Members_grow hz pm (mU_mono (t_fill4 (d := d) hz (Nat.add_pos_right _ (by decide)) (by decide) (by decide) (by rw [wz_mbL2 hz pm]; decide) (by decide)) fun I1 eI1 => ?_)
  refine k13 D.toNat 0 I1 (by omega) (by omega) ?_
  rw [eI1]
  congr 1
  funext x
  unfold fillF idV
  by_cases h : 0 ≤ x ∧ x < 9
  · rw [if_pos (by omega), if_pos h, if_neg (by omega)]
  · rw [if_neg (by omega), if_neg h]
end WGW
