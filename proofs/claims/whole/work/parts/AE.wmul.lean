/-! THE CLASS's members: a member times a table -/
section WM
variable {d : Nat} {z : cm_Z} {I : cm_I} {D : Int} {mb : Nat}
def wSum (D : Int) (f h : Int → Int) (g t r c : Int) (n : Nat) : Int := sg n fun m => f (9 * g + D * r + m) * h (9 * t + D * m + c)
def wEnt (D : Int) (f h : Int → Int) (g t r c : Int) : Int := wSum D f h g t r c D.toNat % 2521
def wTF (D : Int) (V : Int → Int → Int) (r c : Int) (f : Int → Int) : Int → Int := fun x => if 0 ≤ x ∧ x < D * r + c then V (x / D) (x % D) else f x
theorem wTF_st (hD : D = 2 ∨ D = 3) (V : Int → Int → Int) {r c : Int} (r0 : 0 ≤ r) (c0 : 0 ≤ c) (c1 : c < D) (f : Int → Int) : (fun x => if x = D * r + c then V r c else wTF D V r c f x) = wTF D V r (c + 1) f := by
  funext x
  unfold wTF
  rcases hD with e | e <;> subst e
  · by_cases q : x = 2 * r + c
    · rw [if_pos q, if_pos (by omega), show x / 2 = r by omega, show x % 2 = c by omega]
    · rw [if_neg q]
      by_cases w : 0 ≤ x ∧ x < 2 * r + c
      · rw [if_pos w, if_pos (by omega)]
      · rw [if_neg w, if_neg (by omega)]
  · by_cases q : x = 3 * r + c
    · rw [if_pos q, if_pos (by omega), show x / 3 = r by omega, show x % 3 = c by omega]
    · rw [if_neg q]
      by_cases w : 0 ≤ x ∧ x < 3 * r + c
      · rw [if_pos w, if_pos (by omega)]
      · rw [if_neg w, if_neg (by omega)]
theorem wTF_nx (D : Int) (V : Int → Int → Int) (r : Int) (f : Int → Int) : wTF D V r D f = wTF D V (r + 1) 0 f := by
  unfold wTF
  rw [show D * (r + 1) + 0 = D * r + D by rw [Int.mul_add, Int.mul_one, Int.add_zero]]
theorem wTF_0 (D : Int) (V : Int → Int → Int) (f : Int → Int) : wTF D V 0 0 f = f := by
  funext x
  unfold wTF
  rw [if_neg (by rw [Int.mul_zero]; omega)]
theorem wSum_bd {f h : Int → Int} (of : okR f) (oh : okR h) (g t r c : Int) (n : Nat) : 0 ≤ wSum D f h g t r c n ∧ wSum D f h g t r c n ≤ n * 6350400 := by
  unfold wSum
  refine ⟨sg_nonneg fun i _ => Int.mul_nonneg (of _).1 (oh _).1, sg_le fun i _ => ?_⟩
  have a := of (9 * g + D * r + i)
  have b := oh (9 * t + D * i + c)
  have := mul_bd (x := f (9 * g + D * r + i)) (y := h (9 * t + D * i + c)) (X := 2520) (Y := 2520) (by omega) (by omega) (by omega) (by omega)
  omega
theorem wTF_ok {f h e : Int → Int} (oe : okR e) (g t r c : Int) : okR (wTF D (wEnt D f h g t) r c e) := by
  intro x
  unfold wTF
  by_cases q : 0 ≤ x ∧ x < D * r + c
  · rw [if_pos q]
    unfold wEnt
    omega
  · rw [if_neg q]; exact oe x
theorem t_mulTable (hz : wz z) (pm : isMb mb) (hD : D = 2 ∨ D = 3) (e0 : I mb 0 = D) (oc : okR (I (mb + 2))) (ot : okR (I (mb + 1))) {g t : Int} (g0 : 0 ≤ g) (g1 : g < 48) (t0 : 0 ≤ t) (t1 : t < 4) : mU (d + 1) m_Members_multiplyByTable [vR 3 mb, vI g, vI t] z I fun I1 => I1 = iw I (mb + 9) (wTF D (wEnt D (I (mb + 2)) (I (mb + 1)) g t) D 0 (I (mb + 9))) := by
  have n9 : mb ≠ mb + 9 := by omega
  have n2 : mb + 2 ≠ mb + 9 := by omega
  have n1 : mb + 1 ≠ mb + 9 := by omega
  have key : ∀ (n r : Nat) (z4 z5 z6 z7 : Option cm_V) (J : cm_I), (r : Int) + n = D → J = iw I (mb + 9) (wTF D (wEnt D (I (mb + 2)) (I (mb + 1)) g t) r 0 (I (mb + 9))) → cw d cd_Members_multiplyByTable (qU z fun I1 => I1 = iw I (mb + 9) (wTF D (wEnt D (I (mb + 2)) (I (mb + 1)) g t) D 0 (I (mb + 9)))) 2 [some (vR 3 mb), some (vI g), some (vI t), some (vI (r : Int)), z4, z5, z6, z7] [] (J, z) := by
    intro n
    induction n with
    | zero =>
      intro r z4 z5 z6 z7 J e hJ
      have j0 : J mb 0 = D := by rw [hJ, iw_ne _ _ n9]; exact e0
      refine wr_Members_multiplyByTable_2 hz pm ?_
      rw [j0]
      refine ⟨fun _ => qU_mk ?_, fun q => by omega⟩
      rw [hJ, show (r : Int) = D by omega]
    | succ n ih =>
      intro r z4 z5 z6 z7 J e hJ
      have j0 : J mb 0 = D := by rw [hJ, iw_ne _ _ n9]; exact e0
      have dr : 0 ≤ D * (r : Int) ∧ D * (r : Int) + D ≤ 9 := by rcases hD with w | w <;> rw [w] at e ⊢ <;> omega
      have col : ∀ (m c : Nat) (z5 z6 z7 : Option cm_V) (J : cm_I), (c : Int) + m = D → J = iw I (mb + 9) (wTF D (wEnt D (I (mb + 2)) (I (mb + 1)) g t) r c (I (mb + 9))) → cw d cd_Members_multiplyByTable (qU z fun I1 => I1 = iw I (mb + 9) (wTF D (wEnt D (I (mb + 2)) (I (mb + 1)) g t) D 0 (I (mb + 9)))) 13 [some (vR 3 mb), some (vI g), some (vI t), some (vI (r : Int)), some (vI (c : Int)), z5, z6, z7] [] (J, z) := by
        intro m
        induction m with
        | zero =>
          intro c z5 z6 z7 J ec hJ
          have j0 : J mb 0 = D := by rw [hJ, iw_ne _ _ n9]; exact e0
          refine wr_Members_multiplyByTable_13 hz pm ?_
          rw [j0]
          refine ⟨fun _ => ⟨⟨by omega, by omega⟩, ?_⟩, fun q => by omega⟩
          refine ih (r + 1) _ z5 z6 z7 J (by omega) ?_
          rw [hJ, show (c : Int) = D by omega, wTF_nx]
          rfl
        | succ m ihm =>
          intro c z5 z6 z7 J ec hJ
          have j0 : J mb 0 = D := by rw [hJ, iw_ne _ _ n9]; exact e0
          have j2 : J (mb + 2) = I (mb + 2) := by rw [hJ, iw_ne _ _ n2]
          have j1 : J (mb + 1) = I (mb + 1) := by rw [hJ, iw_ne _ _ n1]
          have inner : ∀ (u i : Nat) (z7 : Option cm_V), (i : Int) + u = D → cw d cd_Members_multiplyByTable (qU z fun I1 => I1 = iw I (mb + 9) (wTF D (wEnt D (I (mb + 2)) (I (mb + 1)) g t) D 0 (I (mb + 9)))) 28 [some (vR 3 mb), some (vI g), some (vI t), some (vI (r : Int)), some (vI (c : Int)), some (vI (wSum D (I (mb + 2)) (I (mb + 1)) g t r c i)), some (vI (i : Int)), z7] [] (J, z) := by
            intro u
            induction u with
            | zero =>
              intro i z7 ei
              have sb := wSum_bd (D := D) oc ot g t r c i
              refine wr_Members_multiplyByTable_28 hz pm ?_
              rw [j0]
              refine ⟨fun _ => ⟨⟨by omega, by omega⟩, ⟨by omega, by omega⟩, ⟨by omega, by omega⟩, fun J2 e2 => ⟨⟨by omega, by omega⟩, ?_⟩⟩, fun q => by omega⟩
              refine ihm (c + 1) _ _ z7 J2 (by omega) ?_
              rw [e2, hJ, iu_iw]
              congr 1
              rw [tmod_pos sb.1]
              have := wTF_st hD (wEnt D (I (mb + 2)) (I (mb + 1)) g t) (r := (r : Int)) (c := (c : Int)) (by omega) (by omega) (by omega) (I (mb + 9))
              rw [show ((c + 1 : Nat) : Int) = (c : Int) + 1 by omega, ← this]
              have ent : wEnt D (I (mb + 2)) (I (mb + 1)) g t r c = wSum D (I (mb + 2)) (I (mb + 1)) g t r c i % 2521 := by
                unfold wEnt
                rw [show D.toNat = i by omega]
              rw [ent]
            | succ u ihu =>
              intro i z7 ei
              have sb := wSum_bd (D := D) oc ot g t r c i
              have sb2 := wSum_bd (D := D) oc ot g t r c (i + 1)
              have di : 0 ≤ D * (i : Int) ∧ D * (i : Int) + D ≤ 9 := by rcases hD with w | w <;> rw [w] at ei ⊢ <;> omega
              have ca := oc (9 * g + D * (r : Int) + i)
              have cb := ot (9 * t + D * (i : Int) + c)
              have pr := mul_bd (x := I (mb + 2) (9 * g + D * (r : Int) + i)) (y := I (mb + 1) (9 * t + D * (i : Int) + c)) (X := 2520) (Y := 2520) (by omega) (by omega) (by omega) (by omega)
              have nx := ihu (i + 1) (some (vI (I (mb + 2) (9 * g + D * (r : Int) + i)))) (by omega)
              have es : wSum D (I (mb + 2)) (I (mb + 1)) g t r c (i + 1) = wSum D (I (mb + 2)) (I (mb + 1)) g t r c i + I (mb + 2) (9 * g + D * (r : Int) + i) * I (mb + 1) (9 * t + D * (i : Int) + c) := rfl
              rw [es, show ((i + 1 : Nat) : Int) = (i : Int) + 1 by omega] at nx
              refine wr_Members_multiplyByTable_28 hz pm ?_
              rw [j0, j2, j1]
              have i3 : (i : Int) ≤ 2 := by omega
              exact ⟨fun q => by omega, fun _ => ⟨⟨by omega, by omega⟩, ⟨by omega, by omega⟩, ⟨by omega, by omega⟩, ⟨by omega, by omega⟩, ⟨by omega, by omega⟩, ⟨by omega, by omega⟩, ⟨by omega, by omega⟩, ⟨by omega, by omega⟩, ⟨by omega, by omega⟩, ⟨by omega, by omega⟩, ⟨by omega, by omega⟩, ⟨by omega, by omega⟩, ⟨by omega, by omega⟩, nx⟩⟩
          refine wr_Members_multiplyByTable_13 hz pm ?_
          rw [j0]
          exact ⟨fun q => by omega, fun _ => inner D.toNat 0 z7 (by omega)⟩
      refine wr_Members_multiplyByTable_2 hz pm ?_
      rw [j0]
      exact ⟨fun q => by omega, fun _ => col D.toNat 0 z5 z6 z7 J (by omega) hJ⟩
  refine wr_Members_multiplyByTable hz pm ?_
  exact key D.toNat 0 _ _ _ _ I (by omega) (by rw [show ((0 : Nat) : Int) = 0 from rfl, wTF_0, iw_self])
end WM
