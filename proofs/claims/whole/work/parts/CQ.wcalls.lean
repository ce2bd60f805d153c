/-! the calls group, member, times, about, factor, series, count of the class -/
section WC1
variable {d : Nat} {z z1 : cm_Z} {I I1 : cm_I} {D : Int} {sh mb : Nat} {T : Nat → cMat} {nt n : Nat} {L : Nat → cMat} {K : Int → Int → Int} {B : Int → Int} {tp : Int} {rf : Option (Int → Int)}
theorem wI_get (h : wI D T nt n L K B tp rf sh mb z I) : (D = 2 ∨ D = 3) ∧ wz z ∧ gw z ∧ isSh sh ∧ isMb mb ∧ z.1 1 6 = sh ∧ z.1 1 7 = mb ∧ shOk D sh I ∧ mbOk D T nt n L mb I ∧ mvE D sh mb T nt n L z I := by
  have hE := h.1.1.1
  obtain ⟨a1, a2, a3, a4, a5, a6, a7, a8, a9, a10, a11⟩ := id hE
  exact ⟨shOk_D a2, a1, h.1.1.2.1, shOk_sh a2, a7, a3, a4, a2, a8, hE⟩
theorem c_isMember (hz : wz z) (y : z.1 1 7 = mb) (pm : isMb mb) (en : I mb 2 = (n : Int)) (g : Int) : mI (d + 1) m_Works_isMember [vR 11 1, vI g] z I fun r I1 => I1 = I ∧ r = if 0 ≤ g ∧ g < n then 1 else 0 := by
  refine wr_Works_isMember hz y pm ?_
  rw [en]
  exact ⟨fun w => qI_mk ⟨rfl, by rw [if_neg (by omega)]⟩, fun w => ⟨fun w2 => qI_mk ⟨rfl, by rw [if_neg (by omega)]⟩, fun w2 => qI_mk ⟨rfl, by rw [if_pos (by omega)]⟩⟩⟩
theorem c_group (h : wI D T nt n L K B tp rf sh mb z I) (what : Int) : mI (d + 3) m_Works_group [vR 11 1, vI what] z I fun r I1 => I1 = I ∧ r = aGroup D.toNat nt n L what := by
  obtain ⟨hD, hz, hg, hs, pm, y6, y7, hS, hM, hE⟩ := wI_get h
  obtain ⟨_, e0, e1, nt4, m3, m4, G, m6, hP⟩ := id hM
  refine wr_Works_group hz y7 pm ?_
  rw [hP.2.2.1, e0, e1]
  unfold aGroup
  refine ⟨fun w => qI_mk ⟨rfl, by rw [if_pos w]⟩, fun w0 => ⟨fun w => qI_mk ⟨rfl, by rw [if_neg w0, if_pos w]; omega⟩, fun w1 => ⟨fun w => qI_mk ⟨rfl, by rw [if_neg w0, if_neg w1, if_pos w]⟩, fun w2 => ⟨fun w => mI_mono (t_lots (d := d) hz pm hP) fun r I1 ⟨a, b⟩ => qI_mk ⟨a, by rw [if_neg w0, if_neg w1, if_neg w2, if_pos w]; exact b⟩, fun w3 => ⟨fun w => mI_mono (t_commonPower (d := d) hz pm hP) fun r I1 ⟨a, b⟩ => qI_mk ⟨a, by rw [if_neg w0, if_neg w1, if_neg w2, if_neg w3, if_pos w]; exact b⟩, fun w4 => ⟨fun w => mI_mono (t_isEither (d := d + 1) hz pm hP) fun r I1 ⟨a, b⟩ => ⟨fun z0 => qI_mk ⟨a, ?_⟩, fun z0 => qI_mk ⟨a, ?_⟩⟩, fun w5 => qI_mk ⟨rfl, by rw [if_neg w0, if_neg w1, if_neg w2, if_neg w3, if_neg w4, if_neg w5]⟩⟩⟩⟩⟩⟩⟩
  · rw [if_neg w0, if_neg w1, if_neg w2, if_neg w3, if_neg w4, if_pos w]
    rw [z0] at b
    exact b
  · rw [if_neg w0, if_neg w1, if_neg w2, if_neg w3, if_neg w4, if_pos w]
    by_cases q : gEither (gm n L) n = true
    · rw [if_pos q]
    · rw [if_neg q] at b; exact absurd b z0
theorem c_member (h : wI D T nt n L K B tp rf sh mb z I) (g i j : Int) : mI (d + 2) m_Works_member [vR 11 1, vI g, vI i, vI j] z I fun r I1 => I1 = I ∧ r = aMember D.toNat n L g i j := by
  obtain ⟨hD, hz, hg, hs, pm, y6, y7, hS, hM, hE⟩ := wI_get h
  obtain ⟨_, e0, e1, nt4, m3, m4, G, m6, hP⟩ := id hM
  have n48 := G.2.1
  refine wr_Works_member hz y7 pm (mI_mono (c_isMember (d := d) hz y7 pm hP.2.2.1 g) fun r I1 ⟨a, b⟩ => ?_)
  rw [a, e0]
  unfold aMember
  have DD : ((D.toNat : Nat) : Int) = D := by omega
  rw [DD]
  refine ⟨fun w => qI_mk ⟨rfl, ?_⟩, fun w => ?_⟩
  · by_cases q : 0 ≤ g ∧ g < n
    · rw [if_pos q] at b; omega
    · rw [if_neg q]
  · have hg' : 0 ≤ g ∧ g < n := Classical.byContradiction fun x => w (by rw [b, if_neg x])
    rw [if_pos hg']
    refine ⟨fun w2 => qI_mk ⟨rfl, by rw [if_neg (by omega)]⟩, fun w2 => ⟨fun w3 => qI_mk ⟨rfl, by rw [if_neg (by omega)]⟩, fun w3 => ?_⟩⟩
    rw [if_pos (by omega : 0 ≤ i ∧ i ≤ D - 1)]
    refine ⟨fun w4 => qI_mk ⟨rfl, by rw [if_neg (by omega)]⟩, fun w4 => ⟨fun w5 => ?_, fun w5 => qI_mk ⟨rfl, by rw [if_neg (by omega)]⟩⟩⟩
    have mi := mul_bd (x := D) (y := i) (X := 3) (Y := 2) (by omega) (by omega) (by omega) (by omega)
    refine ⟨by unfold cm_i; omega, by unfold cm_i; omega, by unfold cm_i; omega, by unfold cm_i; omega, ⟨by omega, by omega⟩, qI_mk ⟨rfl, ?_⟩⟩
    rw [if_pos (by omega : 0 ≤ j ∧ j ≤ D - 1), ← m3 g.toNat (by omega), wmat_in ⟨by omega, by omega⟩, fi_toF, show ((g.toNat : Nat) : Int) = g by omega, show ((i.toNat : Nat) : Int) = i by omega, show ((j.toNat : Nat) : Int) = j by omega]
    have := m4 (9 * g + D * i + j)
    omega
theorem c_times (h : wI D T nt n L K B tp rf sh mb z I) (g k : Int) : mI (d + 2) m_Works_times [vR 11 1, vI g, vI k] z I fun r I1 => I1 = I ∧ r = aTimes n L g k := by
  obtain ⟨hD, hz, hg, hs, pm, y6, y7, hS, hM, hE⟩ := wI_get h
  obtain ⟨_, e0, e1, nt4, m3, m4, G, m6, hP⟩ := id hM
  have n48 := G.2.1
  unfold aTimes
  refine wr_Works_times hz y7 pm (mI_mono (c_isMember (d := d) hz y7 pm hP.2.2.1 g) fun r I1 ⟨a, b⟩ => ?_)
  rw [a]
  refine ⟨fun w => qI_mk ⟨rfl, ?_⟩, fun w => mI_mono (c_isMember (d := d) hz y7 pm hP.2.2.1 k) fun r2 I3 ⟨a3, b3⟩ => ?_⟩
  · by_cases q : 0 ≤ g ∧ g < n
    · rw [if_pos q] at b; omega
    · rw [if_neg q]
  · have hg' : 0 ≤ g ∧ g < n := Classical.byContradiction fun x => w (by rw [b, if_neg x])
    rw [a3, if_pos hg']
    refine ⟨fun w2 => ?_, fun w2 => qI_mk ⟨rfl, ?_⟩⟩
    · have hk' : 0 ≤ k ∧ k < n := Classical.byContradiction fun x => w2 (by rw [b3, if_neg x])
      refine ⟨by unfold cm_i; omega, by unfold cm_i; omega, ⟨by omega, by omega⟩, qI_mk ⟨rfl, ?_⟩⟩
      rw [if_pos hk']
      have := hP.2.2.2.1 g.toNat k.toNat (by omega) (by omega)
      rw [show ((g.toNat : Nat) : Int) = g by omega, show ((k.toNat : Nat) : Int) = k by omega] at this
      exact this
    · by_cases q : 0 ≤ k ∧ k < n
      · rw [if_pos q] at b3; omega
      · rw [if_neg q]
theorem c_about (h : wI D T nt n L K B tp rf sh mb z I) (g what : Int) : mI (d + 3) m_Works_about [vR 11 1, vI g, vI what] z I fun r I1 => I1 = I ∧ r = aAbout D.toNat n L g what := by
  obtain ⟨hD, hz, hg, hs, pm, y6, y7, hS, hM, hE⟩ := wI_get h
  obtain ⟨_, e0, e1, nt4, m3, m4, G, m6, hP⟩ := id hM
  have n48 := G.2.1
  unfold aAbout
  refine wr_Works_about hz y7 pm (mI_mono (c_isMember (d := d + 1) hz y7 pm hP.2.2.1 g) fun r I1 ⟨a, b⟩ => ?_)
  rw [a, e0]
  refine ⟨fun w => ?_, fun w => qI_mk ⟨rfl, ?_⟩⟩
  · have hg' : 0 ≤ g ∧ g < n := Classical.byContradiction fun x => w (by rw [b, if_neg x])
    have eg : ((g.toNat : Nat) : Int) = g := by omega
    have eL := m3 g.toNat (by omega)
    rw [eg] at eL
    rw [if_pos hg']
    refine ⟨fun w0 => ⟨⟨by omega, by omega⟩, qI_mk ⟨rfl, ?_⟩⟩, fun w0 => ⟨fun w1 => ⟨⟨by omega, by omega⟩, qI_mk ⟨rfl, ?_⟩⟩, fun w1 => ⟨fun w2 => ⟨by unfold cm_i; omega, ?_⟩, fun w2 => ⟨fun w3 => ?_, fun w3 => qI_mk ⟨rfl, by rw [if_neg w0, if_neg w1, if_neg w2, if_neg w3]⟩⟩⟩⟩⟩
    · rw [if_pos w0]
      have := hP.2.2.2.2.1 g.toNat (by omega)
      rw [eg] at this
      exact this
    · rw [if_neg w0, if_pos w1]
      have := hP.2.2.2.2.2 g.toNat (by omega)
      rw [eg] at this
      exact this
    · have l2 : z.2.1 (mb + 2) = 432 := by
        have pm' : mb = 29 ∨ mb = 39 := pm
        rcases pm' with e | e
        · rw [e]; exact wz_L hz 31 432 (by decide) (by decide)
        · rw [e]; exact wz_L hz 41 432 (by decide) (by decide)
      refine mI_mono (t_determinant (d := d) hz (a := mb + 2) (by omega) (g := g) (by omega) (by omega) (by rw [l2]; omega) m4 hD) fun r2 I2 ⟨a2, b2⟩ => qI_mk ⟨a2, ?_⟩
      rw [if_neg w0, if_neg w1, if_pos w2, b2, eL]
    · refine mI_mono (t_trace (d := d + 1) hz pm hD e0 m4 (g := g) (by omega) (by omega)) fun r2 I2 ⟨a2, b2⟩ => qI_mk ⟨a2, ?_⟩
      rw [if_neg w0, if_neg w1, if_neg w2, if_pos w3, b2, eL]
  · by_cases q : 0 ≤ g ∧ g < n
    · rw [if_pos q] at b; omega
    · rw [if_neg q]
theorem c_series (h : wI D T nt n L K B tp rf sh mb z I) (t : Int) : mI (d + 2) m_Works_series [vR 11 1, vI t] z I fun r I1 => I1 = I ∧ r = if 0 ≤ t ∧ t ≤ 15 then (bsRows D T nt t : Int) else -1 := by
  obtain ⟨hD, hz, hg, hs, pm, y6, y7, hS, hM, hE⟩ := wI_get h
  refine wr_Works_series hz (mI_mono (t_isPower (d := d) hz t) fun r I1 ⟨a, b⟩ => ?_)
  rw [a]
  refine ⟨fun w => qI_mk ⟨rfl, ?_⟩, fun w => ?_⟩
  · by_cases q : 0 ≤ t ∧ t ≤ 15
    · rw [if_pos q] at b; omega
    · rw [if_neg q]
  · have ht : 0 ≤ t ∧ t ≤ 15 := Classical.byContradiction fun x => w (by rw [b, if_neg x])
    refine ⟨⟨by omega, by omega⟩, qI_mk ⟨rfl, ?_⟩⟩
    rw [if_pos ht]
    have := (bsE_bs h.1.1 (t := t.toNat) (by omega)).2
    rw [show ((t.toNat : Nat) : Int) = t by omega] at this
    exact this
/-- how many are rewritten, as the class tells it -/
noncomputable def cTold (D : Int) (T : Nat → cMat) (nt n : Nat) (rf : Option (Int → Int)) : Int := match rf with
  | none => -1
  | some f => match pmRes D T nt n with
    | none => -1
    | some q => ((pmF D T nt q f).length : Int)
theorem told_eq (h : wI D T nt n L K B tp rf sh mb z I) : I 198 7 = cTold D T nt n rf ∧ (rf = none ↔ I 198 7 < 0) := by
  unfold cTold
  rcases h.2.2.2.2.2.2 with ⟨a, _, _, b, _⟩ | ⟨q, k, a, _, _, _, c, _⟩
  · rw [a, b]
    exact ⟨rfl, fun _ => by decide, fun _ => rfl⟩
  · rcases c with ⟨c1, c2⟩ | ⟨f, c1, _, _, c4, _⟩
    · rw [c1, c2]
      exact ⟨rfl, fun _ => by decide, fun _ => rfl⟩
    · rw [c1, c4, a]
      exact ⟨rfl, fun e => absurd e (by simp), fun e => by omega⟩
theorem c_count (h : wI D T nt n L K B tp rf sh mb z I) (what : Int) : mI (d + 1) m_Works_count [vR 11 1, vI what] z I fun r I1 => I1 = I ∧ r = if what = 0 then tp else if what = 1 then cTold D T nt n rf else -1 := by
  obtain ⟨hD, hz, hg, hs, pm, y6, y7, hS, hM, hE⟩ := wI_get h
  obtain ⟨t1, t2⟩ := told_eq h
  have e1 : I 1 1 = tp := h.2.2.2.2.2.1.2.2.1.1
  refine wr_Works_count hz ⟨fun w0 => ⟨fun w1 => qI_mk ⟨rfl, by rw [if_neg w0, if_neg w1]⟩, fun w1 => ⟨fun w2 => qI_mk ⟨rfl, ?_⟩, fun w2 => qI_mk ⟨rfl, by rw [if_neg w0, if_pos w1]; exact t1⟩⟩⟩, fun w0 => qI_mk ⟨rfl, by rw [if_pos w0]; exact e1⟩⟩
  rw [if_neg w0, if_pos w1, t2.mpr w2]
  rfl
theorem c_factor (h : wI D T nt n L K B tp rf sh mb z I) (k a b c : Int) : mI (d + 2) m_Works_factor [vR 11 1, vI k, vI a, vI b, vI c] z I fun r I1 => I1 = I ∧ r = aFactor D K k a b c := by
  obtain ⟨hD, hz, hg, hs, pm, y6, y7, hS, hM, hE⟩ := wI_get h
  have eD : I sh 0 = D := hS.2.1
  unfold aFactor
  have no : ¬ ((0 ≤ k ∧ k ≤ 5) ∧ (0 ≤ a ∧ a ≤ 15) ∧ (0 ≤ b ∧ b ≤ 15) ∧ (0 ≤ c ∧ c ≤ (if D = 2 then 0 else 15))) → qI z (fun r I1 => I1 = I ∧ r = if (0 ≤ k ∧ k ≤ 5) ∧ (0 ≤ a ∧ a ≤ 15) ∧ (0 ≤ b ∧ b ≤ 15) ∧ (0 ≤ c ∧ c ≤ (if D = 2 then 0 else 15)) then (if 15 < a + b + c then 0 else K k (mAt D a b c)) else -1) (some (vI (-1))) (I, z) := fun hn => qI_mk ⟨rfl, by rw [if_neg hn]⟩
  refine wr_Works_factor hz y6 hs (mI_mono (t_isKept (d := d) hz k) fun r I1 ⟨e1, b1⟩ => ?_)
  rw [e1]
  refine ⟨fun w => no fun q => by rw [if_pos q.1] at b1; omega, fun w => mI_mono (t_isPower (d := d) hz a) fun r2 I2 ⟨e2, b2⟩ => ?_⟩
  have hk : 0 ≤ k ∧ k ≤ 5 := Classical.byContradiction fun x => w (by rw [b1, if_neg x])
  rw [e2]
  refine ⟨fun w => no fun q => by rw [if_pos q.2.1] at b2; omega, fun w => mI_mono (t_isPower (d := d) hz b) fun r3 I3 ⟨e3, b3⟩ => ?_⟩
  have ha : 0 ≤ a ∧ a ≤ 15 := Classical.byContradiction fun x => w (by rw [b2, if_neg x])
  rw [e3]
  refine ⟨fun w => no fun q => by rw [if_pos q.2.2.1] at b3; omega, fun w => mI_mono (t_isPower (d := d) hz c) fun r4 I4 ⟨e4, b4⟩ => ?_⟩
  have hb : 0 ≤ b ∧ b ≤ 15 := Classical.byContradiction fun x => w (by rw [b3, if_neg x])
  rw [e4, eD]
  refine ⟨fun w => ?_, fun w => no fun q => by
    have := q.2.2.2
    rw [if_pos (by constructor; exact this.1; have h2 := this.2; split at h2 <;> omega)] at b4
    omega⟩
  have hc : 0 ≤ c ∧ c ≤ 15 := Classical.byContradiction fun x => w (by rw [b4, if_neg x])
  have l49 : (D = 2 → c = 0) → cw (d + 1) cd_Works_factor (qI z (fun r I1 => I1 = I ∧ r = if (0 ≤ k ∧ k ≤ 5) ∧ (0 ≤ a ∧ a ≤ 15) ∧ (0 ≤ b ∧ b ≤ 15) ∧ (0 ≤ c ∧ c ≤ (if D = 2 then 0 else 15)) then (if 15 < a + b + c then 0 else K k (mAt D a b c)) else -1)) 49 [some (vR 11 1), some (vI k), some (vI a), some (vI b), some (vI c), none] [] (I, z) := by
    intro hc2
    have all : (0 ≤ k ∧ k ≤ 5) ∧ (0 ≤ a ∧ a ≤ 15) ∧ (0 ≤ b ∧ b ≤ 15) ∧ (0 ≤ c ∧ c ≤ (if D = 2 then 0 else 15)) := ⟨hk, ha, hb, hc.1, by
      by_cases e : D = 2
      · rw [if_pos e, hc2 e]; exact Int.le_refl 0
      · rw [if_neg e]; exact hc.2⟩
    refine wr_Works_factor_49 hz y6 hs ⟨by unfold cm_i; omega, by unfold cm_i; omega, fun le => ?_, fun gt => qI_mk ⟨rfl, by rw [if_pos all, if_pos gt]⟩⟩
    have s1 : I (sh + 1) (b + c) = fF D (b + c) := hS.2.2.2.1 _ (by omega) (by omega)
    have s2 : I (sh + 2) (a + b + c) = mFrom D (a + b + c) := hS.2.2.2.2.1 _ (by omega) (by omega)
    have at_ : mAt D a b c = mFrom D (a + b + c) + fF D (b + c) + c := by
      unfold mAt fF
      rcases hD with e | e
      · rw [e]
        unfold mMany
        have := hc2 e
        simp
        omega
      · rw [e]
        unfold mMany
        rw [if_neg (by decide), if_neg (by decide), show b + c - 1 + 1 = b + c by omega, show b + c - 1 + 2 = b + c + 1 by omega]
        omega
    obtain ⟨f1, f2, f3, f4, f5, f6⟩ := from_bds hD (t := a + b + c) (by omega) le
    have ME := mAt_E hD (a := a) (b := b) (c := c) ha.1 hb.1 hc.1 (by omega) hc2
    have pl := sv_ix hD (a := a.toNat) (b := b.toNat) (c := c.toNat) (t := (a + b + c).toNat) (by omega) (by omega) (fun e => by have := hc2 e; omega)
    rw [show ((a.toNat : Nat) : Int) = a by omega, show ((b.toNat : Nat) : Int) = b by omega, show ((c.toNat : Nat) : Int) = c by omega, show (((a + b + c).toNat : Nat) : Int) = a + b + c by omega] at pl
    have fb := fF_bd hD (s := b + c) (by omega) (by omega)
    rw [s1, s2]
    refine ⟨⟨hk.1, by omega⟩, ⟨by omega, by omega⟩, by unfold cm_i; omega, ⟨by omega, by omega⟩, by unfold cm_i; omega, by unfold cm_i; omega, ⟨by omega, by omega⟩, qI_mk ⟨rfl, ?_⟩⟩
    rw [if_pos all, if_neg (by omega), ← at_]
    have c16 := mFrom_mono D (s := a + b + c + 1) (t := 16) (by omega) (by omega)
    exact (h.2.2.2.2.1 k hk.1 (by omega)).1 _ (by omega) (by omega)
  refine ⟨fun w0 => l49 fun _ => by omega, fun w0 => ⟨fun w3 => l49 fun e => by omega, fun w3 => no fun q => ?_⟩⟩
  have := q.2.2.2.2
  rw [if_pos (by omega)] at this
  omega
end WC1
