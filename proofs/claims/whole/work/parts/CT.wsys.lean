/-! the call isSystem of the class -/
section WC4
variable {d : Nat} {z z1 : cm_Z} {I I1 : cm_I} {D : Int} {sh mb : Nat} {T : Nat → cMat} {nt n : Nat} {L : Nat → cMat} {K K' : Int → Int → Int} {B : Int → Int} {tp : Int} {rf : Option (Int → Int)}
theorem c_canBe (h : wI D T nt n L K B tp rf sh mb z I) {k : Int} (hk : 0 ≤ k ∧ k ≤ 5) : zcI (d + 10) m_Works_canBeOfSystem [vR 11 1, vI k] z I fun r I1 z1 => wI D T nt n L K B tp rf sh mb z1 I1 ∧ usW z z1 ∧ (r = 0 ∨ r = 1) ∧ (r = 1 ↔ canBe D T nt (K k)) := by
  obtain ⟨hD, hz, hg, hs, pm, y6, y7, hS, hM, hE⟩ := wI_get h
  obtain ⟨m0, m1⟩ := m816 hD
  have l816 : mFrom D 16 ≤ z.2.1 (4 + k.toNat) := by rw [kept_len hz hk.1 (by omega)]; exact m1
  obtain ⟨kr, kv⟩ := h.2.2.2.2.1 k hk.1 (by omega)
  unfold canBe
  refine wr_Works_canBeOfSystem hz y6 ⟨⟨hk.1, by omega⟩, mI_mono (t_degreeOf (d := d + 8) hz hS (by omega) l816 kr kv) fun r2 I2 ⟨a2, b2⟩ => ?_⟩
  rw [a2]
  refine ⟨fun w => kI_mk ⟨h, usW_refl z, Or.inl rfl, fun e => absurd e (by decide), fun e => by omega⟩, fun w => mI_mono (t_isOneDegree (d := d + 7) hz hS (by omega) l816 kr kv) fun r4 I4 ⟨a4, b4, c4⟩ => ?_⟩
  rw [a4]
  refine ⟨fun w2 => kI_mk ⟨h, usW_refl z, Or.inl rfl, fun e => absurd e (by decide), fun e => by have := c4.mpr e.2.1; omega⟩, fun w2 => zcI_mono (t_isLeftAlone (d := d) hE (f := 4 + k.toNat) (by omega) (nk_mvl hk.1 (by omega)) l816 kr kv) fun r6 I6 Z7 ⟨q1, q2, q3, q4, q5⟩ => ?_⟩
  obtain ⟨W6, U6⟩ := wI_mv h q1 q2 q3
  exact ⟨fun w3 => kI_mk ⟨W6, U6, Or.inl rfl, fun e => absurd e (by decide), fun e => by have := q5.mpr e.2.2; omega⟩, fun w3 => kI_mk ⟨W6, U6, Or.inr rfl, fun _ => ⟨by omega, c4.mp (by omega), q5.mp (by omega)⟩, fun _ => rfl⟩⟩
theorem pcO_keep {i : Nat} {P : Int → Int} {dg : Int} (h : pcO D z I i P dg) (e0 : z1.1 (192 + 2 * i) = z.1 (192 + 2 * i)) (eN : zN z1 = zN z) (e63 : z1.1 63 = z.1 63) (el : z1.2.1 = z.2.1) (ei : I1 (192 + 2 * i) = I (192 + 2 * i)) (eq : ∀ q, q ∉ [192, 194, 196] → I1 q = I q) (hq : z.1 (192 + 2 * i) 0 ∉ [192, 194, 196]) : pcO D z1 I1 i P dg := by
  obtain ⟨q, at_, p1, p2, p3, p4, p5, p6, p7, p8, p9, p10, p11, p12, p13⟩ := h
  rw [p1] at hq
  exact ⟨q, at_, by rw [e0]; exact p1, p2, by rw [eN]; exact p3, p4, by rw [e63]; exact p5, by rw [ei]; exact p6, by rw [ei]; exact p7, p8, p9, p10, p11, by rw [el]; exact p12, by rw [eq q hq]; exact p13⟩
/-- pieces that stand so far -/
def pcS (D : Int) (K : Int → Int → Int) (a b c : Int) (m : Nat) (z : cm_Z) (J : cm_I) : Prop := ∀ i : Nat, i < m → pcO D z J i (K (sel3 a b c i)) (mDeg D (K (sel3 a b c i)) 0) ∧ z.1 (192 + 2 * i) 0 ∉ [192, 194, 196]
theorem c_putFor (h : wI D T nt n L K B tp rf sh mb z I) {m : Nat} (m3 : m < 3) {a b c k : Int} (hk : 0 ≤ k ∧ k ≤ 5) (es : sel3 a b c m = k) (dk : 1 ≤ mDeg D (K k) 0) (hp : pcS D K a b c m z I) : zcU (d + 2) m_Works_putForSystem [vR 11 1, vI (m : Int), vI k] z I fun I1 z1 => wI D T nt n L K B tp rf sh mb z1 I1 ∧ usW z z1 ∧ pcS D K a b c (m + 1) z1 I1 := by
  obtain ⟨hD, hz, hg, hs, pm, y6, y7, hS, hM, hE⟩ := wI_get h
  obtain ⟨m0, m1⟩ := m816 hD
  have w6 : 248 ≤ zN z := hz.2.2.2.2.2
  have l816 : mFrom D 16 ≤ z.2.1 (4 + k.toNat) := by rw [kept_len hz hk.1 (by omega)]; exact m1
  obtain ⟨kr, kv⟩ := h.2.2.2.2.1 k hk.1 (by omega)
  have d15 := kv.2.2
  refine wr_Works_putForSystem hz y6 hs ⟨⟨hk.1, by omega⟩, mI_mono (t_degreeOf (d := d) hz hS (by omega) l816 kr kv) fun r2 I2 ⟨a2, b2⟩ => ?_⟩
  rw [a2, b2, hS.2.2.2.2.1 _ (by omega) (by omega), show Int.toNat (m : Int) = m by omega]
  refine ⟨⟨by omega, by omega⟩, ⟨by omega, by omega⟩, zcU_mono (t_put (d := d) hz (a := 192 + 2 * m) (q := 4 + k.toNat) (by omega) (mFrom D (mDeg D (K k) 0)) (mDeg D (K k) 0)) fun I6 Z7 ⟨s1, s2, s3, s4, s5⟩ => kU_mk ?_⟩
  have sub : ∀ x, x ∈ [192 + 2 * m] → x ∈ [192, 194, 196] := by
    have : m = 0 ∨ m = 1 ∨ m = 2 := by omega
    rcases this with e | e | e <;> (rw [e]; decide)
  have s1' := zf_mono s1 sub
  have n63 := gw_kM hg (k := 0) (by decide)
  have hO : mvO I6 := by
    have := hE.2.2.2.2.2.2.2.2.2.2
    unfold mvO at this ⊢
    rw [s3 54 (by simp; omega), s3 58 (by simp; omega), s3 59 (by simp; omega), s3 60 (by simp; omega)]
    exact this
  obtain ⟨W6, U6⟩ := wI_kM h (wz_zf hz s1' (by decide)) (gw_zf s1' gO_19 (by decide) hg) ⟨zg_mono (zg_zf s1') (by simp [kM]), us_zf s1' gO_19, fun k' hk' => Or.inl (gR_zf s1' (gO_19 k' hk')), fun x hx hn _ => s3 x (fun mm => nin_sub hn (l' := [192, 194, 196]) (by simp [kM]) (sub x mm))⟩ (s1'.1 53 (by decide)) hO (by
    rw [s1'.1 63 (by decide), s3 (z.1 63 2) (fun mm => nin_sub n63 (l' := [192, 194, 196]) (by simp [kM]) (sub _ mm))]
    exact h.1.1.2.2.2.2.2.2.1)
  refine ⟨W6, U6, fun i hi => ?_⟩
  by_cases e : i = m
  · rw [e, es]
    obtain ⟨c1, c2, c3, c4, c5, c6⟩ := from_bds hD (t := mDeg D (K k) 0) (by omega) (by omega)
    have c16 := mFrom_mono D (s := mDeg D (K k) 0 + 1) (t := 16) (by omega) (by omega)
    refine ⟨⟨4 + k.toNat, mFrom D (mDeg D (K k) 0), s2, by omega, by rw [zN, s1.2]; show _ < zN z; omega, by simp; omega, ?_, s4, s5, dk, d15, c1, by omega, ?_, fun j j0 j1 => ?_⟩, by rw [s2]; simp; omega⟩
    · rw [s1'.1 63 (by decide)]
      exact gw_64 hg (by omega) (by omega)
    · rw [s1.2, kept_len hz hk.1 (by omega), fF_many]; omega
    · rw [fF_many] at j1
      rw [s3 _ (by simp; omega)]
      exact ⟨kr _ (by omega) (by omega), kv.1 _⟩
  · obtain ⟨p1, p2⟩ := hp i (by omega)
    have ei : z.1 (192 + 2 * i) = Z7.1 (192 + 2 * i) := (s1.1 _ (by simp; omega)).symm
    exact ⟨pcO_keep p1 ei.symm (by rw [zN, zN, s1.2]) (s1'.1 63 (by decide)) (by rw [s1.2]) (s3 _ (by simp; omega)) (fun q hq => s3 q (fun mm => hq (sub q mm))) p2, by rw [← ei]; exact p2⟩
theorem c_isSystem (h : wI D T nt n L K B tp rf sh mb z I) (a b c : Int) : zcI (d + 11) m_Works_isSystem [vR 11 1, vI a, vI b, vI c] z I fun r I1 z1 => wI D T nt n L K B tp rf sh mb z1 I1 ∧ usW z z1 ∧ r = aSystem D T nt K a b c := by
  obtain ⟨hD, hz, hg, hs, pm, y6, y7, hS, hM, hE⟩ := wI_get h
  obtain ⟨m0, m1⟩ := m816 hD
  obtain ⟨Q, hQ⟩ : ∃ Q : cm_Q, Q = kI fun r I1 z1 => wI D T nt n L K B tp rf sh mb z1 I1 ∧ usW z z1 ∧ r = aSystem D T nt K a b c := ⟨_, rfl⟩
  have ans : ∀ (r : Int) (J : cm_I) (z' : cm_Z), wI D T nt n L K B tp rf sh mb z' J → usW z z' → r = aSystem D T nt K a b c → Q (some (vI r)) (J, z') := fun r J z' W U e => by rw [hQ]; exact kI_mk ⟨W, U, e⟩
  have fit : ∀ k, kFit k → 0 ≤ k ∧ k ≤ 5 := fun k hk => hk
  have bad : ∀ (J : cm_I), J = I → ¬ ((0 ≤ a ∧ a ≤ 5) ∧ (0 ≤ b ∧ b ≤ 5) ∧ (D = 3 → 0 ≤ c ∧ c ≤ 5)) → Q (some (vI (-1))) (J, z) := fun J e q => ans _ _ _ (by rw [e]; exact h) (usW_refl z) (by unfold aSystem; rw [if_neg q])
  obtain ⟨s0, hs0⟩ : ∃ s0 : Int, s0 = if D = 3 then 1 else 0 := ⟨_, rfl⟩
  have s01 : (s0 = 0 ↔ D = 2) ∧ (s0 = 0 ∨ s0 = 1) := by
    rw [hs0]
    rcases hD with e | e
    · rw [e]; decide
    · rw [e]; decide
  have sgv : sg D.toNat (fun i => mDeg D (K (sel3 a b c i)) 0) = mDeg D (K a) 0 + mDeg D (K b) 0 + (if D = 3 then mDeg D (K c) 0 else 0) := by
    rcases hD with e | e
    · rw [e]
      show 0 + mDeg 2 (K a) 0 + mDeg 2 (K b) 0 = _
      rw [if_neg (by decide)]; omega
    · rw [e]
      show 0 + mDeg 3 (K a) 0 + mDeg 3 (K b) 0 + mDeg 3 (K c) 0 = _
      rw [if_pos rfl]; omega
  -- the last step
  have l161 : ∀ (J : cm_I) (z' : cm_Z) (z1' z2 z3 z4 z5 : Option cm_V), (0 ≤ a ∧ a ≤ 5) ∧ (0 ≤ b ∧ b ≤ 5) ∧ (D = 3 → 0 ≤ c ∧ c ≤ 5) → sg D.toNat (fun i => mDeg D (K (sel3 a b c i)) 0) ≤ 18 → (∀ i : Nat, (i : Int) < D → canBe D T nt (K (sel3 a b c i))) → wI D T nt n L K B tp rf sh mb z' J → usW z z' → pcS D K a b c D.toNat z' J → cw (d + 10) cd_Works_isSystem Q 161 [some (vR 11 1), z1', z2, z3, z4, z5] [] (J, z') := by
    intro J z' z1' z2 z3 z4 z5 fits le cb W U hp
    obtain ⟨_, hz', hg', _, _, _, _, hS', _, hE'⟩ := wI_get W
    have dg1 : ∀ i : Nat, (i : Int) < D → 1 ≤ mDeg D (K (sel3 a b c i)) 0 := fun i hi => (cb i hi).1
    have sD : sDg D (fun i => mDeg D (K (sel3 a b c i)) 0) = 1 - D + sg D.toNat (fun i => mDeg D (K (sel3 a b c i)) 0) := rfl
    have hsB : (sDg D (fun i => mDeg D (K (sel3 a b c i)) 0) ≤ 16 ∨ (D = 2 ∧ sDg D (fun i => mDeg D (K (sel3 a b c i)) 0) ≤ 17)) ∧ ∀ i : Nat, (i : Int) < D → 0 ≤ sDg D (fun i => mDeg D (K (sel3 a b c i)) 0) - mDeg D (K (sel3 a b c i)) 0 ∧ sDg D (fun i => mDeg D (K (sel3 a b c i)) 0) - mDeg D (K (sel3 a b c i)) 0 ≤ 15 := by
      rw [sD]
      have e0 := dg1 0 (by omega)
      have e1 := dg1 1 (by omega)
      have a0 : sel3 a b c 0 = a := rfl
      have a1 : sel3 a b c 1 = b := rfl
      have a2 : sel3 a b c 2 = c := rfl
      rw [a0] at e0
      rw [a1] at e1
      rw [sgv] at le ⊢
      have ka := (W.2.2.2.2.1 a fits.1.1 (by omega)).2.2.2
      have kb := (W.2.2.2.2.1 b fits.2.1.1 (by omega)).2.2.2
      rcases hD with e | e
      · rw [if_neg (by omega)] at le ⊢
        refine ⟨Or.inr ⟨e, by omega⟩, fun i hi => ?_⟩
        have : i = 0 ∨ i = 1 := by omega
        rcases this with w | w
        · rw [w, a0]; omega
        · rw [w, a1]; omega
      · have e2 := dg1 2 (by omega)
        rw [a2] at e2
        rw [if_pos e] at le ⊢
        refine ⟨Or.inl (by omega), fun i hi => ?_⟩
        have : i = 0 ∨ i = 1 ∨ i = 2 := by omega
        rcases this with w | w | w
        · rw [w, a0]; omega
        · rw [w, a1]; omega
        · rw [w, a2]; omega
    refine wr_Works_isSystem_161 hz' (zcI_mono (t_isSpanning (d := d + 6) hz' hg' hS' W.1.2.1 W.1.1.2.2.2.2.2.2.1 (P := fun i => K (sel3 a b c i)) (dg := fun i => mDeg D (K (sel3 a b c i)) 0) (fun i hi => (hp i (by omega)).1) hsB.1 hsB.2) fun r I1 Z2 ⟨k1, k2, k3, k4, k5, k6, k7, k8, k9, k10, k11⟩ => ?_)
    have hO : mvO I1 := by
      have := hE'.2.2.2.2.2.2.2.2.2.2
      have w6 : 248 ≤ zN z' := hz'.2.2.2.2.2
      unfold mvO at this ⊢
      rw [k8 54 (by omega) (by decide) (gw_64 hg' (by decide) (by decide)), k8 58 (by omega) (by decide) (gw_64 hg' (by decide) (by decide)), k8 59 (by omega) (by decide) (gw_64 hg' (by decide) (by decide)), k8 60 (by omega) (by decide) (gw_64 hg' (by decide) (by decide))]
      exact this
    obtain ⟨W1, U1⟩ := wI_kM W k1 k2 ⟨zg_mono k3 (by simp [kM]), k6, fun k' hk' => by
      by_cases w : k' = 0
      · rw [w]
        rcases k11 with e | e
        · exact Or.inl e
        · exact Or.inr ⟨by simp, e⟩
      · exact Or.inl (k5 k' hk' w), fun x hx hn hq => k8 x hx (nin_sub hn (by simp [kM])) (hq 0 (by decide) (by simp))⟩ (k3.1 53 (by have : 248 ≤ zN z' := hz'.2.2.2.2.2; omega) (by decide)) hO k7
    have val : ∀ p : Prop, (p ↔ isAll D (fun i => K (sel3 a b c i)) fun i => mDeg D (K (sel3 a b c i)) 0) → aSystem D T nt K a b c = @ite Int p (Classical.propDecidable p) 1 0 := by
      intro p hp'
      unfold aSystem
      rw [if_pos fits, if_neg (by omega)]
      by_cases w : p
      · rw [if_pos ⟨cb, hp'.mp w⟩, if_pos w]
      · rw [if_neg fun x => w (hp'.mpr x.2), if_neg w]
    refine ⟨fun r0 => ans _ _ _ W1 (usW_trans U U1) ?_, fun r1 => ans _ _ _ W1 (usW_trans U U1) ?_⟩
    · rw [val (r = 1) k10, if_neg (by omega)]
    · rw [val (r = 1) k10, if_pos (by omega)]
  have l138 : ∀ (J : cm_I) (z' : cm_Z) (z5 : Option cm_V), (0 ≤ a ∧ a ≤ 5) ∧ (0 ≤ b ∧ b ≤ 5) ∧ (D = 3 → 0 ≤ c ∧ c ≤ 5) → sg D.toNat (fun i => mDeg D (K (sel3 a b c i)) 0) ≤ 18 → (∀ i : Nat, (i : Int) < D → canBe D T nt (K (sel3 a b c i))) → wI D T nt n L K B tp rf sh mb z' J → usW z z' → cw (d + 10) cd_Works_isSystem Q 138 [some (vR 11 1), some (vI a), some (vI b), some (vI c), some (vI s0), z5] [] (J, z') := by
    intro J z' z5 fits le cb W U
    have ca : canBe D T nt (K a) := cb 0 (by omega)
    have cbb : canBe D T nt (K b) := cb 1 (by omega)
    refine wr_Works_isSystem_138 (wI_get W).2.1 (zcU_mono (c_putFor (d := d + 8) W (m := 0) (a := a) (b := b) (c := c) (by decide) fits.1 rfl ca.1 fun i hi => by omega) fun I1 Z2 ⟨W1, U1, p1⟩ => zcU_mono (c_putFor (d := d + 8) W1 (m := 1) (a := a) (b := b) (c := c) (by decide) fits.2.1 rfl cbb.1 p1) fun I3 Z4 ⟨W3, U3, p3⟩ => ⟨fun w => l161 I3 Z4 _ _ _ _ _ fits le cb W3 (usW_trans U (usW_trans U1 U3)) (by rw [show D.toNat = 1 + 1 by have := s01.1.mp w; omega]; exact p3), fun w => ?_⟩)
    have D3 : D = 3 := by rcases hD with e | e; exact absurd (s01.1.mpr e) w; exact e
    have cc : canBe D T nt (K c) := cb 2 (by omega)
    exact zcU_mono (c_putFor (d := d + 8) W3 (m := 2) (a := a) (b := b) (c := c) (by decide) (fits.2.2 D3) rfl cc.1 p3) fun I5 Z6 ⟨W5, U5, p5⟩ => l161 I5 Z6 _ _ _ _ _ fits le cb W5 (usW_trans U (usW_trans U1 (usW_trans U3 U5))) (by rw [show D.toNat = 2 + 1 by omega]; exact p5)
  have l68 : ∀ (z5 : Option cm_V) (x : Int), (0 ≤ a ∧ a ≤ 5) ∧ (0 ≤ b ∧ b ≤ 5) ∧ (D = 3 → 0 ≤ c ∧ c ≤ 5) → (x = if D = 3 then mDeg D (K c) 0 else 0) → cw (d + 10) cd_Works_isSystem Q 68 [some (vR 11 1), some (vI a), some (vI b), some (vI c), some (vI s0), z5] [vI x] (I, z) := by
    intro z5 x fits ex
    obtain ⟨ar, av_⟩ := h.2.2.2.2.1 a fits.1.1 (by omega)
    obtain ⟨br, bv_⟩ := h.2.2.2.2.1 b fits.2.1.1 (by omega)
    have la : mFrom D 16 ≤ z.2.1 (4 + a.toNat) := by rw [kept_len hz fits.1.1 (by omega)]; exact m1
    have lb : mFrom D 16 ≤ z.2.1 (4 + b.toNat) := by rw [kept_len hz fits.2.1.1 (by omega)]; exact m1
    have xb : 0 ≤ x ∧ x ≤ 17 := by
      rw [ex]
      have := mDeg_bd hD (K c) 0
      split <;> omega
    refine wr_Works_isSystem_68 hz y6 ⟨⟨fits.1.1, by omega⟩, mI_mono (t_degreeOf (d := d + 9) hz hS (by omega) la ar av_) fun r3 I2 ⟨e2, b2⟩ => ?_⟩
    rw [e2, b2]
    refine ⟨⟨fits.2.1.1, by omega⟩, mI_mono (t_degreeOf (d := d + 9) hz hS (by omega) lb br bv_) fun r6 I5 ⟨e5, b5⟩ => ?_⟩
    rw [e5, b5]
    have da := mDeg_bd hD (K a) 0
    have db := mDeg_bd hD (K b) 0
    have esum : sg D.toNat (fun i => mDeg D (K (sel3 a b c i)) 0) = mDeg D (K a) 0 + mDeg D (K b) 0 + x := by rw [sgv, ex]
    refine ⟨by unfold cm_i; omega, by unfold cm_i; omega, fun le => ?_, fun gt => ans _ _ _ h (usW_refl z) (by unfold aSystem; rw [if_pos fits, if_pos (by omega)])⟩
    have zero : ∀ (i : Nat) (J : cm_I) (z' : cm_Z), (i : Int) < D → ¬ canBe D T nt (K (sel3 a b c i)) → wI D T nt n L K B tp rf sh mb z' J → usW z z' → Q (some (vI 0)) (J, z') := fun i J z' hi nc W U => ans _ _ _ W U (by unfold aSystem; rw [if_pos fits, if_neg (by omega), if_neg fun q => nc (q.1 i hi)])
    refine zcI_mono (c_canBe (d := d) h fits.1) fun r9 I9 Z10 ⟨W9, U9, r9b, r9i⟩ => ⟨fun w => zero 0 I9 Z10 (by omega) (fun q => by have := r9i.mpr q; omega) W9 U9, fun w => zcI_mono (c_canBe (d := d) W9 fits.2.1) fun r12 I12 Z13 ⟨W12, U12, r12b, r12i⟩ => ⟨fun w2 => zero 1 I12 Z13 (by omega) (fun q => by have := r12i.mpr q; omega) W12 (usW_trans U9 U12), fun w2 => ⟨fun w3 => l138 I12 Z13 _ fits (by omega) (fun i hi => ?_) W12 (usW_trans U9 U12), fun w3 => ?_⟩⟩⟩
    · have D2 := s01.1.mp w3
      have : i = 0 ∨ i = 1 := by omega
      rcases this with e | e
      · rw [e]; exact r9i.mp (by omega)
      · rw [e]; exact r12i.mp (by omega)
    · have D3 : D = 3 := by rcases hD with e | e; exact absurd (s01.1.mpr e) w3; exact e
      refine zcI_mono (c_canBe (d := d) W12 (fits.2.2 D3)) fun r15 I15 Z16 ⟨W15, U15, r15b, r15i⟩ => ⟨fun w4 => l138 I15 Z16 _ fits (by omega) (fun i hi => ?_) W15 (usW_trans U9 (usW_trans U12 U15)), fun w4 => zero 2 I15 Z16 (by omega) (fun q => by have := r15i.mpr q; omega) W15 (usW_trans U9 (usW_trans U12 U15))⟩
      have : i = 0 ∨ i = 1 ∨ i = 2 := by omega
      rcases this with e | e | e
      · rw [e]; exact r9i.mp (by omega)
      · rw [e]; exact r12i.mp (by omega)
      · rw [e]; exact r15i.mp (by omega)
  have l46 : ∀ z5 : Option cm_V, (0 ≤ a ∧ a ≤ 5) ∧ (0 ≤ b ∧ b ≤ 5) ∧ (D = 3 → 0 ≤ c ∧ c ≤ 5) → cw (d + 10) cd_Works_isSystem Q 46 [some (vR 11 1), some (vI a), some (vI b), some (vI c), some (vI s0), z5] [] (I, z) := by
    intro z5 fits
    refine wr_Works_isSystem_46 hz y6 ⟨fun w => l68 _ 0 fits (by rw [if_neg (by have := s01.1.mp w; omega)]), fun w => ?_⟩
    have D3 : D = 3 := by rcases hD with e | e; exact absurd (s01.1.mpr e) w; exact e
    have fc := fits.2.2 D3
    obtain ⟨cr, cv_⟩ := h.2.2.2.2.1 c fc.1 (by omega)
    refine ⟨⟨fc.1, by omega⟩, mI_mono (t_degreeOf (d := d + 9) hz hS (by omega) (by rw [kept_len hz fc.1 (by omega)]; exact m1) cr cv_) fun r3 I2 ⟨e2, b2⟩ => ?_⟩
    rw [e2, b2]
    exact l68 _ _ fits (by rw [if_pos D3])
  have l16 : ∀ z4 z5 : Option cm_V, cw (d + 10) cd_Works_isSystem Q 16 [some (vR 11 1), some (vI a), some (vI b), some (vI c), z4, z5] [vI s0] (I, z) := by
    intro z4 z5
    refine wr_Works_isSystem_16 hz (mI_mono (t_isKept (d := d + 9) hz a) fun r I1 ⟨e1, b1⟩ => ?_)
    rw [e1]
    refine ⟨fun w => bad I rfl fun q => by rw [if_pos q.1] at b1; omega, fun w => mI_mono (t_isKept (d := d + 9) hz b) fun r2 I2 ⟨e2, b2⟩ => ?_⟩
    have ha : kFit a := Classical.byContradiction fun x => w (by rw [b1, if_neg x])
    rw [e2]
    refine ⟨fun w => bad I rfl fun q => by rw [if_pos q.2.1] at b2; omega, fun w => ⟨fun w0 => l46 _ ⟨ha, ?_, fun e => ?_⟩, fun w0 => mI_mono (t_isKept (d := d + 9) hz c) fun r3 I3 ⟨e3, b3⟩ => ?_⟩⟩
    · exact Classical.byContradiction fun x => w (by rw [b2]; exact if_neg x)
    · have := s01.1.mp w0; omega
    · have hb : kFit b := Classical.byContradiction fun x => w (by rw [b2, if_neg x])
      have D3 : D = 3 := by rcases hD with e | e; exact absurd (s01.1.mpr e) w0; exact e
      rw [e3]
      exact ⟨fun w1 => l46 _ ⟨ha, hb, fun _ => Classical.byContradiction fun x => w1 (by rw [b3]; exact if_neg x)⟩, fun w1 => bad I rfl fun q => by rw [show (if kFit c then (1 : Int) else 0) = 1 from if_pos (q.2.2 D3)] at b3; omega⟩
  show cm_call (d + 11) m_Works_isSystem _ (I, z) (kI fun r I1 z1 => wI D T nt n L K B tp rf sh mb z1 I1 ∧ usW z z1 ∧ r = aSystem D T nt K a b c)
  rw [← hQ]
  refine wr_Works_isSystem hz y6 hs ?_
  rw [hS.2.1]
  exact ⟨fun w => by have := l16 none none; rw [hs0, if_neg w] at this; rw [if_neg w] at hs0; exact this, fun w => by have := l16 none none; rw [hs0, if_pos w] at this; exact this⟩
end WC4
