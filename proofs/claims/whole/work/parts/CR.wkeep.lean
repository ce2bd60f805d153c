/-! the calls of, moved, plus, product of the class -/
section WC2
variable {d : Nat} {z z1 : cm_Z} {I I1 : cm_I} {D : Int} {sh mb : Nat} {T : Nat → cMat} {nt n : Nat} {L : Nat → cMat} {K K' : Int → Int → Int} {B : Int → Int} {tp : Int} {rf : Option (Int → Int)}
def k9 : List Nat := [4, 5, 6, 7, 8, 9, 10]
/-- kept rows are changed -/
theorem wI_k9 (h : wI D T nt n L K B tp rf sh mb z I) (hf : fr k9 I I1) (hK : kpW D K' I1) : wI D T nt n L K' B tp rf sh mb z I1 := by
  obtain ⟨⟨hB, y2, e3, alt⟩, y, hT, hZ, _, hw0, hR⟩ := h
  have hg := hB.2.1
  have fx : ∀ x, (x < 4 ∨ 10 < x) → I1 x = I x := fun x hx => hf x (by simp [k9]; omega)
  have gr : ∀ k, k < 97 → 10 < gR z k := fun k hk => by
    have := gI_fix k hk
    rcases (hg.2.1 k hk).1 with e | e <;> omega
  have row : ∀ t j, t < 16 → j < 6 → gG z t j = gG z t j ∧ z.2.1 (gG z t j) = z.2.1 (gG z t j) ∧ I1 (gG z t j) = I (gG z t j) := fun t j ht hj => ⟨rfl, rfl, fx _ (Or.inr (gr (1 + 6 * t + j) (by omega)))⟩
  have ob : ∀ t, t < 16 → I1 (73 + 7 * t) = I (73 + 7 * t) := fun t ht => fx _ (by omega)
  have hs := hB.1.2.1
  have hsh : sh = 11 ∨ sh = 20 := shOk_sh hs
  have S1 : shOk D sh I1 := shOk_fr hs (fx _ (by omega)) (fx _ (by omega)) (fx _ (by omega)) (fx _ (by omega)) (fx _ (by omega))
  have O1 : mvO I1 := by
    have := hB.1.2.2.2.2.2.2.2.2.2.2
    unfold mvO at this ⊢
    rw [fx 54 (by decide), fx 58 (by decide), fx 59 (by decide), fx 60 (by decide)]
    exact this
  have q0 : I1 (z.1 63 2) = I (z.1 63 2) := fx _ (Or.inr (gr 0 (by decide)))
  have E1 : bsE D sh mb T nt n L z I1 := bsE_fr3 hB hB.1.1 hg S1 (fun x h1 h2 => fx x (by omega)) O1 rfl rfl rfl (fun t j ht hj => row t j ht (by omega)) (by rw [q0]; exact hB.2.2.2.2.2.2.1) (fx 67 (by decide)) (fx 69 (by decide)) fun t ht j _ _ => by rw [ob t ht]
  have V1 : smV z I1 := by
    rcases hw0.2.2.2.2.2.1 with v | ⟨v1, v2, v3, v4, v5, v6⟩
    · exact Or.inl v
    · exact Or.inr ⟨v1, v2, v3, v4, v5, fun i hi => by rw [fx _ (by omega)]; exact v6 i hi⟩
  refine ⟨⟨E1, y2, by rw [fx 185 (by decide)]; exact e3, ?_⟩, y, fun t ht => by rw [(row t 4 ht (by decide)).2.2]; exact hT t ht, hZ, hK, wB_fr hw0 V1 rfl fun x h1 h2 => fx x (by simp at h2; omega), rwZ_fr hR E1 rfl (fun x hx => fx x (by simp at hx; omega)) row ob⟩
  unfold pmK at alt ⊢
  rw [fx 185 (by decide), fx 190 (by decide), fx 191 (by decide)]
  rcases alt with w | ⟨w1, w2⟩
  · exact Or.inl w
  · refine Or.inr ⟨w1, ?_⟩
    rcases w2 with w2 | ⟨q, q1, q2, q3, q4, q5⟩
    · exact Or.inl w2
    · exact Or.inr ⟨q, q1, q2, q3, q4, fun t h1 h2 => by rw [ob t (by omega)]; exact q5 t h1 h2⟩
theorem kept_len (hz : wz z) {i : Int} (i0 : 0 ≤ i) (i1 : i < 6) : z.2.1 (4 + i.toNat) = 816 := (hz.2.2.1 i i0 i1).2
theorem m816 (hD : D = 2 ∨ D = 3) : 0 ≤ mFrom D 16 ∧ mFrom D 16 ≤ 816 := by
  have a := (from_bds hD (t := 15) (by decide) (by decide)).2.2.1
  have b := (mFrom_bd D (t := 16) (by decide) (by decide)).1
  exact ⟨b, a⟩
theorem c_keepFresh (h : wI D T nt n L K B tp rf sh mb z I) {to : Int} (ht : kFit to) {w : Int → Int} (hw : wRow D (I 10) w) (ow : vOk D w) : mI (d + 2) m_Works_keepFresh [vR 11 1, vI to] z I fun r I1 => wI D T nt n L (kSet K to w) B tp rf sh mb z I1 ∧ r = vTerms w := by
  obtain ⟨hD, hz, hg, hs, pm, y6, y7, hS, hM, hE⟩ := wI_get h
  have e1 : I sh 1 = mFrom D 16 := hS.2.2.1
  obtain ⟨m0, m1⟩ := m816 hD
  have ht' : 0 ≤ to ∧ to ≤ 5 := ht
  refine wr_Works_keepFresh hz y6 hs ?_
  rw [e1]
  refine ⟨⟨ht'.1, by omega⟩, ⟨by decide, by decide, m0, by omega, by omega⟩, fun I3 e3 => ?_⟩
  obtain ⟨f3, g3⟩ := fr_eq_iw e3
  have i10 : I3 10 = I 10 := f3 10 (by simp; omega)
  have hK3 : kpW D (kSet K to w) I3 := by
    intro i i0 i1
    unfold kSet
    by_cases e : i = to
    · rw [if_pos e, e, g3]
      refine ⟨fun k k0 k1 => ?_, ow⟩
      show (if 0 ≤ k ∧ k < 0 + mFrom D 16 then I 10 (0 + (k - 0)) else _) = _
      rw [if_pos ⟨k0, by omega⟩, show (0 : Int) + (k - 0) = k by omega]
      exact hw k k0 k1
    · rw [if_neg e, f3 _ (by simp; omega)]
      exact h.2.2.2.2.1 i i0 i1
  have W3 := wI_k9 h (fr_mono f3 (by simp [k9]; omega)) hK3
  have S3 := (wI_get W3).2.2.2.2.2.2.2.1
  refine mI_mono (t_termsOf (d := d) hz S3 (a := 10) (by decide) (by rw [wz_L hz 10 816 rfl (by decide)]; exact m1) (v := w) (by rw [i10]; exact hw) ow) fun r I4 ⟨a, b⟩ => qI_mk ⟨by rw [a]; exact W3, b⟩
theorem no_61 : ∀ k, k < 97 → gO k ∉ [61] := by decide
/-- the mover worked -/
theorem wI_mv (h : wI D T nt n L K B tp rf sh mb z I) (h1 : zf [61] z z1) (h2 : fr mvl I I1) (h3 : mvE D sh mb T nt n L z1 I1) : wI D T nt n L K B tp rf sh mb z1 I1 ∧ usW z z1 := by
  have hg := h.1.1.2.1
  have e63 : z1.1 63 = z.1 63 := h1.1 63 (by decide)
  refine wI_kM h h3.1 (gw_zf h1 no_61 (by decide) hg) ⟨zg_mono (zg_zf h1) (by simp [kM]), us_zf h1 no_61, fun k hk => Or.inl (gR_zf h1 (no_61 k hk)), fun c hc hn _ => h2 c (nin_sub hn (by simp [mvl, kM]))⟩ (h1.1 53 (by decide)) h3.2.2.2.2.2.2.2.2.2.2 ?_
  rw [e63, h2 (z.1 63 2) (nin_sub (gw_kM hg (k := 0) (by decide)) (by simp [mvl, kM]))]
  exact h.1.1.2.2.2.2.2.2.1
theorem nk_mvl {i : Int} (i0 : 0 ≤ i) (i1 : i < 6) : 4 + i.toNat ∉ mvl := by simp [mvl]; omega
theorem c_of (h : wI D T nt n L K B tp rf sh mb z I) (k what : Int) : zcI (d + 10) m_Works_of [vR 11 1, vI k, vI what] z I fun r I1 z1 => wI D T nt n L K B tp rf sh mb z1 I1 ∧ usW z z1 ∧ r = aOf D T nt n L K k what := by
  obtain ⟨hD, hz, hg, hs, pm, y6, y7, hS, hM, hE⟩ := wI_get h
  obtain ⟨m0, m1⟩ := m816 hD
  unfold aOf
  refine wr_Works_of hz y6 (mI_mono (t_isKept (d := d + 8) hz k) fun r I1 ⟨a, b⟩ => ?_)
  rw [a]
  refine And.symm ⟨fun w => kI_mk ⟨h, usW_refl z, ?_⟩, fun w => ?_⟩
  · by_cases q : 0 ≤ k ∧ k ≤ 5
    · rw [show (if kFit k then (1 : Int) else 0) = 1 from if_pos q] at b; omega
    · rw [if_neg q]
  · have hk : 0 ≤ k ∧ k ≤ 5 := Classical.byContradiction fun x => w (by rw [b]; exact if_neg x)
    have l816 : mFrom D 16 ≤ z.2.1 (4 + k.toNat) := by rw [kept_len hz hk.1 (by omega)]; exact m1
    obtain ⟨kr, kv⟩ := h.2.2.2.2.1 k hk.1 (by omega)
    have kk : 0 ≤ k ∧ k < 6 := ⟨hk.1, by omega⟩
    rw [if_pos hk]
    refine ⟨fun w0 => ⟨kk, mI_mono (t_degreeOf (d := d + 8) hz hS (by omega) l816 kr kv) fun r2 I2 ⟨a2, b2⟩ => kI_mk ⟨by rw [a2]; exact h, usW_refl z, by rw [if_pos w0]; exact b2⟩⟩, fun w0 => ⟨fun w1 => ⟨kk, mI_mono (t_termsOf (d := d + 8) hz hS (by omega) l816 kr kv) fun r2 I2 ⟨a2, b2⟩ => kI_mk ⟨by rw [a2]; exact h, usW_refl z, by rw [if_neg w0, if_pos w1]; exact b2⟩⟩, fun w1 => ⟨fun w2 => ⟨kk, zcI_mono (t_isLeftAlone (d := d) hE (f := 4 + k.toNat) (by omega) (nk_mvl hk.1 (by omega)) l816 kr kv) fun r2 I2 Z2 ⟨q1, q2, q3, q4, q5⟩ => ?_⟩, fun w2 => ⟨fun w3 => ⟨kk, mI_mono (t_isOneDegree (d := d + 7) hz hS (by omega) l816 kr kv) fun r2 I2 ⟨a2, b2, c2⟩ => ⟨fun z0 => kI_mk ⟨by rw [a2]; exact h, usW_refl z, ?_⟩, fun z0 => kI_mk ⟨by rw [a2]; exact h, usW_refl z, ?_⟩⟩⟩, fun w3 => ⟨fun w4 => ⟨kk, zcI_mono (t_unlikeMoved (d := d) hE (f := 4 + k.toNat) (by omega) (nk_mvl hk.1 (by omega)) l816 kr kv) fun r2 I2 Z2 ⟨q1, q2, q3, q4⟩ => ?_⟩, fun w4 => kI_mk ⟨h, usW_refl z, by rw [if_neg w0, if_neg w1, if_neg w2, if_neg w3, if_neg w4]⟩⟩⟩⟩⟩⟩
    · obtain ⟨W2, U2⟩ := wI_mv h q1 q2 q3
      refine ⟨fun z0 => kI_mk ⟨W2, U2, ?_⟩, fun z0 => kI_mk ⟨W2, U2, ?_⟩⟩
      · rw [if_neg w0, if_neg w1, if_pos w2, if_neg fun x => by have := q5.mpr x; omega]
      · rw [if_neg w0, if_neg w1, if_pos w2, if_pos (q5.mp (by omega))]
    · rw [if_neg w0, if_neg w1, if_neg w2, if_pos w3, if_neg fun x => by have := c2.mpr x; omega]
    · rw [if_neg w0, if_neg w1, if_neg w2, if_pos w3, if_pos (c2.mp (by omega))]
    · obtain ⟨W2, U2⟩ := wI_mv h q1 q2 q3
      exact kI_mk ⟨W2, U2, by rw [if_neg w0, if_neg w1, if_neg w2, if_neg w3, if_pos w4]; exact q4⟩
/-- the answers that put a polynomial -/
def putA (D : Int) (T : Nat → cMat) (nt n : Nat) (L : Nat → cMat) (K : Int → Int → Int) (B : Int → Int) (tp : Int) (rf : Option (Int → Int)) (sh mb : Nat) (ok : Prop) (to : Int) (w : Int → Int) (no : Int) (z : cm_Z) (r : Int) (I1 : cm_I) (z1 : cm_Z) : Prop := usW z z1 ∧ ((ok ∧ wI D T nt n L (kSet K to w) B tp rf sh mb z1 I1 ∧ r = vTerms w) ∨ (¬ ok ∧ wI D T nt n L K B tp rf sh mb z1 I1 ∧ r = no))
theorem c_fill (h : wI D T nt n L K B tp rf sh mb z I) : mU (d + 1) m_Arr_fill [vR 20 10, vI 0] z I fun I1 => fr [10] I I1 ∧ wI D T nt n L K B tp rf sh mb z I1 ∧ ∀ k, 0 ≤ k → k < mFrom D 16 → I1 10 k = 0 := by
  obtain ⟨hD, hz, _⟩ := wI_get h
  obtain ⟨m0, m1⟩ := m816 hD
  refine mU_mono (t_fill (d := d) hz (a := 10) (by decide) (wz_L hz 10 816 rfl (by decide)) (by decide) (by decide)) fun I1 e1 => ?_
  obtain ⟨f1, g1⟩ := fr_eq_iw e1
  refine ⟨f1, wI_k9 h (fr_mono f1 (by simp [k9])) fun i i0 i1 => ?_, fun k k0 k1 => ?_⟩
  · rw [f1 _ (by simp; omega)]; exact h.2.2.2.2.1 i i0 i1
  · rw [g1]
    unfold fillF
    exact if_pos (by omega)
theorem c_moved (h : wI D T nt n L K B tp rf sh mb z I) (k g to : Int) : zcI (d + 8) m_Works_moved [vR 11 1, vI k, vI g, vI to] z I (putA D T nt n L K B tp rf sh mb ((kFit k ∧ (0 ≤ g ∧ g < n)) ∧ kFit to) to (mv D (L g.toNat) (K k)) (-1) z) := by
  obtain ⟨hD, hz, hg, hs, pm, y6, y7, hS, hM, hE⟩ := wI_get h
  obtain ⟨m0, m1⟩ := m816 hD
  have en : I mb 2 = (n : Int) := hM.2.2.2.2.2.2.2.2.2.2.1
  have no : ∀ I1 : cm_I, I1 = I → ¬ ((kFit k ∧ (0 ≤ g ∧ g < n)) ∧ kFit to) → kI (putA D T nt n L K B tp rf sh mb ((kFit k ∧ (0 ≤ g ∧ g < n)) ∧ kFit to) to (mv D (L g.toNat) (K k)) (-1) z) (some (vI (-1))) (I1, z) := fun I1 e q => kI_mk ⟨usW_refl z, Or.inr ⟨q, by rw [e]; exact h, rfl⟩⟩
  refine wr_Works_moved hz (mI_mono (t_isKept (d := d + 6) hz k) fun r I1 ⟨a, b⟩ => ?_)
  rw [a]
  refine ⟨fun w => no I rfl fun q => by rw [if_pos q.1.1] at b; omega, fun w => mI_mono (c_isMember (d := d + 6) hz y7 pm en g) fun r2 I2 ⟨a2, b2⟩ => ?_⟩
  have hk : kFit k := Classical.byContradiction fun x => w (by rw [b, if_neg x])
  rw [a2]
  refine ⟨fun w => no I rfl fun q => by rw [if_pos q.1.2] at b2; omega, fun w => mI_mono (t_isKept (d := d + 6) hz to) fun r3 I3 ⟨a3, b3⟩ => ?_⟩
  have hgg : 0 ≤ g ∧ g < n := Classical.byContradiction fun x => w (by rw [b2, if_neg x])
  rw [a3]
  refine ⟨fun w => ?_, fun w => no I rfl fun q => by rw [if_pos q.2] at b3; omega⟩
  have ht : kFit to := Classical.byContradiction fun x => w (by rw [b3, if_neg x])
  have hk' : 0 ≤ k ∧ k ≤ 5 := hk
  refine mU_mono (c_fill (d := d + 6) h) fun I5 ⟨f5, W5, z5⟩ => ?_
  have E5 := (wI_get W5).2.2.2.2.2.2.2.2.2
  obtain ⟨kr, kv⟩ := W5.2.2.2.2.1 k hk'.1 (by omega)
  have mt := t_moveIt (d := d) E5 (f := 4 + k.toNat) (by omega) (nk_mvl hk'.1 (by omega)) (by rw [kept_len hz hk'.1 (by omega)]; exact m1) kr kv (fun i i0 i1 => by rw [z5 i i0 i1]; omega) (g := g.toNat) (by omega)
  rw [show ((g.toNat : Nat) : Int) = g by omega] at mt
  refine mU_mono mt fun I8 ⟨_, h8⟩ => ⟨⟨hk'.1, by omega⟩, zcU_mono h8 fun I10 Z11 ⟨q1, q2, q3, q4, q5⟩ => ?_⟩
  obtain ⟨W10, U10⟩ := wI_mv W5 q1 q2 q3
  refine mI_mono (c_keepFresh (d := d + 5) W10 ht (w := mv D (L g.toNat) (K k)) (fun i i0 i1 => by rw [q4 i i0 i1, z5 i i0 i1, Int.zero_add]) (vOk_mv hD _ _)) fun r12 I12 ⟨W12, e12⟩ => kI_mk ⟨U10, Or.inl ⟨⟨⟨hk, hgg⟩, ht⟩, W12, e12⟩⟩
theorem c_plus (h : wI D T nt n L K B tp rf sh mb z I) (a b f to : Int) : zcI (d + 3) m_Works_plus [vR 11 1, vI a, vI b, vI f, vI to] z I (putA D T nt n L K B tp rf sh mb (kFit a ∧ kFit b ∧ kFit to) to (vAdd (f % 2521) (K a) (K b)) (-1) z) := by
  obtain ⟨hD, hz, hg, hs, pm, y6, y7, hS, hM, hE⟩ := wI_get h
  obtain ⟨m0, m1⟩ := m816 hD
  have no : ∀ I1 : cm_I, I1 = I → ¬ (kFit a ∧ kFit b ∧ kFit to) → kI (putA D T nt n L K B tp rf sh mb (kFit a ∧ kFit b ∧ kFit to) to (vAdd (f % 2521) (K a) (K b)) (-1) z) (some (vI (-1))) (I1, z) := fun I1 e q => kI_mk ⟨usW_refl z, Or.inr ⟨q, by rw [e]; exact h, rfl⟩⟩
  refine wr_Works_plus hz (mI_mono (t_isKept (d := d + 1) hz a) fun r I1 ⟨e1, b1⟩ => ?_)
  rw [e1]
  refine ⟨fun w => no I rfl fun q => by rw [if_pos q.1] at b1; omega, fun w => mI_mono (t_isKept (d := d + 1) hz b) fun r2 I2 ⟨e2, b2⟩ => ?_⟩
  have ha : kFit a := Classical.byContradiction fun x => w (by rw [b1, if_neg x])
  rw [e2]
  refine ⟨fun w => no I rfl fun q => by rw [if_pos q.2.1] at b2; omega, fun w => mI_mono (t_isKept (d := d + 1) hz to) fun r3 I3 ⟨e3, b3⟩ => ?_⟩
  have hb : kFit b := Classical.byContradiction fun x => w (by rw [b2, if_neg x])
  rw [e3]
  refine ⟨fun w => ?_, fun w => no I rfl fun q => by rw [if_pos q.2.2] at b3; omega⟩
  have ht : kFit to := Classical.byContradiction fun x => w (by rw [b3, if_neg x])
  have ha' : 0 ≤ a ∧ a ≤ 5 := ha
  have hb' : 0 ≤ b ∧ b ≤ 5 := hb
  obtain ⟨ar, av_⟩ := h.2.2.2.2.1 a ha'.1 (by omega)
  obtain ⟨br, bv_⟩ := h.2.2.2.2.1 b hb'.1 (by omega)
  have e16 : I sh 1 = mFrom D 16 := hS.2.2.1
  have s11 : 11 ≤ sh := by have : sh = 11 ∨ sh = 20 := hs; omega
  have Lp : ∀ (u x : Nat) (J : cm_I) (z3 : Option cm_V), (x : Int) + u = mFrom D 16 → fr [10] I J → (∀ k : Int, 0 ≤ k → k < (x : Int) → J 10 k = vAdd (f % 2521) (K a) (K b) k) → cw (d + 2) cd_Works_plus (kI (putA D T nt n L K B tp rf sh mb (kFit a ∧ kFit b ∧ kFit to) to (vAdd (f % 2521) (K a) (K b)) (-1) z)) 36 [some (vR 11 1), some (vI a), some (vI b), z3, some (vI to), some (vI (f % 2521)), some (vI (x : Int))] [] (J, z) := by
    intro u
    induction u with
    | zero =>
      intro x J z3 ex hf hv
      have WJ : wI D T nt n L K B tp rf sh mb z J := wI_k9 h (fr_mono hf (by simp [k9])) fun i i0 i1 => by rw [hf _ (by simp; omega)]; exact h.2.2.2.2.1 i i0 i1
      refine wr_Works_plus_36 hz y6 hs ?_
      rw [hf sh (by simp; omega), e16]
      refine ⟨fun _ => mI_mono (c_keepFresh (d := d) WJ ht (w := vAdd (f % 2521) (K a) (K b)) (fun k k0 k1 => hv k k0 (by omega)) (vOk_add hD _ av_ bv_)) fun r4 I4 ⟨W4, e4⟩ => kI_mk ⟨usW_refl z, Or.inl ⟨⟨ha, hb, ht⟩, W4, e4⟩⟩, fun w => by omega⟩
    | succ u ih =>
      intro x J z3 ex hf hv
      have ja : J (4 + a.toNat) (x : Int) = K a x := by rw [hf _ (by simp; omega)]; exact ar x (by omega) (by omega)
      have jb : J (4 + b.toNat) (x : Int) = K b x := by rw [hf _ (by simp; omega)]; exact br x (by omega) (by omega)
      have oa := av_.1 x
      have ob := bv_.1 x
      have pr := mul_bd (x := f % 2521) (y := K b x) (X := 2521) (Y := 2521) (by omega) (by omega) (by omega) (by omega)
      refine wr_Works_plus_36 hz y6 hs ?_
      rw [hf sh (by simp; omega), e16, ja, jb, Int.tmod_eq_emod_of_nonneg (by omega)]
      refine ⟨fun w => by omega, fun _ => ⟨⟨ha'.1, by omega⟩, ⟨by omega, by omega⟩, ⟨hb'.1, by omega⟩, by unfold cm_i; omega, by unfold cm_i; omega, fun I8 e8 => ⟨by unfold cm_i; omega, ?_⟩⟩⟩
      obtain ⟨f8, g8⟩ := fr_eq_iu e8
      have := ih (x + 1) I8 z3 (by omega) (fr_trans hf f8) fun k k0 k1 => ?_
      · exact this
      · rw [g8]
        show (if k = (x : Int) then _ else J 10 k) = _
        by_cases e : k = (x : Int)
        · rw [if_pos e, e]
          unfold vAdd
          rw [if_pos (by omega)]
        · rw [if_neg e]
          exact hv k k0 (by omega)
  exact Lp (mFrom D 16).toNat 0 I _ (by omega) (fr_refl _ _) fun k k0 k1 => by omega
theorem no_pc : ∀ k, k < 97 → gO k ∉ [14, 16, 23, 25] := by decide
theorem c_product (h : wI D T nt n L K B tp rf sh mb z I) (a b to : Int) : zcI (d + 4) m_Works_product [vR 11 1, vI a, vI b, vI to] z I (putA D T nt n L K B tp rf sh mb ((kFit a ∧ kFit b ∧ kFit to) ∧ mDeg D (K a) 0 + mDeg D (K b) 0 ≤ 15) to (vMul D (K a) (K b)) (if kFit a ∧ kFit b ∧ kFit to then -2 else -1) z) := by
  obtain ⟨hD, hz, hg, hs, pm, y6, y7, hS, hM, hE⟩ := wI_get h
  obtain ⟨m0, m1⟩ := m816 hD
  have no : ∀ I1 : cm_I, I1 = I → ¬ (kFit a ∧ kFit b ∧ kFit to) → kI (putA D T nt n L K B tp rf sh mb ((kFit a ∧ kFit b ∧ kFit to) ∧ mDeg D (K a) 0 + mDeg D (K b) 0 ≤ 15) to (vMul D (K a) (K b)) (if kFit a ∧ kFit b ∧ kFit to then -2 else -1) z) (some (vI (-1))) (I1, z) := fun I1 e q => kI_mk ⟨usW_refl z, Or.inr ⟨fun x => q x.1, by rw [e]; exact h, by rw [if_neg q]⟩⟩
  refine wr_Works_product hz y6 (mI_mono (t_isKept (d := d + 2) hz a) fun r I1 ⟨e1, b1⟩ => ?_)
  rw [e1]
  refine ⟨fun w => no I rfl fun q => by rw [if_pos q.1] at b1; omega, fun w => mI_mono (t_isKept (d := d + 2) hz b) fun r2 I2 ⟨e2, b2⟩ => ?_⟩
  have ha : kFit a := Classical.byContradiction fun x => w (by rw [b1, if_neg x])
  rw [e2]
  refine ⟨fun w => no I rfl fun q => by rw [if_pos q.2.1] at b2; omega, fun w => mI_mono (t_isKept (d := d + 2) hz to) fun r3 I3 ⟨e3, b3⟩ => ?_⟩
  have hb : kFit b := Classical.byContradiction fun x => w (by rw [b2, if_neg x])
  rw [e3]
  refine ⟨fun w => ?_, fun w => no I rfl fun q => by rw [if_pos q.2.2] at b3; omega⟩
  have ht : kFit to := Classical.byContradiction fun x => w (by rw [b3, if_neg x])
  have ha' : 0 ≤ a ∧ a ≤ 5 := ha
  have hb' : 0 ≤ b ∧ b ≤ 5 := hb
  obtain ⟨ar, av_⟩ := h.2.2.2.2.1 a ha'.1 (by omega)
  obtain ⟨br, bv_⟩ := h.2.2.2.2.1 b hb'.1 (by omega)
  have la : mFrom D 16 ≤ z.2.1 (4 + a.toNat) := by rw [kept_len hz ha'.1 (by omega)]; exact m1
  have lb : mFrom D 16 ≤ z.2.1 (4 + b.toNat) := by rw [kept_len hz hb'.1 (by omega)]; exact m1
  have hs' : sh = 11 ∨ sh = 20 := hs
  have all : kFit a ∧ kFit b ∧ kFit to := ⟨ha, hb, ht⟩
  have da := av_.2.2
  have db := bv_.2.2
  refine ⟨⟨ha'.1, by omega⟩, mI_mono (t_degreeOf (d := d + 2) hz hS (by omega) la ar av_) fun r4 I4 ⟨e4, b4⟩ => ?_⟩
  rw [e4, b4]
  refine ⟨⟨hb'.1, by omega⟩, mI_mono (t_degreeOf (d := d + 2) hz hS (by omega) lb br bv_) fun r5 I5 ⟨e5, b5⟩ => ?_⟩
  rw [e5, b5]
  have da0 := mDeg_bd hD (K a) 0
  have db0 := mDeg_bd hD (K b) 0
  refine ⟨by unfold cm_i; omega, fun le => ?_, fun gt => kI_mk ⟨usW_refl z, Or.inr ⟨fun x => by omega, h, by rw [if_pos all]⟩⟩⟩
  refine zcU_mono (t_multiply (d := d) hz hS (f := 4 + a.toNat) (g := 4 + b.toNat) (o := 10) (by omega) (by omega) (by decide) la lb (by rw [wz_L hz 10 816 rfl (by decide)]; exact m1) ar av_ br bv_ le (by simp; omega) (by simp; omega) (by simp; omega)) fun I14 Z15 ⟨q1, q2, q3, _⟩ => ?_
  have sub : ∀ x, x ∈ [sh + 3, sh + 5] → x ∈ [14, 16, 23, 25] := by rcases hs' with e | e <;> (rw [e]; decide)
  have q1' := zf_mono q1 sub
  have hO : mvO I14 := by
    have := hE.2.2.2.2.2.2.2.2.2.2
    unfold mvO at this ⊢
    rw [q2 54 (by simp; omega), q2 58 (by simp; omega), q2 59 (by simp; omega), q2 60 (by simp; omega)]
    exact this
  have subl : ∀ x, x ∈ [10, sh + 3, sh + 5] → x ∈ kM := by rcases hs' with e | e <;> (rw [e]; decide)
  have n63 := gw_kM hg (k := 0) (by decide)
  obtain ⟨W14, U14⟩ := wI_kM h (wz_zf hz q1' (by decide)) (gw_zf q1' no_pc (by decide) hg) ⟨zg_mono (zg_zf q1') (by simp [kM]), us_zf q1' no_pc, fun k hk => Or.inl (gR_zf q1' (no_pc k hk)), fun c hc hn _ => q2 c (nin_sub hn subl)⟩ (q1'.1 53 (by decide)) hO (by
    rw [q1'.1 63 (by decide), q2 (z.1 63 2) (nin_sub n63 subl)]
    exact h.1.1.2.2.2.2.2.2.1)
  exact mI_mono (c_keepFresh (d := d + 1) W14 ht (w := vMul D (K a) (K b)) q3 (vOk_mul hD le).1) fun r16 I16 ⟨W16, e16⟩ => kI_mk ⟨U14, Or.inl ⟨⟨all, le⟩, W16, e16⟩⟩
end WC2
