/-! the calls average and base of the class -/
section WC3
variable {d : Nat} {z z1 : cm_Z} {I I1 : cm_I} {D : Int} {sh mb : Nat} {T : Nat → cMat} {nt n : Nat} {L : Nat → cMat} {K K' : Int → Int → Int} {B : Int → Int} {tp : Int} {rf : Option (Int → Int)}
theorem toF_sgs (n : Nat) (f : Nat → Int) : toF (sg n f) = gs n fun i => toF (f i) := by
  rw [toF_sg, fs_gs]
theorem c_average (h : wI D T nt n L K B tp rf sh mb z I) (k to : Int) : zcI (d + 8) m_Works_average [vR 11 1, vI k, vI to] z I (putA D T nt n L K B tp rf sh mb (kFit k ∧ kFit to) to (av D L n (K k)) (-1) z) := by
  obtain ⟨hD, hz, hg, hs, pm, y6, y7, hS, hM, hE⟩ := wI_get h
  obtain ⟨m0, m1⟩ := m816 hD
  have G : isG T nt n L := hM.2.2.2.2.2.2.1
  have n1 := G.1
  have n48 := G.2.1
  have no : ∀ I1 : cm_I, I1 = I → ¬ (kFit k ∧ kFit to) → kI (putA D T nt n L K B tp rf sh mb (kFit k ∧ kFit to) to (av D L n (K k)) (-1) z) (some (vI (-1))) (I1, z) := fun I1 e q => kI_mk ⟨usW_refl z, Or.inr ⟨q, by rw [e]; exact h, rfl⟩⟩
  refine wr_Works_average hz (mI_mono (t_isKept (d := d + 6) hz k) fun r I1 ⟨a, b⟩ => ?_)
  rw [a]
  refine ⟨fun w => no I rfl fun q => by rw [if_pos q.1] at b; omega, fun w => mI_mono (t_isKept (d := d + 6) hz to) fun r3 I3 ⟨a3, b3⟩ => ?_⟩
  have hk : kFit k := Classical.byContradiction fun x => w (by rw [b, if_neg x])
  rw [a3]
  refine ⟨fun w => ?_, fun w => no I rfl fun q => by rw [if_pos q.2] at b3; omega⟩
  have ht : kFit to := Classical.byContradiction fun x => w (by rw [b3, if_neg x])
  have hk' : 0 ≤ k ∧ k ≤ 5 := hk
  have mvb : ∀ (g : Nat) (j : Int), 0 ≤ mv D (L g) (K k) j ∧ mv D (L g) (K k) j < 2521 := fun g j => (vOk_mv hD (L g) (K k)).1 j
  have sb : ∀ (g : Nat) (j : Int), 0 ≤ sg g (fun i => mv D (L i) (K k) j) ∧ sg g (fun i => mv D (L i) (K k) j) ≤ 2520 * g := by
    intro g j
    induction g with
    | zero => exact ⟨Int.le_refl 0, Int.le_refl 0⟩
    | succ g ih =>
      rw [sg_succ]
      have := mvb g j
      omega
  -- the factor is put to all
  have L85 : ∀ (u x : Nat) (J : cm_I) (z' : cm_Z) (z1' : Option cm_V), (x : Int) + u = mFrom D 16 → wI D T nt n L K B tp rf sh mb z' J → usW z z' → (∀ j : Int, 0 ≤ j → j < x → J 10 j = av D L n (K k) j) → (∀ j : Int, (x : Int) ≤ j → j < mFrom D 16 → J 10 j = sg n (fun i => mv D (L i) (K k) j)) → cw (d + 7) cd_Works_average (kI (putA D T nt n L K B tp rf sh mb (kFit k ∧ kFit to) to (av D L n (K k)) (-1) z)) 85 [some (vR 11 1), z1', some (vI to), some (vI (fi (fInv (toF (n : Int))))), some (vI (x : Int))] [] (J, z') := by
    intro u
    induction u with
    | zero =>
      intro x J z' z1' ex W U h1 h2
      obtain ⟨_, hz', _, _, _, y6', _, hS', _, _⟩ := wI_get W
      refine wr_Works_average_85 hz' y6' hs ?_
      rw [hS'.2.2.1]
      exact ⟨fun _ => mI_mono (c_keepFresh (d := d + 5) W ht (w := av D L n (K k)) (fun j j0 j1 => h1 j j0 (by omega)) (vOk_av hD L n (K k))) fun r4 I4 ⟨W4, e4⟩ => kI_mk ⟨U, Or.inl ⟨⟨hk, ht⟩, W4, e4⟩⟩, fun w => by omega⟩
    | succ u ih =>
      intro x J z' z1' ex W U h1 h2
      obtain ⟨_, hz', _, _, _, y6', _, hS', _, _⟩ := wI_get W
      have jx := h2 x (by omega) (by omega)
      have bx := sb n (x : Int)
      have fb := fi_bd (fInv (toF (n : Int)))
      have pr := mul_bd (x := sg n (fun i => mv D (L i) (K k) (x : Int)) % 2521) (y := fi (fInv (toF (n : Int)))) (X := 2521) (Y := 2521) (by omega) (by omega) (by omega) (by omega)
      refine wr_Works_average_85 hz' y6' hs ?_
      rw [hS'.2.2.1, jx, Int.tmod_eq_emod_of_nonneg bx.1, Int.tmod_eq_emod_of_nonneg pr.1]
      refine ⟨fun w => by omega, fun _ => ⟨⟨by omega, by omega⟩, by unfold cm_i; omega, fun I5 e5 => ⟨by unfold cm_i; omega, ?_⟩⟩⟩
      obtain ⟨f5, g5⟩ := fr_eq_iu e5
      have W5 : wI D T nt n L K B tp rf sh mb z' I5 := wI_k9 W (fr_mono f5 (by simp [k9])) fun i i0 i1 => by rw [f5 _ (by simp; omega)]; exact W.2.2.2.2.1 i i0 i1
      have val : ∀ j : Int, I5 10 j = if j = (x : Int) then sg n (fun i => mv D (L i) (K k) (x : Int)) % 2521 * fi (fInv (toF (n : Int))) % 2521 else J 10 j := fun j => by rw [g5]
      have := ih (x + 1) I5 z' z1' (by omega) W5 U (fun j j0 j1 => ?_) (fun j j0 j1 => ?_)
      · exact this
      · rw [val]
        by_cases e : j = (x : Int)
        · rw [if_pos e, e]
          unfold av avN
          rw [if_pos (by omega)]
          have e2 : sg n (fun i => mv D (L i) (K k) (x : Int)) % 2521 * fi (fInv (toF (n : Int))) % 2521 = fi (toF (sg n (fun i => mv D (L i) (K k) (x : Int))) * fInv (toF (n : Int))) := by
            rw [← fi_toF, toF_mul, toF_mod, toF_fi]
          rw [e2, toF_sgs, ← gs_mulr]
        · rw [if_neg e]
          exact h1 j j0 (by omega)
      · rw [val, if_neg (by omega)]
        exact h2 j (by omega) j1
  have L26 : ∀ (u g : Nat) (J : cm_I) (z' : cm_Z) (z4 : Option cm_V), g + u = n → wI D T nt n L K B tp rf sh mb z' J → usW z z' → (∀ j : Int, 0 ≤ j → j < mFrom D 16 → J 10 j = sg g (fun i => mv D (L i) (K k) j)) → cw (d + 7) cd_Works_average (kI (putA D T nt n L K B tp rf sh mb (kFit k ∧ kFit to) to (av D L n (K k)) (-1) z)) 26 [some (vR 11 1), some (vI k), some (vI to), some (vI (g : Int)), z4] [] (J, z') := by
    intro u
    induction u with
    | zero =>
      intro g J z' z4 eg W U hv
      obtain ⟨_, hz', _, _, _, _, y7', _, hM', _⟩ := wI_get W
      have gn : g = n := by omega
      rw [gn] at hv
      refine wr_Works_average_26 hz' y7' pm ?_
      rw [hM'.2.2.2.2.2.2.2.2.2.2.1]
      refine ⟨fun _ => mI_mono (t_inv (d := d + 6) hz' (x := (n : Int)) (by omega) (by omega)) fun r2 I2 ⟨e2, b2⟩ => ?_, fun w => by omega⟩
      rw [e2, b2]
      exact L85 (mFrom D 16).toNat 0 J z' _ (by omega) W U (fun j j0 j1 => by omega) fun j j0 j1 => hv j (by omega) j1
    | succ u ih =>
      intro g J z' z4 eg W U hv
      obtain ⟨_, hz', _, _, _, _, y7', _, hM', hE'⟩ := wI_get W
      obtain ⟨kr, kv⟩ := W.2.2.2.2.1 k hk'.1 (by omega)
      refine wr_Works_average_26 hz' y7' pm ?_
      rw [hM'.2.2.2.2.2.2.2.2.2.2.1]
      refine ⟨fun w => by omega, fun _ => mU_mono (t_moveIt (d := d) hE' (f := 4 + k.toNat) (by omega) (nk_mvl hk'.1 (by omega)) (by rw [kept_len hz' hk'.1 (by omega)]; exact m1) kr kv (fun i i0 i1 => by have := sb g i; rw [hv i i0 i1]; omega) (g := g) (by omega)) fun I8 ⟨_, h8⟩ => ⟨⟨hk'.1, by omega⟩, zcU_mono h8 fun I10 Z11 ⟨q1, q2, q3, q4, q5⟩ => ⟨by unfold cm_i; omega, ?_⟩⟩⟩
      obtain ⟨W10, U10⟩ := wI_mv W q1 q2 q3
      have := ih (g + 1) I10 Z11 z4 (by omega) W10 (usW_trans U U10) fun j j0 j1 => by
        rw [q4 j j0 j1, hv j j0 j1, sg_succ]
      exact this
  exact mU_mono (c_fill (d := d + 6) h) fun I5 ⟨f5, W5, z5⟩ => L26 n 0 I5 z _ (by omega) W5 (usW_refl z) fun j j0 j1 => z5 j j0 j1
/-- a base was made -/
theorem wI_gd (h : wI D T nt n L K B tp rf sh mb z I) {t : Nat} (t15 : t < 16) (E1 : bsE D sh mb T nt n L z1 I1) (b : I1 (73 + 7 * t) 1 = 1) (hp : gdP t z I I1 z1) (same : I (73 + 7 * t) 1 = 1 → I1 = I ∧ z1 = z) : wI D T nt n L K B tp rf sh mb z1 I1 ∧ usW z z1 := by
  by_cases e : I (73 + 7 * t) 1 = 1
  · obtain ⟨a, c⟩ := same e
    rw [a, c]
    exact ⟨h, usW_refl z⟩
  obtain ⟨⟨hB, y2, e3, alt⟩, y, hT, hZ, hK, hw0, hR⟩ := h
  have hg := hB.2.1
  have w6 : 248 ≤ zN z := hB.1.1.2.2.2.2.2
  have W := gdP_wF t15 hp
  have hM : ∀ x, x ∈ [71, 73 + 7 * t] ++ bll → x < 248 := fun x hx => by
    simp [bll] at hx
    omega
  obtain ⟨p1, p2, p3, p4, p5, p6, p7, p8⟩ := id hp
  have fx : ∀ c, c < 248 → c ≠ 64 → (c ≤ 52 ∨ 185 ≤ c) → I1 c = I c := fun c h1 h2 h3 => W.2.2.2 c (by omega) (by simp [bll]; omega) fun k hk _ => gw_fix hg h1 h2 (by omega) hk
  have ob : ∀ t', t' < 16 → t' ≠ t → I1 (73 + 7 * t') = I (73 + 7 * t') := fun t' ht' w => W.2.2.2 _ (by omega) (by simp [bll]; omega) fun k hk _ => Ne.symm (gw_gr hg ht' hk)
  have zc : ∀ c, c < 248 → c ≠ 63 → c ≠ 71 → c ≠ 73 + 7 * t → z1.1 c = z.1 c := fun c h1 h2 h3 h4 => p1.1 c (by omega) (by simp; omega)
  have z51 : z1.1 51 = z.1 51 := zc 51 (by decide) (by decide) (by decide) (by omega)
  have V1 := smV_fr hw0.2.2.2.2.2.1 hg W z51 w6 hM
  have row : ∀ t' j, t' < 16 → j < 6 → (t' ≠ t ∨ 2 ≤ j) → gG z1 t' j = gG z t' j ∧ z1.2.1 (gG z t' j) = z.2.1 (gG z t' j) ∧ I1 (gG z t' j) = I (gG z t' j) := by
    intro t' j ht' hj w
    have kt' : 1 + 6 * t' + j < 97 := by omega
    have lt : gG z t' j < zN z := (hg.2.1 _ kt').2.1
    refine ⟨p3 _ kt' (by omega) (by omega) (by omega), p1.2.1 _ lt, W.2.2.2 _ lt ?_ fun k' hk' hS => ?_⟩
    · have nb := (gw_blo hg kt').1
      intro m
      rcases List.mem_append.mp m with m | m
      · simp at m
        rcases m with m | m
        · exact nb (by show gG z t' j ∈ blo; rw [m]; decide)
        · exact gw_gr hg t15 kt' m
      · exact nb (by
          have : ∀ x, x ∈ bll → x ∈ blo := by decide
          exact this _ m)
    · simp at hS
      exact gw_ne hg kt' hk' (by omega)
  have lb := gdP_lab t15 hg hp
  have f198 : I1 198 = I 198 := fx 198 (by decide) (by decide) (by decide)
  refine ⟨⟨⟨E1, by rw [zc 185 (by decide) (by decide) (by decide) (by omega)]; exact y2, by rw [fx 185 (by decide) (by decide) (by decide)]; exact e3, ?_⟩, by rw [zc 198 (by decide) (by decide) (by decide) (by omega)]; exact y, fun t' ht' => by rw [(row t' 4 ht' (by decide) (Or.inr (by decide))).1, (row t' 4 ht' (by decide) (Or.inr (by decide))).2.2]; exact hT t' ht', hZ, fun i i0 i1 => by rw [fx (4 + i.toNat) (by omega) (by omega) (by omega)]; exact hK i i0 i1, wB_fr hw0 V1 (by rw [zc 1 (by decide) (by decide) (by decide) (by omega)]) fun x h1 h2 => fx x (by omega) (by omega) (by omega), ?_⟩, us_usW p2 p1.2.1 z51 hw0.2.2.2.2.2.1⟩
  · unfold pmK at alt ⊢
    rw [fx 185 (by decide) (by decide) (by decide), fx 190 (by decide) (by decide) (by decide), fx 191 (by decide) (by decide) (by decide)]
    rcases alt with w | ⟨w1, w2⟩
    · exact Or.inl w
    · refine Or.inr ⟨w1, ?_⟩
      rcases w2 with w2 | ⟨q, q1, q2, q3, q4, q5⟩
      · exact Or.inl w2
      · refine Or.inr ⟨q, q1, q2, q3, q4, fun t' h1 h2 => ?_⟩
        by_cases w : t' = t
        · rw [w]; exact b
        · rw [ob t' (by omega) w]; exact q5 t' h1 h2
  · rcases hR with hR | ⟨q, k, h1, h2, h3, h4, h5, h6⟩
    · left; rw [f198]; exact hR
    · have kt : k ≤ t := by
        apply Classical.byContradiction
        intro lt
        exact e (grC_en (h3.2.2.2.2.2.2.2 t (by omega))).1
      have k16 := h3.2.2.2.2.1
      have hD := shOk_D hB.1.2.1
      have S : sx_S D T nt n L (pmV D T nt q) (pmD D T nt q) := by
        rcases alt with ⟨w, _⟩ | ⟨w1, w2⟩
        · rw [h2] at w; exact absurd w (by decide)
        · rcases w2 with ⟨w2, _⟩ | ⟨q', q1, ⟨s1, s2, s3, s4⟩, _⟩
          · rw [h1] at w2; exact absurd w2 (by simp)
          · rw [h1] at q1
            have : q = q' := Option.some.inj q1
            rw [this]
            exact pm_S hD hB.1.2.2.2.2.2.2.2.1.2.2.2.2.2.2.1 hB.1.2.2.2.2.2.2.2.2.1 hZ (fun t0 h0 h15 => by
              have := (bsE_bs hB (t := t0.toNat) (by omega)).1
              rw [show ((t0.toNat : Nat) : Int) = t0 by omega] at this
              exact this) s1 s2 s3 s4
      refine Or.inr ⟨q, k, h1, by rw [fx 185 (by decide) (by decide) (by decide)]; exact h2, rw_gdP t15 kt h3 S E1 b hp, h4, ?_, ?_⟩
      · rcases h5 with h5 | ⟨f, f1, f2, f3, f4, f5, f6⟩
        · left; rw [f198]; exact h5
        · refine Or.inr ⟨f, f1, f2, f3, by rw [f198]; exact f4, ?_, f6⟩
          rw [fx 201 (by decide) (by decide) (by decide)]
          refine ⟨fun t' ht' i hi => ?_, f5.2⟩
          show _ = if i < bsRows D T nt t' then fi (rwQ D T nt _ _ f (lab (I1 (gG z1 t' 3)) i)) else 0
          rw [lb t' (by omega)]
          exact f5.1 t' ht' i hi
      · rcases h6 with h6 | ⟨i, h', g1, g2, g3, g4, g5, g6⟩
        · left; rw [f198]; exact h6
        · refine Or.inr ⟨i, h', by rw [f198]; exact g1, by rw [f198]; exact g2, g3, g4, g5, ?_⟩
          intro c hc
          rw [fx 202 (by decide) (by decide) (by decide), g6 c hc, lb _ (by
            have : sx_d (pmL D T nt q) i + sx_d (pmL D T nt q) h' < 16 := by omega
            exact this)]
theorem c_base (h : wI D T nt n L K B tp rf sh mb z I) (t row to : Int) : zcI (d + 9) m_Works_base [vR 11 1, vI t, vI row, vI to] z I (putA D T nt n L K B tp rf sh mb (((0 ≤ t ∧ t ≤ 15) ∧ kFit to) ∧ (0 ≤ row ∧ row < (bsRows D T nt t : Int))) to (bRow D t ((bsX D T nt t).2 row.toNat)) (-1) z) := by
  obtain ⟨hD, hz, hg, hs, pm, y6, y7, hS, hM, hE⟩ := wI_get h
  obtain ⟨m0, m1⟩ := m816 hD
  have no : ∀ I1 : cm_I, I1 = I → ¬ (((0 ≤ t ∧ t ≤ 15) ∧ kFit to) ∧ (0 ≤ row ∧ row < (bsRows D T nt t : Int))) → kI (putA D T nt n L K B tp rf sh mb (((0 ≤ t ∧ t ≤ 15) ∧ kFit to) ∧ (0 ≤ row ∧ row < (bsRows D T nt t : Int))) to (bRow D t ((bsX D T nt t).2 row.toNat)) (-1) z) (some (vI (-1))) (I1, z) := fun I1 e q => kI_mk ⟨usW_refl z, Or.inr ⟨q, by rw [e]; exact h, rfl⟩⟩
  refine wr_Works_base hz hs (mI_mono (t_isPower (d := d + 7) hz t) fun r I1 ⟨a, b⟩ => ?_)
  rw [a]
  refine ⟨fun w => no I rfl fun q => by rw [if_pos q.1.1] at b; omega, fun w => mI_mono (t_isKept (d := d + 7) hz to) fun r3 I3 ⟨a3, b3⟩ => ?_⟩
  have ht : 0 ≤ t ∧ t ≤ 15 := Classical.byContradiction fun x => w (by rw [b, if_neg x])
  rw [a3]
  refine ⟨fun w => no I rfl fun q => by rw [if_pos q.1.2] at b3; omega, fun w => ⟨fun w0 => no I rfl fun q => by have := q.2.1; omega, fun w0 => ⟨⟨ht.1, by omega⟩, ?_⟩⟩⟩
  have hto : kFit to := Classical.byContradiction fun x => w (by rw [b3, if_neg x])
  obtain ⟨tn, htn⟩ : ∃ tn : Nat, (tn : Int) = t := ⟨t.toNat, by omega⟩
  have e67 : I 67 t = (bsRows D T nt t : Int) := by rw [← htn]; exact (bsE_bs h.1.1 (t := tn) (by omega)).2
  rw [e67]
  refine ⟨fun lt => ?_, fun ge => no I rfl fun q => by have := q.2.2; omega⟩
  have gr := t_grade2 (d := d) h.1.1 (t := tn) (by omega)
  rw [htn] at gr
  refine zcA_mono gr fun v8 I6 Z7 ⟨⟨g1, g2, g3, g4⟩, g5⟩ => ?_
  obtain ⟨W6, U6⟩ := wI_gd h (by omega) g2 g3 g4 g5
  obtain ⟨_, hz6, hg6, _, _, y66, _, hS6, _, _⟩ := wI_get W6
  rw [g1]
  refine ⟨hz6, mU_mono (c_fill (d := d + 7) W6) fun I10 ⟨f10, W10, z10⟩ => ?_⟩
  have gd := gd_get W10.1.1 (t := tn) (by omega) (by rw [f10 _ (by simp; omega)]; exact g3)
  rw [htn] at gd
  have mN := mMany_136 hD (t := tn) (by omega)
  rw [htn] at mN
  have s2 : I10 (sh + 2) t = mFrom D t := (wI_get W10).2.2.2.2.2.2.2.1.2.2.2.2.1 _ (by omega) (by omega)
  have y4 : Z7.1 (73 + 7 * tn) 4 = gG Z7 tn 0 := by rw [gG_at (i := tn) (by omega) (j := 0) (s := 4) (by decide) rfl]; rfl
  have k0 : 1 + 6 * tn + 0 < 97 := by omega
  obtain ⟨c1, c2, c3, c4, c5, c6⟩ := from_bds hD (t := t) ht.1 ht.2
  have c16 := mFrom_mono D (s := t + 1) (t := 16) (by omega) (by omega)
  have br : 0 ≤ mMany D t * row ∧ mMany D t * row + mMany D t ≤ Z7.2.1 (gG Z7 tn 0) ∧ Z7.2.1 (gG Z7 tn 0) ≤ 23409 := by
    refine ⟨Int.mul_nonneg (by omega) (by omega), Int.le_trans ?_ gd.2.2.2.2.1, (hg6.2.1 _ k0).2.2.2⟩
    rw [show mMany D t * row + mMany D t = mMany D t * (row + 1) by rw [Int.mul_add, Int.mul_one]]
    exact Int.mul_le_mul_of_nonneg_left (by omega) (by omega)
  rw [gd.2.1, s2, y4]
  refine ⟨by omega, by unfold cm_i; omega, y66, ⟨ht.1, by omega⟩, gw_pos hg6 k0, ⟨br.1, c1, by omega, br.2.1, by omega⟩, fun I17 e17 => ?_⟩
  obtain ⟨f17, g17⟩ := fr_eq_iw e17
  have W17 : wI D T nt n L K B tp rf sh mb Z7 I17 := wI_k9 W10 (fr_mono f17 (by simp [k9])) fun i i0 i1 => by rw [f17 _ (by simp; omega)]; exact W10.2.2.2.2.1 i i0 i1
  refine mI_mono (c_keepFresh (d := d + 6) W17 hto (w := bRow D t ((bsX D T nt t).2 row.toNat)) (fun j j0 j1 => ?_) (vOk_bRow hD ht.1 ht.2 _)) fun r19 I19 ⟨W19, e19⟩ => kI_mk ⟨U6, Or.inl ⟨⟨⟨ht, hto⟩, w0, lt⟩, W19, e19⟩⟩
  rw [g17]
  show (if mFrom D t ≤ j ∧ j < mFrom D t + mMany D t then I10 (gG Z7 tn 0) (mMany D t * row + (j - mFrom D t)) else I10 10 j) = _
  unfold bRow
  by_cases q : mFrom D t ≤ j ∧ j < mFrom D t + mMany D t
  · rw [if_pos q, if_pos (by omega)]
    have := gd.2.2.2.2.2.2.2.1 row.toNat (j - mFrom D t).toNat (by omega) (by omega)
    rw [show ((row.toNat : Nat) : Int) = row by omega, show (((j - mFrom D t).toNat : Nat) : Int) = j - mFrom D t by omega] at this
    exact this
  · rw [if_neg q, if_neg (by omega)]
    exact z10 j j0 j1
end WC3
