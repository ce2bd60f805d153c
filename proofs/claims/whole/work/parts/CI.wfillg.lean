/-! Rewriter.fillGrade: one degree more -/
def oT (z : cm_Z) (J : cm_I) : Prop := ∀ t, t < 16 → okR (J (gG z t 4))
/-- products stand below degree k, and the secondary ones of these degrees -/
def rwI (D : Int) (T : Nat → cMat) (nt : Nat) (v : Nat → Int → Int) (dg : Nat → Int) (k : Nat) (z : cm_Z) (J : cm_I) : Prop := k ≤ 16 ∧ J 198 4 = (k : Int) - 1 ∧ scK D T nt v dg (seAll D T nt v dg k).length J ∧ ∀ t, t < k → grC D T nt v dg t z J
def rwE (D : Int) (sh mb : Nat) (T : Nat → cMat) (nt n : Nat) (L : Nat → cMat) (v : Nat → Int → Int) (dg : Nat → Int) (k : Nat) (z : cm_Z) (J : cm_I) : Prop := bsE D sh mb T nt n L z J ∧ z.1 198 2 = sh ∧ prA D T nt v dg J ∧ oT z J ∧ rwI D T nt v dg k z J
def flM (k : Nat) : List Nat := [73 + 7 * k, 198, 199, 200, 203, 204, 205, 207]
def flS (k : Nat) : List Nat := [1 + 6 * k + 2, 1 + 6 * k + 3, 1 + 6 * k + 4, 1 + 6 * k + 5]
def flP (k : Nat) (z : cm_Z) (I : cm_I) (z1 : cm_Z) (I1 : cm_I) : Prop := wF (flM k) (flS k) z I z1 I1 ∧ z1.1 198 = z.1 198 ∧ (∀ j, j ≠ 3 → j ≠ 4 → I1 198 j = I 198 j) ∧ ∀ t, t < 16 → ∀ j, j ≠ 6 → I1 (73 + 7 * t) j = I (73 + 7 * t) j
section WFG
variable {d : Nat} {z z1 : cm_Z} {I I1 : cm_I} {D : Int} {sh mb : Nat} {T : Nat → cMat} {nt n : Nat} {L : Nat → cMat} {v : Nat → Int → Int} {dg : Nat → Int}
theorem grC_fr {t : Nat} (h : grC D T nt v dg t z I) (e0 : ∀ j, 1 ≤ j → j < 6 → gG z1 t j = gG z t j ∧ z1.2.1 (gG z t j) = z.2.1 (gG z t j) ∧ I1 (gG z t j) = I (gG z t j)) (e1 : I1 (73 + 7 * t) 1 = I (73 + 7 * t) 1) (e6 : I1 (73 + 7 * t) 6 = I (73 + 7 * t) 6) : grC D T nt v dg t z1 I1 := by
  obtain ⟨h1, X, h2, h3⟩ := h
  exact ⟨by rw [e1]; exact h1, X, grQ_fr h2 e0 e6, h3⟩
theorem t_fillGrade (S : sx_S D T nt n L v dg) {k : Nat} (k16 : k < 16) (hR : rwE D sh mb T nt n L v dg k z I) (b1 : I (73 + 7 * k) 1 = 1) : zcU (d + 4) m_Rewriter_fillGrade [vR 8 198, vR 2 (73 + 7 * k)] z I fun I1 z1 => rwE D sh mb T nt n L v dg (k + 1) z1 I1 ∧ flP k z I z1 I1 := by
  obtain ⟨hE, y, hP, hT, _, r2, r3, r4⟩ := hR
  have hD := S.1
  have hz := hE.1.1
  have hg := hE.2.1
  have w6 : 248 ≤ zN z := hz.2.2.2.2.2
  have mN := mMany_136 hD (t := k) (by omega)
  have ga := gd_get hE k16 b1
  have kk : ∀ j, j < 6 → 1 + 6 * k + j < 97 := fun j hj => by omega
  obtain ⟨s, hs⟩ : ∃ s, s = bsRows D T nt (k : Int) := ⟨_, rfl⟩
  have hNt := N_eq hD k16
  refine wr_Rewriter_fillGrade hz ?_
  refine zcU_mono (t_beginProducts (d := d + 1) hz hg (i := k) (many := (mMany D k).toNat) (size := s) k16 (by rcases hNt with h | h; exact Or.inl h.2; exact Or.inr h.2) (by rw [hs]; exact ga.2.2.2.1) (by rw [ga.2.1]; omega) (by rw [ga.2.2.1, hs])) fun I2 Z2 ⟨p1, p2, p3, p4, p5, p6, p7, p8, p9, p10, p11, p12⟩ => ?_
  have NN : zN z ≤ zN Z2 := p3.2.2
  have zc : ∀ c, c < 248 → c ≠ 73 + 7 * k → Z2.1 c = z.1 c := fun c hc hn => p3.1 c (by omega) (nin1 hn)
  -- places that stay
  have n5 : ∀ c, c ≠ 64 → c ≤ 72 ∨ 185 ≤ c → c < 248 → c ≠ gG z k 5 := fun c h1 h2 h3 => gw_fix hg h3 h1 h2 (kk 5 (by decide))
  have fix2 : ∀ c, c ≠ 64 → c ≤ 72 ∨ 185 ≤ c → c < 248 → I2 c = I c := fun c h1 h2 h3 => p7 c (by omega) (by omega) (n5 c h1 h2 h3)
  have row2 : ∀ t j, t < 16 → j < 6 → (t ≠ k ∨ j < 2) → gG Z2 t j = gG z t j ∧ Z2.2.1 (gG z t j) = z.2.1 (gG z t j) ∧ I2 (gG z t j) = I (gG z t j) := by
    intro t j ht hj h
    have kt : 1 + 6 * t + j < 97 := by omega
    have lt : gG z t j < zN z := (hg.2.1 _ kt).2.1
    exact ⟨p6 _ kt fun j' h1 h2 => by omega, p3.2.1 _ lt, p7 _ lt (gw_gr hg k16 kt) (gw_ne hg kt (kk 5 (by decide)) (by omega))⟩
  have ob2 : ∀ t, t < 16 → t ≠ k → I2 (73 + 7 * t) = I (73 + 7 * t) := fun t ht hn => p7 _ (by omega) (by omega) (Ne.symm (gw_gr hg ht (kk 5 (by decide))))
  have sl2 : ∀ t, t < 16 → ∀ j, j ≠ 6 → I2 (73 + 7 * t) j = I (73 + 7 * t) j := by
    intro t ht j hj
    by_cases e : t = k
    · rw [e, p8]; exact if_neg hj
    · rw [ob2 t ht e]
  have e63 : Z2.1 63 2 = z.1 63 2 := by rw [zc 63 (by decide) (by omega)]
  have i63 : I2 (z.1 63 2) = I (z.1 63 2) := p7 _ (hg.2.1 0 (by decide)).2.1 (gw_gr hg k16 (k := 0) (by decide)) (gw_ne hg (k := 0) (by decide) (kk 5 (by decide)) (by omega))
  have E2 : bsE D sh mb T nt n L Z2 I2 := bsE_fr2 hE p1 p2 (zc 1 (by decide) (by omega)) (zc 53 (by decide) (by omega)) (zc 66 (by decide) (by omega)) (fun t j ht hj => row2 t j ht (by omega) (Or.inr hj)) (by rw [e63, i63]; exact hE.2.2.2.2.2.2.1) (fun c hc hn => fix2 c (by simp at hn; omega) (by omega) (by omega)) fun t ht j j0 j3 => sl2 t ht j (by omega)
  have y2 : Z2.1 198 2 = sh := by rw [zc 198 (by decide) (by omega)]; exact y
  have b2 : I2 (73 + 7 * k) 1 = 1 := by rw [sl2 k k16 1 (by decide)]; exact b1
  have P2 : prA D T nt v dg I2 := by
    intro τ hτ
    obtain ⟨ρ, q1, q2, q3, q4, q5⟩ := hP τ hτ
    have th := px_th S hτ
    refine ⟨ρ, by rw [fix2 190 (by decide) (by decide) (by decide)]; exact q1, by rw [fix2 191 (by decide) (by decide) (by decide)]; exact q2, q3, q4, by rw [sl2 _ (by omega) 1 (by decide)]; exact q5⟩
  have C2 : ∀ t, t < k → grC D T nt v dg t Z2 I2 := fun t ht => grC_fr (r4 t ht) (fun j j1 j6 => row2 t j (by omega) j6 (Or.inl (by omega))) (by rw [ob2 t (by omega) (by omega)]) (by rw [ob2 t (by omega) (by omega)])
  have K2 : scK D T nt v dg (seAll D T nt v dg k).length I2 := by
    unfold scK
    rw [fix2 198 (by decide) (by decide) (by decide), fix2 199 (by decide) (by decide) (by decide), fix2 200 (by decide) (by decide) (by decide)]
    exact r3
  have hmI : ((mMany D k).toNat : Int) = mMany D k := by omega
  have Q2 : grQ D T nt v dg k 0 (fun _ => (0, 0, 0, 0)) Z2 I2 := by
    refine ⟨Nat.zero_le _, ?_, ?_, fun i hi => absurd hi (by omega), fun i j hi => absurd hi (by omega), fun i k hi => absurd hi (by omega), p12 (hT k k16), fun c hc => ?_, Nat.zero_le _, fun c hc => ?_, fun a b ha hb e => ?_, fun i hi => absurd hi (by omega), fun i c hi => absurd hi (by omega)⟩
    · rw [p8]; exact if_pos rfl
    · rw [← hs, ← hmI]; exact p5
    · rw [p10 c (by omega)]; omega
    · show (I2 (gG Z2 k 5) (c : Int)).toNat < _
      rw [p10 c (by omega)]; omega
    · have e' : (I2 (gG Z2 k 5) (a : Int)).toNat = (I2 (gG Z2 k 5) (b : Int)).toNat := e
      rw [p10 a (by omega), p10 b (by omega)] at e'
      omega
  obtain ⟨Q, hQQ⟩ : ∃ Q : cm_Q, Q = kU fun I1 z1 => rwE D sh mb T nt n L v dg (k + 1) z1 I1 ∧ flP k z I z1 I1 := ⟨_, rfl⟩
  have hsh := shOk_sh hE.1.2.1
  have eL2 : ∀ z', zf [205, 207] Z2 z' → apL k z' = apL k Z2 ∧ scL k z' = scL k Z2 := fun z' h => by
    unfold apL scL
    rw [gG_zf h gO_57 k16 (j := 2) (by decide), gG_zf h gO_57 k16 (j := 3) (by decide), gG_zf h gO_57 k16 (j := 4) (by decide), gG_zf h gO_57 k16 (j := 5) (by decide)]
    exact ⟨rfl, rfl⟩
  have L6 : ∀ (u τ m : Nat) (X : Nat → tup4) (J : cm_I) (z' : cm_Z), ((τ : Int) + u = D) → apF k Z2 I2 z' J → grQ D T nt v dg k m X z' J → (∀ x, pxX D T nt v dg k x → 1 ≤ lastP x → lastP x ≤ τ → ∃ i, i < m ∧ X i = x) → (∀ i, i < m → 1 ≤ lastP (X i) ∧ lastP (X i) ≤ τ) → cw (d + 3) cd_Rewriter_fillGrade Q 6 [some (vR 8 198), some (vR 2 (73 + 7 * k)), some (vI (τ : Int))] [] (J, z') := by
    intro u
    induction u with
    | zero =>
      intro τ m X J z' eτ hF hq cv ow
      have EJ := apF_E E2 k16 hF
      have gz : ∀ t j, t < 16 → j < 6 → gG z' t j = gG Z2 t j := fun t j ht hj => gG_zf hF.1 gO_57 ht hj
      have jsh : J sh 0 = D := EJ.1.2.1.2.1
      have yz : z'.1 198 2 = sh := by rw [hF.1.1 198 (by decide)]; exact y2
      have fixJ : ∀ c, c ≠ 64 → c ≤ 72 ∨ 185 ≤ c → c < 248 → c ∉ [203, 204, 205, 207] → J c = I c := fun c h1 h2 h3 h4 => by
        rw [hF.2.1 c (apL_fix p2 k16 h3 h1 h2 h4)]; exact fix2 c h1 h2 h3
      refine wr_Rewriter_fillGrade_6 EJ.1.1 yz hsh (by omega) ?_
      rw [jsh]
      refine ⟨fun _ => ?_, fun w => by omega⟩
      have lastD : ∀ x, pxX D T nt v dg k x → lastP x ≤ τ := by
        intro x hx
        by_cases e : lastP x = 0
        · omega
        · have := (px_dn S (τ := lastP x - 1) (by omega) hx (by omega)).1
          omega
      refine mU_mono (t_addSecondaries (d := d) EJ S k16 (by rw [hF.2.2 1 (by decide)]; exact b2) hq (fun x hx hj => cv x hx ((px_last S (by omega) hx).mpr hj) (lastD x hx)) (fun i hi => (px_last S (by omega) (hq.2.2.2.1 i hi).2).mp (ow i hi).1) (by
        unfold scK
        rw [fixJ 198 (by decide) (by decide) (by decide) (by decide), fixJ 199 (by decide) (by decide) (by decide) (by decide), fixJ 200 (by decide) (by decide) (by decide) (by decide)]
        exact r3)) fun J1 ⟨s1, s2, s3, s4, s5⟩ J2 e2 => ?_
      rw [(eL2 z' hF.1).2] at s1
      obtain ⟨f2, g2⟩ := fr_eq_iu e2
      have ja0 : J1 (73 + 7 * k) 0 = (k : Int) := by rw [s2 0 (by decide), hF.2.2 0 (by decide), sl2 k k16 0 (by decide)]; exact ga.1
      rw [ja0] at g2
      have hgJ := EJ.2.1
      have scout : ∀ c, c ≠ 73 + 7 * k → c ∉ [203, 198, 199, 200] → (∀ j, 2 ≤ j → j < 6 → c ≠ gG Z2 k j) → c ∉ scL k Z2 := by
        intro c h1 h2 h3
        simp at h2
        simp [scL]
        exact ⟨by omega, by omega, h3 2 (by decide) (by decide), h3 3 (by decide) (by decide), h3 4 (by decide) (by decide), h3 5 (by decide) (by decide), by omega, by omega, by omega⟩
      have gfix : ∀ t j, t < 16 → j < 6 → gG Z2 t j ∉ [203, 198, 199, 200] := fun t j ht hj => by
        have kt : 1 + 6 * t + j < 97 := by omega
        have n3 := gw_fix p2 (c := 203) (by decide) (by decide) (by decide) kt
        have n4 := gw_fix p2 (c := 198) (by decide) (by decide) (by decide) kt
        have n5 := gw_fix p2 (c := 199) (by decide) (by decide) (by decide) kt
        have n7 := gw_fix p2 (c := 200) (by decide) (by decide) (by decide) kt
        simp
        exact ⟨fun e => n3 e.symm, fun e => n4 e.symm, fun e => n5 e.symm, fun e => n7 e.symm⟩
      have rowJ : ∀ t j, t < 16 → j < 6 → (t ≠ k ∨ j < 2) → J2 (gG Z2 t j) = J (gG Z2 t j) := by
        intro t j ht hj h
        have kt : 1 + 6 * t + j < 97 := by omega
        rw [f2 _ (nin1 (fun e => gfix t j ht hj (by rw [e]; simp))), s1 (gG Z2 t j) (scout _ (gw_gr p2 k16 kt) (gfix t j ht hj) fun j' h1 h2 => gw_ne p2 kt (k' := 1 + 6 * k + j') (by omega) (by omega))]
      have slJ : ∀ t, t < 16 → ∀ j, (t ≠ k ∨ j ≠ 6) → J2 (73 + 7 * t) j = J (73 + 7 * t) j := by
        intro t ht j h
        rw [f2 _ (nin1 (by omega))]
        by_cases e : t = k
        · rw [e]; exact s2 j (by omega)
        · rw [s1 _ (scout _ (by omega) (by simp; omega) fun j' _ h6 => Ne.symm (gw_gr p2 ht (k := 1 + 6 * k + j') (by omega)))]
      have fixJ2 : ∀ c, c ≠ 64 → c ≤ 72 ∨ 185 ≤ c → c < 248 → c ∉ [203, 198, 199, 200] → J2 c = J c := fun c h1 h2 h3 h4 => by
        rw [f2 c (nin1 (fun e => h4 (by rw [e]; simp))), s1 c (scout c (by omega) h4 fun j _ h6 => gw_fix p2 h3 h1 h2 (k := 1 + 6 * k + j) (by omega))]
      have i63J : J2 (z'.1 63 2) = J (z'.1 63 2) := by
        have k0 : (0 : Nat) < 97 := by decide
        have e : z'.1 63 2 = gR Z2 0 := by rw [hF.1.1 63 (by decide)]; rfl
        rw [e]
        have n3 := gw_fix p2 (c := 203) (by decide) (by decide) (by decide) k0
        have n4 := gw_fix p2 (c := 198) (by decide) (by decide) (by decide) k0
        have n5 := gw_fix p2 (c := 199) (by decide) (by decide) (by decide) k0
        have n7 := gw_fix p2 (c := 200) (by decide) (by decide) (by decide) k0
        rw [f2 _ (nin1 (Ne.symm n4)), s1 _ (scout _ (gw_gr p2 k16 k0) (by simp; exact ⟨fun e => n3 e.symm, fun e => n4 e.symm, fun e => n5 e.symm, fun e => n7 e.symm⟩) fun j' h1 h2 => gw_ne p2 k0 (k' := 1 + 6 * k + j') (by omega) (by omega))]
      have EF : bsE D sh mb T nt n L z' J2 := bsE_fr2 EJ EJ.1.1 hgJ rfl rfl rfl (fun t j ht hj => ⟨rfl, rfl, by rw [gz t j ht (by omega)]; exact rowJ t j ht (by omega) (Or.inr hj)⟩) (by rw [i63J]; exact EJ.2.2.2.2.2.2.1) (fun c hc hn => fixJ2 c (by simp at hn; omega) (by omega) (by omega) (by simp; omega)) fun t ht j j0 j3 => slJ t ht j (Or.inr (by omega))
      have v198 : J2 198 = fun j => if j = 4 then (k : Int) else J1 198 j := g2
      rw [hQQ]
      refine kU_mk ⟨⟨EF, yz, ?_, fun t ht => ?_, by omega, ?_, ?_, fun t ht => ?_⟩, ⟨?_, ?_, ?_, ?_⟩, ?_, ?_, ?_⟩
      · intro τ' hτ'
        obtain ⟨ρ, q1, q2, q3, q4, q5⟩ := P2 τ' hτ'
        have th := px_th S hτ'
        refine ⟨ρ, ?_, ?_, q3, q4, ?_⟩
        · rw [fixJ2 190 (by decide) (by decide) (by decide) (by decide), hF.2.1 190 (apL_fix p2 k16 (by decide) (by decide) (by decide) (by decide))]; exact q1
        · rw [fixJ2 191 (by decide) (by decide) (by decide) (by decide), hF.2.1 191 (apL_fix p2 k16 (by decide) (by decide) (by decide) (by decide))]; exact q2
        · rw [slJ _ (by omega) 1 (Or.inr (by decide))]
          by_cases e : (dg τ').toNat = k
          · rw [e, hF.2.2 1 (by decide)]; exact b2
          · rw [hF.2.1 _ (apL_ob p2 k16 (by omega) e)]; exact q5
      · by_cases e : t = k
        · rw [e]
          obtain ⟨_, X1, hq1, _⟩ := s5
          rw [f2 _ (nin1 (by
            have := gw_fix hgJ (c := 198) (by decide) (by decide) (by decide) (kk 4 (by decide))
            exact Ne.symm this))]
          exact hq1.2.2.2.2.2.2.1
        · rw [gz t 4 ht (by decide), rowJ t 4 ht (by decide) (Or.inl e), hF.2.1 _ (apL_gr p2 k16 ht (by decide) (Or.inl e)), (row2 t 4 ht (by decide) (Or.inl e)).1, (row2 t 4 ht (by decide) (Or.inl e)).2.2]
          exact hT t ht
      · rw [v198]
        show (if (4 : Int) = 4 then (k : Int) else _) = _
        rw [if_pos rfl]; omega
      · unfold scK
        rw [v198, f2 199 (by decide), f2 200 (by decide)]
        exact s4
      · by_cases e : t = k
        · rw [e]
          have nj : ∀ j, j < 6 → gG z' k j ∉ [198] := fun j hj => nin1 (Ne.symm (gw_fix hgJ (c := 198) (by decide) (by decide) (by decide) (kk j hj)))
          exact grC_fr s5 (fun j j1 j6 => ⟨rfl, rfl, f2 _ (nj j j6)⟩) (by rw [f2 _ (nin1 (by omega))]) (by rw [f2 _ (nin1 (by omega))])
        · refine grC_fr (C2 t (by omega)) (fun j j1 j6 => ⟨gz t j (by omega) j6, by rw [hF.1.2], ?_⟩) ?_ ?_
          · rw [rowJ t j (by omega) j6 (Or.inl e), hF.2.1 _ (apL_gr p2 k16 (by omega) j6 (Or.inl e))]
          · rw [slJ t (by omega) 1 (Or.inl e), hF.2.1 _ (apL_ob p2 k16 (by omega) e)]
          · rw [slJ t (by omega) 6 (Or.inl e), hF.2.1 _ (apL_ob p2 k16 (by omega) e)]
      · exact zg_trans (zg_mono p3 (by simp [flM])) (zg_mono (zg_zf hF.1) (by simp [flM]))
      · exact us_trans p4 (us_zf hF.1 gO_57)
      · intro k' hk'
        rw [gR_zf hF.1 (gO_57 k' hk')]
        by_cases e : ∀ j, 2 ≤ j → j < 6 → k' ≠ 1 + 6 * k + j
        · exact Or.inl (p6 k' hk' e)
        · have ex : ∃ j, 2 ≤ j ∧ j < 6 ∧ k' = 1 + 6 * k + j := by
            apply Classical.byContradiction
            intro no
            exact e fun j h1 h2 h3 => no ⟨j, h1, h2, h3⟩
          obtain ⟨j, h1, h2, h3⟩ := ex
          rw [h3]
          rcases p11 j h1 h2 with w | w
          · exact Or.inl w
          · refine Or.inr ⟨?_, w⟩
            have : j = 2 ∨ j = 3 ∨ j = 4 ∨ j = 5 := by omega
            rcases this with e | e | e | e <;> (rw [e]; simp [flS])
      · intro c hc hn hq'
        have nz : ∀ j, 2 ≤ j → j < 6 → c ≠ gG Z2 k j := fun j h1 h2 => by
          rcases p11 j h1 h2 with w | w
          · rw [w]
            refine hq' (1 + 6 * k + j) (by omega) ?_
            have : j = 2 ∨ j = 3 ∨ j = 4 ∨ j = 5 := by omega
            rcases this with e | e | e | e <;> (rw [e]; simp [flS])
          · omega
        have hn' := hn
        simp [flM] at hn'
        rw [f2 c (nin1 (by omega)), s1 c (scout c (by omega) (by simp; omega) nz), hF.2.1 c (apL_out p2 k16 (by omega) (by simp; omega) nz), p7 c hc (by omega) (hq' (1 + 6 * k + 5) (by omega) (by simp [flS]))]
      · rw [hF.1.1 198 (by decide), zc 198 (by decide) (by omega)]
      · intro j h3 h4
        rw [v198]
        show (if j = 4 then (k : Int) else J1 198 j) = _
        rw [if_neg h4, s3 j h3, fixJ 198 (by decide) (by decide) (by decide) (by decide)]
      · intro t ht j hj
        rw [slJ t ht j (Or.inr hj)]
        by_cases e : t = k
        · rw [e, hF.2.2 j hj]; exact sl2 k k16 j hj
        · rw [hF.2.1 _ (apL_ob p2 k16 ht e), ob2 t ht e]
    | succ u ih =>
      intro τ m X J z' eτ hF hq cv ow
      have hτ : (τ : Int) < D := by omega
      have EJ := apF_E E2 k16 hF
      have jsh : J sh 0 = D := EJ.1.2.1.2.1
      have yz : z'.1 198 2 = sh := by rw [hF.1.1 198 (by decide)]; exact y2
      have th := px_th S hτ
      obtain ⟨ρ, q1, _⟩ := P2 τ hτ
      have j190 : J 190 (τ : Int) = dg τ := by rw [hF.2.1 190 (apL_fix p2 k16 (by decide) (by decide) (by decide) (by decide))]; exact q1
      have ja0 : J (73 + 7 * k) 0 = (k : Int) := by rw [hF.2.2 0 (by decide), sl2 k k16 0 (by decide)]; exact ga.1
      refine wr_Rewriter_fillGrade_6 EJ.1.1 yz hsh (by omega) ?_
      rw [jsh, j190, ja0]
      refine ⟨fun w => by omega, fun _ => ⟨⟨by omega, by omega⟩, fun big => ⟨by unfold cm_i; omega, ?_⟩, fun le => ?_⟩⟩
      · have := ih (τ + 1) m X J z' (by omega) hF hq (fun x hx h1 h2 => ?_) (fun i hi => ⟨(ow i hi).1, by have := (ow i hi).2; omega⟩)
        · rw [show ((τ + 1 : Nat) : Int) = (τ : Int) + 1 by omega] at this
          exact this
        · by_cases e : lastP x = τ + 1
          · have := (px_dn S (τ := τ) (by omega) hx e).2.1
            omega
          · exact cv x hx h1 (by omega)
      · have PJ : prA D T nt v dg J := by
          intro τ' hτ'
          obtain ⟨ρ, q1, q2, q3, q4, q5⟩ := P2 τ' hτ'
          have th := px_th S hτ'
          refine ⟨ρ, ?_, ?_, q3, q4, ?_⟩
          · rw [hF.2.1 190 (apL_fix p2 k16 (by decide) (by decide) (by decide) (by decide))]; exact q1
          · rw [hF.2.1 191 (apL_fix p2 k16 (by decide) (by decide) (by decide) (by decide))]; exact q2
          · by_cases e : (dg τ').toNat = k
            · rw [e, hF.2.2 1 (by decide)]; exact b2
            · rw [hF.2.1 _ (apL_ob p2 k16 (by omega) e)]; exact q5
        refine zcU_mono (t_addProducts (d := d) EJ S yz k16 hτ le (by rw [hF.2.2 1 (by decide)]; exact b2) PJ (fun t' ht' => ?_) hq cv ow) fun J1 z1 ⟨a1, m1, X1, a2, a3, a4⟩ => ⟨by unfold cm_i; omega, ?_⟩
        · obtain ⟨c1, X', c2, c3⟩ := C2 t' ht'
          exact ⟨by rw [hF.2.1 _ (apL_ob p2 k16 (by omega) (by omega))]; exact c1, X', apF_Q p2 k16 (by omega) (by omega) hF c2, c3⟩
        · have := ih (τ + 1) m1 X1 J1 z1 (by omega) (apF_trans k16 hF a1) a2 a3 a4
          rw [show ((τ + 1 : Nat) : Int) = (τ : Int) + 1 by omega] at this
          exact this
  show cw (d + 3) cd_Rewriter_fillGrade (kU fun I1 z1 => rwE D sh mb T nt n L v dg (k + 1) z1 I1 ∧ flP k z I z1 I1) 6 _ _ _
  rw [← hQQ]
  exact L6 D.toNat 0 0 (fun _ => (0, 0, 0, 0)) I2 Z2 (by omega) (apF_refl k Z2 I2) Q2 (fun x hx h1 h2 => by omega) fun i hi => by omega
end WFG
