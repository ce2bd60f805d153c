/-! Rewriter.extend, extendToAll -/
def exM : List Nat := [53, 54, 55, 56, 57, 58, 59, 60, 63, 65, 70, 71, 73, 80, 87, 94, 101, 108, 115, 122, 129, 136, 143, 150, 157, 164, 171, 178, 198, 199, 200, 203, 204, 205, 207]
def exS : List Nat := List.range 97
theorem exS_all {k : Nat} (h : k < 97) : k ∈ exS := List.mem_range.mpr h
theorem exM_gr : ∀ t, t < 16 → 73 + 7 * t ∈ exM := by decide
def exP (z : cm_Z) (I : cm_I) (z1 : cm_Z) (I1 : cm_I) : Prop := wF exM exS z I z1 I1 ∧ (∀ j, j ≠ 3 → j ≠ 4 → I1 198 j = I 198 j) ∧ ∀ t, t < 16 → I (73 + 7 * t) 1 = 1 → I1 (73 + 7 * t) 1 = 1
theorem exP_refl (z : cm_Z) (I : cm_I) : exP z I z I := ⟨wF_refl _ _ _ _, fun _ _ _ => rfl, fun _ _ h => h⟩
theorem exP_trans {z z1 z2 : cm_Z} {I I1 I2 : cm_I} (h : exP z I z1 I1) (h' : exP z1 I1 z2 I2) : exP z I z2 I2 := ⟨wF_trans h.1 h'.1, fun j a b => (h'.2.1 j a b).trans (h.2.1 j a b), fun t ht e => h'.2.2 t ht (h.2.2 t ht e)⟩
theorem flP_exP {k : Nat} (hk : k < 16) {z z1 : cm_Z} {I I1 : cm_I} (h : flP k z I z1 I1) : exP z I z1 I1 := by
  obtain ⟨h1, h2, h3, h4⟩ := h
  refine ⟨wF_mono h1 (fun x hx => ?_) (fun x hx => ?_), h3, fun t ht e => by rw [h4 t ht 1 (by decide)]; exact e⟩
  · simp [flM] at hx
    have := exM_gr k hk
    rcases hx with e | e | e | e | e | e | e | e
    · rw [e]; exact this
    all_goals (rw [e]; decide)
  · simp [flS] at hx
    exact exS_all (by omega)
/-- labels below degree k stay -/
def labS (k : Nat) (z : cm_Z) (I : cm_I) (z1 : cm_Z) (I1 : cm_I) : Prop := ∀ t, t < k → I1 (gG z1 t 3) = I (gG z t 3)
theorem labS_refl (k : Nat) (z : cm_Z) (I : cm_I) : labS k z I z I := fun _ _ => rfl
theorem labS_trans {k k' : Nat} (h : k ≤ k') {z z1 z2 : cm_Z} {I I1 I2 : cm_I} (a : labS k z I z1 I1) (b : labS k' z1 I1 z2 I2) : labS k z I z2 I2 := fun t ht => (b t (by omega)).trans (a t ht)
theorem flP_lab {k : Nat} (hk : k < 16) {z z1 : cm_Z} {I I1 : cm_I} (hg : gw z) (h : flP k z I z1 I1) : labS k z I z1 I1 := by
  intro t ht
  have kt : 1 + 6 * t + 3 < 97 := by omega
  have e : gG z1 t 3 = gG z t 3 := by
    rcases h.1.2.2.1 (1 + 6 * t + 3) kt with w | ⟨w, _⟩
    · exact w
    · simp [flS] at w; omega
  rw [e]
  refine h.1.2.2.2 _ (hg.2.1 _ kt).2.1 ?_ fun k' hk' hS => ?_
  · have nn : ∀ c, c < 248 → 185 ≤ c → gG z t 3 ≠ c := fun c h1 h2 => Ne.symm (gw_fix hg h1 (by omega) (Or.inr h2) kt)
    simp [flM]
    exact ⟨gw_gr hg hk kt, nn 198 (by decide) (by decide), nn 199 (by decide) (by decide), nn 200 (by decide) (by decide), nn 203 (by decide) (by decide), nn 204 (by decide) (by decide), nn 205 (by decide) (by decide), nn 207 (by decide) (by decide)⟩
  · simp [flS] at hS
    exact gw_ne hg kt hk' (by omega)
theorem gdP_lab {t : Nat} (t15 : t < 16) {z z1 : cm_Z} {I I1 : cm_I} (hg : gw z) (h : gdP t z I I1 z1) : labS 16 z I z1 I1 := by
  intro t' ht'
  have kt : 1 + 6 * t' + 3 < 97 := by omega
  have W := gdP_wF t15 h
  obtain ⟨p1, p2, p3, p4, p5, p6, p7, p8⟩ := h
  have e : gG z1 t' 3 = gG z t' 3 := p3 _ kt (by omega) (by omega) (by omega)
  rw [e]
  refine W.2.2.2 _ (hg.2.1 _ kt).2.1 ?_ fun k' hk' hS => ?_
  · have nb := (gw_blo hg kt).1
    intro m
    rcases List.mem_append.mp m with m | m
    · simp at m
      rcases m with m | m
      · exact nb (by show gG z t' 3 ∈ blo; rw [m]; decide)
      · exact gw_gr hg t15 kt m
    · exact nb (by
        have : ∀ x, x ∈ bll → x ∈ blo := by decide
        exact this _ m)
  · simp at hS
    exact gw_ne hg kt hk' (by omega)
section WEX
variable {d : Nat} {z z1 : cm_Z} {I I1 : cm_I} {D : Int} {sh mb : Nat} {T : Nat → cMat} {nt n : Nat} {L : Nat → cMat} {v : Nat → Int → Int} {dg : Nat → Int}
theorem t_grade2 (hE : bsE D sh mb T nt n L z I) {t : Nat} (t15 : t < 16) : zcA (d + 8) m_Bases_grade [vR 0 66, vI (t : Int)] z I 2 fun v I1 z1 => (v = 73 + 7 * t ∧ bsE D sh mb T nt n L z1 I1 ∧ I1 (73 + 7 * t) 1 = 1 ∧ gdP t z I I1 z1) ∧ (I (73 + 7 * t) 1 = 1 → I1 = I ∧ z1 = z) := by
  by_cases e : I (73 + 7 * t) 1 = 1
  · have et : Int.toNat (t : Int) = t := by omega
    refine wr_Bases_grade hE.1.1 ⟨⟨by omega, by omega⟩, ?_⟩
    rw [et]
    exact ⟨fun _ => kA_mk ⟨⟨rfl, hE, e, gdP_refl t z I⟩, fun _ => ⟨rfl, rfl⟩⟩, fun w => by rw [e] at w; exact absurd w (by decide)⟩
  · exact zcA_mono (t_grade (d := d) hE t15) fun v I1 z1 h => ⟨h, fun w => absurd w e⟩
theorem gdP_exP {t : Nat} (t15 : t < 16) (hg : gw z) (hz : wz z) (b : I1 (73 + 7 * t) 1 = 1) (h : gdP t z I I1 z1) : exP z I z1 I1 := by
  have w6 : 248 ≤ zN z := hz.2.2.2.2.2
  have W := gdP_wF t15 h
  obtain ⟨p1, p2, p3, p4, p5, p6, p7, p8⟩ := h
  refine ⟨wF_mono W (fun x hx => ?_) (fun x hx => ?_), fun j _ _ => ?_, fun t' ht' e => ?_⟩
  · have := exM_gr t t15
    simp [bll] at hx
    rcases hx with e | e | e | e | e | e | e | e | e | e | e | e | e
    · rw [e]; decide
    · rw [e]; exact this
    all_goals (rw [e]; decide)
  · simp at hx
    exact exS_all (by omega)
  · rw [W.2.2.2 198 (by omega) (by simp [bll]; omega) fun k hk _ => gw_fix hg (by decide) (by decide) (by decide) hk]
  · by_cases w : t' = t
    · rw [w]; exact b
    · rw [W.2.2.2 (73 + 7 * t') (by omega) (by simp [bll]; omega) fun k hk _ => Ne.symm (gw_gr hg ht' hk)]
      exact e
/-- a base more is made: products stand as before -/
theorem rw_gdP {k t : Nat} (t15 : t < 16) (kt : k ≤ t) (hR : rwE D sh mb T nt n L v dg k z I) (S : sx_S D T nt n L v dg) (E1 : bsE D sh mb T nt n L z1 I1) (b : I1 (73 + 7 * t) 1 = 1) (h : gdP t z I I1 z1) : rwE D sh mb T nt n L v dg k z1 I1 := by
  obtain ⟨hE, y, hP, hT, r1, r2, r3, r4⟩ := hR
  have hg := hE.2.1
  have w6 : 248 ≤ zN z := hE.1.1.2.2.2.2.2
  have W := gdP_wF t15 h
  obtain ⟨p1, p2, p3, p4, p5, p6, p7, p8⟩ := id h
  have fx : ∀ c, c < 248 → 185 ≤ c → I1 c = I c := fun c h1 h2 => W.2.2.2 c (by omega) (by simp [bll]; omega) fun k hk _ => gw_fix hg h1 (by omega) (Or.inr h2) hk
  have ob : ∀ t', t' < 16 → t' ≠ t → I1 (73 + 7 * t') = I (73 + 7 * t') := fun t' ht' w => W.2.2.2 _ (by omega) (by simp [bll]; omega) fun k hk _ => Ne.symm (gw_gr hg ht' hk)
  have row : ∀ t' j, t' < 16 → j < 6 → (t' ≠ t ∨ 2 ≤ j) → gG z1 t' j = gG z t' j ∧ z1.2.1 (gG z t' j) = z.2.1 (gG z t' j) ∧ I1 (gG z t' j) = I (gG z t' j) := by
    intro t' j ht' hj w
    have kt' : 1 + 6 * t' + j < 97 := by omega
    have lt : gG z t' j < zN z := (hg.2.1 _ kt').2.1
    refine ⟨p3 _ kt' (by omega) (by omega) (by omega), p1.2.1 _ lt, W.2.2.2 _ lt ?_ fun k' hk' hS => ?_⟩
    · have nb := (gw_blo hg kt').1
      intro m
      rcases List.mem_append.mp m with m | m
      · simp at m
        rcases m with m | m
        · exact nb (by show gG z t' j ∈ blo; rw [m]; decide)
        · exact gw_gr hg t15 kt' m
      · exact nb (by
          have : ∀ x, x ∈ bll → x ∈ blo := by decide
          exact this _ m)
    · simp at hS
      exact gw_ne hg kt' hk' (by omega)
  refine ⟨E1, by rw [p1.1 198 (by omega) (by simp; omega)]; exact y, fun τ hτ => ?_, fun t' ht' => ?_, r1, by rw [fx 198 (by decide) (by decide)]; exact r2, ?_, fun t' ht' => ?_⟩
  · obtain ⟨ρ, q1, q2, q3, q4, q5⟩ := hP τ hτ
    have th := px_th S hτ
    refine ⟨ρ, by rw [fx 190 (by decide) (by decide)]; exact q1, by rw [fx 191 (by decide) (by decide)]; exact q2, q3, q4, ?_⟩
    by_cases e : (dg τ).toNat = t
    · rw [e]; exact b
    · rw [ob _ (by omega) e]; exact q5
  · have := row t' 4 ht' (by decide) (Or.inr (by decide))
    rw [this.1, this.2.2]
    exact hT t' ht'
  · unfold scK
    rw [fx 198 (by decide) (by decide), fx 199 (by decide) (by decide), fx 200 (by decide) (by decide)]
    exact r3
  · exact grC_fr (r4 t' ht') (fun j j1 j6 => row t' j (by omega) j6 (Or.inl (by omega))) (by rw [ob t' (by omega) (by omega)]) (by rw [ob t' (by omega) (by omega)])
/-- one degree more -/
theorem rw_step (S : sx_S D T nt n L v dg) {k : Nat} (k16 : k < 16) (hR : rwE D sh mb T nt n L v dg k z I) : zcA (d + 8) m_Bases_grade [vR 0 66, vI (k : Int)] z I 2 fun v3 I1 Z2 => v3 = 73 + 7 * k ∧ zcU (d + 8) m_Rewriter_fillGrade [vR 8 198, vR 2 (73 + 7 * k)] Z2 I1 fun I4 Z5 => rwE D sh mb T nt n L v dg (k + 1) Z5 I4 ∧ exP z I Z5 I4 ∧ labS k z I Z5 I4 := by
  refine zcA_mono (t_grade2 (d := d) hR.1 k16) fun v3 I1 Z2 ⟨⟨h1, h2, h3, h4⟩, _⟩ => ⟨h1, ?_⟩
  have R1 := rw_gdP k16 (Nat.le_refl k) hR S h2 h3 h4
  refine zcU_mono (t_fillGrade (d := d + 4) S k16 R1 h3) fun I4 Z5 ⟨k1, k2⟩ => ⟨k1, exP_trans (gdP_exP k16 hR.1.2.1 hR.1.1.1 h3 h4) (flP_exP k16 k2), fun t ht => (flP_lab k16 h2.2.1 k2 t ht).trans (gdP_lab k16 hR.1.2.1 h4 t (by omega))⟩
theorem t_extend (S : sx_S D T nt n L v dg) {k : Nat} {last : Int} (l15 : last ≤ 15) (hR : rwE D sh mb T nt n L v dg k z I) : zcU (d + 9) m_Rewriter_extend [vR 8 198, vI last] z I fun I1 z1 => ∃ k1, k ≤ k1 ∧ last < k1 ∧ rwE D sh mb T nt n L v dg k1 z1 I1 ∧ exP z I z1 I1 ∧ labS k z I z1 I1 := by
  have Lp : ∀ (u k' : Nat) (J : cm_I) (z' : cm_Z), k' + u = 16 → k ≤ k' → rwE D sh mb T nt n L v dg k' z' J → (exP z I z' J ∧ labS k z I z' J) → cw (d + 8) cd_Rewriter_extend (kU fun I1 z1 => ∃ k1, k ≤ k1 ∧ last < k1 ∧ rwE D sh mb T nt n L v dg k1 z1 I1 ∧ exP z I z1 I1 ∧ labS k z I z1 I1) 7 [some (vR 8 198), some (vI last), some (vI (k' : Int))] [] (J, z') := by
    intro u
    induction u with
    | zero =>
      intro k' J z' ek kk hR' hX
      exact wr_Rewriter_extend_7 hR'.1.1.1 ⟨fun _ => kU_mk ⟨k', kk, by omega, hR', hX⟩, fun w => by omega⟩
    | succ u ih =>
      intro k' J z' ek kk hR' hX
      refine wr_Rewriter_extend_7 hR'.1.1.1 ⟨fun w => by omega, fun _ => ⟨fun w => kU_mk ⟨k', kk, w, hR', hX⟩, fun w => ?_⟩⟩
      refine zcA_mono (rw_step (d := d) S (by omega) hR') fun v3 I1 Z2 ⟨h1, h2⟩ => ?_
      rw [h1]
      refine zcU_mono h2 fun I4 Z5 ⟨k1, k2, k3⟩ => ⟨by unfold cm_i; omega, ?_⟩
      exact ih (k' + 1) I4 Z5 (by omega) (by omega) k1 ⟨exP_trans hX.1 k2, labS_trans kk hX.2 k3⟩
  have k16 := hR.2.2.2.2.1
  have e4 := hR.2.2.2.2.2.1
  refine wr_Rewriter_extend hR.1.1.1 ?_
  rw [e4, show (k : Int) - 1 + 1 = (k : Int) by omega]
  exact ⟨by unfold cm_i; omega, Lp (16 - k) k I z (by omega) (Nat.le_refl _) hR ⟨exP_refl z I, labS_refl k z I⟩⟩
theorem t_extendToAll (S : sx_S D T nt n L v dg) {k : Nat} (hR : rwE D sh mb T nt n L v dg k z I) (e3 : I 185 3 = (n : Int)) : zcU (d + 9) m_Rewriter_extendToAll [vR 8 198] z I fun I1 z1 => ∃ k1, k ≤ k1 ∧ rwE D sh mb T nt n L v dg k1 z1 I1 ∧ (exP z I z1 I1 ∧ labS k z I z1 I1) ∧ seAll D T nt v dg k1 = pxL D T nt v dg := by
  have hD := S.1
  have n1 := S.2.1.1
  have hsh := shOk_sh hR.1.1.2.1
  obtain ⟨P, hP⟩ : ∃ P, P = dg 0 * dg 1 * (if D = 2 then 1 else dg 2) := ⟨_, rfl⟩
  have cnt : (n : Int) * (pxL D T nt v dg).length ≤ P := by
    rw [hP]
    exact sx_cnt S (Nat.le_refl 16) (seAll_ok 16 (Nat.le_refl _)).1 (seAll_ok 16 (Nat.le_refl _)).2
  have pre : ∀ k', k' ≤ 16 → ∃ l', pxL D T nt v dg = seAll D T nt v dg k' ++ l' := fun k' hk => by
    obtain ⟨l', h, _⟩ := seAll_pre (D := D) (T := T) (nt := nt) (v := v) (dg := dg) (t := k') (t' := 16) hk (Nat.le_refl _)
    exact ⟨l', h⟩
  have L64 : ∀ (u k' : Nat) (J : cm_I) (z' : cm_Z) (x1 : Option cm_V), k' + u = 16 → k ≤ k' → rwE D sh mb T nt n L v dg k' z' J → (exP z I z' J ∧ labS k z I z' J) → cw (d + 8) cd_Rewriter_extendToAll (kU fun I1 z1 => ∃ k1, k ≤ k1 ∧ rwE D sh mb T nt n L v dg k1 z1 I1 ∧ (exP z I z1 I1 ∧ labS k z I z1 I1) ∧ seAll D T nt v dg k1 = pxL D T nt v dg) 64 [some (vR 8 198), x1, some (vI (Int.tdiv P n)), some (vI (k' : Int))] [] (J, z') := by
    intro u
    induction u with
    | zero =>
      intro k' J z' x1 ek kk hR' hX
      have : k' = 16 := by omega
      exact wr_Rewriter_extendToAll_64 hR'.1.1.1 ⟨fun _ => kU_mk ⟨k', kk, hR', hX, by rw [this]; rfl⟩, fun w => by omega⟩
    | succ u ih =>
      intro k' J z' x1 ek kk hR' hX
      refine wr_Rewriter_extendToAll_64 hR'.1.1.1 ⟨fun w => by omega, fun _ => ⟨fun w => kU_mk ⟨k', kk, hR', hX, ?_⟩, fun w => ?_⟩⟩
      · rw [hR'.2.2.2.2.2.2.1.1] at w
        obtain ⟨l', hl⟩ := pre k' (by omega)
        have len : (pxL D T nt v dg).length = (seAll D T nt v dg k').length + l'.length := by rw [hl, List.length_append]
        have P0 : 0 ≤ P := Int.le_trans (Int.mul_nonneg (by omega) (by omega)) cnt
        rw [Int.tdiv_eq_ediv_of_nonneg P0] at w
        have le : ((pxL D T nt v dg).length : Int) ≤ P / n := by
          rw [Int.le_ediv_iff_mul_le (by omega)]
          rw [Int.mul_comm]; exact cnt
        have z0 : l'.length = 0 := by omega
        rw [hl, List.length_eq_zero_iff.mp z0, List.append_nil]
      · refine zcA_mono (rw_step (d := d) S (by omega) hR') fun v3 I1 Z2 ⟨h1, h2⟩ => ?_
        rw [h1]
        refine zcU_mono h2 fun I4 Z5 ⟨k1, k2, k3⟩ => ⟨by unfold cm_i; omega, ?_⟩
        exact ih (k' + 1) I4 Z5 x1 (by omega) (by omega) k1 ⟨exP_trans hX.1 k2, labS_trans kk hX.2 k3⟩
  have k16 := hR.2.2.2.2.1
  have e4 := hR.2.2.2.2.2.1
  have jsh : I sh 0 = D := hR.1.1.2.1.2.1
  have dgs : ∀ τ : Nat, (τ : Int) < D → I 190 (τ : Int) = dg τ ∧ 1 ≤ dg τ ∧ dg τ ≤ 6 := fun τ hτ => by
    obtain ⟨ρ, q1, _⟩ := hR.2.2.1 τ hτ
    exact ⟨q1, px_th S hτ⟩
  have end_ : ∀ (x : Int) (z3 : Option cm_V), D ≤ x → x ≤ 3 → cw (d + 8) cd_Rewriter_extendToAll (kU fun I1 z1 => ∃ k1, k ≤ k1 ∧ rwE D sh mb T nt n L v dg k1 z1 I1 ∧ (exP z I z1 I1 ∧ labS k z I z1 I1) ∧ seAll D T nt v dg k1 = pxL D T nt v dg) 4 [some (vR 8 198), some (vI P), some (vI x), z3] [] (I, z) := by
    intro x z3 hx hx3
    refine wr_Rewriter_extendToAll_4 hR.1.1.1 hR.2.1 hsh ?_
    rw [jsh, e3, e4, show (k : Int) - 1 + 1 = (k : Int) by omega]
    exact ⟨fun _ => ⟨fun _ => ⟨by omega, by unfold cm_i; omega, L64 (16 - k) k I z _ (by omega) (Nat.le_refl _) hR ⟨exP_refl z I, labS_refl k z I⟩⟩, fun w => by omega⟩, fun w => by omega⟩
  have d0 := dgs 0 (by omega)
  have d1 := dgs 1 (by omega)
  have b01 := mul_bd (x := dg 0) (y := dg 1) (X := 6) (Y := 6) (by omega) (by omega) (by omega) (by omega)
  refine wr_Rewriter_extendToAll hR.1.1.1 (wr_Rewriter_extendToAll_4 hR.1.1.1 hR.2.1 hsh ?_)
  have e0 : I 190 0 = dg 0 := d0.1
  have e1 : I 190 (0 + 1) = dg 1 := d1.1
  rw [jsh, e0, Int.one_mul]
  refine ⟨fun w => by omega, fun _ => ⟨⟨by omega, by omega⟩, by unfold cm_i; omega, by unfold cm_i; omega, wr_Rewriter_extendToAll_4 hR.1.1.1 hR.2.1 hsh ?_⟩⟩
  rw [jsh, e1]
  refine ⟨fun w => by omega, fun _ => ⟨⟨by omega, by omega⟩, by unfold cm_i; omega, by unfold cm_i; omega, ?_⟩⟩
  rcases hD with e | e
  · have : dg 0 * dg 1 = P := by rw [hP, if_pos e, Int.mul_one]
    rw [this]
    exact end_ (0 + 1 + 1) _ (by omega) (by omega)
  · have d2 := dgs 2 (by omega)
    have b2 := mul_bd (x := dg 0 * dg 1) (y := dg 2) (X := 36) (Y := 6) (by omega) (by omega) (by omega) (by omega)
    have e2 : I 190 (0 + 1 + 1) = dg 2 := d2.1
    refine wr_Rewriter_extendToAll_4 hR.1.1.1 hR.2.1 hsh ?_
    rw [jsh, e2]
    refine ⟨fun w => by omega, fun _ => ⟨⟨by omega, by omega⟩, by unfold cm_i; omega, by unfold cm_i; omega, ?_⟩⟩
    have : dg 0 * dg 1 * dg 2 = P := by rw [hP, if_neg (by omega)]
    rw [this]
    exact end_ (0 + 1 + 1 + 1) _ (by omega) (by omega)
end WEX
