/-! Rewriter.addSecondaries -/
def scL (t : Nat) (z : cm_Z) : List Nat := [73 + 7 * t, 203, gG z t 2, gG z t 3, gG z t 4, gG z t 5, 198, 199, 200]
/-- the secondary ones that the class keeps -/
def scK (D : Int) (T : Nat → cMat) (nt : Nat) (v : Nat → Int → Int) (dg : Nat → Int) (N : Nat) (J : cm_I) : Prop := J 198 3 = (N : Int) ∧ ∀ j : Nat, j < N → J 199 (j : Int) = (sx_x (pxL D T nt v dg) j).1 ∧ J 200 (j : Int) = ((sx_x (pxL D T nt v dg) j).2 : Int)
section WAS
variable {d : Nat} {z : cm_Z} {I : cm_I} {D : Int} {sh mb : Nat} {T : Nat → cMat} {nt n : Nat} {L : Nat → cMat} {v : Nat → Int → Int} {dg : Nat → Int}
theorem px_top (S : sx_S D T nt n L v dg) {t : Nat} (t1 : t ≤ 15) {x : tup4} (hx : pxX D T nt v dg t x) : x.1.toNat < (seAll D T nt v dg (t + 1)).length := by
  obtain ⟨h1, h2, h3, h4, h5, h6, h7⟩ := (px_iff S t1).mp hx
  obtain ⟨l', e, he⟩ := seAll_pre (D := D) (T := T) (nt := nt) (v := v) (dg := dg) (t := t + 1) (t' := 16) (by omega) (Nat.le_refl _)
  have eL : pxL D T nt v dg = seAll D T nt v dg (t + 1) ++ l' := e
  apply Classical.byContradiction
  intro ge
  have mem : sx_x (pxL D T nt v dg) x.1.toNat ∈ l' := by
    have m1 := (sx_at h2).2
    rw [eL] at m1 ⊢
    rw [List.getElem?_append_right (by omega)] at m1
    exact List.mem_of_getElem? m1
  have dt := he _ mem
  have sd : t + 1 ≤ sx_d (pxL D T nt v dg) x.1.toNat := by unfold sx_d; omega
  omega
theorem px_216 (S : sx_S D T nt n L v dg) : (pxL D T nt v dg).length ≤ 216 := sx_216 S (Nat.le_refl 16) (seAll_ok 16 (Nat.le_refl _)).1 (seAll_ok 16 (Nat.le_refl _)).2
theorem t_addSecondaries (hE : bsE D sh mb T nt n L z I) (S : sx_S D T nt n L v dg) {t : Nat} (t15 : t < 16) (b1 : I (73 + 7 * t) 1 = 1) {m : Nat} {X : Nat → tup4} (hQ : grQ D T nt v dg t m X z I) (cov : ∀ x, pxX D T nt v dg t x → x.1.toNat < (seAll D T nt v dg t).length → ∃ i, i < m ∧ X i = x) (own : ∀ i, i < m → (X i).1.toNat < (seAll D T nt v dg t).length) (hK : scK D T nt v dg (seAll D T nt v dg t).length I) : mU (d + 3) m_Rewriter_addSecondaries [vR 8 198, vR 2 (73 + 7 * t)] z I fun I1 => fr (scL t z) I I1 ∧ (∀ j, j ≠ 6 → I1 (73 + 7 * t) j = I (73 + 7 * t) j) ∧ (∀ j, j ≠ 3 → I1 198 j = I 198 j) ∧ scK D T nt v dg (seAll D T nt v dg (t + 1)).length I1 ∧ grC D T nt v dg t z I1 := by
  have hD := S.1
  have hz := hE.1.1
  have hg := hE.2.1
  have mN := mMany_136 hD (t := t) (by omega)
  obtain ⟨s, hs⟩ : ∃ s, s = bsRows D T nt (t : Int) := ⟨_, rfl⟩
  have ga := gd_get hE t15 b1
  obtain ⟨hd, hRB, hhd⟩ := ga.2.2.2.2.2.2.2.2
  have s136 : s ≤ 136 := by have := ga.2.2.2.1; omega
  obtain ⟨lr, hlr⟩ : ∃ lr : Nat → List (Int × Nat), lr = fun r => seRow D T nt v dg t r (seAll D T nt v dg t) := ⟨_, rfl⟩
  have lr_ : ∀ r, lr r = seRow D T nt v dg t r (seAll D T nt v dg t) := fun r => by rw [hlr]
  have lr0 : lr 0 = seAll D T nt v dg t := by rw [lr_]; rfl
  have lrs : lr s = seAll D T nt v dg (t + 1) := by rw [lr_, hs]; rfl
  have L216 := px_216 S
  have lrL : ∀ r, r ≤ s → sx_L D T nt (lr r) := fun r hr => by rw [lr_]; exact px_Lr (by omega) (by omega)
  have lrP : ∀ r, r ≤ s → ∃ l', pxL D T nt v dg = lr r ++ l' := fun r hr => by rw [lr_]; exact px_pre (by omega) (by omega)
  have lrl : ∀ r, r ≤ s → (lr r).length ≤ 216 := fun r hr => by
    obtain ⟨l', e⟩ := lrP r hr
    rw [e, List.length_append] at L216
    omega
  -- row r of the base
  obtain ⟨B, hB⟩ : ∃ B, B = (bsX D T nt (t : Int)).2 := ⟨_, rfl⟩
  have spn : ∀ (r r' m : Nat) (X : Nat → tup4), r ≤ s → (∀ i, i < m → pxX D T nt v dg t (X i) ∧ (X i).1.toNat < (lr r).length) → (∀ x, pxX D T nt v dg t x → x.1.toNat < (lr r).length → ∃ i, i < m ∧ X i = x) → (sx_p D T nt v dg (lr r) t (toP D (sx_b D T nt ((t : Int), r'))) ↔ inS (mMany D t).toNat m (fun i => pxV D T nt v dg t (X i)) (B r')) := by
    intro r r' m X hr h1 h2
    obtain ⟨l', e⟩ := lrP r hr
    rw [hB]
    exact px_span S (lrL r hr) e (by omega) h1 h2 ((bsX D T nt (t : Int)).2 r')
  obtain ⟨Q, hQQ⟩ : ∃ Q : cm_Q, Q = qU z fun I1 => fr (scL t z) I I1 ∧ (∀ j, j ≠ 6 → I1 (73 + 7 * t) j = I (73 + 7 * t) j) ∧ (∀ j, j ≠ 3 → I1 198 j = I 198 j) ∧ scK D T nt v dg (seAll D T nt v dg (t + 1)).length I1 ∧ grC D T nt v dg t z I1 := ⟨_, rfl⟩
  have fin : ∀ (r m : Nat) (X : Nat → tup4) (J : cm_I), r ≤ s → lr r = lr s → fr (scL t z) I J → (∀ j, j ≠ 6 → J (73 + 7 * t) j = I (73 + 7 * t) j) → (∀ j, j ≠ 3 → J 198 j = I 198 j) → scK D T nt v dg (lr r).length J → grQ D T nt v dg t m X z J → (∀ x, pxX D T nt v dg t x → x.1.toNat < (lr r).length → ∃ i, i < m ∧ X i = x) → m = s → Q none (J, z) := by
    intro r m X J hr er hf hj h3 hk hq cv ms
    rw [hQQ]
    rw [er, lrs] at hk cv
    refine qU_mk ⟨hf, hj, h3, hk, by rw [hj 1 (by decide)]; exact b1, X, ?_, fun x hx => ?_⟩
    · rw [← hs, ← ms]; exact hq
    · rw [← hs, ← ms]
      exact cv x hx (px_top S (by omega) hx)
  have keepE : ∀ J : cm_I, fr (scL t z) I J → (∀ j, j ≠ 6 → J (73 + 7 * t) j = I (73 + 7 * t) j) → bsE D sh mb T nt n L z J := by
    intro J hf hj
    have out : ∀ c, c ≠ 73 + 7 * t → c ∉ [203, 198, 199, 200] → (∀ j, 2 ≤ j → j < 6 → c ≠ gG z t j) → c ∉ scL t z := by
      intro c h1 h2 h3
      simp at h2
      simp [scL]
      exact ⟨by omega, by omega, h3 2 (by decide) (by decide), h3 3 (by decide) (by decide), h3 4 (by decide) (by decide), h3 5 (by decide) (by decide), by omega, by omega, by omega⟩
    have fixn : ∀ k, k < 97 → gR z k ∉ [203, 198, 199, 200] := fun k hk => by
      have n3 := gw_fix hg (c := 203) (by decide) (by decide) (by decide) hk
      have n4 := gw_fix hg (c := 198) (by decide) (by decide) (by decide) hk
      have n5 := gw_fix hg (c := 199) (by decide) (by decide) (by decide) hk
      have n7 := gw_fix hg (c := 200) (by decide) (by decide) (by decide) hk
      simp
      exact ⟨fun e => n3 e.symm, fun e => n4 e.symm, fun e => n5 e.symm, fun e => n7 e.symm⟩
    refine bsE_fr2 hE hz hg rfl rfl rfl (fun t' j ht' hj' => ⟨rfl, rfl, hf _ (out _ (gw_gr hg t15 (k := 1 + 6 * t' + j) (by omega)) (fixn (1 + 6 * t' + j) (by omega)) fun j2 h2 h6 => gw_ne hg (k := 1 + 6 * t' + j) (k' := 1 + 6 * t + j2) (by omega) (by omega) (by omega))⟩) ?_ (fun c hc hn => hf c (out c (by omega) (by simp; omega) fun j _ h6 => gw_fix hg (by omega) (by simp at hn; omega) (by omega) (k := 1 + 6 * t + j) (by omega))) fun t' ht' j j0 j3 => ?_
    · have : J (z.1 63 2) = I (z.1 63 2) := hf _ (out _ (gw_gr hg t15 (k := 0) (by decide)) (fixn 0 (by decide)) fun j2 h2 h6 => gw_ne hg (k := 0) (k' := 1 + 6 * t + j2) (by decide) (by omega) (by omega))
      rw [this]
      exact hE.2.2.2.2.2.2.1
    · by_cases e : t' = t
      · rw [e]; exact hj j (by omega)
      · rw [hf _ (out _ (by omega) (by simp; omega) fun j2 _ h6 => Ne.symm (gw_gr hg ht' (k := 1 + 6 * t + j2) (by omega)))]
  have kk : ∀ j, j < 6 → 1 + 6 * t + j < 97 := fun j hj => by omega
  have y4 : z.1 (73 + 7 * t) 4 = gG z t 0 := by rw [gG_at t15 (j := 0) (s := 4) (by decide) rfl]; rfl
  have y7 : z.1 (73 + 7 * t) 7 = gG z t 2 := by rw [gG_at t15 (j := 2) (s := 7) (by decide) rfl]; rfl
  have y8 : z.1 (73 + 7 * t) 8 = gG z t 3 := by rw [gG_at t15 (j := 3) (s := 8) (by decide) rfl]; rfl
  have L2 : ∀ (u r m : Nat) (X : Nat → tup4) (J : cm_I) (x3 x4 : Option cm_V), r + u = s → fr (scL t z) I J → (∀ j, j ≠ 6 → J (73 + 7 * t) j = I (73 + 7 * t) j) → (∀ j, j ≠ 3 → J 198 j = I 198 j) → scK D T nt v dg (lr r).length J → grQ D T nt v dg t m X z J → (∀ x, pxX D T nt v dg t x → x.1.toNat < (lr r).length → ∃ i, i < m ∧ X i = x) → (∀ i, i < m → (X i).1.toNat < (lr r).length) → cw (d + 2) cd_Rewriter_addSecondaries Q 2 [some (vR 8 198), some (vR 2 (73 + 7 * t)), some (vI (r : Int)), x3, x4] [] (J, z) := by
    intro u
    induction u with
    | zero =>
      intro r m X J x3 x4 er hf hj h3 hk hq cv ow
      have rs : r = s := by omega
      rw [rs] at hk cv ow
      have ms : m = s := by
        have h1 : m ≤ s := by rw [hs]; exact hq.1
        have h2 : s ≤ m := by
          rw [hs]
          refine ind_span (M' := fun i => pxV D T nt v dg t (X i)) (rb_ind hRB) fun r' hr' => ?_
          have ok := (seRow_ok (D := D) (T := T) (nt := nt) (v := v) (dg := dg) (t := t) (by omega) (seAll_ok t (by omega)).1 s (by omega)).1.2.2.2.2.2 r' (by omega)
          rw [← lr_] at ok
          have := (spn s r' m X (Nat.le_refl _) (fun i hi => ⟨(hq.2.2.2.1 i hi).2, ow i hi⟩) cv).mp ok
          rw [hB] at this
          exact this
        omega
      refine wr_Rewriter_addSecondaries_2 hz (by omega) y4 y7 (gw_pos hg (kk 0 (by decide))) (gw_pos hg (kk 2 (by decide))) ?_
      rw [hj 3 (by decide), ga.2.2.1, ← hs]
      exact ⟨fun _ => fin s m X J (Nat.le_refl _) rfl hf hj h3 hk hq cv ms, fun w => by omega⟩
    | succ u ih =>
      intro r m X J x3 x4 er hf hj h3 hk hq cv ow
      have hr : r < s := by omega
      have EJ := keepE J hf hj
      have bJ : J (73 + 7 * t) 1 = 1 := by rw [hj 1 (by decide)]; exact b1
      have gJ := gd_get EJ t15 bJ
      have sp := spn r r m X (by omega) (fun i hi => ⟨(hq.2.2.2.1 i hi).2, ow i hi⟩) cv
      have br : 0 ≤ mMany D t * (r : Int) ∧ mMany D t * (r : Int) + mMany D t ≤ z.2.1 (gG z t 0) ∧ z.2.1 (gG z t 0) ≤ 23409 := by
        refine ⟨Int.mul_nonneg (by omega) (by omega), Int.le_trans ?_ ga.2.2.2.2.1, (hg.2.1 _ (kk 0 (by decide))).2.2.2⟩
        rw [show mMany D t * (r : Int) + mMany D t = mMany D t * ((r : Int) + 1) by rw [Int.mul_add, Int.mul_one], ← hs]
        exact Int.mul_le_mul_of_nonneg_left (by omega) (by omega)
      have yes : sx_p D T nt v dg (lr r) t (toP D (sx_b D T nt ((t : Int), r))) → lr (r + 1) = lr r := fun h => by
        rw [lr_] at h
        rw [lr_, lr_]
        exact seRow_yes h
      refine wr_Rewriter_addSecondaries_2 hz (by omega) y4 y7 (gw_pos hg (kk 0 (by decide))) (gw_pos hg (kk 2 (by decide))) ?_
      rw [hj 3 (by decide), ga.2.2.1, ← hs, hq.2.1, hj 2 (by decide), ga.2.1]
      refine ⟨fun w => by omega, fun _ => ⟨fun full => ?_, fun ms => ⟨by unfold cm_i; omega, ?_⟩⟩⟩
      · -- all are there
        have ms : m = s := by have := hq.1; omega
        refine fin r m X J (by omega) ?_ hf hj h3 hk hq cv ms
        have all : ∀ r' , inS (mMany D t).toNat s B (B r') → inS (mMany D t).toNat m (fun i => pxV D T nt v dg t (X i)) (B r') := by
          intro r' h
          rw [ms]
          refine ind_full (B := B) ?_ (fun i hi => ?_) h
          · have := px_ind S (t := t) (m := m) (by omega) (fun i hi => (hq.2.2.2.1 i hi).2) hq.2.2.2.2.1
            rw [ms] at this
            exact this
          · have := rb_in hRB (px_iV S (by omega) (hq.2.2.2.1 i (by omega)).2)
            rw [hB, hs]
            exact this
        have st : ∀ k, r + k ≤ s → lr (r + k) = lr r := by
          intro k
          induction k with
          | zero => intro _; rfl
          | succ k ihk =>
            intro hk'
            have e := ihk (by omega)
            have h : sx_p D T nt v dg (lr (r + k)) t (toP D (sx_b D T nt ((t : Int), r + k))) := by
              rw [e]
              exact (spn r (r + k) m X (by omega) (fun i hi => ⟨(hq.2.2.2.1 i hi).2, ow i hi⟩) cv).mpr (all _ (inS_row (by omega)))
            rw [lr_] at h
            rw [← e, show r + (k + 1) = r + k + 1 by omega, lr_, lr_]
            exact seRow_yes h
        have := st (s - r) (by omega)
        rw [show r + (s - r) = s by omega] at this
        exact this.symm
      · refine mU_mono (gr_parts (d := d + 1) EJ t15 bJ hq (a1 := gG z t 0) (x := mMany D t * (r : Int)) (gw_pos hg (kk 0 (by decide))) (Ne.symm (gw_fix hg (by decide) (by decide) (by decide) (kk 0 (by decide)))) br.1 (by omega) br.2.1 (W := B r) (fun k hk' => by rw [hB]; exact gJ.2.2.2.2.2.2.2.1 r k (by omega) hk')) fun I2 ⟨w1, w2⟩ => ?_
        have ne3 : ∀ j, j < 6 → gG z t j ∉ [203] := fun j hj' => nin1 (Ne.symm (gw_fix hg (c := 203) (by decide) (by decide) (by decide) (kk j hj')))
        have F2 : fr (scL t z) I I2 := fr_trans hf (fr_mono w1 (by simp [scL]))
        have a2 : I2 (73 + 7 * t) = J (73 + 7 * t) := w1 _ (nin1 (by omega))
        have j2 : ∀ j, j ≠ 6 → I2 (73 + 7 * t) j = I (73 + 7 * t) j := fun j h => by rw [a2]; exact hj j h
        have c2 : I2 198 = J 198 := w1 198 (by decide)
        have q2 : grQ D T nt v dg t m X z I2 := grQ_fr hq (fun j j1 j6 => ⟨rfl, rfl, w1 _ (ne3 j j6)⟩) (by rw [a2])
        have k2 : scK D T nt v dg (lr r).length I2 := by
          unfold scK
          rw [c2, w1 199 (by decide), w1 200 (by decide)]
          exact hk
        have E2 := keepE I2 F2 j2
        have b2 : I2 (73 + 7 * t) 1 = 1 := by rw [j2 1 (by decide)]; exact b1
        have next : ∀ (J' : cm_I), lr (r + 1) = lr r → fr [203] I2 J' → ∀ x3 x4 : Option cm_V, cw (d + 2) cd_Rewriter_addSecondaries Q 2 [some (vR 8 198), some (vR 2 (73 + 7 * t)), some (vI ((r : Int) + 1)), x3, x4] [] (J', z) := by
          intro J' e hf' x3 x4
          have a3 : J' (73 + 7 * t) = I2 (73 + 7 * t) := hf' _ (nin1 (by omega))
          have := ih (r + 1) m X J' x3 x4 (by omega) (fr_trans F2 (fr_mono hf' (by simp [scL]))) (fun j h => by rw [a3]; exact j2 j h) (fun j h => by rw [hf' 198 (by decide), c2]; exact h3 j h) (by
            rw [e]
            unfold scK
            rw [hf' 198 (by decide), hf' 199 (by decide), hf' 200 (by decide)]
            exact k2) (grQ_fr q2 (fun j j1 j6 => ⟨rfl, rfl, hf' _ (ne3 j j6)⟩) (by rw [a3])) (by rw [e]; exact cv) (by rw [e]; exact ow)
          rw [show ((r + 1 : Nat) : Int) = (r : Int) + 1 by omega] at this
          exact this
        rw [k2.1]
        refine ⟨fun big => ⟨by unfold cm_i; omega, next I2 ?_ (fr_refl _ _) _ _⟩, fun sm => ?_⟩
        · apply yes
          apply Classical.byContradiction
          intro no
          have := (px_sec S (by omega) (r := r) (by omega) (lr_ r) no).1
          rw [← lr_] at this
          have l2 := lrl (r + 1) (by omega)
          rw [this, List.length_append] at l2
          have l3 : (lr r).length + 1 ≤ 216 := l2
          omega
        · refine mI_mono (gr_ins (d := d) E2 S t15 b2 q2 (W := B r) (by rw [hB]; exact hRB.2.2.2.2.2.1 r (by omega)) (fun c hc => by rw [w2 c hc, w1 _ (ne3 1 (by decide)), w1 _ (ne3 5 (by decide))])) fun rr I4 alt => ?_
          rcases alt with ⟨ar, af, ains⟩ | ⟨ar, af, ams, ae, anot, alu⟩
          · exact ⟨fun _ => ⟨by unfold cm_i; omega, next I4 (yes (sp.mpr ains)) af _ _⟩, fun w => absurd ar w⟩
          · have no : ¬ sx_p D T nt v dg (lr r) t (toP D (sx_b D T nt ((t : Int), r))) := fun h => anot (sp.mp h)
            obtain ⟨e1, e2, e3, e4⟩ := px_sec S (by omega) (r := r) (by omega) (lr_ r) no
            rw [← lr_] at e1
            have len1 : (lr (r + 1)).length = (lr r).length + 1 := by rw [e1, List.length_append]; rfl
            have i46 : I4 (73 + 7 * t) 6 = ((m + 1 : Nat) : Int) := by rw [ae]; exact if_pos rfl
            have n198 : ∀ j, j < 6 → (198 : Nat) ≠ gG z t j := fun j hj' => gw_fix hg (by decide) (by decide) (by decide) (kk j hj')
            have i4c : I4 198 = I2 198 := af 198 (by simp; exact ⟨by omega, n198 4 (by decide), n198 5 (by decide)⟩)
            rw [i46, i4c, k2.1]
            refine ⟨fun w => by omega, fun _ => ⟨by unfold cm_i; omega, ?_⟩⟩
            rw [show ((m + 1 : Nat) : Int) - 1 = (m : Int) by omega]
            refine mU_mono (t_label (d := d + 1) hz (a := 73 + 7 * t) (q8 := gG z t 3) (w := m) (j := ((lr r).length : Int)) (x := 0) (y := 0) (c := 0) (by omega) (gw_pos hg (kk 3 (by decide))) y8 (by omega) (by have := hq.2.2.1.2.1; rw [← hs] at this; omega)) fun I8 ⟨v1, v2⟩ => ?_
            have i8a : I8 (73 + 7 * t) = I4 (73 + 7 * t) := v1 _ (nin1 (Ne.symm (gw_gr hg t15 (kk 3 (by decide)))))
            have i82 : I8 (73 + 7 * t) 2 = mMany D t := by
              rw [i8a, ae]
              show (if (2 : Int) = 6 then _ else I2 (73 + 7 * t) 2) = _
              rw [if_neg (by decide), j2 2 (by decide), ga.2.1]
            rw [i82]
            have bm : 0 ≤ mMany D t * (m : Int) ∧ mMany D t * (m : Int) + mMany D t ≤ z.2.1 (gG z t 2) ∧ z.2.1 (gG z t 2) ≤ 23409 := by
              refine ⟨Int.mul_nonneg (by omega) (by omega), Int.le_trans ?_ hq.2.2.1.1, (hg.2.1 _ (kk 2 (by decide))).2.2.2⟩
              rw [show mMany D t * (m : Int) + mMany D t = mMany D t * ((m : Int) + 1) by rw [Int.mul_add, Int.mul_one], ← hs]
              exact Int.mul_le_mul_of_nonneg_left (by omega) (by omega)
            refine ⟨by unfold cm_i; omega, ⟨by omega, by omega, by omega, by omega, by omega⟩, fun I11 e11 => ?_⟩
            have ne0 : ∀ j, 1 ≤ j → j < 6 → gG z t 0 ≠ gG z t j := fun j h1 h6 => gw_ne hg (kk 0 (by decide)) (kk j h6) (by omega)
            have g20 : I4 (gG z t 0) = I2 (gG z t 0) := af _ (by simp; exact ⟨gw_gr hg t15 (kk 0 (by decide)), Ne.symm (gw_fix hg (by decide) (by decide) (by decide) (kk 0 (by decide))), ne0 4 (by decide) (by decide), ne0 5 (by decide) (by decide)⟩)
            have g2 := gd_get E2 t15 b2
            obtain ⟨qn, fn, sn⟩ := gq_add (I := I2) (I1 := I4) (I2 := I8) (I3 := I11) (src := gG z t 0) (off := mMany D t * (r : Int)) (x := ((((lr r).length : Nat) : Int), 0, 0, 0)) (W := B r) hg hD t15 q2 (fun r' hr' => by
              obtain ⟨hd2, hRB2, hhd2⟩ := g2.2.2.2.2.2.2.2.2
              rw [hhd2 r' hr']; have := hRB2.2.1 r' hr'; omega) af ams ae alu v1 v2 e11 (fun k hk' => by
              rw [v1 _ (nin1 (ne0 3 (by decide) (by decide))), g20, hB]
              exact g2.2.2.2.2.2.2.2.1 r k (by omega) hk') e2 (fun k hk' => by rw [hB]; exact e3 k hk') (fun i hi e => by
              have := ow i hi
              rw [e] at this
              have this' : Int.toNat ((lr r).length : Int) < (lr r).length := this
              omega)
            have n1 : ∀ c, c ∈ [198, 199, 200] → I11 c = I2 c := fun c hc => by
              have nn : ∀ j, j < 6 → c ≠ gG z t j := fun j hj' => by
                simp at hc
                exact gw_fix hg (by omega) (by omega) (by omega) (kk j hj')
              refine fn c ?_
              simp at hc
              simp
              exact ⟨by omega, by omega, nn 2 (by decide), nn 3 (by decide), nn 4 (by decide), nn 5 (by decide)⟩
            rw [n1 198 (by decide), k2.1]
            refine ⟨⟨by omega, by omega⟩, fun I13 e13 => ?_⟩
            obtain ⟨f13, g13⟩ := fr_eq_iu e13
            rw [f13 198 (by decide), n1 198 (by decide), k2.1]
            refine ⟨⟨by omega, by omega⟩, fun I15 e15 => ?_⟩
            obtain ⟨f15, g15⟩ := fr_eq_iu e15
            rw [f15 198 (by decide), f13 198 (by decide), n1 198 (by decide), k2.1]
            refine ⟨by unfold cm_i; omega, fun I17 e17 => ⟨by unfold cm_i; omega, ?_⟩⟩
            obtain ⟨f17, g17⟩ := fr_eq_iu e17
            have fB : fr [198, 199, 200] I11 I17 := fr_trans (fr_trans (fr_mono f13 (by simp)) (fr_mono f15 (by simp))) (fr_mono f17 (by simp))
            have nj : ∀ j, j < 6 → gG z t j ∉ [198, 199, 200] := fun j hj' => by
              have n4 := gw_fix hg (c := 198) (by decide) (by decide) (by decide) (kk j hj')
              have n5 := gw_fix hg (c := 199) (by decide) (by decide) (by decide) (kk j hj')
              have n7 := gw_fix hg (c := 200) (by decide) (by decide) (by decide) (kk j hj')
              simp
              exact ⟨fun e => n4 e.symm, fun e => n5 e.symm, fun e => n7 e.symm⟩
            have aB : I17 (73 + 7 * t) = I11 (73 + 7 * t) := fB _ (by simp; omega)
            have q17 : grQ D T nt v dg t (m + 1) (fun i => if i = m then ((((lr r).length : Nat) : Int), 0, 0, 0) else X i) z I17 := grQ_fr qn (fun j j1 j6 => ⟨rfl, rfl, fB _ (nj j j6)⟩) (by rw [aB])
            have i11a : I11 (73 + 7 * t) 0 = (t : Int) := by rw [sn 0 (by decide), j2 0 (by decide), ga.1]
            have v198 : I17 198 = fun j => if j = 3 then (((lr r).length : Nat) : Int) + 1 else J 198 j := by
              rw [g17, f15 198 (by decide), f13 198 (by decide), n1 198 (by decide), c2]
            have v199 : I17 199 = fun j => if j = (((lr r).length : Nat) : Int) then (t : Int) else J 199 j := by
              rw [f17 199 (by decide), f15 199 (by decide), g13, i11a, n1 199 (by decide), w1 199 (by decide)]
            have v200 : I17 200 = fun j => if j = (((lr r).length : Nat) : Int) then (r : Int) else J 200 j := by
              rw [f17 200 (by decide), g15, f13 200 (by decide), n1 200 (by decide), w1 200 (by decide)]
            obtain ⟨l', hl'⟩ := lrP (r + 1) (by omega)
            have ex : sx_x (pxL D T nt v dg) (lr r).length = ((t : Int), r) := by
              rw [hl', sx_ap (by rw [len1]; omega), e1, sx_last]
            have := ih (r + 1) (m + 1) (fun i => if i = m then ((((lr r).length : Nat) : Int), 0, 0, 0) else X i) I17 (some (vI (mMany D t * (r : Int)))) (some (vI (m : Int))) (by omega) (fr_trans F2 (fr_trans (fr_mono fn (by simp [scL])) (fr_mono fB (by simp [scL])))) (fun j h => by rw [aB, sn j h]; exact j2 j h) (fun j h => by
              rw [v198]
              show (if j = 3 then _ else J 198 j) = _
              rw [if_neg h]; exact h3 j h) ⟨?_, fun j hj' => ?_⟩ q17 (fun x hx hx2 => ?_) (fun i hi => ?_)
            · rw [show ((r + 1 : Nat) : Int) = (r : Int) + 1 by omega] at this
              exact this
            · rw [v198, len1]
              show (if (3 : Int) = 3 then _ else _) = _
              rw [if_pos rfl]; omega
            · rw [len1] at hj'
              rw [v199, v200]
              show (if (j : Int) = (((lr r).length : Nat) : Int) then (t : Int) else J 199 (j : Int)) = _ ∧ (if (j : Int) = (((lr r).length : Nat) : Int) then (r : Int) else J 200 (j : Int)) = _
              by_cases w : j = (lr r).length
              · rw [if_pos (by omega), if_pos (by omega), w, ex]
                exact ⟨rfl, rfl⟩
              · rw [if_neg (by omega), if_neg (by omega)]
                exact hk.2 j (by omega)
            · rw [len1] at hx2
              rcases e4 x hx hx2 with w | w
              · obtain ⟨i, hi, e⟩ := cv x hx w
                exact ⟨i, by omega, by show (if i = m then _ else X i) = x; rw [if_neg (by omega)]; exact e⟩
              · exact ⟨m, by omega, by show (if m = m then _ else X m) = x; rw [if_pos rfl]; exact w.symm⟩
            · rw [len1]
              show (if i = m then ((((lr r).length : Nat) : Int), (0 : Int), (0 : Int), (0 : Int)) else X i).1.toNat < _
              by_cases w : i = m
              · rw [if_pos w]
                show Int.toNat ((lr r).length : Int) < _
                omega
              · rw [if_neg w]
                have := ow i (by omega)
                omega
  show cm_call (d + 3) m_Rewriter_addSecondaries _ (I, z) (qU z fun I1 => fr (scL t z) I I1 ∧ (∀ j, j ≠ 6 → I1 (73 + 7 * t) j = I (73 + 7 * t) j) ∧ (∀ j, j ≠ 3 → I1 198 j = I 198 j) ∧ scK D T nt v dg (seAll D T nt v dg (t + 1)).length I1 ∧ grC D T nt v dg t z I1)
  rw [← hQQ]
  exact wr_Rewriter_addSecondaries hz (L2 s 0 m X I none none (by omega) (fr_refl _ _) (fun _ _ => rfl) (fun _ _ => rfl) (by rw [lr0]; exact hK) hQ (by rw [lr0]; exact cov) (by rw [lr0]; exact own))
end WAS
