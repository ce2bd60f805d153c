/-! THE REFERENCE's calls that rewrite -/
noncomputable def pmX (D : Int) (T : Nat → cMat) (nt : Nat) (q : Nat × Nat × Nat) (f : Int → Int) : tup4 → cF := rwX D T nt (pmV D T nt q) (pmD D T nt q) (pmL D T nt q) f
noncomputable def pmF (D : Int) (T : Nat → cMat) (nt : Nat) (q : Nat × Nat × Nat) (f : Int → Int) : List (tup4 × Int) := rwAll D (pmD D T nt q) (pmL D T nt q) (pmX D T nt q f) 16
/-- what is rewritten stands -/
def rwOk (T : Nat → cMat) (nt n : Nat) (rf : Option (Int → Int)) (I : cm_I) : Prop := (rf = none ∧ I 209 58 = -1) ∨ ∃ f q, rf = some f ∧ pmRes (I 209 1) T nt n = some q ∧ I 209 41 = 1 ∧ vOk (I 209 1) f ∧ isInv (I 209 1) T nt f ∧ I 209 58 = ((pmF (I 209 1) T nt q f).length : Int) ∧ fdSt 245 (pmF (I 209 1) T nt q f) I
noncomputable def aRewrite (D : Int) (T : Nat → cMat) (nt n : Nat) (K : Int → Int → Int) (k : Int) : Int := match pmRes D T nt n with
  | none => -1
  | some q => if kFit k then @ite Int (isInv D T nt (K k)) (Classical.propDecidable _) ((pmF D T nt q (K k)).length : Int) (-2) else -1
noncomputable def rfRewrite (D : Int) (T : Nat → cMat) (nt n : Nat) (K : Int → Int → Int) (k : Int) (rf : Option (Int → Int)) : Option (Int → Int) := match pmRes D T nt n with
  | none => rf
  | some _ => if kFit k then @ite (Option (Int → Int)) (isInv D T nt (K k)) (Classical.propDecidable _) (some (K k)) rf else rf
def isPws (D : Int) (len : Nat) (j a b c : Int) : Prop := (0 ≤ j ∧ j < (len : Int)) ∧ 0 ≤ a ∧ 0 ≤ b ∧ 0 ≤ c ∧ (D = 3 ∨ c = 0)
noncomputable def aRewritten (D : Int) (T : Nat → cMat) (nt n : Nat) (rf : Option (Int → Int)) (j a b c : Int) : Int := match rf with
  | none => -1
  | some f => match pmRes D T nt n with
    | none => -1
    | some q => @ite Int (isPws D (pmL D T nt q).length j a b c) (Classical.propDecidable _) (fi (pmX D T nt q f (j, a, b, c))) (-1)
noncomputable def aRelation (D : Int) (T : Nat → cMat) (nt n : Nat) (i h j a b c : Int) : Int := match pmRes D T nt n with
  | none => -1
  | some q => @ite Int (((0 ≤ i ∧ i < ((pmL D T nt q).length : Int)) ∧ (0 ≤ h ∧ h < ((pmL D T nt q).length : Int))) ∧ isPws D (pmL D T nt q).length j a b c) (Classical.propDecidable _) (if (sx_x (pmL D T nt q) i.toNat).1 + (sx_x (pmL D T nt q) h.toNat).1 ≤ 15 then fi (pmX D T nt q (vMul D (sx_b D T nt (sx_x (pmL D T nt q) i.toNat)) (sx_b D T nt (sx_x (pmL D T nt q) h.toNat))) (j, a, b, c)) else -2) (-1)
section MW
variable {d : Nat} {z : cm_Z} {T : Nat → cMat} {nt n : Nat} {L : Nat → cMat} {I : cm_I} {K : Int → Int → Int}
theorem s_arePowers (hz : mz z) {len : Nat} (h50 : I 209 50 = (len : Int)) (hl : len ≤ 216) (hD : I 209 1 = 2 ∨ I 209 1 = 3) (j a b c : Int) : mI (d + 2) m_Model_arePowers [vR 12 209, vI j, vI a, vI b, vI c] z I fun r I1 => I1 = I ∧ (r = 0 ∨ r = 1) ∧ (r = 1 ↔ isPws (I 209 1) len j a b c) := by
  refine mr_arePowers hz ?_
  rw [h50]
  have no : ¬ isPws (I 209 1) len j a b c → qI z (fun r I1 => I1 = I ∧ (r = 0 ∨ r = 1) ∧ (r = 1 ↔ isPws (I 209 1) len j a b c)) (some (vI 0)) (I, z) := fun q => qI_mk ⟨rfl, Or.inl rfl, ⟨fun e => absurd e (by decide), fun e => absurd e q⟩⟩
  have yes : isPws (I 209 1) len j a b c → qI z (fun r I1 => I1 = I ∧ (r = 0 ∨ r = 1) ∧ (r = 1 ↔ isPws (I 209 1) len j a b c)) (some (vI 1)) (I, z) := fun q => qI_mk ⟨rfl, Or.inr rfl, ⟨fun _ => q, fun _ => rfl⟩⟩
  refine ⟨⟨by omega, by omega⟩, mI_mono (s_within (d := d) hz j 0 _) fun v3 I2 ⟨e2, w3⟩ => ?_⟩
  subst e2
  refine ⟨fun v0 => no fun q => ?_, fun v0 => ?_⟩
  · have := q.1
    rw [w3, if_pos (by omega)] at v0
    exact absurd v0 (by decide)
  · have jj : 0 ≤ j ∧ j < (len : Int) := by
      apply Classical.byContradiction
      intro q
      rw [w3, if_neg (by omega)] at v0
      exact v0 rfl
    exact ⟨fun x => no fun q => by have := q.2.1; omega, fun xa => ⟨fun x => no fun q => by have := q.2.2.1; omega, fun xb => ⟨fun x => no fun q => by have := q.2.2.2.1; omega, fun xc => ⟨fun x => yes ⟨jj, xa, xb, xc, Or.inl x⟩, fun x => ⟨fun y => no fun q => by have := q.2.2.2.2; omega, fun y => yes ⟨jj, xa, xb, xc, Or.inr y⟩⟩⟩⟩⟩⟩
theorem pm_rwSt (h : pmIn T nt n L I) (st : pmSt T nt n I) {q : Nat × Nat × Nat} (eq : pmRes (I 209 1) T nt n = some q) : rwSt (I 209 1) T nt (pmV (I 209 1) T nt q) (pmD (I 209 1) T nt q) I ∧ (isSys (I 209 1) T nt q.1 q.2.1 q.2.2 ∧ q.1 < cndN (I 209 1) T nt ∧ q.2.1 < cndN (I 209 1) T nt ∧ (I 209 1 = 3 → q.2.2 < cndN (I 209 1) T nt)) ∧ I 209 42 = 1 := by
  rcases st with ⟨en, -⟩ | ⟨q', eq', sy, x, pr, ro, b16, se⟩
  · rw [en] at eq; cases eq
  · rw [eq] at eq'
    have e : q = q' := Option.some.inj eq'
    subst e
    exact ⟨⟨rfl, h.1.2.1, ⟨h.2.2.2.2.2.1, h.1.2.2.1⟩, h.2.2.2.2.1.2.2.1, h.2.2.2.2.1, b16, pr, se⟩, sy, x⟩
/-- a call that may rewrite: its frame -/
def rcFr (I I1 : cm_I) : Prop := fr [209, 214, 215, 216, 224, 226, 227, 228, 229, 230, 231, 232, 233, 234, 235, 236, 237, 238, 239, 240, 241, 242, 243, 244, 245, 246, 247] I I1 ∧ (∀ s, s ≠ 0 → s ≠ 37 → s ≠ 41 → s ≠ 42 → s ≠ 46 → s ≠ 49 → s ≠ 50 → s ≠ 53 → s ≠ 58 → s ≠ 60 → I1 209 s = I 209 s) ∧ I1 209 0 = 0
theorem rcFr_pc {I1 : cm_I} (h : pcFr I I1) : rcFr I I1 := ⟨fr_mono h.1 (by decide), fun s a b c e f g i j _ _ => h.2.1 s a b c e f g i j, h.2.2⟩
theorem pmF_len {q : Nat × Nat × Nat} (S : sx_S (I 209 1) T nt n L (pmV (I 209 1) T nt q) (pmD (I 209 1) T nt q)) (f : Int → Int) : (pmF (I 209 1) T nt q f).length ≤ 816 := by
  have h1 := rwAll_len S (pmX (I 209 1) T nt q f) 16 (Nat.le_refl _)
  rw [show ((16 : Nat) : Int) = 16 from rfl] at h1
  have := (m16_bd S.1).2.1
  show (rwAll (I 209 1) (pmD (I 209 1) T nt q) (seAll (I 209 1) T nt (pmV (I 209 1) T nt q) (pmD (I 209 1) T nt q) 16) (pmX (I 209 1) T nt q f) 16).length ≤ 816
  omega
/-- what stays when it rewrites -/
theorem pmIn_rw {I1 : cm_I} (h : pmIn T nt n L I) (x41 : I 209 41 = 1) (st : pmSt T nt n I) (f : fr [209, 214, 215, 216, 224, 226, 227, 241, 242, 243, 244, 245, 246, 247] I I1) (s9 : ∀ s, s ≠ 0 → s ≠ 53 → s ≠ 58 → s ≠ 60 → I1 209 s = I 209 s) (o14 : okR (I1 214)) (o16 : okR (I1 216)) (o24 : okR (I1 224)) (o26 : okR (I1 226)) : pmIn T nt n L I1 ∧ I1 209 41 = 1 ∧ pmSt T nt n I1 := by
  obtain ⟨hO, eT, hnt, hn4, hB, -, o33, o36, G, hT, h11, -⟩ := h
  have D1 := s9 1 (by decide) (by decide) (by decide) (by decide)
  have x1 : I1 209 41 = 1 := by rw [s9 41 (by decide) (by decide) (by decide) (by decide)]; exact x41
  have st1' : pmSt T nt n I1 := by
    unfold pmSt prSt seSt at st ⊢
    rw [D1, s9 42 (by decide) (by decide) (by decide) (by decide), s9 37 (by decide) (by decide) (by decide) (by decide), s9 50 (by decide) (by decide) (by decide) (by decide), f 234 (by decide), f 235 (by decide), f 236 (by decide), f 239 (by decide), f 240 (by decide)]
    exact st
  exact ⟨⟨mvOk_of hO D1 (f 210 (by decide)) (f 211 (by decide)) (f 212 (by decide)) o16 (f 217 (by decide)) (by rw [f 218 (by decide)]; exact hO.2.2.2.2.1) o24, by rw [← eT]; unfold mTab; rw [D1, f 217 (by decide)], by rw [s9 9 (by decide) (by decide) (by decide) (by decide)]; exact hnt, hn4, bsOk_fr hB f (by decide) (by decide) (by decide) D1 (s9 37 (by decide) (by decide) (by decide) (by decide)) o26, o14, by rw [f 233 (by decide)]; exact o33, by rw [f 236 (by decide)]; exact o36, G, hT, by rw [s9 11 (by decide) (by decide) (by decide) (by decide)]; exact h11, Or.inr ⟨x1, st1'⟩⟩, x1, st1'⟩
theorem rwOk_pc {rf : Option (Int → Int)} {I1 : cm_I} (h : rwOk T nt n rf I) (D1 : I1 209 1 = I 209 1) (x41 : I1 209 41 = 1) (e58 : I1 209 58 = I 209 58) (e45 : I1 245 = I 245) : rwOk T nt n rf I1 := by
  rcases h with ⟨a, b⟩ | ⟨f, q, a, b, c, e, g, i, j⟩
  · exact Or.inl ⟨a, by rw [e58]; exact b⟩
  · refine Or.inr ⟨f, q, a, ?_⟩
    rw [D1, e58]
    exact ⟨b, x41, e, g, i, fdSt_fr j e45⟩
theorem s_rewrite (hz : mz z) (h : pmIn T nt n L I) (hK : kOk I K) {rf : Option (Int → Int)} (hR : rwOk T nt n rf I) (k : Int) : mI (d + 10) m_Model_rewrite [vR 12 209, vI k] z I fun r I1 => rcFr I I1 ∧ I1 215 = I 215 ∧ pmIn T nt n L I1 ∧ rwOk T nt n (rfRewrite (I 209 1) T nt n K k rf) I1 ∧ r = aRewrite (I 209 1) T nt n K k := by
  have hD' : I 209 1 = 2 ∨ I 209 1 = 3 := h.1.1
  refine mr_rewrite hz fun J eJ => ?_
  obtain ⟨hJ, fJ⟩ := pmIn_thr h eJ
  have s9J : ∀ s, s ≠ 0 → J 209 s = I 209 s := fun s hs => by rw [(fr_eq_iu eJ).2]; exact if_neg hs
  have frJ := (fr_eq_iu eJ).1
  refine mI_mono (s_isKept (d := d + 7) hz k) fun v3 I2 ⟨e2, w3⟩ => ?_
  subst e2
  refine ⟨fun v0 => thr_primary hz h eJ fun I4 f4 p4 D4 x4 st => ?_, fun v0 => qI_mk ⟨rcFr_pc fJ, frJ 215 (by decide), hJ, ?_, ?_⟩⟩
  · have kk : kFit k := by
      apply Classical.byContradiction
      intro q
      rw [w3, if_neg q] at v0
      exact v0 rfl
    have hR4 : rwOk T nt n rf I4 := rwOk_pc hR D4 x4 (f4.2.1 58 (by decide) (by decide) (by decide) (by decide) (by decide) (by decide) (by decide) (by decide)) (f4.1 245 (by decide))
    have hK4 : kOk I4 K := kOk_fr hK (f4.1 213 (by decide)) D4
    refine ⟨fun x42 => ⟨⟨by omega, by omega⟩, ?_⟩, fun x42 => qI_mk ⟨rcFr_pc f4, f4.1 215 (by decide), p4, ?_, ?_⟩⟩
    · rcases id st with ⟨-, x⟩ | ⟨q, eq, sy, -⟩
      · exact absurd x x42
      · rw [D4] at eq sy
        obtain ⟨S, l216⟩ := pmL_216 hz h sy
        obtain ⟨rk, vk⟩ := hK4.2 k kk.1 kk.2
        have al := s_isAlone (d := d + 4) hz p4.1 mA213 (by decide) (by decide) hK4.1 (x := 1140 * k) (by omega) (by show 1140 * k + 1140 ≤ 6840; omega) (by omega) rk vk p4.2.2.1 p4.2.2.2.1
        refine mI_mono al fun v7 I6 h6 => ?_
        obtain ⟨f6, o66, o64, b7, i7⟩ := h6
        rw [p4.2.1, D4] at i7
        obtain ⟨p6, x6, st6⟩ := pmIn_rw p4 x4 st (fr_mono f6 (by decide)) (fun s _ _ _ _ => by rw [f6 209 (by decide)]) (by rw [f6 214 (by decide)]; exact p4.2.2.2.2.2.1) o66 o64 (by rw [f6 226 (by decide)]; exact p4.2.2.2.2.1.2.2.1)
        have D6 : I6 209 1 = I 209 1 := by rw [f6 209 (by decide), D4]
        have rc6 : rcFr I I6 := ⟨fr_trans (rcFr_pc f4).1 (fr_mono f6 (by decide)), fun s a b c e g i j k' l m => by rw [f6 209 (by decide)]; exact (rcFr_pc f4).2.1 s a b c e g i j k' l m, by rw [f6 209 (by decide)]; exact f4.2.2⟩
        have e15 : I6 215 = I 215 := by rw [f6 215 (by decide), f4.1 215 (by decide)]
        refine ⟨fun y7 => ?_, fun y7 => qI_mk ⟨rc6, e15, p6, ?_, ?_⟩⟩
        · have iv : isInv (I 209 1) T nt (K k) := i7.mp (by omega)
          rw [D4] at vk
          have hq := rw_ok S vk iv
          have hK6 : kOk I6 K := kOk_fr hK4 (f6 213 (by decide)) (by rw [f6 209 (by decide)])
          obtain ⟨rk6, vk6⟩ := hK6.2 k kk.1 kk.2
          have r6 := (pm_rwSt p6 st6 (by rw [D6]; exact eq)).1
          rw [D6] at r6
          refine mU_mono (s_solves (d := d + 1) hz S r6 mA213 (by decide) (by decide) (by decide) (by decide) (by decide) (by decide) (by decide) (by decide) (by decide) (by decide) (by decide) hK6.1 (x := 1140 * k) (by omega) (by show 1140 * k + 1140 ≤ 6840; omega) (by omega) rk6 vk hq) fun I8 h8 => ?_
          obtain ⟨w8, o8, o86, fd8, n8⟩ := h8
          have fd8' : fdSt 246 (pmF (I 209 1) T nt q (K k)) I8 := fd8
          have n8' : I8 209 60 = ((pmF (I 209 1) T nt q (K k)).length : Int) := n8
          have l816 := pmF_len S (K k)
          intro I9 e9
          obtain ⟨f9, g9⟩ := fr_eq_iu e9
          have key : ∀ (c i : Nat) (J : cm_I), i + c = 5 * (pmF (I 209 1) T nt q (K k)).length → fr [245] I9 J → (∀ x : Int, 0 ≤ x → x < i → J 245 x = I9 246 x) → cw (d + 9) cd_Model_rewrite (qI z fun r I1 => rcFr I I1 ∧ I1 215 = I 215 ∧ pmIn T nt n L I1 ∧ rwOk T nt n (rfRewrite (I 209 1) T nt n K k rf) I1 ∧ r = aRewrite (I 209 1) T nt n K k) 70 [some (vR 12 209), some (vI k), some (vI (i : Int))] [] (J, z) := by
            intro c
            induction c with
            | zero =>
              intro i J e fj put
              have x60 : J 209 60 = ((pmF (I 209 1) T nt q (K k)).length : Int) := by
                rw [fj 209 (by decide), g9]
                show (if _ then _ else _) = _
                rw [if_neg (by decide)]
                exact n8'
              have f89 : fr [209, 245] I8 J := fr_trans (fr_mono f9 (by decide)) (fr_mono fj (by decide))
              have s89 : ∀ s, s ≠ 58 → J 209 s = I8 209 s := fun s hs => by
                rw [fj 209 (by decide), g9]
                exact if_neg hs
              have fJ6 : fr [209, 214, 216, 226, 227, 241, 242, 243, 244, 245, 246, 247] I6 J := fr_trans (fr_mono w8.1 (by decide)) (fr_mono f89 (by decide))
              have sJ6 : ∀ s, s ≠ 53 → s ≠ 58 → s ≠ 60 → J 209 s = I6 209 s := fun s a b c => by rw [s89 s b, w8.2 s a c]
              obtain ⟨pJ, xJ, stJ⟩ := pmIn_rw p6 x6 st6 (fr_mono fJ6 (by decide)) (fun s _ a b c => sJ6 s a b c) (by rw [f89 214 (by decide)]; exact o8.1) (by rw [f89 216 (by decide)]; exact o8.2) (by rw [fJ6 224 (by decide)]; exact o64) (by rw [f89 226 (by decide)]; exact o86)
              refine mr_rewrite_70 hz ?_
              rw [x60]
              refine ⟨⟨by omega, by omega⟩, fun _ => qI_mk ⟨⟨fr_trans rc6.1 (fr_mono fJ6 (by decide)), fun s a b c e g i j k' l m => by rw [sJ6 s k' l m]; exact rc6.2.1 s a b c e g i j k' l m, by rw [sJ6 0 (by decide) (by decide) (by decide)]; exact rc6.2.2⟩, by rw [fJ6 215 (by decide)]; exact e15, pJ, ?_, ?_⟩, fun q => by omega⟩
              · have DJ : J 209 1 = I 209 1 := by rw [sJ6 1 (by decide) (by decide) (by decide), D6]
                unfold rfRewrite
                rw [eq]
                show rwOk T nt n (if kFit k then _ else _) J
                rw [if_pos kk, if_pos iv]
                refine Or.inr ⟨K k, q, rfl, ?_⟩
                rw [DJ]
                refine ⟨eq, xJ, vk, iv, ?_, fun i' y hy => ?_⟩
                · rw [fj 209 (by decide), g9]
                  show (if _ then _ else _) = _
                  rw [if_pos rfl]
                  exact n8'
                · have := fd8' i' y hy
                  have il : i' < (pmF (I 209 1) T nt q (K k)).length := by
                    apply Classical.byContradiction
                    intro w
                    rw [List.getElem?_eq_none (by omega)] at hy
                    cases hy
                  rw [put _ (by omega) (by omega), put _ (by omega) (by omega), put _ (by omega) (by omega), put _ (by omega) (by omega), put _ (by omega) (by omega), f9 246 (by decide)]
                  exact this
              · unfold aRewrite
                rw [eq]
                show _ = if kFit k then _ else _
                rw [if_pos kk, if_pos iv]
            | succ c ih =>
              intro i J e fj put
              have x60 : J 209 60 = ((pmF (I 209 1) T nt q (K k)).length : Int) := by
                rw [fj 209 (by decide), g9]
                show (if _ then _ else _) = _
                rw [if_neg (by decide)]
                exact n8'
              refine mr_rewrite_70 hz ?_
              rw [x60]
              refine ⟨⟨by omega, by omega⟩, fun q => by omega, fun _ => ⟨⟨by omega, by omega⟩, fun J3 e3 => ⟨⟨by omega, by omega⟩, ?_⟩⟩⟩
              obtain ⟨f3, g3⟩ := fr_eq_iu e3
              refine ih (i + 1) J3 (by omega) (fr_trans fj f3) fun x x0 x1 => ?_
              rw [g3, fj 246 (by decide)]
              show (if _ then _ else _) = _
              by_cases ex : x = (i : Int)
              · rw [if_pos ex, ex]
              · rw [if_neg ex]
                exact put x x0 (by omega)
          exact key (5 * (pmF (I 209 1) T nt q (K k)).length) 0 I9 (by omega) (fr_refl _ _) fun x x0 x1 => by omega
        · have ni : ¬ isInv (I 209 1) T nt (K k) := fun w => by
            have := i7.mpr w
            omega
          unfold rfRewrite
          rw [eq]
          show rwOk T nt n (if kFit k then _ else _) I6
          rw [if_pos kk, if_neg ni]
          exact rwOk_pc hR4 (by rw [D6, D4]) x6 (by rw [f6 209 (by decide)]) (f6 245 (by decide))
        · have ni : ¬ isInv (I 209 1) T nt (K k) := fun w => by
            have := i7.mpr w
            omega
          unfold aRewrite
          rw [eq]
          show _ = if kFit k then _ else _
          rw [if_pos kk, if_neg ni]
    · rcases id st with ⟨en, -⟩ | ⟨q, eq, sy, x, -⟩
      · rw [D4] at en
        unfold rfRewrite
        rw [en]
        exact hR4
      · rw [x42] at x; exact absurd x (by decide)
    · rcases id st with ⟨en, -⟩ | ⟨q, eq, sy, x, -⟩
      · rw [D4] at en
        unfold aRewrite
        rw [en]
      · rw [x42] at x; exact absurd x (by decide)
  · have nk : ¬ kFit k := fun q => by
      rw [w3, if_pos q] at v0
      exact absurd v0 (by decide)
    have e : rfRewrite (I 209 1) T nt n K k rf = rf := by
      unfold rfRewrite
      cases pmRes (I 209 1) T nt n with
      | none => rfl
      | some q => exact if_neg nk
    rw [e]
    rcases hR with ⟨a, b⟩ | ⟨f, q, a, b, c, e, g, i, j⟩
    · exact Or.inl ⟨a, by rw [s9J 58 (by decide)]; exact b⟩
    · refine Or.inr ⟨f, q, a, ?_⟩
      rw [s9J 1 (by decide), s9J 41 (by decide), s9J 58 (by decide)]
      exact ⟨b, c, e, g, i, fdSt_fr j (frJ 245 (by decide))⟩
  · have nk : ¬ kFit k := fun q => by
      rw [w3, if_pos q] at v0
      exact absurd v0 (by decide)
    unfold aRewrite
    cases pmRes (I 209 1) T nt n with
    | none => rfl
    | some q => exact (if_neg nk).symm
end MW
