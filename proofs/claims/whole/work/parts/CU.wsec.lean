/-! the calls primary, secondaries, secondary, numerator of the class -/
section WC5
variable {d : Nat} {z z1 : cm_Z} {I I1 : cm_I} {D : Int} {sh mb : Nat} {T : Nat → cMat} {nt n : Nat} {L : Nat → cMat} {K K' : Int → Int → Int} {B : Int → Int} {tp : Int} {rf : Option (Int → Int)}
/-- what the search has found -/
theorem wI_q (h : wI D T nt n L K B tp rf sh mb z I) (f4 : I 185 4 = 1) : (pmRes D T nt n = none ∧ I 185 5 = 0) ∨ ∃ q, pmRes D T nt n = some q ∧ I 185 5 = 1 ∧ sx_S D T nt n L (pmV D T nt q) (pmD D T nt q) ∧ prA D T nt (pmV D T nt q) (pmD D T nt q) I ∧ ∀ v : Nat, (v : Int) < D → I 190 (v : Int) = (cnd D T nt (sel3n q.1 q.2.1 q.2.2 v)).1 ∧ I 191 (v : Int) = ((cnd D T nt (sel3n q.1 q.2.1 q.2.2 v)).2 : Int) := by
  obtain ⟨⟨hB, y2, e3, alt⟩, y, hT, hZ, hK, hw0, hR⟩ := h
  have hD := shOk_D hB.1.2.1
  rcases alt with ⟨w, _⟩ | ⟨_, w⟩
  · rw [f4] at w; exact absurd w (by decide)
  · rcases w with w | ⟨q, q1, ⟨s1, s2, s3, s4⟩, q3, q4, q5⟩
    · exact Or.inl w
    · have S : sx_S D T nt n L (pmV D T nt q) (pmD D T nt q) := pm_S hD hB.1.2.2.2.2.2.2.2.1.2.2.2.2.2.2.1 hB.1.2.2.2.2.2.2.2.2.1 hZ (fun t0 h0 h15 => by
        have := (bsE_bs hB (t := t0.toNat) (by omega)).1
        rw [show ((t0.toNat : Nat) : Int) = t0 by omega] at this
        exact this) s1 s2 s3 s4
      refine Or.inr ⟨q, q1, q3, S, fun τ hτ => ?_, q4⟩
      have sl : sel3n q.1 q.2.1 q.2.2 τ < cndN D T nt := by
        unfold sel3n
        by_cases e0 : τ = 0
        · rw [if_pos e0]; exact s2
        · rw [if_neg e0]
          by_cases e1 : τ = 1
          · rw [if_pos e1]; exact s3
          · rw [if_neg e1]; exact s4 (by omega)
      obtain ⟨c1, c2, c3⟩ := cnd_bd sl
      have ed := pmD_at (T := T) (nt := nt) (q := q) hτ
      refine ⟨(cnd D T nt (sel3n q.1 q.2.1 q.2.2 τ)).2, by rw [ed]; exact (q4 τ hτ).1, (q4 τ hτ).2, by rw [ed]; exact c3, by rw [ed]; rfl, ?_⟩
      rw [ed]
      have := q5 (cnd D T nt (sel3n q.1 q.2.1 q.2.2 τ)).1.toNat (by omega) (by omega)
      exact this
theorem tdZ_ext {q : Nat × Nat × Nat} {k k1 : Nat} (h : tdZ D T nt q k rf z I) (kk : k ≤ k1) (k16 : k1 ≤ 16) (hG : ∀ t, t < k1 → grC D T nt (pmV D T nt q) (pmD D T nt q) t z1 I1) (hl : labS k z I z1 I1) (e201 : I1 201 = I 201) (e7 : I1 198 7 = I 198 7) : tdZ D T nt q k1 rf z1 I1 := by
  rcases h with ⟨h1, h2⟩ | ⟨f, f1, f2, f3, f4, f5, f6⟩
  · exact Or.inl ⟨h1, by rw [e7]; exact h2⟩
  · refine Or.inr ⟨f, f1, f2, f3, by rw [e7]; exact f4, ⟨fun t ht i hi => ?_, fun t ht h16 i hi => by rw [e201]; exact f5.2 t (by omega) h16 i hi⟩, fun t ht h16 => f6 t (by omega) h16⟩
    rw [e201]
    by_cases w : t < k
    · rw [f5.1 t w i hi]
      show _ = if i < bsRows D T nt t then fi (rwQ D T nt _ _ f (lab (I1 (gG z1 t 3)) i)) else 0
      rw [hl t w]
    · rw [f5.2 t (by omega) (by omega) i hi]
      by_cases w2 : i < bsRows D T nt t
      · rw [if_pos w2]
        have := (grC_en (hG t ht)).2.2.1 i w2
        rw [f6 t (by omega) (by omega) _ this]
        exact (fi_zero.mpr rfl).symm
      · rw [if_neg w2]
theorem rlZ_ext {q : Nat × Nat × Nat} {k k1 : Nat} (h : rlZ D T nt q k z I) (kk : k ≤ k1) (hl : labS k z I z1 I1) (e202 : I1 202 = I 202) (e9 : I1 198 9 = I 198 9) (e10 : I1 198 10 = I 198 10) : rlZ D T nt q k1 z1 I1 := by
  rcases h with h | ⟨i, h', g1, g2, g3, g4, g5, g6⟩
  · exact Or.inl (by rw [e9]; exact h)
  · refine Or.inr ⟨i, h', by rw [e9]; exact g1, by rw [e10]; exact g2, g3, g4, by omega, ?_⟩
    intro c hc
    rw [e202, g6 c hc, hl _ (by exact g5)]
/-- products of more degrees were made -/
theorem wI_ex (h : wI D T nt n L K B tp rf sh mb z I) {q : Nat × Nat × Nat} (hq : pmRes D T nt n = some q) (f4 : I 185 4 = 1) {k1 : Nat} (R1 : rwE D sh mb T nt n L (pmV D T nt q) (pmD D T nt q) k1 z1 I1) (hx : exP z I z1 I1) (full : seAll D T nt (pmV D T nt q) (pmD D T nt q) k1 = pmL D T nt q) {rf' : Option (Int → Int)} (td : tdZ D T nt q k1 rf' z1 I1) (rl : rlZ D T nt q k1 z1 I1) : wI D T nt n L K B tp rf' sh mb z1 I1 ∧ usW z z1 := by
  obtain ⟨⟨hB, y2, e3, alt⟩, y, hT, hZ, hK, hw0, hR⟩ := h
  have hg := hB.2.1
  have w6 : 248 ≤ zN z := hB.1.1.2.2.2.2.2
  obtain ⟨W, s198, flg⟩ := hx
  obtain ⟨⟨a1, a2, a3⟩, b, c, f⟩ := id W
  have zc : ∀ x, x < 248 → x ∉ exM → z1.1 x = z.1 x := fun x h1 h2 => a1 x (by omega) h2
  have fx : ∀ x, x < 248 → x ≠ 64 → (x ≤ 72 ∨ 185 ≤ x) → x ∉ exM → I1 x = I x := fun x h1 h2 h3 h4 => f x (by omega) h4 fun k hk _ => gw_fix hg h1 h2 h3 hk
  have z51 : z1.1 51 = z.1 51 := zc 51 (by decide) (by decide)
  have V1 := smV_fr hw0.2.2.2.2.2.1 hg W z51 w6 (by decide)
  have f185 : I1 185 = I 185 := fx 185 (by decide) (by decide) (by decide) (by decide)
  refine ⟨⟨⟨R1.1, by rw [zc 185 (by decide) (by decide)]; exact y2, by rw [f185]; exact e3, ?_⟩, R1.2.1, R1.2.2.2.1, hZ, fun i i0 i1 => by rw [fx (4 + i.toNat) (by omega) (by omega) (by omega) (by simp [exM]; omega)]; exact hK i i0 i1, wB_fr hw0 V1 (by rw [zc 1 (by decide) (by decide)]) fun x h1 h2 => fx x (by omega) (by omega) (by omega) (by simp [exM]; omega), Or.inr ⟨q, k1, hq, by rw [f185]; exact f4, R1, full, td, rl⟩⟩, us_usW b a2 z51 hw0.2.2.2.2.2.1⟩
  unfold pmK at alt ⊢
  rw [f185, fx 190 (by decide) (by decide) (by decide) (by decide), fx 191 (by decide) (by decide) (by decide) (by decide)]
  rcases alt with w | ⟨w1, w2⟩
  · exact Or.inl w
  · refine Or.inr ⟨w1, ?_⟩
    rcases w2 with w2 | ⟨q', q1, q2, q3, q4, q5⟩
    · exact Or.inl w2
    · exact Or.inr ⟨q', q1, q2, q3, q4, fun t h1 h2 => flg t (by omega) (q5 t h1 h2)⟩
/-- the rewriter as it stands, once all secondary ones are found -/
theorem sec_get (h : wI D T nt n L K B tp rf sh mb z I) {q : Nat × Nat × Nat} (hq : pmRes D T nt n = some q) (f4 : I 185 4 = 1) (e3 : I 198 3 = ((pmL D T nt q).length : Int)) : ∃ k, rwE D sh mb T nt n L (pmV D T nt q) (pmD D T nt q) k z I ∧ seAll D T nt (pmV D T nt q) (pmD D T nt q) k = pmL D T nt q ∧ tdZ D T nt q k rf z I ∧ rlZ D T nt q k z I := by
  rcases h.2.2.2.2.2.2 with ⟨a1, a2, a3, a4, a5⟩ | ⟨q', k, b1, b2, b3, b4, b5, b6⟩
  · rcases wI_q h f4 with ⟨w, _⟩ | ⟨q', q1, q2, q3, q4, q5⟩
    · rw [hq] at w; exact absurd w (by simp)
    · rw [hq] at q1
      have e : q = q' := Option.some.inj q1
      rw [← e] at q3 q4
      have l0 : pmL D T nt q = [] := by
        rw [a2] at e3
        exact List.length_eq_zero_iff.mp (by omega)
      exact ⟨0, ⟨h.1.1, h.2.1, q4, h.2.2.1, Nat.zero_le _, by rw [a3]; rfl, ⟨by rw [a2]; rfl, fun j hj => absurd hj (by show ¬ j < 0; omega)⟩, fun t ht => absurd ht (by omega)⟩, by rw [l0]; rfl, Or.inl ⟨a1, a4⟩, Or.inl a5⟩
  · rw [hq] at b1
    have e : q = q' := Option.some.inj b1
    rw [← e] at b3 b4 b5 b6
    exact ⟨k, b3, b4, b5, b6⟩
theorem c_find (h : wI D T nt n L K B tp rf sh mb z I) : zcI (d + 9) m_Search_find [vR 6 185] z I fun r I1 z1 => wI D T nt n L K B tp rf sh mb z1 I1 ∧ usW z z1 ∧ I1 185 4 = 1 ∧ r = I1 185 5 := by
  refine zcI_mono (t_pfind (d := d) h.1) fun r I1 z1 ⟨s1, s2, s3, W, same⟩ => ?_
  obtain ⟨⟨hB, y2, e3, alt⟩, y, hT, hZ, hK, hw0, hR⟩ := id h
  by_cases e4 : I 185 4 = 1
  · obtain ⟨a, b⟩ := same e4
    refine ⟨?_, ?_, s2, s3⟩
    · rw [a, b]; exact h
    · rw [b]; exact usW_refl z
  have hg := hB.2.1
  have w6 : 248 ≤ zN z := hB.1.1.2.2.2.2.2
  obtain ⟨⟨a1, a2, a3⟩, b, c, f⟩ := id W
  have zc : ∀ x, x < 248 → x ∉ fdM → z1.1 x = z.1 x := fun x h1 h2 => a1 x (by omega) h2
  have fx : ∀ x, x < 248 → x ≠ 64 → (x ≤ 72 ∨ 185 ≤ x) → x ∉ fdM → I1 x = I x := fun x h1 h2 h3 h4 => f x (by omega) h4 fun k hk _ => gw_fix hg h1 h2 h3 hk
  have z51 : z1.1 51 = z.1 51 := zc 51 (by decide) (by decide)
  have V1 := smV_fr hw0.2.2.2.2.2.1 hg W z51 w6 (by decide)
  refine ⟨⟨s1, by rw [zc 198 (by decide) (by decide)]; exact y, fun t ht => ?_, hZ, fun i i0 i1 => by rw [fx (4 + i.toNat) (by omega) (by omega) (by omega) (by simp [fdM]; omega)]; exact hK i i0 i1, wB_fr hw0 V1 (by rw [zc 1 (by decide) (by decide)]) fun x h1 h2 => fx x (by omega) (by omega) (by omega) (by simp [fdM]; omega), ?_⟩, us_usW b a2 z51 hw0.2.2.2.2.2.1, s2, s3⟩
  · have kt : 1 + 6 * t + 4 < 97 := by omega
    have nS : 1 + 6 * t + 4 ∉ fdS := by simp [fdS]; omega
    have e : gG z1 t 4 = gG z t 4 := by
      rcases c _ kt with w | ⟨w, _⟩
      · exact w
      · exact absurd w nS
    rw [e, f (gG z t 4) (hg.2.1 _ kt).2.1 (gw_fdM hg kt) fun k hk hS => gw_ne hg kt hk (fun x => nS (by rw [x]; exact hS))]
    exact hT t ht
  · rcases hR with hR | ⟨q, k, _, h2, _⟩
    · left; rw [fx 198 (by decide) (by decide) (by decide) (by decide)]; exact hR
    · exact absurd h2 e4
theorem c_findSec (h : wI D T nt n L K B tp rf sh mb z I) : zcI (d + 10) m_Works_findSecondaries [vR 11 1] z I fun r I1 z1 => wI D T nt n L K B tp rf sh mb z1 I1 ∧ usW z z1 ∧ ((r = 0 ∧ pmRes D T nt n = none) ∨ (r = 1 ∧ I1 185 4 = 1 ∧ ∃ q, pmRes D T nt n = some q ∧ I1 198 3 = ((pmL D T nt q).length : Int))) := by
  obtain ⟨hD, hz, hg, hs, pm, y6, y7, hS, hM, hE⟩ := wI_get h
  refine wr_Works_findSecondaries hz (zcI_mono (c_find (d := d) h) fun r I1 z1 ⟨W1, U1, f4, er⟩ => ?_)
  have hz1 := (wI_get W1).2.1
  rcases wI_q W1 f4 with ⟨w1, w2⟩ | ⟨q, q1, q2, S, P, q5⟩
  · exact ⟨fun w => absurd (er.trans w2) w, fun w => kI_mk ⟨W1, U1, Or.inl ⟨rfl, w1⟩⟩⟩
  · refine ⟨fun w => ⟨hz1, ?_⟩, fun w => by rw [er, q2] at w; exact absurd w (by decide)⟩
    have e3 : I1 185 3 = (n : Int) := W1.1.2.2.1
    -- as far as products stand
    have st : ∃ k, rwE D sh mb T nt n L (pmV D T nt q) (pmD D T nt q) k z1 I1 ∧ tdZ D T nt q k rf z1 I1 ∧ rlZ D T nt q k z1 I1 := by
      rcases W1.2.2.2.2.2.2 with ⟨a1, a2, a3, a4, a5⟩ | ⟨q', k, b1, b2, b3, b4, b5, b6⟩
      · exact ⟨0, ⟨W1.1.1, W1.2.1, P, W1.2.2.1, Nat.zero_le _, by rw [a3]; rfl, ⟨by rw [a2]; rfl, fun j hj => absurd hj (by show ¬ j < 0; omega)⟩, fun t ht => absurd ht (by omega)⟩, Or.inl ⟨a1, a4⟩, Or.inl a5⟩
      · rw [q1] at b1
        have e : q = q' := Option.some.inj b1
        rw [← e] at b3 b5 b6
        exact ⟨k, b3, b5, b6⟩
    obtain ⟨k, R0, td, rl⟩ := st
    refine zcU_mono (t_extendToAll (d := d) S R0 e3) fun I5 Z6 ⟨k1, kk, R5, ⟨hx, hl⟩, full⟩ => kI_mk ?_
    have w6 : 248 ≤ zN z1 := hz1.2.2.2.2.2
    have hg1 := W1.1.1.2.1
    have fx : ∀ x, x < 248 → 185 ≤ x → x ∉ exM → I5 x = I1 x := fun x h1 h2 h3 => hx.1.2.2.2 x (by omega) h3 fun k hk _ => gw_fix hg1 h1 (by omega) (Or.inr h2) hk
    obtain ⟨W5, U5⟩ := wI_ex W1 q1 f4 R5 hx full (tdZ_ext td kk R5.2.2.2.2.1 R5.2.2.2.2.2.2.2 hl (fx 201 (by decide) (by decide) (by decide)) (hx.2.1 7 (by decide) (by decide))) (rlZ_ext rl kk hl (fx 202 (by decide) (by decide) (by decide)) (hx.2.1 9 (by decide) (by decide)) (hx.2.1 10 (by decide) (by decide)))
    refine ⟨W5, usW_trans U1 U5, Or.inr ⟨rfl, by rw [fx 185 (by decide) (by decide) (by decide)]; exact f4, q, q1, ?_⟩⟩
    have := R5.2.2.2.2.2.2.1.1
    rw [full] at this
    exact this
theorem c_primary (h : wI D T nt n L K B tp rf sh mb z I) (k what : Int) : zcI (d + 10) m_Works_primary [vR 11 1, vI k, vI what] z I fun r I1 z1 => wI D T nt n L K B tp rf sh mb z1 I1 ∧ usW z z1 ∧ r = aPrimary D T nt n k what := by
  obtain ⟨hD, hz, hg, hs, pm, y6, y7, hS, hM, hE⟩ := wI_get h
  have bad : ¬ ((0 ≤ k ∧ k < D) ∧ (0 ≤ what ∧ what ≤ 1)) → aPrimary D T nt n k what = -1 := fun q => by
    unfold aPrimary
    split
    · rfl
    · rw [if_neg q]
  refine wr_Works_primary hz y6 hs ?_
  rw [hS.2.1]
  refine ⟨fun w => kI_mk ⟨h, usW_refl z, (bad (by omega)).symm⟩, fun w0 => ⟨fun w => kI_mk ⟨h, usW_refl z, (bad (by omega)).symm⟩, fun w1 => ⟨fun w => kI_mk ⟨h, usW_refl z, (bad (by omega)).symm⟩, fun w2 => ⟨fun w => kI_mk ⟨h, usW_refl z, (bad (by omega)).symm⟩, fun w3 => zcI_mono (c_find (d := d) h) fun r I1 z1 ⟨W1, U1, f4, er⟩ => ?_⟩⟩⟩⟩
  have hz1 := (wI_get W1).2.1
  unfold aPrimary
  rcases wI_q W1 f4 with ⟨w, w'⟩ | ⟨q, q1, q2, S, P, q5⟩
  · rw [w]
    exact ⟨fun x => absurd (er.trans w') x, fun _ => kI_mk ⟨W1, U1, rfl⟩⟩
  · rw [q1]
    have := q5 k.toNat (by omega)
    rw [show ((k.toNat : Nat) : Int) = k by omega] at this
    refine ⟨fun _ => ⟨fun n0 => ⟨hz1, ⟨w0, by omega⟩, kI_mk ⟨W1, U1, ?_⟩⟩, fun e0 => ⟨hz1, ⟨w0, by omega⟩, kI_mk ⟨W1, U1, ?_⟩⟩⟩, fun x => by rw [er, q2] at x; exact absurd x (by decide)⟩
    · show _ = if (0 ≤ k ∧ k < D) ∧ (0 ≤ what ∧ what ≤ 1) then _ else _
      rw [if_pos (by omega), if_neg n0]; exact this.2
    · show _ = if (0 ≤ k ∧ k < D) ∧ (0 ≤ what ∧ what ≤ 1) then _ else _
      rw [if_pos (by omega), if_pos e0]; exact this.1
theorem c_secondaries (h : wI D T nt n L K B tp rf sh mb z I) : zcI (d + 11) m_Works_secondaries [vR 11 1] z I fun r I1 z1 => wI D T nt n L K B tp rf sh mb z1 I1 ∧ usW z z1 ∧ r = aSecondaries D T nt n := by
  obtain ⟨hD, hz, _⟩ := wI_get h
  refine wr_Works_secondaries hz (zcI_mono (c_findSec (d := d) h) fun r I1 z1 ⟨W1, U1, alt⟩ => ?_)
  unfold aSecondaries
  rcases alt with ⟨r0, w⟩ | ⟨r1, f4, q, q1, q2⟩
  · rw [w]
    exact ⟨fun _ => kI_mk ⟨W1, U1, rfl⟩, fun x => absurd r0 x⟩
  · rw [q1]
    exact ⟨fun x => by omega, fun _ => ⟨(wI_get W1).2.1, kI_mk ⟨W1, U1, q2⟩⟩⟩
/-- secondary ones as the class keeps them -/
theorem sec_rows (h : wI D T nt n L K B tp rf sh mb z I) {q : Nat × Nat × Nat} (hq : pmRes D T nt n = some q) (f4 : I 185 4 = 1) (e3 : I 198 3 = ((pmL D T nt q).length : Int)) : (pmL D T nt q).length ≤ 216 ∧ ∀ j : Nat, j < (pmL D T nt q).length → I 199 (j : Int) = (sx_x (pmL D T nt q) j).1 ∧ I 200 (j : Int) = ((sx_x (pmL D T nt q) j).2 : Int) := by
  obtain ⟨k, R, full, _, _⟩ := sec_get h hq f4 e3
  have := R.2.2.2.2.2.2.1.2
  rw [full] at this
  rcases wI_q h f4 with ⟨w, _⟩ | ⟨q', q1, q2, S, P, q5⟩
  · rw [hq] at w; exact absurd w (by simp)
  · rw [hq] at q1
    have e : q = q' := Option.some.inj q1
    rw [← e] at S
    exact ⟨px_216 S, this⟩
theorem c_secondary (h : wI D T nt n L K B tp rf sh mb z I) (k what : Int) : zcI (d + 11) m_Works_secondary [vR 11 1, vI k, vI what] z I fun r I1 z1 => wI D T nt n L K B tp rf sh mb z1 I1 ∧ usW z z1 ∧ r = aSecondary D T nt n k what := by
  obtain ⟨hD, hz, _⟩ := wI_get h
  have bad : k < 0 ∨ ¬ (0 ≤ what ∧ what ≤ 1) → aSecondary D T nt n k what = -1 := fun q => by
    unfold aSecondary
    split
    · rfl
    · rw [if_neg (by omega)]
  refine wr_Works_secondary hz ⟨fun w => kI_mk ⟨h, usW_refl z, (bad (by omega)).symm⟩, fun w0 => ⟨fun w => kI_mk ⟨h, usW_refl z, (bad (by omega)).symm⟩, fun w1 => ⟨fun w => kI_mk ⟨h, usW_refl z, (bad (by omega)).symm⟩, fun w2 => zcI_mono (c_findSec (d := d) h) fun r I1 z1 ⟨W1, U1, alt⟩ => ?_⟩⟩⟩
  unfold aSecondary
  rcases alt with ⟨r0, w⟩ | ⟨r1, f4, q, q1, q2⟩
  · rw [w]
    exact ⟨fun _ => kI_mk ⟨W1, U1, rfl⟩, fun x => absurd r0 x⟩
  · rw [q1, q2]
    obtain ⟨l216, rows⟩ := sec_rows W1 q1 f4 q2
    refine ⟨fun x => by omega, fun _ => ⟨(wI_get W1).2.1, fun lt => ?_, fun ge => kI_mk ⟨W1, U1, ?_⟩⟩⟩
    · have := rows k.toNat (by omega)
      rw [show ((k.toNat : Nat) : Int) = k by omega] at this
      refine ⟨fun n0 => ⟨⟨w0, by omega⟩, kI_mk ⟨W1, U1, ?_⟩⟩, fun e0 => ⟨⟨w0, by omega⟩, kI_mk ⟨W1, U1, ?_⟩⟩⟩
      · show _ = if (0 ≤ k ∧ k < ((pmL D T nt q).length : Int)) ∧ (0 ≤ what ∧ what ≤ 1) then _ else _
        rw [if_pos (by omega), if_neg n0]; exact this.2
      · show _ = if (0 ≤ k ∧ k < ((pmL D T nt q).length : Int)) ∧ (0 ≤ what ∧ what ≤ 1) then _ else _
        rw [if_pos (by omega), if_pos e0]; exact this.1
    · show _ = if (0 ≤ k ∧ k < ((pmL D T nt q).length : Int)) ∧ (0 ≤ what ∧ what ≤ 1) then _ else _
      rw [if_neg (by omega)]
theorem c_numerator (h : wI D T nt n L K B tp rf sh mb z I) (t : Int) : zcI (d + 11) m_Works_numerator [vR 11 1, vI t] z I fun r I1 z1 => wI D T nt n L K B tp rf sh mb z1 I1 ∧ usW z z1 ∧ r = aNumerator D T nt n t := by
  obtain ⟨hD, hz, _⟩ := wI_get h
  refine wr_Works_numerator hz (mI_mono (t_isPower (d := d + 9) hz t) fun r0 I0 ⟨e0, b0⟩ => ?_)
  rw [e0]
  refine ⟨fun w => kI_mk ⟨h, usW_refl z, ?_⟩, fun w => zcI_mono (c_findSec (d := d) h) fun r I1 z1 ⟨W1, U1, alt⟩ => ?_⟩
  · unfold aNumerator
    split
    · rfl
    · rw [if_neg fun q => by rw [if_pos q] at b0; omega]
  have ht : 0 ≤ t ∧ t ≤ 15 := Classical.byContradiction fun x => w (by rw [b0, if_neg x])
  unfold aNumerator
  rcases alt with ⟨r0', w'⟩ | ⟨r1, f4, q, q1, q2⟩
  · rw [w']
    exact ⟨fun x => absurd r0' x, fun _ => kI_mk ⟨W1, U1, rfl⟩⟩
  · rw [q1]
    obtain ⟨l216, rows⟩ := sec_rows W1 q1 f4 q2
    refine ⟨fun _ => ?_, fun x => by omega⟩
    have hz1 := (wI_get W1).2.1
    have sb : ∀ j : Nat, 0 ≤ seNum (pmL D T nt q) t j ∧ seNum (pmL D T nt q) t j ≤ j := by
      intro j
      induction j with
      | zero => exact ⟨Int.le_refl 0, Int.le_refl 0⟩
      | succ j ih =>
        show 0 ≤ seNum (pmL D T nt q) t j + (if (sx_x (pmL D T nt q) j).1 = t then (1 : Int) else 0) ∧ seNum (pmL D T nt q) t j + (if (sx_x (pmL D T nt q) j).1 = t then (1 : Int) else 0) ≤ ((j + 1 : Nat) : Int)
        split <;> omega
    have Lp : ∀ (u j : Nat), j + u = (pmL D T nt q).length → cw (d + 10) cd_Works_numerator (kI fun r I1 z1 => wI D T nt n L K B tp rf sh mb z1 I1 ∧ usW z z1 ∧ r = if 0 ≤ t ∧ t ≤ 15 then seNum (pmL D T nt q) t (pmL D T nt q).length else -1) 20 [some (vR 11 1), some (vI t), some (vI (seNum (pmL D T nt q) t j)), some (vI (j : Int))] [] (I1, z1) := by
      intro u
      induction u with
      | zero =>
        intro j ej
        refine wr_Works_numerator_20 hz1 ?_
        rw [q2]
        refine ⟨fun _ => kI_mk ⟨W1, U1, ?_⟩, fun x => by omega⟩
        rw [if_pos ht, show j = (pmL D T nt q).length by omega]
      | succ u ih =>
        intro j ej
        have := sb j
        refine wr_Works_numerator_20 hz1 ?_
        rw [q2, (rows j (by omega)).1]
        refine ⟨fun x => by omega, fun _ => ⟨⟨by omega, by omega⟩, fun ne => ⟨by unfold cm_i; omega, ?_⟩, fun e => ⟨by unfold cm_i; omega, by unfold cm_i; omega, ?_⟩⟩⟩
        · have := ih (j + 1) (by omega)
          have e : seNum (pmL D T nt q) t (j + 1) = seNum (pmL D T nt q) t j := by
            show sg j _ + (if (sx_x (pmL D T nt q) j).1 = t then (1 : Int) else 0) = _
            rw [if_neg ne, Int.add_zero]
            rfl
          rw [e] at this
          exact this
        · have := ih (j + 1) (by omega)
          have e' : seNum (pmL D T nt q) t (j + 1) = seNum (pmL D T nt q) t j + 1 := by
            show sg j _ + (if (sx_x (pmL D T nt q) j).1 = t then (1 : Int) else 0) = _
            rw [if_pos e]
            rfl
          rw [e'] at this
          exact this
    exact Lp (pmL D T nt q).length 0 (by omega)
end WC5
