/-! PrimarySearch.tryPairs, tryTriples -/
def tri (D : Int) (i0 i j : Nat) : Nat × Nat × Nat := if D = 2 then (i, j, 0) else (i0, i, j)
noncomputable def tAsk (D : Int) (T : Nat → cMat) (nt i0 i j : Nat) : sSt → sSt := sAsk (isSys D T nt) (tri D i0 i j).1 (tri D i0 i j).2.1 (tri D i0 i j).2.2
theorem tri_sel {D : Int} {W i0 i j : Nat} (hW : (W : Int) + 2 = D) (hD : D = 2 ∨ D = 3) (v : Nat) (hv : (v : Int) < D) : (v = W ∧ sel3n (tri D i0 i j).1 (tri D i0 i j).2.1 (tri D i0 i j).2.2 v = i) ∨ (v = W + 1 ∧ sel3n (tri D i0 i j).1 (tri D i0 i j).2.1 (tri D i0 i j).2.2 v = j) ∨ (W = 1 ∧ v = 0 ∧ sel3n (tri D i0 i j).1 (tri D i0 i j).2.1 (tri D i0 i j).2.2 v = i0) := by
  unfold tri
  rcases hD with e | e
  · rw [if_pos e]
    have : v = 0 ∨ v = 1 := by omega
    rcases this with w | w
    · left; rw [w]; exact ⟨by omega, rfl⟩
    · right; left; rw [w]; exact ⟨by omega, rfl⟩
  · rw [if_neg (by omega)]
    have : v = 0 ∨ v = 1 ∨ v = 2 := by omega
    rcases this with w | w | w
    · right; right; rw [w]; exact ⟨by omega, rfl, rfl⟩
    · left; rw [w]; exact ⟨by omega, rfl⟩
    · right; left; rw [w]; exact ⟨by omega, rfl⟩
theorem tAsk_stop {D : Int} {T : Nat → cMat} {nt i0 : Nat} {st : sSt} (h : sStop st) (i j : Nat) : tAsk D T nt i0 i j st = st := sAsk_stop h _ _ _
/-- what the search has found so far, in the class -/
def tpRs (D : Int) (T : Nat → cMat) (nt : Nat) (st : sSt) (r : Int) (J : cm_I) (z : cm_Z) : Prop := J 185 6 = (st.1 : Int) ∧ st.1 ≤ 60 ∧ ((r = 0 ∧ st.2 = none) ∨ (r = 1 ∧ ∃ q, st.2 = some q ∧ isSys D T nt q.1 q.2.1 q.2.2 ∧ q.1 < cndN D T nt ∧ q.2.1 < cndN D T nt ∧ (D = 3 → q.2.2 < cndN D T nt) ∧ ∀ v : Nat, (v : Int) < D → pcC D T nt z J v (sel3n q.1 q.2.1 q.2.2 v)))
section WTP
variable {d : Nat} {z : cm_Z} {I : cm_I} {D : Int} {sh mb : Nat} {T : Nat → cMat} {nt n : Nat} {L : Nat → cMat}
theorem t_tryPairs (h : srG D sh mb T nt n L z I) {W i0 fm : Nat} {g : Int} (hW : (W : Int) + 2 = D) (h0 : W = 1 → i0 < cndN D T nt ∧ pcC D T nt z I 0 i0) (hf : fm ≤ cndN D T nt) {st : sSt} (s2 : st.2 = none) (s1 : st.1 ≤ 60) (e6 : I 185 6 = (st.1 : Int)) : zcI (d + 5) m_Search_tryPairs [vR 6 185, vI (fm : Int), vI g, vI (W : Int)] z I fun r I1 z1 => srG D sh mb T nt n L z1 I1 ∧ srF z I z1 I1 ∧ tpRs D T nt (H2 (tAsk D T nt i0) (fun e => (cnd D T nt e).1) g (cndN D T nt) (cndN D T nt - fm) fm st) r I1 z1 := by
  have hD := shOk_D h.1.1.2.1
  have n83 := h.2.2.2.1
  obtain ⟨N, hN⟩ : ∃ N, N = cndN D T nt := ⟨_, rfl⟩
  obtain ⟨deg, hdeg⟩ : ∃ deg : Nat → Int, deg = fun e => (cnd D T nt e).1 := ⟨_, rfl⟩
  have degb : ∀ e, e < N → 1 ≤ deg e ∧ deg e ≤ 6 := fun e he => by
    rw [hN] at he
    obtain ⟨a, b, _⟩ := cnd_bd he
    rw [hdeg]; exact ⟨a, b⟩
  rw [← hdeg, ← hN]
  rw [← hN] at h0 hf n83
  generalize hF : H2 (tAsk D T nt i0) deg g N (N - fm) fm st = stF
  obtain ⟨Q, hQ⟩ : ∃ Q : cm_Q, Q = kI fun r I1 z1 => srG D sh mb T nt n L z1 I1 ∧ srF z I z1 I1 ∧ tpRs D T nt stF r I1 z1 := ⟨_, rfl⟩
  have slot : ∀ (J : cm_I) (z' : cm_Z), srG D sh mb T nt n L z' J → J 185 7 = (N : Int) ∧ ∀ e : Nat, e < N → J 186 (e : Int) = deg e := fun J z' hG => by
    obtain ⟨a1, a2, a3, a4, a5, a6⟩ := hG
    rw [← hN] at a3 a5
    exact ⟨a3, fun e he => by rw [(a5 e he).1, hdeg]⟩
  have L3 : ∀ (u i : Nat) (J : cm_I) (z' : cm_Z) (st : sSt) (x1 x5 x6 : Option cm_V), i + u = N → srG D sh mb T nt n L z' J → srF z I z' J → (W = 1 → i0 < N ∧ pcC D T nt z' J 0 i0) → st.2 = none → st.1 ≤ 60 → J 185 6 = (st.1 : Int) → H2 (tAsk D T nt i0) deg g N u i st = stF → cw (d + 4) cd_Search_tryPairs Q 3 [some (vR 6 185), x1, some (vI g), some (vI (W : Int)), some (vI (i : Int)), x5, x6] [] (J, z') := by
    intro u
    induction u with
    | zero =>
      intro i J z' st x1 x5 x6 ei hG hFr h0 s2 s1 e6 hs
      obtain ⟨q1, q2⟩ := slot J z' hG
      refine wr_Search_tryPairs_3 hG.1.1.1 ⟨fun _ => ?_, fun w => by rw [q1] at w; omega⟩
      rw [hQ]
      exact kI_mk ⟨hG, hFr, by rw [← hs]; exact ⟨e6, s1, Or.inl ⟨rfl, s2⟩⟩⟩
    | succ u ih =>
      intro i J z' st x1 x5 x6 ei hG hFr h0 s2 s1 e6 hs
      obtain ⟨q1, q2⟩ := slot J z' hG
      have di := degb i (by omega)
      rw [H2] at hs
      refine wr_Search_tryPairs_3 hG.1.1.1 ?_
      rw [q1, q2 i (by omega)]
      refine ⟨fun w => by omega, fun _ => ⟨⟨by omega, by omega⟩, mI_mono (t_divides (d := d + 3) hG.1.1.1 (by omega)) fun vv J0 ⟨eJ, ev⟩ => ?_⟩⟩
      rw [eJ, q2 i (by omega)]
      refine ⟨fun w0 => ⟨by omega, ?_⟩, fun w0 => ⟨⟨by omega, by omega⟩, ?_⟩⟩
      · have w : Int.tmod g (deg i) = 0 := by
          rcases ev with ⟨a, _⟩ | ⟨_, b⟩
          · exact absurd a w0
          · exact b
        rw [if_pos w] at hs
        refine zcU_mono (sr_choose (d := d + 2) hG (w := W) (e := i) (by omega) (by omega)) fun J1 z1 ⟨c1, c2, c3, c4, c5⟩ => ⟨⟨by omega, by omega⟩, ?_⟩
        -- the second of the two
        have L53 : ∀ (m j : Nat) (J : cm_I) (z' : cm_Z) (st : sSt), j + m = N → i < j → srG D sh mb T nt n L z' J → srF z I z' J → (W = 1 → i0 < N ∧ pcC D T nt z' J 0 i0) → pcC D T nt z' J W i → st.2 = none → st.1 ≤ 60 → J 185 6 = (st.1 : Int) → H2 (tAsk D T nt i0) deg g N u (i + 1) (H3 (tAsk D T nt i0) deg (Int.tdiv g (deg i)) i m j st) = stF → cw (d + 4) cd_Search_tryPairs Q 53 [some (vR 6 185), x1, some (vI g), some (vI (W : Int)), some (vI (i : Int)), some (vI (Int.tdiv g (deg i))), some (vI (j : Int))] [] (J, z') := by
          intro m
          induction m with
          | zero =>
            intro j J z' st ej ij hG hFr h0 hp s2 s1 e6 hs
            obtain ⟨q1, q2⟩ := slot J z' hG
            refine wr_Search_tryPairs_53 hG.1.1.1 ⟨fun _ => ⟨⟨by omega, by omega⟩, ?_⟩, fun w => by rw [q1] at w; omega⟩
            exact ih (i + 1) J z' st x1 _ _ (by omega) hG hFr h0 s2 s1 e6 hs
          | succ m ihm =>
            intro j J z' st ej ij hG hFr h0 hp s2 s1 e6 hs
            obtain ⟨q1, q2⟩ := slot J z' hG
            rw [H3] at hs
            refine wr_Search_tryPairs_53 hG.1.1.1 ?_
            rw [q1, q2 j (by omega)]
            refine ⟨fun w => by omega, fun _ => ⟨⟨by omega, by omega⟩, fun w => ⟨fun n60 => ?_, fun y60 => ?_⟩, fun w => ⟨⟨by omega, by omega⟩, ?_⟩⟩⟩
            · rw [if_pos w] at hs
              have s60 : st.1 < 60 := by omega
              refine ⟨⟨by omega, by omega⟩, fun J2 e2 => ⟨⟨by omega, by omega⟩, ?_⟩⟩
              obtain ⟨f2, g2⟩ := fr_eq_iu e2
              have F2 : srF z' J z' J2 := by
                refine ⟨zg_refl _ _, fun _ _ => rfl, fun _ _ _ => rfl, us_refl _, Or.inl rfl, fun c _ hn _ => f2 c (nin_sub hn (by simp [sM])), fun x hx => ?_⟩
                rw [g2]; exact if_neg hx
              have nq : z'.1 63 2 ∉ sL := gw_sL hG.1.2.1 (k := 0) (by decide)
              have hG2 : srG D sh mb T nt n L z' J2 := srG_fr hG hG.1.1.1 hG.1.2.1 (by rw [f2 _ (nin_sub nq (by simp [sL]))]; exact hG.1.2.2.2.2.2.2.1) F2
              have pk : ∀ w e, w < 3 → e < N → pcC D T nt z' J w e → pcC D T nt z' J2 w e := fun w e hw he hp => pcC_fr (by omega) hp rfl (fun _ _ _ => rfl) (f2 _ (by simp; omega)) (by rw [f2 190 (by decide)]) (by rw [f2 191 (by decide)])
              refine zcU_mono (sr_choose (d := d + 2) hG2 (w := W + 1) (e := j) (by omega) (by omega)) fun J3 z3 ⟨k1, k2, k3, k4, k5⟩ => ?_
              have hW3 : pcC D T nt z3 J3 W i := k4 W i (by omega) (by omega) (by omega) (pk W i (by omega) (by omega) hp)
              have h03 : W = 1 → i0 < N ∧ pcC D T nt z3 J3 0 i0 := fun e => ⟨(h0 e).1, k4 0 i0 (by omega) (by omega) (by have := (h0 e).1; omega) (pk 0 i0 (by omega) (h0 e).1 (h0 e).2)⟩
              have e63 : J3 185 6 = ((st.1 + 1 : Nat) : Int) := by
                rw [k5, g2]
                show (if (6 : Int) = 6 then J 185 6 + 1 else _) = _
                rw [if_pos rfl, e6]; omega
              have selq : ∀ v : Nat, (v : Int) < D → sel3n (tri D i0 i j).1 (tri D i0 i j).2.1 (tri D i0 i j).2.2 v < cndN D T nt ∧ pcC D T nt z3 J3 v (sel3n (tri D i0 i j).1 (tri D i0 i j).2.1 (tri D i0 i j).2.2 v) := by
                intro v hv
                rcases tri_sel (i0 := i0) (i := i) (j := j) hW hD v hv with ⟨a, b⟩ | ⟨a, b⟩ | ⟨a, a', b⟩
                · rw [b, a]; exact ⟨by omega, hW3⟩
                · rw [b, a]; exact ⟨by omega, k3⟩
                · rw [b, a']; exact ⟨by have := (h03 a).1; omega, (h03 a).2⟩
              refine zcI_mono (sr_span (d := d) k1 selq) fun r J4 z4 ⟨a1, a2, a3, a4, a5, a6⟩ => ?_
              have F4 : srF z I z4 J4 := srF_trans hFr (srF_trans F2 (srF_trans k2 a2))
              have nst : ¬ (st.2.isSome = true ∨ 60 ≤ st.1) := by
                rw [s2]
                rintro (x | x)
                · exact absurd x (by decide)
                · omega
              have eask : tAsk D T nt i0 i j st = (st.1 + 1, @ite _ (isSys D T nt (tri D i0 i j).1 (tri D i0 i j).2.1 (tri D i0 i j).2.2) (Classical.propDecidable _) (some (tri D i0 i j)) none) := by
                unfold tAsk sAsk
                rw [if_neg nst]
              refine ⟨fun r0 => ⟨⟨by omega, by omega⟩, ?_⟩, fun r1 => ?_⟩
              · have no : ¬ isSys D T nt (tri D i0 i j).1 (tri D i0 i j).2.1 (tri D i0 i j).2.2 := fun y => by
                  have := a6.mpr y
                  omega
                rw [eask, if_neg no] at hs
                exact ihm (j + 1) J4 z4 (st.1 + 1, none) (by omega) (by omega) a1 F4 (fun e => ⟨(h03 e).1, a3 0 i0 (by omega) (by have := (h03 e).1; omega) (h03 e).2⟩) (a3 W i (by omega) (by omega) hW3) rfl (by show st.1 + 1 ≤ 60; omega) (by rw [a4]; exact e63) hs
              · have yes : isSys D T nt (tri D i0 i j).1 (tri D i0 i j).2.1 (tri D i0 i j).2.2 := a6.mp (by omega)
                rw [eask, if_pos yes] at hs
                have stp : sStop (st.1 + 1, some (tri D i0 i j)) := Or.inl rfl
                rw [H3_stop (fun i j => tAsk_stop stp i j), H2_stop (fun i j => tAsk_stop stp i j)] at hs
                rw [hQ]
                refine kI_mk ⟨a1, F4, ?_⟩
                rw [← hs]
                refine ⟨by rw [a4]; exact e63, by show st.1 + 1 ≤ 60; omega, Or.inr ⟨rfl, tri D i0 i j, rfl, yes, (selq 0 (by omega)).1, (selq 1 (by omega)).1, fun e => (selq 2 (by omega)).1, fun v hv => a3 v _ (by omega) (selq v hv).1 (selq v hv).2⟩⟩
            · have stp : sStop st := Or.inr (by omega)
              rw [tAsk_stop stp, ite_self, H3_stop (ask := tAsk D T nt i0) (fun i j => tAsk_stop stp i j), H2_stop (ask := tAsk D T nt i0) (fun i j => tAsk_stop stp i j)] at hs
              rw [hQ]
              exact kI_mk ⟨hG, hFr, by rw [← hs]; exact ⟨e6, s1, Or.inl ⟨rfl, s2⟩⟩⟩
            · rw [if_neg w] at hs
              exact ihm (j + 1) J z' st (by omega) (by omega) hG hFr h0 hp s2 s1 e6 hs
        exact L53 (N - (i + 1)) (i + 1) J1 z1 st (by omega) (by omega) c1 (srF_trans hFr c2) (fun e => ⟨(h0 e).1, c4 0 i0 (by omega) (by omega) (by have := (h0 e).1; omega) (h0 e).2⟩) c3 s2 s1 (by rw [c5]; exact e6) hs
      · have w : ¬ Int.tmod g (deg i) = 0 := by
          rcases ev with ⟨_, b⟩ | ⟨a, _⟩
          · exact b
          · omega
        rw [if_neg w] at hs
        exact ih (i + 1) J z' st x1 x5 x6 (by omega) hG hFr h0 s2 s1 e6 hs
  rw [show (fun r I1 z1 => srG D sh mb T nt n L z1 I1 ∧ srF z I z1 I1 ∧ tpRs D T nt stF r I1 z1) = (fun r I1 z1 => srG D sh mb T nt n L z1 I1 ∧ srF z I z1 I1 ∧ tpRs D T nt stF r I1 z1) from rfl]
  show cm_call (d + 5) m_Search_tryPairs _ (I, z) (kI fun r I1 z1 => srG D sh mb T nt n L z1 I1 ∧ srF z I z1 I1 ∧ tpRs D T nt stF r I1 z1)
  rw [← hQ]
  exact wr_Search_tryPairs h.1.1.1 (L3 (N - fm) fm I z st _ none none (by omega) h (srF_refl z I) h0 s2 s1 e6 hF)
theorem t_tryTriples (h : srG D sh mb T nt n L z I) {g : Int} (g0 : 0 ≤ g) (hD3 : D = 3) {st : sSt} (s2 : st.2 = none) (s1 : st.1 ≤ 60) (e6 : I 185 6 = (st.1 : Int)) : zcI (d + 6) m_Search_tryTriples [vR 6 185, vI g] z I fun r I1 z1 => srG D sh mb T nt n L z1 I1 ∧ srF z I z1 I1 ∧ tpRs D T nt (K1 (isSys D T nt) (fun e => (cnd D T nt e).1) g D (cndN D T nt) (cndN D T nt) 0 st) r I1 z1 := by
  have n83 := h.2.2.2.1
  obtain ⟨N, hN⟩ : ∃ N, N = cndN D T nt := ⟨_, rfl⟩
  obtain ⟨deg, hdeg⟩ : ∃ deg : Nat → Int, deg = fun e => (cnd D T nt e).1 := ⟨_, rfl⟩
  have degb : ∀ e, e < N → 1 ≤ deg e ∧ deg e ≤ 6 := fun e he => by
    rw [hN] at he
    obtain ⟨a, b, _⟩ := cnd_bd he
    rw [hdeg]; exact ⟨a, b⟩
  rw [← hdeg, ← hN]
  rw [← hN] at n83
  generalize hF : K1 (isSys D T nt) deg g D N N 0 st = stF
  obtain ⟨Q, hQ⟩ : ∃ Q : cm_Q, Q = kI fun r I1 z1 => srG D sh mb T nt n L z1 I1 ∧ srF z I z1 I1 ∧ tpRs D T nt stF r I1 z1 := ⟨_, rfl⟩
  have slot : ∀ (J : cm_I) (z' : cm_Z), srG D sh mb T nt n L z' J → J 185 7 = (N : Int) ∧ ∀ e : Nat, e < N → J 186 (e : Int) = deg e := fun J z' hG => by
    obtain ⟨a1, a2, a3, a4, a5, a6⟩ := hG
    rw [← hN] at a3 a5
    exact ⟨a3, fun e he => by rw [(a5 e he).1, hdeg]⟩
  have eT : ∀ i, tAsk D T nt i = fun a b => sAsk (isSys D T nt) i a b := fun i => by
    funext a b
    unfold tAsk tri
    rw [if_neg (by omega)]
  have L2 : ∀ (u i : Nat) (J : cm_I) (z' : cm_Z) (st : sSt), i + u = N → srG D sh mb T nt n L z' J → srF z I z' J → st.2 = none → st.1 ≤ 60 → J 185 6 = (st.1 : Int) → K1 (isSys D T nt) deg g D N u i st = stF → cw (d + 5) cd_Search_tryTriples Q 2 [some (vR 6 185), some (vI g), some (vI (i : Int))] [] (J, z') := by
    intro u
    induction u with
    | zero =>
      intro i J z' st ei hG hFr s2 s1 e6 hs
      obtain ⟨q1, q2⟩ := slot J z' hG
      refine wr_Search_tryTriples_2 hG.1.1.1 ⟨fun _ => ?_, fun w => by rw [q1] at w; omega⟩
      rw [hQ]
      exact kI_mk ⟨hG, hFr, by rw [← hs]; exact ⟨e6, s1, Or.inl ⟨rfl, s2⟩⟩⟩
    | succ u ih =>
      intro i J z' st ei hG hFr s2 s1 e6 hs
      obtain ⟨q1, q2⟩ := slot J z' hG
      have di := degb i (by omega)
      refine wr_Search_tryTriples_2 hG.1.1.1 ?_
      rw [q1, q2 i (by omega), e6]
      refine ⟨fun w => by omega, fun _ => ⟨fun w => ?_, fun w60 => ⟨⟨by omega, by omega⟩, mI_mono (t_divides (d := d + 4) hG.1.1.1 (by omega)) fun vv J0 ⟨eJ, ev⟩ => ?_⟩⟩⟩
      · have stp : sStop st := Or.inr (by omega)
        rw [K1_stop stp] at hs
        rw [hQ]
        exact kI_mk ⟨hG, hFr, by rw [← hs]; exact ⟨e6, s1, Or.inl ⟨rfl, s2⟩⟩⟩
      · rw [eJ]
        refine ⟨fun w0 => ⟨⟨by omega, by omega⟩, ?_⟩, fun w0 => ?_⟩
        · have w : ¬ Int.tmod g (deg i) = 0 := by
            rcases ev with ⟨_, b⟩ | ⟨a, _⟩
            · exact b
            · omega
          rw [K1, hD3, K2_H2 g0 di.1 (fun e he => (degb e he).1) _ _ _ (by omega), if_neg w, ← hD3] at hs
          exact ih (i + 1) J z' st (by omega) hG hFr s2 s1 e6 hs
        · have w : Int.tmod g (deg i) = 0 := by
            rcases ev with ⟨a, _⟩ | ⟨_, b⟩
            · exact absurd a w0
            · exact b
          rw [K1, hD3, K2_H2 g0 di.1 (fun e he => (degb e he).1) _ _ _ (by omega), if_pos w, ← hD3] at hs
          refine zcU_mono (sr_choose (d := d + 3) hG (w := 0) (e := i) (by omega) (by omega)) fun J1 z1 ⟨c1, c2, c3, c4, c5⟩ => ⟨⟨by omega, by omega⟩, c1.1.1.1, ?_⟩
          rw [(slot J1 z1 c1).2 i (by omega)]
          refine ⟨by omega, ?_⟩
          have tp := t_tryPairs (d := d) c1 (W := 1) (i0 := i) (fm := i + 1) (g := Int.tdiv g (deg i)) (by omega) (fun _ => ⟨by omega, c3⟩) (by omega) s2 s1 (by rw [c5]; exact e6)
          rw [← hdeg, ← hN, eT] at tp
          refine zcI_mono tp fun r J2 z2 ⟨a1, a2, a3⟩ => ?_
          have F2 : srF z I z2 J2 := srF_trans hFr (srF_trans c2 a2)
          generalize H2 (fun a b => sAsk (isSys D T nt) i a b) deg (Int.tdiv g (deg i)) N (N - (i + 1)) (i + 1) st = st2 at hs a3
          obtain ⟨t1, t2, t3⟩ := id a3
          refine ⟨fun r0 => ?_, fun r1 => ?_⟩
          · rcases t3 with ⟨_, t3⟩ | ⟨t3, _⟩
            · exact ih (i + 1) J2 z2 st2 (by omega) a1 F2 t3 t2 t1 hs
            · omega
          · rcases t3 with ⟨t3, _⟩ | ⟨t3, q, t4, t5⟩
            · exact absurd t3 r1
            · have stp : sStop st2 := Or.inl (by rw [t4]; rfl)
              rw [K1_stop stp] at hs
              rw [t3] at a3
              rw [hQ]
              exact kI_mk ⟨a1, F2, by rw [← hs]; exact a3⟩
  show cm_call (d + 6) m_Search_tryTriples _ (I, z) (kI fun r I1 z1 => srG D sh mb T nt n L z1 I1 ∧ srF z I z1 I1 ∧ tpRs D T nt stF r I1 z1)
  rw [← hQ]
  exact wr_Search_tryTriples h.1.1.1 (L2 N 0 I z st (by omega) h (srF_refl z I) s2 s1 e6 hF)
end WTP
