/-! THE SEARCH for primary ones, by the reference -/
section PSE
variable (sys : Nat → Nat → Nat → Prop) (deg : Nat → Int) (p : Int)
noncomputable def K3 (i j : Nat) : Nat → Nat → sSt → sSt
  | 0, _, st => st
  | n + 1, k, st => K3 i j n (k + 1) (if deg i * deg j * deg k = p then sAsk sys i j k st else st)
noncomputable def K2 (D : Int) (N i : Nat) : Nat → Nat → sSt → sSt
  | 0, _, st => st
  | n + 1, j, st => K2 D N i n (j + 1) (if D = 2 then (if deg i * deg j = p then sAsk sys i j 0 st else st) else K3 sys deg p i j (N - (j + 1)) (j + 1) st)
noncomputable def K1 (D : Int) (N : Nat) : Nat → Nat → sSt → sSt
  | 0, _, st => st
  | n + 1, i, st => K1 D N n (i + 1) (K2 sys deg p D N i (N - (i + 1)) (i + 1) st)
end PSE
/-- by products: p, p + m, .. as far as most -/
noncomputable def KP (sys : Nat → Nat → Nat → Prop) (deg : Nat → Int) (D : Int) (N : Nat) (m most : Int) : Nat → Int → sSt → sSt
  | 0, _, st => st
  | n + 1, p, st => if p ≤ most then KP sys deg D N m most n (p + m) (K1 sys deg p D N N 0 st) else st
def sStop (st : sSt) : Prop := st.2.isSome = true ∨ 60 ≤ st.1
section PST
variable {sys : Nat → Nat → Nat → Prop} {deg : Nat → Int} {p : Int} {st : sSt}
theorem sAsk_stop (h : sStop st) (i j k : Nat) : sAsk sys i j k st = st := by unfold sAsk; exact if_pos h
theorem K3_stop (h : sStop st) (i j : Nat) : ∀ n k, K3 sys deg p i j n k st = st := by
  intro n
  induction n with
  | zero => intro k; rfl
  | succ n ih => intro k; rw [K3, sAsk_stop h, ite_self]; exact ih _
theorem K2_stop (h : sStop st) (D : Int) (N i : Nat) : ∀ n j, K2 sys deg p D N i n j st = st := by
  intro n
  induction n with
  | zero => intro j; rfl
  | succ n ih => intro j; rw [K2, sAsk_stop h, ite_self, K3_stop h, ite_self]; exact ih _
theorem K1_stop (h : sStop st) (D : Int) (N : Nat) : ∀ n i, K1 sys deg p D N n i st = st := by
  intro n
  induction n with
  | zero => intro i; rfl
  | succ n ih => intro i; rw [K1, K2_stop h]; exact ih _
theorem KP_stop {D : Int} {N : Nat} {m most : Int} (h : sStop st) : ∀ n p, KP sys deg D N m most n p st = st := by
  intro n
  induction n with
  | zero => intro p; rfl
  | succ n ih =>
    intro p
    rw [KP, K1_stop h]
    split
    · exact ih _
    · rfl
end PST
/-- the cells hold the search's state -/
def sRel (T : Nat → cMat) (nt : Nat) (st : sSt) (I : cm_I) : Prop := I 209 49 = (st.1 : Int) ∧ st.1 ≤ 60 ∧ ((st.2 = none ∧ I 209 42 = 0) ∨ ∃ i j k, st.2 = some (i, j, k) ∧ isSys (I 209 1) T nt i j k ∧ i < cndN (I 209 1) T nt ∧ j < cndN (I 209 1) T nt ∧ (I 209 1 = 3 → k < cndN (I 209 1) T nt) ∧ I 209 42 = 1 ∧ ∀ v : Nat, (v : Int) < I 209 1 → I 234 (v : Int) = (cnd (I 209 1) T nt (sel3n i j k v)).1 ∧ I 235 (v : Int) = ((cnd (I 209 1) T nt (sel3n i j k v)).2 : Int) ∧ isRow (I 236) (1140 * (v : Int)) (cndP (I 209 1) T nt (sel3n i j k v)))
theorem sRel_stop {T : Nat → cMat} {nt : Nat} {st : sSt} {I : cm_I} (h : sRel T nt st I) : sStop st ↔ (I 209 42 ≠ 0 ∨ 60 ≤ I 209 49) := by
  obtain ⟨h1, h2, h3⟩ := h
  unfold sStop
  rcases h3 with ⟨e, f⟩ | ⟨i, j, k, e, _, _, _, _, f, _⟩
  · rw [e, f]
    constructor
    · rintro (x | x)
      · exact absurd x (by decide)
      · right; omega
    · rintro (x | x)
      · exact absurd rfl x
      · right; omega
  · rw [e, f]
    exact ⟨fun _ => Or.inl (by decide), fun _ => Or.inl rfl⟩
def sFr (I I1 : cm_I) : Prop := fr [209, 226, 227, 233, 234, 235, 236] I I1 ∧ ∀ s, s ≠ 42 → s ≠ 49 → I1 209 s = I 209 s
theorem sFr_refl (I : cm_I) : sFr I I := ⟨fr_refl _ _, fun _ _ _ => rfl⟩
theorem sFr_trans {I I1 I2 : cm_I} (h : sFr I I1) (h' : sFr I1 I2) : sFr I I2 := ⟨fr_trans h.1 h'.1, fun s a b => by rw [h'.2 s a b, h.2 s a b]⟩
theorem caOk_fr {T : Nat → cMat} {nt : Nat} {I I1 : cm_I} (h : caOk T nt I) (f : sFr I I1) (o6 : okR (I1 226)) (o33 : okR (I1 233) ∧ okR (I1 236)) : caOk T nt I1 := by
  obtain ⟨c1, c2, c3, c4, c5, c6⟩ := h
  have e1 := f.2 1 (by decide) (by decide)
  have e37 := f.2 37 (by decide) (by decide)
  have eE : bsEnd (I1 209 1) I1 = bsEnd (I 209 1) I := by unfold bsEnd; rw [e1, e37, f.1 228 (by decide), f.1 229 (by decide)]
  refine ⟨?_, by rw [e37]; exact c2, o33, by rw [f.2 46 (by decide) (by decide), e1]; exact c4, by rw [e1]; exact c5, by rw [e1, f.1 237 (by decide), f.1 238 (by decide)]; exact c6⟩
  obtain ⟨b1, b2, b3, b4, b5, b6, b7⟩ := c1
  refine ⟨by rw [e37]; exact b1, by rw [e37]; exact b2, o6, by rw [f.1 230 (by decide)]; exact b4, by rw [eE]; exact b5, by rw [eE, e1, e37]; exact b6, fun t t0 t1 => ?_⟩
  rw [e37] at t1
  have := b7 t t0 t1
  rw [eE, e1]
  unfold bsAt at this ⊢
  rw [f.1 228 (by decide), f.1 229 (by decide), f.1 230 (by decide)]
  exact this
section MSR
variable {d : Nat} {z : cm_Z} {I : cm_I} {nt : Nat}
theorem s_asksProduct (hz : mz z) (hD : mD I) (hm : mMon I) {T : Nat → cMat} (hC : caOk T nt I) {st0 : sSt} (hR : sRel T nt st0 I) (p : Int) : mU (d + 5) m_Model_asksProduct [vR 12 209, vI p] z I fun I1 => sFr I I1 ∧ caOk T nt I1 ∧ sRel T nt (K1 (isSys (I 209 1) T nt) (fun e => (cnd (I 209 1) T nt e).1) p (I 209 1) (cndN (I 209 1) T nt) (cndN (I 209 1) T nt) 0 st0) I1 := by
  have hD' : I 209 1 = 2 ∨ I 209 1 = 3 := hD
  obtain ⟨c1, c2, c3, c4, c5, c6⟩ := id hC
  have bdg : ∀ e, e < cndN (I 209 1) T nt → 1 ≤ (cnd (I 209 1) T nt e).1 ∧ (cnd (I 209 1) T nt e).1 ≤ 6 := by
    intro e he
    obtain ⟨a, b, c⟩ := cDR_bd (bsRows (I 209 1) T nt) 6 1 e he
    exact ⟨a, by show (cDR (bsRows (I 209 1) T nt) 6 1 e).1 ≤ 6; omega⟩
  generalize hN : cndN (I 209 1) T nt = N at c4 c5 c6 bdg
  generalize hdg : (fun e => (cnd (I 209 1) T nt e).1) = deg
  have hdg' : ∀ e, (cnd (I 209 1) T nt e).1 = deg e := fun e => by rw [← hdg]
  generalize hsys : isSys (I 209 1) T nt = sys
  generalize hfin : K1 sys deg p (I 209 1) N N 0 st0 = stF
  generalize hX : (fun I1 => sFr I I1 ∧ caOk T nt I1 ∧ sRel T nt stF I1) = X
  -- one that is asked
  have ask : ∀ (i j k : Nat) (st : sSt) (J : cm_I) (R : cm_I → Prop), sFr I J → caOk T nt J → sRel T nt st J → ¬ sStop st → i < N → j < N → (I 209 1 = 3 → k < N) → (∀ J2, sFr I J2 → caOk T nt J2 → sRel T nt (sAsk sys i j k st) J2 → R J2) → mU (d + 4) m_Model_asksThese [vR 12 209, vI (i : Int), vI (j : Int), vI (k : Int)] z J R := by
    intro i j k st J R hf hc hr hs hi hj hk nxt
    have e1 := hf.2 1 (by decide) (by decide)
    have hDJ : mD J := by unfold mD; rw [e1]; exact hD
    have hmJ : mMon J := by
      unfold mMon at hm ⊢
      rw [e1, hf.1 210 (by decide), hf.1 211 (by decide), hf.1 212 (by decide)]
      exact hm
    have st60 : st.1 < 60 := by
      apply Classical.byContradiction
      intro x
      exact hs (Or.inr (by omega))
    have stn : ¬ (st.2.isSome = true ∨ 60 ≤ st.1) := hs
    have hr1 := hr.1
    refine mU_mono (s_asksThese hz hDJ hmJ hc (i := i) (j := j) (k := k) (by rw [e1, hN]; exact hi) (by rw [e1, hN]; exact hj) (by rw [e1, hN]; exact hk) (by omega) (by omega)) fun J2 ⟨f2, s2, n2, o6, o33, alt⟩ => ?_
    rw [e1] at alt
    have hf2 : sFr J J2 := ⟨f2, s2⟩
    have hc2 := caOk_fr hc hf2 o6 o33
    have e12 : J2 209 1 = I 209 1 := by rw [s2 1 (by decide) (by decide), e1]
    refine nxt J2 (sFr_trans hf hf2) hc2 ?_
    rw [hsys] at alt
    unfold sAsk
    rw [if_neg stn]
    refine ⟨by rw [n2, hr1]; omega, by show st.1 + 1 ≤ 60; omega, ?_⟩
    rw [e12]
    rcases alt with ⟨y, y42, yv⟩ | ⟨y, y42⟩
    · right
      refine ⟨i, j, k, ?_, by rw [hsys]; exact y, by rw [hN]; exact hi, by rw [hN]; exact hj, by rw [hN]; exact hk, y42, yv⟩
      show @ite _ (sys i j k) (Classical.propDecidable _) _ _ = _
      rw [if_pos y]
    · left
      refine ⟨?_, y42⟩
      show @ite _ (sys i j k) (Classical.propDecidable _) _ _ = _
      rw [if_neg y]
  have slots : ∀ J : cm_I, sFr I J → J 209 1 = I 209 1 ∧ J 209 46 = (N : Int) ∧ ∀ e : Nat, e < N → J 237 (e : Int) = deg e := fun J hf => ⟨hf.2 1 (by decide) (by decide), by rw [hf.2 46 (by decide) (by decide)]; exact c4, fun e he => by rw [hf.1 237 (by decide), (c6 e he).1, hdg']⟩
  have done : ∀ (st : sSt) (J : cm_I), sFr I J → caOk T nt J → sRel T nt st J → st = stF → qU z X none (J, z) := fun st J hf hc hr e => qU_mk (by rw [← hX, ← e]; exact ⟨hf, hc, hr⟩)
  have k2 : ∀ (n i : Nat) (st : sSt) (J : cm_I) (z3 z4 z5 : Option cm_V), i + n = N → sFr I J → caOk T nt J → sRel T nt st J → K1 sys deg p (I 209 1) N n i st = stF → cw (d + 4) cd_Model_asksProduct (qU z X) 2 [some (vR 12 209), some (vI p), some (vI (i : Int)), z3, z4, z5] [] (J, z) := by
    intro n
    induction n with
    | zero =>
      intro i st J z3 z4 z5 ei hf hc hr hk
      obtain ⟨q1, q2, q3⟩ := slots J hf
      exact mr_asksProduct_2 hz ⟨fun _ => done st J hf hc hr hk, fun x => by rw [q2] at x; omega⟩
    | succ n ih =>
      intro i st J z3 z4 z5 ei hf hc hr hk
      obtain ⟨q1, q2, q3⟩ := slots J hf
      have stp := sRel_stop hr
      have bi := bdg i (by omega)
      rw [hdg'] at bi
      refine mr_asksProduct_2 hz ⟨fun x => by rw [q2] at x; omega, fun _ => ⟨fun x => done st J hf hc hr (by rw [K1_stop (stp.mpr (Or.inl x))] at hk; exact hk), fun x => ⟨fun y => done st J hf hc hr (by rw [K1_stop (stp.mpr (Or.inr y))] at hk; exact hk), fun y => ⟨⟨by omega, by omega⟩, ?_⟩⟩⟩⟩
      rw [K1] at hk
      -- the second one
      have k30 : ∀ (n2 j : Nat) (st : sSt) (J : cm_I) (z4 z5 : Option cm_V), j + n2 = N → i < j → sFr I J → caOk T nt J → sRel T nt st J → K1 sys deg p (I 209 1) N n (i + 1) (K2 sys deg p (I 209 1) N i n2 j st) = stF → cw (d + 4) cd_Model_asksProduct (qU z X) 30 [some (vR 12 209), some (vI p), some (vI (i : Int)), some (vI (j : Int)), z4, z5] [] (J, z) := by
        intro n2
        induction n2 with
        | zero =>
          intro j st J z4 z5 ej hij hf hc hr hk
          obtain ⟨q1, q2, q3⟩ := slots J hf
          refine mr_asksProduct_30 hz ⟨fun _ => ⟨⟨by omega, by omega⟩, ?_⟩, fun x => by rw [q2] at x; omega⟩
          have := ih (i + 1) st J (some (vI (j : Int))) z4 z5 (by omega) hf hc hr hk
          rw [show ((i + 1 : Nat) : Int) = (i : Int) + 1 by omega] at this
          exact this
        | succ n2 ih2 =>
          intro j st J z4 z5 ej hij hf hc hr hk
          obtain ⟨q1, q2, q3⟩ := slots J hf
          have stp := sRel_stop hr
          have bj := bdg j (by omega)
          rw [hdg'] at bj
          have out : sStop st → cw (d + 4) cd_Model_asksProduct (qU z X) 2 [some (vR 12 209), some (vI p), some (vI ((i : Int) + 1)), some (vI (j : Int)), z4, z5] [] (J, z) := fun hs => by
            rw [K2_stop hs] at hk
            have := ih (i + 1) st J (some (vI (j : Int))) z4 z5 (by omega) hf hc hr hk
            rw [show ((i + 1 : Nat) : Int) = (i : Int) + 1 by omega] at this
            exact this
          have bm := mul_bd (x := deg i) (y := deg j) (X := 6) (Y := 6) (by omega) (by omega) (by omega) (by omega)
          refine mr_asksProduct_30 hz ⟨fun x => by rw [q2] at x; omega, fun _ => ⟨fun x => ⟨⟨by omega, by omega⟩, out (stp.mpr (Or.inl x))⟩, fun x42 => ⟨fun x => ⟨⟨by omega, by omega⟩, out (stp.mpr (Or.inr x))⟩, fun x60 => ⟨⟨by omega, by omega⟩, ⟨by omega, by omega⟩, ?_⟩⟩⟩⟩
          rw [q3 i (by omega), q3 j (by omega), q1]
          have nst : ¬ sStop st := fun hs => by
            rcases stp.mp hs with h | h
            · exact h x42
            · omega
          rw [K2] at hk
          -- back to the second one
          have nx : ∀ (st : sSt) (J : cm_I) (z4 z5 : Option cm_V), sFr I J → caOk T nt J → sRel T nt st J → K1 sys deg p (I 209 1) N n (i + 1) (K2 sys deg p (I 209 1) N i n2 (j + 1) st) = stF → cw (d + 4) cd_Model_asksProduct (qU z X) 30 [some (vR 12 209), some (vI p), some (vI (i : Int)), some (vI ((j : Int) + 1)), z4, z5] [] (J, z) := by
            intro st J z4 z5 hf hc hr hk
            have := ih2 (j + 1) st J z4 z5 (by omega) (by omega) hf hc hr hk
            rw [show ((j + 1 : Nat) : Int) = (j : Int) + 1 by omega] at this
            exact this
          have two : I 209 1 = 2 → ∀ (st : sSt) (J : cm_I) (x4 : Int), sFr I J → caOk T nt J → sRel T nt st J → K1 sys deg p (I 209 1) N n (i + 1) (K2 sys deg p (I 209 1) N i n2 (j + 1) st) = stF → cw (d + 4) cd_Model_asksProduct (qU z X) 95 [some (vR 12 209), some (vI p), some (vI (i : Int)), some (vI (j : Int)), some (vI x4), some (vI ((j : Int) + 1))] [] (J, z) := by
            intro e2 st J x4 hf hc hr hk
            obtain ⟨q1, q2, q3⟩ := slots J hf
            exact mr_asksProduct_95 hz ⟨fun _ => ⟨⟨by omega, by omega⟩, nx st J _ _ hf hc hr hk⟩, fun x => by rw [q1] at x; omega⟩
          -- the third one
          have three : I 209 1 = 3 → ∀ (n3 k : Nat) (st : sSt) (J : cm_I), k + n3 = N → j < k → sFr I J → caOk T nt J → sRel T nt st J → K1 sys deg p (I 209 1) N n (i + 1) (K2 sys deg p (I 209 1) N i n2 (j + 1) (K3 sys deg p i j n3 k st)) = stF → cw (d + 4) cd_Model_asksProduct (qU z X) 95 [some (vR 12 209), some (vI p), some (vI (i : Int)), some (vI (j : Int)), some (vI (deg i * deg j)), some (vI (k : Int))] [] (J, z) := by
            intro e3 n3
            induction n3 with
            | zero =>
              intro k st J ek hjk hf hc hr hk
              obtain ⟨q1, q2, q3⟩ := slots J hf
              exact mr_asksProduct_95 hz ⟨fun x => by rw [q1] at x; exact absurd e3 x, fun _ => ⟨fun _ => ⟨⟨by omega, by omega⟩, nx st J _ _ hf hc hr hk⟩, fun x => by rw [q2] at x; omega⟩⟩
            | succ n3 ih3 =>
              intro k st J ek hjk hf hc hr hk
              obtain ⟨q1, q2, q3⟩ := slots J hf
              have stp := sRel_stop hr
              have bk := bdg k (by omega)
              rw [hdg'] at bk
              have bm3 := mul_bd (x := deg i * deg j) (y := deg k) (X := 36) (Y := 6) (by omega) (by omega) (by omega) (by omega)
              have out : sStop st → cw (d + 4) cd_Model_asksProduct (qU z X) 30 [some (vR 12 209), some (vI p), some (vI (i : Int)), some (vI ((j : Int) + 1)), some (vI (deg i * deg j)), some (vI (k : Int))] [] (J, z) := fun hs => nx st J _ _ hf hc hr (by rw [K3_stop hs] at hk; exact hk)
              refine mr_asksProduct_95 hz ⟨fun x => by rw [q1] at x; exact absurd e3 x, fun _ => ⟨fun x => by rw [q2] at x; omega, fun _ => ⟨fun x => ⟨⟨by omega, by omega⟩, out (stp.mpr (Or.inl x))⟩, fun x42 => ⟨fun x => ⟨⟨by omega, by omega⟩, out (stp.mpr (Or.inr x))⟩, fun x60 => ⟨⟨by omega, by omega⟩, ?_⟩⟩⟩⟩⟩
              rw [q3 k (by omega)]
              have nst : ¬ sStop st := fun hs => by
                rcases stp.mp hs with h | h
                · exact h x42
                · omega
              rw [K3] at hk
              have go : ∀ (st : sSt) (J : cm_I), sFr I J → caOk T nt J → sRel T nt st J → K1 sys deg p (I 209 1) N n (i + 1) (K2 sys deg p (I 209 1) N i n2 (j + 1) (K3 sys deg p i j n3 (k + 1) st)) = stF → cw (d + 4) cd_Model_asksProduct (qU z X) 95 [some (vR 12 209), some (vI p), some (vI (i : Int)), some (vI (j : Int)), some (vI (deg i * deg j)), some (vI ((k : Int) + 1))] [] (J, z) := by
                intro st J hf hc hr hk
                have := ih3 (k + 1) st J (by omega) (by omega) hf hc hr hk
                rw [show ((k + 1 : Nat) : Int) = (k : Int) + 1 by omega] at this
                exact this
              refine ⟨⟨by omega, by omega⟩, fun x => ⟨⟨by omega, by omega⟩, go st J hf hc hr (by rw [if_neg x] at hk; exact hk)⟩, fun x => ask i j k st J _ hf hc hr nst (by omega) (by omega) (fun _ => by omega) fun J2 h1 h2 h3 => ⟨⟨by omega, by omega⟩, go _ J2 h1 h2 h3 (by rw [if_pos x] at hk; exact hk)⟩⟩
          refine ⟨⟨by omega, by omega⟩, fun e => ⟨⟨by omega, by omega⟩, ?_⟩, fun e => ⟨fun x => ⟨⟨by omega, by omega⟩, ?_⟩, fun x => ?_⟩⟩
          · rw [if_neg e] at hk
            have := three (by omega) (N - (j + 1)) (j + 1) st J (by omega) (by omega) hf hc hr hk
            rw [show ((j + 1 : Nat) : Int) = (j : Int) + 1 by omega] at this
            exact this
          · rw [if_pos e, if_neg x] at hk
            exact two e st J _ hf hc hr hk
          · rw [if_pos e, if_pos x] at hk
            have a := ask i j 0 st J (fun I9 => cm_i ((j : Int) + 1) ∧ cw (d + 4) cd_Model_asksProduct (qU z X) 95 [some (vR 12 209), some (vI p), some (vI (i : Int)), some (vI (j : Int)), some (vI (deg i * deg j)), some (vI ((j : Int) + 1))] [] (I9, z)) hf hc hr nst (by omega) (by omega) (fun h => by omega) fun J2 h1 h2 h3 => ⟨⟨by omega, by omega⟩, two e _ J2 _ h1 h2 h3 hk⟩
            exact a
      have := k30 (N - (i + 1)) (i + 1) st J z4 z5 (by omega) (by omega) hf hc hr hk
      rw [show ((i + 1 : Nat) : Int) = (i : Int) + 1 by omega] at this
      exact this
  exact mr_asksProduct hz (k2 N 0 st0 I none none none (by omega) (sFr_refl I) hC hR hfin)
end MSR
