/-! ROWS are taken from rows by the reference -/
def mx (F : Int → Int) : Nat → Nat → cF := fun q k => toF (F (160 * (q : Int) + (k : Int)))
theorem g_z3 {R : Type} [Lean.Grind.CommRing R] (x y : R) : x - 0 * y = x := by grind
section MST
variable {d : Nat} {z : cm_Z} {I : cm_I}
theorem s_clearsRow (hz : mz z) {r : Int} (r0 : 0 ≤ r) (r1 : r < 860) (ok : okR (I 226)) : mU (d + 1) m_Model_clearsRow [vR 12 209, vI r] z I fun I1 => fr [226] I I1 ∧ I1 226 = fillF (I 226) (160 * r) 160 0 ∧ okR (I1 226) := by
  have key : ∀ (n : Nat) (k : Int) (I0 : cm_I), 0 ≤ k → k + n = 160 → fr [226] I I0 → I0 226 = fillF (I 226) (160 * r) k 0 → cw d cd_Model_clearsRow (qU z fun I1 => fr [226] I I1 ∧ I1 226 = fillF (I 226) (160 * r) 160 0 ∧ okR (I1 226)) 2 [some (vR 12 209), some (vI r), some (vI k)] [] (I0, z) := by
    intro n
    induction n with
    | zero =>
      intro k I0 k0 ek f0 g0
      refine mr_clearsRow_2 hz ⟨fun _ => qU_mk ⟨f0, ?_, ?_⟩, fun q => by omega⟩
      · rw [g0, show k = 160 by omega]
      · rw [g0]; exact okR_fill ok _ _
    | succ n ih =>
      intro k I0 k0 ek f0 g0
      refine mr_clearsRow_2 hz ⟨fun q => by omega, fun q => ⟨⟨by omega, by omega⟩, ⟨by omega, by omega⟩, ⟨by omega, by omega⟩, fun I4 e4 => ⟨⟨by omega, by omega⟩, ?_⟩⟩⟩
      obtain ⟨f4, g4⟩ := fr_eq_iu e4
      refine ih (k + 1) I4 (by omega) (by omega) (fr_trans f0 f4) ?_
      rw [g4, g0]
      funext j
      unfold fillF
      split <;> split <;> first | rfl | omega | (split <;> first | rfl | omega)
  refine mr_clearsRow hz (key 160 0 I (by omega) rfl (fr_refl _ _) ?_)
  funext j
  unfold fillF
  rw [if_neg (by omega)]
theorem s_steps (hz : mz z) (ok : okR (I 226)) {m cols : Nat} (hm : m ≤ 860) (hc : cols ≤ 160) : mI (d + 2) m_Model_steps [vR 12 209, vI (m : Int), vI (cols : Int)] z I fun r I1 => fr [226, 227] I I1 ∧ okR (I1 226) ∧ (∀ x, ¬ (0 ≤ x ∧ x < 160 * (m : Int)) → I1 226 x = I 226 x) ∧ ∃ (done : Nat) (p : Nat → Nat), r = (done : Int) ∧ gSt m cols done (mx (I1 226)) p ∧ spn m (mx (I 226)) (mx (I1 226)) ∧ ∀ i : Nat, i < done → I1 227 (i : Int) = (p i : Int) := by
  generalize hX : (fun (r : Int) (I1 : cm_I) => fr [226, 227] I I1 ∧ okR (I1 226) ∧ (∀ x, ¬ (0 ≤ x ∧ x < 160 * (m : Int)) → I1 226 x = I 226 x) ∧ ∃ (done : Nat) (p : Nat → Nat), r = (done : Int) ∧ gSt m cols done (mx (I1 226)) p ∧ spn m (mx (I 226)) (mx (I1 226)) ∧ ∀ i : Nat, i < done → I1 227 (i : Int) = (p i : Int)) = X
  have key : ∀ (n c done : Nat) (p : Nat → Nat) (I0 : cm_I) (z5 z6 z7 z8 z9 : Option cm_V), c + n = cols → fr [226, 227] I I0 → okR (I0 226) → (∀ x, ¬ (0 ≤ x ∧ x < 160 * (m : Int)) → I0 226 x = I 226 x) → gSt m c done (mx (I0 226)) p → spn m (mx (I 226)) (mx (I0 226)) → (∀ i : Nat, i < done → I0 227 (i : Int) = (p i : Int)) → cw (d + 1) cd_Model_steps (qI z X) 5 [some (vR 12 209), some (vI (m : Int)), some (vI (cols : Int)), some (vI (done : Int)), some (vI (c : Int)), z5, z6, z7, z8, z9] [] (I0, z) := by
    intro n
    induction n with
    | zero =>
      intro c done p I0 z5 z6 z7 z8 z9 ec f0 o0 out hS hsp hp
      refine mr_steps_5 hz ⟨fun _ => qI_mk ?_, fun q => by omega⟩
      rw [← hX]
      exact ⟨f0, o0, out, done, p, rfl, by rw [← show c = cols by omega]; exact hS, hsp, hp⟩
    | succ n ih =>
      intro c done p I0 z5 z6 z7 z8 z9 ec f0 o0 out hS hsp hp
      obtain ⟨a1, a2, a3, a4, a5, a6, a7, a8⟩ := id hS
      refine mr_steps_5 hz ⟨fun q => by omega, fun _ => ⟨fun q => qI_mk ?_, fun qd => ?_⟩⟩
      · rw [← hX]
        refine ⟨f0, o0, out, done, p, rfl, ⟨a1, by omega, fun i hi => by have := a3 i hi; omega, a4, a5, a6, a7, fun q' k h1 h2 h3 => by omega⟩, hsp, hp⟩
      -- a row with something in column c
      have found : ∀ (r : Nat) (z6 z7 z8 z9 : Option cm_V), done ≤ r → r < m → I0 226 (160 * (r : Int) + (c : Int)) ≠ 0 → cw (d + 1) cd_Model_steps (qI z X) 57 [some (vR 12 209), some (vI (m : Int)), some (vI (cols : Int)), some (vI (done : Int)), some (vI (c : Int)), some (vI (r : Int)), some (vI 0), z7, z8, z9] [] (I0, z) := by
        intro r z6 z7 z8 z9 hr hrm nz0
        have nz : mx (I0 226) r c ≠ 0 := by
          unfold mx
          intro e
          have := (toF_eq_zero (o0 (160 * (r : Int) + (c : Int))).1 (o0 (160 * (r : Int) + (c : Int))).2).mp e
          exact nz0 this
        -- the end of the step
        have fin : ∀ (I4 : cm_I) (z5 z6 z7 z8 z9 : Option cm_V), fr [226] I0 I4 → okR (I4 226) → (∀ x, ¬ (0 ≤ x ∧ x < 160 * (m : Int)) → I4 226 x = I0 226 x) → (∀ q k : Nat, q < m → k < 160 → mx (I4 226) q k = gst1 (mx (I0 226)) r done c q k) → ∀ I2 : cm_I, I2 = iu I4 227 (done : Int) (c : Int) → cw (d + 1) cd_Model_steps (qI z X) 5 [some (vR 12 209), some (vI (m : Int)), some (vI (cols : Int)), some (vI ((done : Int) + 1)), some (vI ((c : Int) + 1)), z5, z6, z7, z8, z9] [] (I2, z) := by
          intro I4 z5 z6 z7 z8 z9 f4 o4 out4 hmx I2 e2
          obtain ⟨f2, g2⟩ := fr_eq_iu e2
          have e26 : I2 226 = I4 226 := f2 226 (by decide)
          have := ih (c + 1) (done + 1) (fun i => if i = done then c else p i) I2 z5 z6 z7 z8 z9 (by omega) (fr_trans f0 (fr_trans (fr_mono f4 (by decide)) (fr_mono f2 (by decide)))) (by rw [e26]; exact o4) (fun x hx => by rw [e26, out4 x hx, out x hx]) (by rw [e26]; exact gSt_congr (gSt_step hS hr hrm nz) (by omega) hmx fun _ _ => rfl) (by rw [e26]; exact spn_trans hsp (spn_trans (spn_gst hrm (by omega) nz) (spn_congr hmx))) (fun i hi => ?_)
          · rw [show ((done + 1 : Nat) : Int) = (done : Int) + 1 by omega, show ((c + 1 : Nat) : Int) = (c : Int) + 1 by omega] at this
            exact this
          · rw [g2]
            show (if (i : Int) = (done : Int) then _ else _) = _
            by_cases e : i = done
            · rw [if_pos (by omega)]
              show (c : Int) = ((if i = done then c else p i : Nat) : Int)
              rw [if_pos e]
            · rw [if_neg (by omega), f4 227 (by decide), hp i (by omega)]
              show (p i : Int) = ((if i = done then c else p i : Nat) : Int)
              rw [if_neg e]
        -- all other rows lose column c
        have k201 : ∀ (n2 q : Nat) (I4 : cm_I) (z5 z6 z8 z9 : Option cm_V), q + n2 = m → fr [226] I0 I4 → okR (I4 226) → (∀ x, ¬ (0 ≤ x ∧ x < 160 * (m : Int)) → I4 226 x = I0 226 x) → (∀ q' k : Nat, q' < m → k < 160 → mx (I4 226) q' k = if q' < q then gst1 (mx (I0 226)) r done c q' k else gsc (mx (I0 226)) r done c q' k) → cw (d + 1) cd_Model_steps (qI z X) 201 [some (vR 12 209), some (vI (m : Int)), some (vI (cols : Int)), some (vI (done : Int)), some (vI (c : Int)), z5, z6, some (vI (q : Int)), z8, z9] [] (I4, z) := by
          intro n2
          induction n2 with
          | zero =>
            intro q I4 z5 z6 z8 z9 eq f4 o4 out4 hmx
            refine mr_steps_201 hz ⟨fun _ => ⟨⟨by omega, by omega⟩, fun I2 e2 => ⟨⟨by omega, by omega⟩, ⟨by omega, by omega⟩, fin I4 _ _ _ _ _ f4 o4 out4 (fun q' k h1 h2 => by rw [hmx q' k h1 h2, if_pos (by omega)]) I2 e2⟩⟩, fun x => by omega⟩
          | succ n2 ih2 =>
            intro q I4 z5 z6 z8 z9 eq f4 o4 out4 hmx
            have hd : ∀ k, k < 160 → mx (I4 226) done k = gsc (mx (I0 226)) r done c done k := by
              intro k hk
              rw [hmx done k (by omega) hk]
              split
              · unfold gst1
                rw [if_pos rfl]
              · rfl
            have nxt : ∀ (I5 : cm_I) (z8 z9 : Option cm_V), fr [226] I0 I5 → okR (I5 226) → (∀ x, ¬ (0 ≤ x ∧ x < 160 * (m : Int)) → I5 226 x = I0 226 x) → (∀ q' k : Nat, q' < m → k < 160 → mx (I5 226) q' k = if q' < q + 1 then gst1 (mx (I0 226)) r done c q' k else gsc (mx (I0 226)) r done c q' k) → cw (d + 1) cd_Model_steps (qI z X) 201 [some (vR 12 209), some (vI (m : Int)), some (vI (cols : Int)), some (vI (done : Int)), some (vI (c : Int)), z5, z6, some (vI ((q : Int) + 1)), z8, z9] [] (I5, z) := by
              intro I5 z8 z9 f5 o5 out5 hmx5
              have := ih2 (q + 1) I5 z5 z6 z8 z9 (by omega) f5 o5 out5 hmx5
              rw [show ((q + 1 : Nat) : Int) = (q : Int) + 1 by omega] at this
              exact this
            have split1 : ∀ (q' k : Nat), q' < m → k < 160 → (q' = q → gsc (mx (I0 226)) r done c q' k = gst1 (mx (I0 226)) r done c q' k) → (if q' < q then gst1 (mx (I0 226)) r done c q' k else gsc (mx (I0 226)) r done c q' k) = if q' < q + 1 then gst1 (mx (I0 226)) r done c q' k else gsc (mx (I0 226)) r done c q' k := by
              intro q' k _ _ h
              by_cases c1 : q' < q
              · rw [if_pos c1, if_pos (by omega)]
              · rw [if_neg c1]
                by_cases c2 : q' = q
                · rw [if_pos (by omega)]; exact h c2
                · rw [if_neg (by omega)]
            have fq : toF (I4 226 (160 * (q : Int) + (c : Int))) = gsc (mx (I0 226)) r done c q c := by
              have := hmx q c (by omega) (by omega)
              rw [if_neg (by omega)] at this
              exact this
            refine mr_steps_201 hz ⟨fun x => by omega, fun _ => ⟨⟨by omega, by omega⟩, ⟨by omega, by omega⟩, ⟨by omega, by omega⟩, fun x => ⟨⟨by omega, by omega⟩, nxt I4 _ _ f4 o4 out4 fun q' k h1 h2 => ?_⟩, fun x => ⟨fun y => ⟨⟨by omega, by omega⟩, nxt I4 _ _ f4 o4 out4 fun q' k h1 h2 => ?_⟩, fun y => ?_⟩⟩⟩
            · rw [hmx q' k h1 h2]
              refine split1 q' k h1 h2 fun e => ?_
              unfold gst1
              rw [e, if_pos (by omega), show q = done by omega]
            · rw [hmx q' k h1 h2]
              refine split1 q' k h1 h2 fun e => ?_
              unfold gst1
              rw [e, if_neg (by omega), ← fq, y, toF_zero, g_z3]
            · generalize hf : I4 226 (160 * (q : Int) + (c : Int)) = f at y fq
              have of : 0 ≤ f ∧ f < 2521 := by rw [← hf]; exact o4 _
              have k238 : ∀ (n3 k : Nat) (I5 : cm_I), k + n3 = 160 → c ≤ k → fr [226] I4 I5 → okR (I5 226) → (∀ x, ¬ (0 ≤ x ∧ x < 160 * (m : Int)) → I5 226 x = I4 226 x) → (∀ q' j : Nat, q' < m → j < 160 → mx (I5 226) q' j = if q' = q ∧ c ≤ j ∧ j < k then gst1 (mx (I0 226)) r done c q j else mx (I4 226) q' j) → cw (d + 1) cd_Model_steps (qI z X) 238 [some (vR 12 209), some (vI (m : Int)), some (vI (cols : Int)), some (vI (done : Int)), some (vI (c : Int)), z5, z6, some (vI (q : Int)), some (vI f), some (vI (k : Int))] [] (I5, z) := by
                intro n3
                induction n3 with
                | zero =>
                  intro k I5 ek hck f5 o5 out5 hmx5
                  refine mr_steps_238 hz ⟨fun _ => ⟨⟨by omega, by omega⟩, nxt I5 _ _ (fr_trans f4 f5) o5 (fun x hx => by rw [out5 x hx, out4 x hx]) fun q' j h1 h2 => ?_⟩, fun x => by omega⟩
                  rw [hmx5 q' j h1 h2]
                  by_cases e : q' = q
                  · rw [if_pos (show q' < q + 1 by omega), e]
                    by_cases cj : c ≤ j
                    · rw [if_pos ⟨rfl, cj, by omega⟩]
                    · rw [if_neg (fun x => cj x.2.1), hmx q j (by omega) h2, if_neg (by omega)]
                      unfold gst1
                      rw [if_neg (by omega)]
                      have z0 : gsc (mx (I0 226)) r done c done j = 0 := by
                        unfold gsc
                        rw [if_pos rfl, a8 r j hr hrm (by omega), gs_z1]
                      rw [z0, g_z1]
                  · rw [if_neg (fun x => e x.1), hmx q' j h1 h2]
                    exact split1 q' j h1 h2 fun x => absurd x e
                | succ n3 ih3 =>
                  intro k I5 ek hck f5 o5 out5 hmx5
                  have od := o5 (160 * (done : Int) + (k : Int))
                  have oq := o5 (160 * (q : Int) + (k : Int))
                  have bm := mul_bd (x := f) (y := I5 226 (160 * (done : Int) + (k : Int))) (X := 2520) (Y := 2520) of.1 (by omega) od.1 (by omega)
                  refine mr_steps_238 hz ⟨fun x => by omega, fun _ => ⟨⟨by omega, by omega⟩, ⟨by omega, by omega⟩, ⟨by omega, by omega⟩, ⟨by omega, by omega⟩, ⟨by omega, by omega⟩, ⟨by omega, by omega⟩, ⟨by omega, by omega⟩, ⟨by omega, by omega⟩, mI_mono (s_of hz _) fun v11 I10 ⟨e10, ev⟩ I12 e12 => ⟨⟨by omega, by omega⟩, ?_⟩⟩⟩
                  rw [e10] at e12
                  obtain ⟨f12, g12⟩ := fr_eq_iu e12
                  have := ih3 (k + 1) I12 (by omega) (by omega) (fr_trans f5 f12) (by rw [g12]; exact okR_st o5 (by omega) (by omega)) (fun x hx => ?_) (fun q' j h1 h2 => ?_)
                  · rw [show ((k + 1 : Nat) : Int) = (k : Int) + 1 by omega] at this
                    exact this
                  · rw [g12]
                    show (if x = _ then _ else _) = _
                    rw [if_neg (by omega)]
                    exact out5 x hx
                  · show toF (I12 226 (160 * (q' : Int) + (j : Int))) = _
                    rw [g12]
                    show toF (if 160 * (q' : Int) + (j : Int) = _ then _ else _) = _
                    by_cases e : q' = q ∧ j = k
                    · rw [if_pos (by omega), if_pos ⟨e.1, by omega, by omega⟩, ev, toF_mod, toF_sub, toF_mul, fq]
                      have e1 : toF (I5 226 (160 * (q : Int) + (k : Int))) = gsc (mx (I0 226)) r done c q k := by
                        have := hmx5 q k (by omega) (by omega)
                        rw [if_neg (by omega), hmx q k (by omega) (by omega), if_neg (by omega)] at this
                        exact this
                      have e2 : toF (I5 226 (160 * (done : Int) + (k : Int))) = gsc (mx (I0 226)) r done c done k := by
                        have := hmx5 done k (by omega) (by omega)
                        rw [if_neg (by omega), hd k (by omega)] at this
                        exact this
                      rw [e1, e2, e.2]
                      unfold gst1
                      rw [if_neg (by omega)]
                    · rw [if_neg (by omega)]
                      have := hmx5 q' j h1 h2
                      unfold mx at this
                      rw [this]
                      by_cases x : q' = q ∧ c ≤ j ∧ j < k
                      · rw [if_pos x, if_pos ⟨x.1, x.2.1, by omega⟩]
                        rfl
                      · rw [if_neg x, if_neg (fun y => x ⟨y.1, y.2.1, by omega⟩)]
                        rfl
              exact k238 (160 - c) c I4 (by omega) (Nat.le_refl _) (fr_refl _ _) o4 (fun _ _ => rfl) fun q' j h1 h2 => by rw [if_neg (by omega)]
        -- the row is scaled
        have k151 : ∀ (by_ : Int) (n2 k : Nat) (I4 : cm_I) (z5 z8 z9 : Option cm_V), by_ = fi (fInv (mx (I0 226) r c)) → k + n2 = 160 → c ≤ k → fr [226] I0 I4 → okR (I4 226) → (∀ x, ¬ (0 ≤ x ∧ x < 160 * (m : Int)) → I4 226 x = I0 226 x) → (∀ q' j : Nat, q' < m → j < 160 → mx (I4 226) q' j = if q' = done ∧ k ≤ j then mx (I0 226) (swp r done q') j else gsc (mx (I0 226)) r done c q' j) → cw (d + 1) cd_Model_steps (qI z X) 151 [some (vR 12 209), some (vI (m : Int)), some (vI (cols : Int)), some (vI (done : Int)), some (vI (c : Int)), z5, some (vI by_), some (vI (k : Int)), z8, z9] [] (I4, z) := by
          intro by_ n2
          induction n2 with
          | zero =>
            intro k I4 z5 z8 z9 hby ek hck f4 o4 out4 hmx
            refine mr_steps_151 hz ⟨fun _ => k201 m 0 I4 _ _ _ _ (by omega) f4 o4 out4 fun q' j h1 h2 => ?_, fun x => by omega⟩
            rw [hmx q' j h1 h2, if_neg (by omega), if_neg (by omega)]
          | succ n2 ih2 =>
            intro k I4 z5 z8 z9 hby ek hck f4 o4 out4 hmx
            have ob := fi_bd (fInv (mx (I0 226) r c))
            have ox := o4 (160 * (done : Int) + (k : Int))
            have bm := mul_bd (x := I4 226 (160 * (done : Int) + (k : Int))) (y := by_) (X := 2520) (Y := 2520) ox.1 (by omega) (by omega) (by omega)
            refine mr_steps_151 hz ⟨fun x => by omega, fun _ => ⟨⟨by omega, by omega⟩, ⟨by omega, by omega⟩, ⟨by omega, by omega⟩, ⟨by omega, by omega⟩, fun I5 e5 => ⟨⟨by omega, by omega⟩, ?_⟩⟩⟩
            obtain ⟨f5, g5⟩ := fr_eq_iu e5
            rw [tmod_pos (by omega)] at g5
            have := ih2 (k + 1) I5 z5 z8 z9 hby (by omega) (by omega) (fr_trans f4 f5) (by rw [g5]; exact okR_st o4 (by omega) (by omega)) (fun x hx => ?_) (fun q' j h1 h2 => ?_)
            · rw [show ((k + 1 : Nat) : Int) = (k : Int) + 1 by omega] at this
              exact this
            · rw [g5]
              show (if x = _ then _ else _) = _
              rw [if_neg (by omega)]
              exact out4 x hx
            · show toF (I5 226 (160 * (q' : Int) + (j : Int))) = _
              rw [g5]
              show toF (if 160 * (q' : Int) + (j : Int) = _ then _ else _) = _
              by_cases e : q' = done ∧ j = k
              · rw [if_pos (by omega), if_neg (by omega), toF_mod, toF_mul, hby, toF_fi]
                have e1 : toF (I4 226 (160 * (done : Int) + (k : Int))) = mx (I0 226) r k := by
                  have := hmx done k (by omega) (by omega)
                  rw [if_pos ⟨rfl, Nat.le_refl _⟩, swp_s] at this
                  exact this
                rw [e1, e.1, e.2]
                unfold gsc
                rw [if_pos rfl]
              · rw [if_neg (by omega)]
                have := hmx q' j h1 h2
                unfold mx at this
                rw [this]
                by_cases x : q' = done ∧ k ≤ j
                · rw [if_pos x, if_pos ⟨x.1, by omega⟩]
                  rfl
                · rw [if_neg x, if_neg (fun y => x ⟨y.1, by omega⟩)]
                  rfl
        -- rows change places
        have k57 : ∀ (n2 k : Nat) (I4 : cm_I) (z7 z8 z9 : Option cm_V), k + n2 = 160 → fr [226] I0 I4 → okR (I4 226) → (∀ x, ¬ (0 ≤ x ∧ x < 160 * (m : Int)) → I4 226 x = I0 226 x) → (∀ q' j : Nat, q' < m → j < 160 → I4 226 (160 * (q' : Int) + (j : Int)) = if j < k then I0 226 (160 * ((swp r done q' : Nat) : Int) + (j : Int)) else I0 226 (160 * (q' : Int) + (j : Int))) → cw (d + 1) cd_Model_steps (qI z X) 57 [some (vR 12 209), some (vI (m : Int)), some (vI (cols : Int)), some (vI (done : Int)), some (vI (c : Int)), some (vI (r : Int)), some (vI (k : Int)), z7, z8, z9] [] (I4, z) := by
          intro n2
          induction n2 with
          | zero =>
            intro k I4 z7 z8 z9 ek f4 o4 out4 hr4
            refine mr_steps_57 hz ⟨fun _ => ⟨⟨by omega, by omega⟩, ⟨by omega, by omega⟩, ⟨by omega, by omega⟩, ?_⟩, fun x => by omega⟩
            have od := o4 (160 * (done : Int) + (c : Int))
            refine mI_mono (s_inverse hz od.1 od.2) fun v5 I5 ⟨e5, ev5⟩ => ?_
            rw [e5]
            have e1 : I4 226 (160 * (done : Int) + (c : Int)) = I0 226 (160 * (r : Int) + (c : Int)) := by
              rw [hr4 done c (by omega) (by omega), if_pos (by omega), swp_s]
            rw [e1] at ev5
            refine k151 v5 (160 - c) c I4 _ _ _ ev5 (by omega) (Nat.le_refl _) f4 o4 out4 fun q' j h1 h2 => ?_
            have e2 : mx (I4 226) q' j = mx (I0 226) (swp r done q') j := by
              unfold mx
              rw [hr4 q' j h1 h2, if_pos (by omega)]
            rw [e2]
            by_cases x : q' = done ∧ c ≤ j
            · rw [if_pos x]
            · rw [if_neg x]
              unfold gsc
              by_cases y : q' = done
              · rw [if_pos y, y, swp_s, a8 r j hr hrm (by omega), gs_z1]
              · rw [if_neg y]
          | succ n2 ih2 =>
            intro k I4 z7 z8 z9 ek f4 o4 out4 hr4
            refine mr_steps_57 hz ⟨fun x => by omega, fun _ => ⟨⟨by omega, by omega⟩, ⟨by omega, by omega⟩, ⟨by omega, by omega⟩, ⟨by omega, by omega⟩, ⟨by omega, by omega⟩, ⟨by omega, by omega⟩, fun I12 e12 I13 e13 => ⟨⟨by omega, by omega⟩, ?_⟩⟩⟩
            obtain ⟨f12, g12⟩ := fr_eq_iu e12
            obtain ⟨f13, g13⟩ := fr_eq_iu e13
            have o12 : okR (I12 226) := by rw [g12]; exact okR_st o4 (o4 _).1 (o4 _).2
            have := ih2 (k + 1) I13 (some (vI (I4 226 (160 * (r : Int) + (k : Int))))) z8 z9 (by omega) (fr_trans f4 (fr_trans f12 f13)) (by rw [g13]; exact okR_st o12 (o4 _).1 (o4 _).2) (fun x hx => ?_) (fun q' j h1 h2 => ?_)
            · rw [show ((k + 1 : Nat) : Int) = (k : Int) + 1 by omega] at this
              exact this
            · rw [g13, g12]
              show (if x = _ then _ else if x = _ then _ else _) = _
              rw [if_neg (by omega), if_neg (by omega)]
              exact out4 x hx
            · rw [g13, g12]
              show (if 160 * (q' : Int) + (j : Int) = _ then _ else if 160 * (q' : Int) + (j : Int) = _ then _ else _) = _
              by_cases e1 : q' = done ∧ j = k
              · rw [if_pos (by omega), hr4 r k hrm (by omega), if_neg (by omega), if_pos (by omega), e1.1, swp_s, e1.2]
              · rw [if_neg (by omega)]
                by_cases e2 : q' = r ∧ j = k
                · rw [if_pos (by omega), hr4 done k (by omega) (by omega), if_neg (by omega), if_pos (by omega), e2.1, e2.2]
                  unfold swp
                  rw [if_pos rfl]
                · rw [if_neg (by omega), hr4 q' j h1 h2]
                  by_cases ek : j = k
                  · rw [if_neg (by omega), if_pos (by omega)]
                    unfold swp
                    rw [if_neg (by omega), if_neg (by omega)]
                  · by_cases x : j < k
                    · rw [if_pos x, if_pos (by omega)]
                    · rw [if_neg x, if_neg (by omega)]
        exact k57 160 0 I0 _ _ _ (by omega) (fr_refl _ _) o0 (fun _ _ => rfl) fun q' j h1 h2 => by rw [if_neg (by omega)]
      -- going down
      have k19 : ∀ (n2 r : Nat) (z6 z7 z8 z9 : Option cm_V), r + n2 = m → done ≤ r → (∀ q : Nat, done ≤ q → q < r → I0 226 (160 * (q : Int) + (c : Int)) = 0) → cw (d + 1) cd_Model_steps (qI z X) 19 [some (vR 12 209), some (vI (m : Int)), some (vI (cols : Int)), some (vI (done : Int)), some (vI (c : Int)), some (vI (r : Int)), z6, z7, z8, z9] [] (I0, z) := by
        intro n2
        induction n2 with
        | zero =>
          intro r z6 z7 z8 z9 er hr hzr
          refine mr_steps_19 hz ⟨fun _ => mr_steps_48 hz ⟨fun _ => ⟨⟨by omega, by omega⟩, ?_⟩, fun x => by omega⟩, fun x => by omega⟩
          have := ih (c + 1) done p I0 (some (vI (r : Int))) z6 z7 z8 z9 (by omega) f0 o0 out (gSt_skip hS fun q h1 h2 => by unfold mx; rw [hzr q h1 (by omega)]; rfl) hsp hp
          rw [show ((c + 1 : Nat) : Int) = (c : Int) + 1 by omega] at this
          exact this
        | succ n2 ih2 =>
          intro r z6 z7 z8 z9 er hr hzr
          refine mr_steps_19 hz ⟨fun x => by omega, fun _ => ⟨⟨by omega, by omega⟩, ⟨by omega, by omega⟩, ⟨by omega, by omega⟩, fun y => mr_steps_48 hz ⟨fun x => by omega, fun _ => found r none _ _ _ hr (by omega) y⟩, fun y => ⟨⟨by omega, by omega⟩, ?_⟩⟩⟩
          have := ih2 (r + 1) z6 z7 z8 z9 (by omega) (by omega) fun q h1 h2 => by
            by_cases e : q = r
            · rw [e]; exact y
            · exact hzr q h1 (by omega)
          rw [show ((r + 1 : Nat) : Int) = (r : Int) + 1 by omega] at this
          exact this
      exact k19 (m - done) done _ _ _ _ (by omega) (Nat.le_refl _) fun q h1 h2 => by omega
  refine mr_steps hz (key cols 0 0 (fun _ => 0) I _ _ _ _ _ (by omega) (fr_refl _ _) ok (fun _ _ => rfl) ⟨by omega, by omega, fun i hi => by omega, fun i j h1 h2 => by omega, fun i hi => by omega, fun q i h1 h2 => by omega, fun i k hi => by omega, fun q k h1 h2 h3 => by omega⟩ (spn_refl _ _) fun i hi => by omega)
end MST
