/-! THE REFERENCE rewrites: degree by degree -/
section SD
variable {d : Nat} {z : cm_Z} {D : Int} {T : Nat → cMat} {nt n : Nat} {L : Nat → cMat} {v : Nat → Int → Int} {dg : Nat → Int} {I : cm_I}
theorem rwAll_len (S : sx_S D T nt n L v dg) (q : tup4 → cF) : ∀ t : Nat, t ≤ 16 → ((rwAll D dg (seAll D T nt v dg 16) q t).length : Int) ≤ mFrom D t := by
  have hD := S.1
  have ok := seAll_ok (D := D) (T := T) (nt := nt) (v := v) (dg := dg) 16 (Nat.le_refl _)
  have hE := sx_hE S (Nat.le_refl 16) ok.1 ok.2
  intro t
  induction t with
  | zero =>
    intro _
    have : mFrom D ((0 : Nat) : Int) = 0 := by rcases hD with e | e <;> rw [e] <;> decide
    rw [this]
    exact Int.le_refl 0
  | succ t ih =>
    intro ht
    have h1 := ih (by omega)
    have fb := from_bds hD (t := (t : Int)) (by omega) (by omega)
    have xl := sx_len S ok.1.1 hE (t := t) (by omega)
    have rl := rwL_len q (sx_X D dg (seAll D T nt v dg 16) t)
    show ((rwAll D dg (seAll D T nt v dg 16) q t ++ rwL q (sx_X D dg (seAll D T nt v dg 16) t)).length : Int) ≤ mFrom D ((t : Int) + 1)
    rw [List.length_append]
    omega
/-- nothing of a degree: nothing to find -/
theorem rw_none (S : sx_S D T nt n L v dg) {f : Int → Int} {q : tup4 → cF} (hq : rwK D T nt v dg (seAll D T nt v dg 16) f q) {t : Nat} (t1 : t ≤ 15) (h : ∀ k : Nat, k < (mMany D t).toNat → f (mFrom D t + k) = 0) : rwL q (sx_X D dg (seAll D T nt v dg 16) t) = [] := by
  have ok := seAll_ok (D := D) (T := T) (nt := nt) (v := v) (dg := dg) 16 (Nat.le_refl _)
  have hE := sx_hE S (Nat.le_refl 16) ok.1 ok.2
  refine rwL_nil fun x hx => ?_
  obtain ⟨i, hi, ei⟩ := sx_at4_ex hx
  have := sx_ind S ok.1.1 hE t1 (fun i => q (sx_at4 (sx_X D dg (seAll D T nt v dg 16) t) i)) (fun k hk => by rw [← hq.1 t t1 k hk, h k hk]; rfl) i hi
  rw [ei] at this
  exact this
theorem s_solves (hz : mz z) (S : sx_S D T nt n L v dg) (hR : rwSt D T nt v dg I) {a : Nat} (ha : mA a) (a4 : a ≠ 214) (a6 : a ≠ 216) (a26 : a ≠ 226) (a27 : a ≠ 227) (a41 : a ≠ 241) (a42 : a ≠ 242) (a43 : a ≠ 243) (a44 : a ≠ 244) (a46 : a ≠ 246) (a47 : a ≠ 247) (a9 : a ≠ 209) (oka : okR (I a)) {x : Int} (x0 : 0 ≤ x) (x1 : x + 1140 ≤ mLen a) (x2 : x ≤ 1000000) {f : Int → Int} (hf : isRow (I a) x f) (vf : vOk D f) {q : tup4 → cF} (hq : rwK D T nt v dg (seAll D T nt v dg 16) f q) : mU (d + 8) m_Model_solves [vR 12 209, vR 20 a, vI x] z I fun I1 => rwFr I I1 ∧ (okR (I1 214) ∧ okR (I1 216)) ∧ okR (I1 226) ∧ fdSt 246 (rwAll D dg (seAll D T nt v dg 16) q 16) I1 ∧ I1 209 60 = ((rwAll D dg (seAll D T nt v dg 16) q 16).length : Int) := by
  have hD := S.1
  have eD := hR.1
  have hD0 : mD I := by unfold mD; rw [eD]; exact hD
  refine mr_solves hz fun I1 e1 => ?_
  obtain ⟨f1, g1⟩ := fr_eq_iu e1
  have w1 : rwFr I I1 := ⟨fr_mono f1 (by decide), fun s _ b => by rw [g1]; exact if_neg b⟩
  have hR1 := rwSt_fr hR w1 (by rw [f1 214 (by decide), f1 216 (by decide)]; exact hR.2.2.1) (by rw [f1 226 (by decide)]; exact hR.2.2.2.1)
  have a1 : I1 a = I a := f1 a (by simp [a9])
  have h60 : I1 209 60 = 0 := by rw [g1]; exact if_pos rfl
  refine mI_mono (s_degree (d := d + 5) hz (by unfold mD; rw [hR1.1]; exact hD) hR1.2.1 ha x0 x1 x2) fun most I2 ⟨e2, em⟩ => ?_
  subst e2
  rw [a1, hR1.1, isRow_deg hf] at em
  have db := mDeg_bd hD f 0
  have d15 := vf.2.2
  have zero : ∀ t : Nat, t ≤ 15 → mDeg D f 0 < t → ∀ k : Nat, k < (mMany D t).toNat → f (mFrom D t + k) = 0 := by
    intro t t1 lt k hk
    have fb := from_bds hD (t := (t : Int)) (by omega) (by omega)
    obtain ⟨d0, d1, d2⟩ := sv_dg hD (t := (t : Int)) (by omega) (by omega) (K := mFrom D t + k) (by omega) (by omega)
    have := mDeg_z hD (f := f) (x := 0) d1 d2 (by omega)
    rw [Int.zero_add] at this
    exact this
  have tail : ∀ (k t : Nat), t + k = 16 → mDeg D f 0 < t → rwAll D dg (seAll D T nt v dg 16) q 16 = rwAll D dg (seAll D T nt v dg 16) q t := by
    intro k
    induction k with
    | zero => intro t e _; rw [show t = 16 by omega]
    | succ k ih =>
      intro t e lt
      rw [ih (t + 1) (by omega) (by omega)]
      show rwAll D dg (seAll D T nt v dg 16) q t ++ rwL q (sx_X D dg (seAll D T nt v dg 16) t) = _
      rw [rw_none S hq (by omega) (zero t (by omega) lt), List.append_nil]
  have key : ∀ (c t : Nat) (J : cm_I) (z5 z6 : Option cm_V), t + c = (most + 1).toNat → rwFr I J → (okR (J 214) ∧ okR (J 216)) → okR (J 226) → fdSt 246 (rwAll D dg (seAll D T nt v dg 16) q t) J → J 209 60 = ((rwAll D dg (seAll D T nt v dg 16) q t).length : Int) → cw (d + 7) cd_Model_solves (qU z fun I1 => rwFr I I1 ∧ (okR (I1 214) ∧ okR (I1 216)) ∧ okR (I1 226) ∧ fdSt 246 (rwAll D dg (seAll D T nt v dg 16) q 16) I1 ∧ I1 209 60 = ((rwAll D dg (seAll D T nt v dg 16) q 16).length : Int)) 15 [some (vR 12 209), some (vR 20 a), some (vI x), some (vI most), some (vI (t : Int)), z5, z6] [] (J, z) := by
    intro c
    induction c with
    | zero =>
      intro t J z5 z6 e w o4 o6 hF h6
      refine mr_solves_15 hz ⟨fun _ => qU_mk ⟨w, o4, o6, ?_, ?_⟩, fun r => by omega⟩
      · rw [tail (16 - t) t (by omega) (by omega)]; exact hF
      · rw [tail (16 - t) t (by omega) (by omega)]; exact h6
    | succ c ih =>
      intro t J z5 z6 e w o4 o6 hF h6
      have t15 : t ≤ 15 := by omega
      have fb := from_bds hD (t := (t : Int)) (by omega) (by omega)
      have hRJ := rwSt_fr hR w o4 o6
      have aJ : J a = I a := w.1 a (by simp [a9, a4, a6, a26, a27, a41, a42, a43, a44, a46, a47])
      have al := rwAll_len S q t (by omega)
      have go : ∀ (k5 k6 : Int), cw (d + 7) cd_Model_solves (qU z fun I1 => rwFr I I1 ∧ (okR (I1 214) ∧ okR (I1 216)) ∧ okR (I1 226) ∧ fdSt 246 (rwAll D dg (seAll D T nt v dg 16) q 16) I1 ∧ I1 209 60 = ((rwAll D dg (seAll D T nt v dg 16) q 16).length : Int)) 15 [some (vR 12 209), some (vR 20 a), some (vI x), some (vI most), some (vI ((t : Int) + 1)), some (vI k5), some (vI k6)] [] (J, z) ∨ ¬ rwL q (sx_X D dg (seAll D T nt v dg 16) t) = [] := by
        intro k5 k6
        by_cases em : rwL q (sx_X D dg (seAll D T nt v dg 16) t) = []
        · left
          have er : rwAll D dg (seAll D T nt v dg 16) q (t + 1) = rwAll D dg (seAll D T nt v dg 16) q t := by
            show rwAll D dg (seAll D T nt v dg 16) q t ++ rwL q (sx_X D dg (seAll D T nt v dg 16) t) = _
            rw [em, List.append_nil]
          exact ih (t + 1) J _ _ (by omega) w o4 o6 (by rw [er]; exact hF) (by rw [er]; exact h6)
        · exact Or.inr em
      refine mr_solves_15 hz ⟨fun r => by omega, fun _ => mI_mono (s_from (d := d + 6) hz (by omega) (by omega)) fun v2 J1 ⟨e3, e4⟩ => ?_⟩
      subst e3
      rw [hRJ.1] at e4
      subst e4
      have scan : ∀ (u k : Nat) (s5 : Int), k + u = (mMany D t).toNat → (s5 = 0 ∧ (∀ k' : Nat, k' < k → f (mFrom D t + k') = 0) ∨ s5 = 1) → cw (d + 7) cd_Model_solves (qU z fun I1 => rwFr I I1 ∧ (okR (I1 214) ∧ okR (I1 216)) ∧ okR (I1 226) ∧ fdSt 246 (rwAll D dg (seAll D T nt v dg 16) q 16) I1 ∧ I1 209 60 = ((rwAll D dg (seAll D T nt v dg 16) q 16).length : Int)) 32 [some (vR 12 209), some (vR 20 a), some (vI x), some (vI most), some (vI (t : Int)), some (vI s5), some (vI (mFrom D t + k))] [] (J1, z) := by
        intro u
        induction u with
        | zero =>
          intro k s5 eu hs
          refine mr_solves_32 hz ha ⟨⟨by omega, by omega⟩, mI_mono (s_from (d := d + 6) hz (by omega) (by omega)) fun v3 J3 ⟨e5, e6⟩ => ?_⟩
          subst e5
          rw [hRJ.1] at e6
          subst e6
          refine ⟨fun _ => ⟨fun s0 => ?_, fun s1 => ?_⟩, fun r => by omega⟩
          · rcases hs with ⟨-, hs⟩ | hs
            · rcases go s5 (mFrom D t + k) with g | g
              · exact g
              · exact absurd (rw_none S hq t15 fun k' hk' => hs k' (by omega)) g
            · omega
          · have sd := s_solvesDegree (d := d) hz S hRJ ha a4 a6 a26 a27 a41 a42 a43 a44 a47 a9 (by rw [aJ]; exact oka) x0 x1 x2 (f := f) (by rw [aJ]; exact hf) hq t15 (F := rwAll D dg (seAll D T nt v dg 16) q t) (by omega) hF h6
            refine mU_mono sd fun J4 h4 => ?_
            obtain ⟨w4, o44, o46, hF4, h64⟩ := h4
            exact ih (t + 1) J4 _ _ (by omega) (rwFr_trans w w4) o44 o46 hF4 h64
        | succ u ihu =>
          intro k s5 eu hs
          refine mr_solves_32 hz ha ⟨⟨by omega, by omega⟩, mI_mono (s_from (d := d + 6) hz (by omega) (by omega)) fun v3 J3 ⟨e5, e6⟩ => ?_⟩
          subst e5
          rw [hRJ.1] at e6
          subst e6
          have nx : ∀ s6 : Int, (s6 = 0 ∧ (∀ k' : Nat, k' < k + 1 → f (mFrom D t + k') = 0) ∨ s6 = 1) → cm_i (mFrom D t + k + 1) ∧ cw (d + 7) cd_Model_solves (qU z fun I1 => rwFr I I1 ∧ (okR (I1 214) ∧ okR (I1 216)) ∧ okR (I1 226) ∧ fdSt 246 (rwAll D dg (seAll D T nt v dg 16) q 16) I1 ∧ I1 209 60 = ((rwAll D dg (seAll D T nt v dg 16) q 16).length : Int)) 32 [some (vR 12 209), some (vR 20 a), some (vI x), some (vI most), some (vI (t : Int)), some (vI s6), some (vI (mFrom D t + k + 1))] [] (J3, z) := by
            intro s6 h
            refine ⟨⟨by omega, by omega⟩, ?_⟩
            have := ihu (k + 1) s6 (by omega) h
            rw [show mFrom D (t : Int) + ((k + 1 : Nat) : Int) = mFrom D t + k + 1 by omega] at this
            exact this
          refine ⟨fun r => by omega, fun _ => ⟨fun s1 => nx 1 (Or.inr rfl), fun s0 => ?_⟩⟩
          have hk0 : ∀ k' : Nat, k' < k → f (mFrom D t + k') = 0 := by
            rcases hs with ⟨-, hs⟩ | hs
            · exact hs
            · omega
          have fv : J3 a (x + (mFrom D t + k)) = f (mFrom D t + k) := by rw [aJ]; exact hf _ (by omega) (by omega)
          rw [fv]
          refine ⟨⟨by omega, by omega⟩, ⟨by omega, by omega⟩, fun z0 => nx 0 (Or.inl ⟨rfl, fun k' hk' => ?_⟩), fun _ => nx 1 (Or.inr rfl)⟩
          by_cases e7 : k' = k
          · rw [e7]; exact z0
          · exact hk0 k' (by omega)
      have := scan (mMany D t).toNat 0 0 (by omega) (Or.inl ⟨rfl, fun k' hk' => absurd hk' (Nat.not_lt_zero k')⟩)
      rw [show mFrom D (t : Int) + ((0 : Nat) : Int) = mFrom D t by omega] at this
      exact this
  rw [em] at key ⊢
  exact key (mDeg D f 0 + 1).toNat 0 I2 none none (by omega) w1 hR1.2.2.1 hR1.2.2.2.1 (fun i y hy => by rw [show rwAll D dg (seAll D T nt v dg 16) q 0 = [] from rfl, List.getElem?_nil] at hy; cases hy) h60
end SD
