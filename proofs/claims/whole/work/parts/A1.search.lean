/-! THE REFERENCE finds primary ones: candidates, and the products in turn -/
section MP
variable {d : Nat} {z : cm_Z} {T : Nat → cMat} {nt n : Nat} {L : Nat → cMat} {I : cm_I}
theorem cnd_83 {D : Int} (hD : D = 2 ∨ D = 3) (h : ∀ t, 1 ≤ t → t ≤ 6 → bsRows D T nt t ≤ (mMany D t).toNat) : cndN D T nt ≤ 83 := by
  show bsRows D T nt 1 + (bsRows D T nt 2 + (bsRows D T nt 3 + (bsRows D T nt 4 + (bsRows D T nt 5 + (bsRows D T nt 6 + 0))))) ≤ 83
  have h1 := h 1 (by omega) (by omega)
  have h2 := h 2 (by omega) (by omega)
  have h3 := h 3 (by omega) (by omega)
  have h4 := h 4 (by omega) (by omega)
  have h5 := h 5 (by omega) (by omega)
  have h6 := h 6 (by omega) (by omega)
  have m : (mMany D 1).toNat ≤ 3 ∧ (mMany D 2).toNat ≤ 6 ∧ (mMany D 3).toNat ≤ 10 ∧ (mMany D 4).toNat ≤ 15 ∧ (mMany D 5).toNat ≤ 21 ∧ (mMany D 6).toNat ≤ 28 := by
    rcases hD with e | e <;> rw [e] <;> decide
  omega
/-- candidates so far -/
def cdSt (D : Int) (T : Nat → cMat) (nt : Nat) (I J : cm_I) (N : Nat) : Prop := fr [209, 237, 238] I J ∧ (∀ s, s ≠ 46 → J 209 s = I 209 s) ∧ J 209 46 = (N : Int) ∧ ∀ e : Nat, e < N → J 237 (e : Int) = (cnd D T nt e).1 ∧ J 238 (e : Int) = ((cnd D T nt e).2 : Int)
theorem s_lp31 (hz : mz z) {Q : cm_Q} {D : Int} (hb : ∀ t : Int, 1 ≤ t → t ≤ 6 → I 228 t = (bsRows D T nt t : Int)) (n83 : cndN D T nt ≤ 83) (H : ∀ (J : cm_I) (z2 : Option cm_V), cdSt D T nt I J (cndN D T nt) → cw d cd_Model_laysPrimary Q 31 [some (vR 12 209), some (vI 7), z2] [] (J, z)) : ∀ (c t : Nat) (J : cm_I) (z2 : Option cm_V), t + c = 6 → cdSt D T nt I J (cSum (bsRows D T nt) t 1) → cw d cd_Model_laysPrimary Q 31 [some (vR 12 209), some (vI ((t : Int) + 1)), z2] [] (J, z) := by
  intro c
  induction c with
  | zero =>
    intro t J z2 e h
    rw [show t = 6 by omega] at h ⊢
    exact H J z2 h
  | succ c ih =>
    intro t J z2 e h
    have b1 := hb ((t : Int) + 1) (by omega) (by omega)
    have le6 : cSum (bsRows D T nt) (t + 1) 1 ≤ cndN D T nt := cSum_mono _ 1 (by omega)
    have ad := cSum_add (bsRows D T nt) t 1
    rw [show (1 : Int) + (t : Int) = (t : Int) + 1 by omega] at ad
    have inner : ∀ (u r : Nat) (J : cm_I), r + u = bsRows D T nt ((t : Int) + 1) → cdSt D T nt I J (cSum (bsRows D T nt) t 1 + r) → cw d cd_Model_laysPrimary Q 39 [some (vR 12 209), some (vI ((t : Int) + 1)), some (vI (r : Int))] [] (J, z) := by
      intro u
      induction u with
      | zero =>
        intro r J eu hJ
        refine mr_laysPrimary_39 hz ⟨⟨by omega, by omega⟩, fun _ => ⟨⟨by omega, by omega⟩, ?_⟩, fun q => ?_⟩
        · have := ih (t + 1) J (some (vI (r : Int))) (by omega) (by rw [ad, ← show r = bsRows D T nt ((t : Int) + 1) by omega]; exact hJ)
          rw [show ((t + 1 : Nat) : Int) + 1 = (t : Int) + 1 + 1 by omega] at this
          exact this
        · rw [hJ.1 228 (by decide), b1] at q; omega
      | succ u ihu =>
        intro r J eu hJ
        obtain ⟨f, s, c46, ce⟩ := hJ
        refine mr_laysPrimary_39 hz ⟨⟨by omega, by omega⟩, fun q => ?_, fun _ => ?_⟩
        · rw [f 228 (by decide), b1] at q; omega
        · rw [c46]
          refine ⟨⟨by omega, by omega⟩, fun J1 e1 => ?_⟩
          obtain ⟨f1, g1⟩ := fr_eq_iu e1
          rw [f1 209 (by decide), c46]
          refine ⟨⟨by omega, by omega⟩, fun J2 e2 => ?_⟩
          obtain ⟨f2, g2⟩ := fr_eq_iu e2
          rw [f2 209 (by decide), f1 209 (by decide), c46]
          refine ⟨⟨by omega, by omega⟩, fun J3 e3 => ⟨⟨by omega, by omega⟩, ?_⟩⟩
          obtain ⟨f3, g3⟩ := fr_eq_iu e3
          have k9 : J2 209 = J 209 := by rw [f2 209 (by decide), f1 209 (by decide)]
          have := ihu (r + 1) J3 (by omega) ⟨fr_trans f (fr_trans (fr_mono f1 (by decide)) (fr_trans (fr_mono f2 (by decide)) (fr_mono f3 (by decide)))), fun s' hs => ?_, ?_, fun e' he => ?_⟩
          · rw [show ((r + 1 : Nat) : Int) = (r : Int) + 1 by omega] at this
            exact this
          · rw [g3, k9]
            show (if _ then _ else _) = _
            rw [if_neg hs]
            exact s s' hs
          · rw [g3]
            show (if _ then _ else _) = _
            rw [if_pos rfl]
            omega
          · have v37 : J3 237 = fun j => if j = ((cSum (bsRows D T nt) t 1 + r : Nat) : Int) then (t : Int) + 1 else J 237 j := by
              rw [f3 237 (by decide), f2 237 (by decide), g1]
            have v38 : J3 238 = fun j => if j = ((cSum (bsRows D T nt) t 1 + r : Nat) : Int) then (r : Int) else J 238 j := by
              rw [f3 238 (by decide), g2, f1 238 (by decide)]
            rw [v37, v38]
            by_cases q : e' = cSum (bsRows D T nt) t 1 + r
            · have at_ := cDR_at (bsRows D T nt) t 6 1 r (by rw [show (1 : Int) + (t : Int) = (t : Int) + 1 by omega]; omega) (by omega)
              rw [← q] at at_ ⊢
              show (if _ then _ else _) = (cDR (bsRows D T nt) 6 1 e').1 ∧ (if _ then _ else _) = ((cDR (bsRows D T nt) 6 1 e').2 : Int)
              rw [if_pos rfl, if_pos rfl, at_]
              exact ⟨by show (t : Int) + 1 = 1 + (t : Int); omega, rfl⟩
            · show (if _ then _ else _) = _ ∧ (if _ then _ else _) = _
              rw [if_neg (by omega), if_neg (by omega)]
              exact ce e' (by omega)
    refine mr_laysPrimary_31 hz ⟨fun q => by omega, fun _ => inner (bsRows D T nt ((t : Int) + 1)) 0 J (by omega) h⟩
/-- the products in turn -/
theorem s_lp118 (hz : mz z) {Q : cm_Q} {D : Int} (hD : D = 2 ∨ D = 3) (eD : I 209 1 = D) (hm : mMon I) (h11 : I 209 11 = (n : Int)) (n1 : 1 ≤ n) (n48 : n ≤ 48) {most : Int} (m216 : most ≤ 216) {stF : sSt} (H : ∀ (J : cm_I) (z1 z2 : Option cm_V), sFr I J → caOk T nt J → sRel T nt stF J → cw (d + 5) cd_Model_laysPrimary Q 154 [some (vR 12 209), z1, z2] [] (J, z)) : ∀ (c : Nat) (p : Int) (st : sSt) (J : cm_I), 1 ≤ p → most < p + c → p ≤ 300 → sFr I J → caOk T nt J → sRel T nt st J → KP (isSys D T nt) (fun e => (cnd D T nt e).1) D (cndN D T nt) (n : Int) most c p st = stF → cw (d + 5) cd_Model_laysPrimary Q 118 [some (vR 12 209), some (vI most), some (vI p)] [] (J, z) := by
  subst eD
  intro c
  induction c with
  | zero =>
    intro p st J p1 pm p3 hf hc hr hk
    have hk' : st = stF := hk
    subst hk'
    exact mr_laysPrimary_118 hz ⟨fun _ => H J _ _ hf hc hr, fun q => by omega⟩
  | succ c ih =>
    intro p st J p1 pm p3 hf hc hr hk
    have stp := sRel_stop hr
    have out : sStop st → cw (d + 5) cd_Model_laysPrimary Q 154 [some (vR 12 209), some (vI most), some (vI p)] [] (J, z) := fun hs => by
      rw [KP_stop hs] at hk
      subst hk
      exact H J _ _ hf hc hr
    have e1 := hf.2 1 (by decide) (by decide)
    refine mr_laysPrimary_118 hz ⟨fun q => ?_, fun q => ⟨fun x => out (stp.mpr (Or.inl x)), fun x => ⟨fun y => out (stp.mpr (Or.inr y)), fun y => ?_⟩⟩⟩
    · rw [KP, if_neg (by omega)] at hk
      subst hk
      exact H J _ _ hf hc hr
    · rw [KP, if_pos q] at hk
      refine mU_mono (s_asksProduct (d := d) hz (by unfold mD; rw [e1]; exact hD) (by
        unfold mMon at hm ⊢
        rw [e1, hf.1 210 (by decide), hf.1 211 (by decide), hf.1 212 (by decide)]
        exact hm) hc hr p) fun J2 h2 => ?_
      obtain ⟨f2, c2, r2⟩ := h2
      rw [e1] at r2
      have e11 : J2 209 11 = (n : Int) := by rw [f2.2 11 (by decide) (by decide), hf.2 11 (by decide) (by decide)]; exact h11
      rw [e11]
      exact ⟨⟨by omega, by omega⟩, ih (p + n) _ J2 (by omega) (by omega) (by omega) (sFr_trans hf f2) c2 r2 hk⟩
end MP
