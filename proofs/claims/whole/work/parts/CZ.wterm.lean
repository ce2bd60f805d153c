/-! the call term of the class -/
section WCT
variable {d : Nat} {z : cm_Z} {I : cm_I} {D : Int} {sh mb : Nat} {T : Nat → cMat} {nt n : Nat} {L : Nat → cMat} {K : Int → Int → Int} {B : Int → Int} {tp : Int} {rf : Option (Int → Int)}
theorem c_term (h : wI D T nt n L K B tp rf sh mb z I) (k i what : Int) {Q : cm_Q} (yes : ∀ r, aTerm D K k i what = some r → Q (some (vI r)) (I, z)) (no : aTerm D K k i what = none → Q cm_exc (ch_thr (I, z))) : cm_call (d + 2) m_Works_term [vR 11 1, vI k, vI i, vI what] (I, z) Q := by
  obtain ⟨hD, hz, hg, hs, pm, y6, y7, hS, hM, hE⟩ := wI_get h
  have bad : ¬ ((0 ≤ k ∧ k ≤ 5) ∧ 0 ≤ i ∧ (0 ≤ what ∧ what ≤ 3)) → Q cm_exc (ch_thr (I, z)) := fun q => no (by unfold aTerm; rw [if_neg q])
  refine wr_Works_term hz (mI_mono (t_isKept (d := d) hz k) fun r I1 ⟨e1, b1⟩ => ?_)
  rw [e1]
  refine ⟨fun w => bad fun q => by rw [show (if kFit k then (1 : Int) else 0) = 1 from if_pos q.1] at b1; omega, fun w => ⟨fun w1 => bad fun q => by omega, fun w1 => ⟨fun w2 => bad fun q => by omega, fun w2 => ⟨fun w3 => ?_, fun w3 => bad fun q => by omega⟩⟩⟩⟩
  have hk : 0 ≤ k ∧ k ≤ 5 := Classical.byContradiction fun x => w (by rw [b1]; exact if_neg x)
  have all : (0 ≤ k ∧ k ≤ 5) ∧ 0 ≤ i ∧ (0 ≤ what ∧ what ≤ 3) := ⟨hk, w1, w2, w3⟩
  obtain ⟨kr, kv⟩ := h.2.2.2.2.1 k hk.1 (by omega)
  obtain ⟨v, hv⟩ : ∃ v, v = K k := ⟨_, rfl⟩
  rw [← hv] at kr kv
  have eT : aTerm D K k i what = match tmAll D v 16 i with | some m => some (tmVal D v m what) | none => none := by
    unfold aTerm
    rw [if_pos all, ← hv]
    cases tmAll D v 16 i <;> rfl
  have found : ∀ m, tmAll D v 16 i = some m → ∀ r, r = tmVal D v m what → Q (some (vI r)) (I, z) := fun m e r er => yes r (by rw [eT, e, er])
  have lost : tmAll D v 16 i = none → Q cm_exc (ch_thr (I, z)) := fun e => no (by rw [eT, e])
  have L37 : ∀ (t : Nat) (seen : Int) (z6 z7 z8 : Option cm_V), t ≤ 16 → 0 ≤ seen → seen ≤ i → seen ≤ 816 - mFrom D t → tmAll D v t (i - seen) = tmAll D v 16 i → cw (d + 1) cd_Works_term Q 37 [some (vR 11 1), some (vI k), some (vI i), some (vI what), some (vI seen), some (vI ((t : Int) - 1)), z6, z7, z8] [] (I, z) := by
    intro t
    induction t with
    | zero =>
      intro seen z6 z7 z8 t16 s0 si sb et
      exact wr_Works_term_37 hz y6 hs ⟨fun _ => lost (by rw [← et]; rfl), fun w => by omega⟩
    | succ t ih =>
      intro seen z6 z7 z8 t16 s0 si sb et
      obtain ⟨c1, c2, c3, c4, c5, c6⟩ := from_bds hD (t := (t : Int)) (by omega) (by omega)
      have cm := mFrom_mono D (s := (t : Int) + 1) (t := 16) (by omega) (by omega)
      rw [show ((t + 1 : Nat) : Int) - 1 = (t : Int) by omega]
      refine wr_Works_term_37 hz y6 hs ?_
      rw [hS.2.2.2.2.1 _ (by omega) (by omega), hS.2.2.2.1 _ (by omega) (by omega), fF_many]
      refine ⟨fun w => by omega, fun _ => ⟨⟨by omega, by omega⟩, by unfold cm_i; omega, ⟨by omega, by omega⟩, ?_⟩⟩
      have et' : (match tmScan v (mMany D (t : Int)).toNat (mFrom D (t : Int)) (i - seen) with | .inl m => some m | .inr l' => tmAll D v t l') = tmAll D v 16 i := et
      have L71 : ∀ (u p : Nat) (seen : Int), (p : Int) + u = mMany D (t : Int) → 0 ≤ seen → seen ≤ i → seen ≤ 816 - mFrom D ((t : Int) + 1) + p → (match tmScan v u (mFrom D (t : Int) + p) (i - seen) with | .inl m => some m | .inr l' => tmAll D v t l') = tmAll D v 16 i → cw (d + 1) cd_Works_term Q 71 [some (vR 11 1), some (vI k), some (vI i), some (vI what), some (vI seen), some (vI (t : Int)), some (vI (mFrom D (t : Int))), some (vI (mMany D (t : Int))), some (vI (p : Int))] [] (I, z) := by
        intro u
        induction u with
        | zero =>
          intro p seen ep s0 si sb es
          refine wr_Works_term_71 hz y6 ⟨fun _ => ⟨by unfold cm_i; omega, ?_⟩, fun w => by omega⟩
          rw [show (t : Int) + (-1) = (t : Int) - 1 by omega]
          exact ih seen _ _ _ (by omega) s0 si (by omega) es
        | succ u ihu =>
          intro p seen ep s0 si sb es
          have iv : I (4 + k.toNat) (mFrom D (t : Int) + (p : Int)) = v (mFrom D (t : Int) + (p : Int)) := kr _ (by omega) (by omega)
          rw [tmScan] at es
          refine wr_Works_term_71 hz y6 ?_
          rw [iv]
          refine ⟨fun w => by omega, fun _ => ⟨⟨hk.1, by omega⟩, by unfold cm_i; omega, ⟨by omega, by omega⟩, fun nz => ⟨fun ne => ⟨by unfold cm_i; omega, by unfold cm_i; omega, ?_⟩, fun e => ?_⟩, fun z0 => ⟨by unfold cm_i; omega, ?_⟩⟩⟩
          · rw [if_neg nz, if_neg (by omega), show i - seen - 1 = i - (seen + 1) by omega, show mFrom D (t : Int) + (p : Int) + 1 = mFrom D (t : Int) + ((p + 1 : Nat) : Int) by omega] at es
            have := ihu (p + 1) (seen + 1) (by omega) (by omega) (by omega) (by omega) es
            rw [show ((p + 1 : Nat) : Int) = (p : Int) + 1 by omega] at this
            exact this
          · rw [if_neg nz, if_pos (by omega)] at es
            have em : tmAll D v 16 i = some (mFrom D (t : Int) + (p : Int)) := es.symm
            refine ⟨fun w0 => ⟨by unfold cm_i; omega, mI_mono (t_power (d := d) hz hS (t := (t : Int)) (p := (p : Int)) (w := what - 1) (by omega) (by omega) (by omega) (by rw [fF_many]; omega) (by omega) (by omega)) fun r9 I8 ⟨e8, b8⟩ => ?_⟩, fun w0 => found _ em _ (by unfold tmVal; rw [if_pos w0])⟩
            rw [e8]
            refine found _ em _ ?_
            rw [b8]
            unfold tmVal
            rw [if_neg w0]
            by_cases q1 : what = 1
            · rw [if_pos (by omega), if_pos q1]
            · rw [if_neg (by omega), if_neg q1]
              by_cases q2 : what = 2
              · rw [if_pos (by omega), if_pos q2]
              · rw [if_neg (by omega), if_neg q2]
          · rw [if_pos z0, show mFrom D (t : Int) + (p : Int) + 1 = mFrom D (t : Int) + ((p + 1 : Nat) : Int) by omega] at es
            have := ihu (p + 1) seen (by omega) s0 si (by omega) es
            rw [show ((p + 1 : Nat) : Int) = (p : Int) + 1 by omega] at this
            exact this
      have sb' : seen ≤ 816 - mFrom D ((t : Int) + 1) + ((0 : Nat) : Int) := by
        rw [show ((t + 1 : Nat) : Int) = (t : Int) + 1 by omega] at sb
        omega
      exact L71 (mMany D (t : Int)).toNat 0 seen (by omega) s0 si sb' (by rw [show mFrom D (t : Int) + ((0 : Nat) : Int) = mFrom D (t : Int) by omega]; exact et')
  have := L37 16 0 none none none (Nat.le_refl _) (Int.le_refl 0) w1 (by have := (m816 hD).2; show (0 : Int) ≤ 816 - mFrom D 16; omega) (by rw [Int.sub_zero])
  exact this
end WCT
